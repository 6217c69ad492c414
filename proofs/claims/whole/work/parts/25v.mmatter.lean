/-! THE MATTER, the model whole -/
section TKV
variable {d : Nat} {sc : Nat × (Nat → Int32)} {i : Nat → Nat → Int32} {l : Nat → Nat → Int64} {dd : Nat → Nat → Value} {x : Nat}
theorem p_all_I {z : (Nat → Nat) × Nat} (hN : z.2 ≤ 740) : ∀ (n : Nat) (st : ps_) (p : Nat), 741 ≤ p + n → p ≤ z.2 → PI_ st → st 0 7 ≤ p → (p_all z n st p).1 = 0 → PI_ (p_all z n st p).2.2 ∧ 0 < (p_all z n st p).2.2 0 1 ∧ (p_all z n st p).2.2 0 7 ≤ 740 := by
  intro n
  induction n with
  | zero => intro st p hn hp; omega
  | succ n ih =>
    intro st p hn hp hI hl h
    have e : p_all z (n + 1) st p = if z_k z p = 3 then (if st 0 1 = 0 ∨ 700 < z.2 then (1, z_p z p, st) else (0, p, st)) else if (p_line z st p).1 = 0 then p_all z n (p_line z st p).2.2 (p_line z st p).2.1 else p_line z st p := rfl
    rw [e] at h ⊢
    by_cases c : z_k z p = 3
    · rw [if_pos c] at h ⊢
      by_cases c2 : st 0 1 = 0 ∨ 700 < z.2
      · rw [if_pos c2] at h
        exact absurd (show 1 = 0 from h) (by decide)
      · rw [if_neg c2]
        exact ⟨hI, by show 0 < st 0 1; omega, by show st 0 7 ≤ 740; omega⟩
    · rw [if_neg c] at h ⊢
      by_cases c4 : (p_line z st p).1 = 0
      · rw [if_pos c4] at h ⊢
        obtain ⟨g1, g2, g3, g4⟩ := PI_line hp hI c4
        exact ih _ _ (by have := g1.1; omega) g1.2 g2 (by have := g1.1; omega) h
      · rw [if_neg c4] at h
        exact absurd h c4
theorem rd_n {n : Nat} (h : n ≤ 740) : (-1 : Int32) - Int32.ofNat n < 0 := by
  rw [Int32.lt_iff_toInt_lt, Int32.toInt_sub, show (-1 : Int32).toInt = -1 from rfl, show (0 : Int32).toInt = 0 from rfl, la_nat (by omega), Int.bmod_eq_of_le (by omega) (by omega)]
  omega
theorem dW_f {st : ps_} {i2 : Nat → Nat → Int32} (h : ∀ k j, k ≠ 225 → i2 k j = i k j) (hW : dW_ st i l) : dW_ st i2 l := by
  obtain ⟨⟨r1, r2, r3⟩, r4, r5⟩ := hW
  refine ⟨⟨?_, ?_, ?_⟩, fun v hv => ?_, r5⟩
  · rw [h _ _ (by omega)]; exact r1
  · rw [h _ _ (by omega)]; exact r2
  · rw [h _ _ (by omega)]; exact r3
  · rw [h _ _ (by omega)]; exact r4 v hv
def bM_ (i i2 : Nat → Nat → Int32) (l l2 : Nat → Nat → Int64) : Prop := (∀ k j, ¬ (k = 205 ∧ (j ≤ 10 ∨ 27 ≤ j ∧ j ≤ 31)) → ¬ (209 ≤ k ∧ k ≤ 223) → k ≠ 225 → i2 k j = i k j) ∧ ∀ k j, k ≠ 207 → k ≠ 208 → k ≠ 224 → ¬ (k = 205 ∧ j = 10) → l2 k j = l k j
theorem md_matter {z : (Nat → Nat) × Nat} (hN : z.2 ≤ 740) (h2 : i 205 2 = Int32.ofNat z.2) (hb : ∀ j, j < z.2 → i 206 j = Int32.ofNat (z.1 j) ∧ z.1 j ≤ 255) : ab_Sp MX12_matter (d + 8) [.ref 205] (i, l, dd, x) (ab_E0 sc) (some (.int (rd_a (p_all z 741 ps0 0)))) (fun σ => ∃ i2 l2, σ = (i2, l2, dd, x) ∧ bM_ i i2 l l2 ∧ i2 205 2 = 0 ∧ i2 205 8 = Int32.ofNat (p_all z 741 ps0 0).1 ∧ ((p_all z 741 ps0 0).1 = 0 → mt_M (A_of (p_all z 741 ps0 0).2.2) i2 l2) ∧ ((p_all z 741 ps0 0).1 ≠ 0 → (∀ k j, pM_ k j → i2 k j = i k j) ∧ ∀ j, l2 224 j = l 224 j)) := by
  refine ab_ent (n := 0) okMX12_matter.1 (fun G => Nat.le_of_ble_eq_true rfl) (fun Q hQ => ?_)
  refine tMX12_matter_0 (d := d + 7) ?_
  rintro i1 rfl
  refine ⟨_, _, md_take (d := d + 6), ?_⟩
  rintro i7 l8 dd9 x10 ⟨⟩
  intro i12 e12 i14 e14 i16 e16 i18 e18 i20 e20 i22 e22 i24 e24
  rw [uu_j (by omega), h2] at e12
  have f24 : ∀ k j, ¬ (k = 205 ∧ (j = 0 ∨ j = 2 ∨ j = 3 ∨ j = 8 ∨ j = 27)) → ¬ ((k = 209 ∨ k = 210 ∨ k = 219 ∨ k = 222) ∧ j = 1) → i24 k j = i k j := fun k j h1 h2 => by
    rw [e24, show ab_u i22 222 1 (-1) k j = i22 k j from if_neg (by omega), e22, show ab_u i20 219 1 0 k j = i20 k j from if_neg (by omega), e20, show ab_u i18 210 1 0 k j = i18 k j from if_neg (by omega), e18, show ab_u i16 209 1 0 k j = i16 k j from if_neg (by omega), e16, show ab_u i14 205 27 0 k j = i14 k j from if_neg (by omega), e14, show ab_u i12 205 8 0 k j = i12 k j from if_neg (by omega), e12]
    rw [show ab_u (ab_u (ab_u i 205 0 0) 205 2 0) 205 3 (Int32.ofNat z.2) k j = (ab_u (ab_u i 205 0 0) 205 2 0) k j from if_neg (by omega), show ab_u (ab_u i 205 0 0) 205 2 0 k j = (ab_u i 205 0 0) k j from if_neg (by omega), show ab_u i 205 0 0 k j = i k j from if_neg (by omega)]
  have g2 : i24 205 2 = 0 := by rw [e24, uu_k (by omega), e22, uu_k (by omega), e20, uu_k (by omega), e18, uu_k (by omega), e16, uu_j (by omega), e14, uu_j (by omega), e12, uu_j (by omega), uu_e]
  have g3 : i24 205 3 = Int32.ofNat z.2 := by rw [e24, uu_k (by omega), e22, uu_k (by omega), e20, uu_k (by omega), e18, uu_k (by omega), e16, uu_j (by omega), e14, uu_j (by omega), e12, uu_e]
  have g8 : i24 205 8 = 0 := by rw [e24, uu_k (by omega), e22, uu_k (by omega), e20, uu_k (by omega), e18, uu_k (by omega), e16, uu_j (by omega), e14, uu_e]
  have g27 : i24 205 27 = 0 := by rw [e24, uu_k (by omega), e22, uu_k (by omega), e20, uu_k (by omega), e18, uu_k (by omega), e16, uu_e]
  have g09 : i24 209 1 = 0 := by rw [e24, uu_k (by omega), e22, uu_k (by omega), e20, uu_k (by omega), e18, uu_e]
  have g10 : i24 210 1 = 0 := by rw [e24, uu_k (by omega), e22, uu_k (by omega), e20, uu_e]
  have g19 : i24 219 1 = 0 := by rw [e24, uu_k (by omega), e22, uu_e]
  have g22 : i24 222 1 = -1 := by rw [e24, uu_e]
  clear e12 e14 e16 e18 e20 e22 e24
  have hend : ∀ i2 : Nat → Nat → Int32, (∀ a j, ¬ (a = 214 ∧ 135 ≤ j) → i2 a j = i24 a j) → (∀ j, j < 9 → i2 214 (135 + j) = -1) → ∀ i3, i3 = ab_u i2 205 4 0 → ∃ (P5 : ab_S → Prop), ab_Sp MX12_go (d + 7) [.ref 205] (i3, l, dd, x) (ab_E0 sc) none P5 ∧ ∀ i8 l9 dd10 x11, P5 (i8, l9, dd10, x11) → ab_Fr MX12_matter (d + 8) Q 85 [some (.ref 205), none] [] (0, 0) (i8, l9, dd10, x11) (ab_E0 sc) := by
    intro i2 F2 z2 i3 e3
    have f3 : ∀ k j, ¬ (k = 205 ∧ (j = 0 ∨ j = 2 ∨ j = 3 ∨ j = 4 ∨ j = 8 ∨ j = 27)) → ¬ ((k = 209 ∨ k = 210 ∨ k = 219 ∨ k = 222) ∧ j = 1) → ¬ (k = 214 ∧ 135 ≤ j) → i3 k j = i k j := fun k j h1 h2 h3 => by
      rw [e3, show ab_u i2 205 4 0 k j = i2 k j from if_neg (by omega), F2 k j h3]
      exact f24 k j (by omega) h2
    have k3 : ∀ k j, ¬ (k = 205 ∧ j = 4) → ¬ (k = 214 ∧ 135 ≤ j) → i3 k j = i24 k j := fun k j h1 h3 => by
      rw [e3, show ab_u i2 205 4 0 k j = i2 k j from if_neg (by omega), F2 k j h3]
    have hT3 : dt_z z i3 := ⟨hN, by rw [k3 _ _ (by omega) (by omega)]; exact g3, fun j hj => by rw [f3 _ _ (by omega) (by omega) (by omega)]; exact hb j hj⟩
    refine ⟨_, md_tok (d := d + 5) (p := 0) hT3 (Nat.zero_le _) (by rw [e3, uu_e]; rfl), ?_⟩
    rintro i8 l9 dd10 x11 ⟨i4, l4, ⟨⟩, f4, k4⟩
    have k8 : ∀ k j, ¬ (k = 205 ∧ 4 ≤ j ∧ j ≤ 7) → ¬ (k = 214 ∧ 135 ≤ j) → i8 k j = i24 k j := fun k j h1 h3 => by
      rw [f4.1 k j h1, k3 k j (by omega) h3]
    have hR0 : dR_ ps0 i8 l9 := by
      refine ⟨⟨?_, ?_⟩, ⟨?_, fun y => absurd (show 0 < 0 from y) (by decide), ?_⟩, fun t ht => absurd (show t < 0 from ht) (Nat.not_lt_zero t), fun w t e hw ht he => ?_, fun v hv => absurd (show v < 0 from hv) (Nat.not_lt_zero v), fun v s t hv => absurd (show v < 0 from hv) (Nat.not_lt_zero v), fun v s hv => absurd (show v < 0 from hv) (Nat.not_lt_zero v), fun t ht => absurd (show t < 0 from ht) (Nat.not_lt_zero t), fun v hv => absurd (show v < 0 from hv) (Nat.not_lt_zero v), ?_⟩
      · rw [k8 _ _ (by omega) (by omega)]; exact g09
      · rw [k8 _ _ (by omega) (by omega)]; exact g10
      · rw [k8 _ _ (by omega) (by omega)]; exact g19
      · rw [k8 _ _ (by omega) (by omega)]; exact g22
      · have hw7 : w = 7 := hw.resolve_left (fun y => absurd (show w < 0 from y) (Nat.not_lt_zero w))
        rw [f4.1 _ _ (by omega), e3, uu_k (by omega), show 72 + 9 * w + 3 * t + e = 135 + (3 * t + e) by omega, z2 _ (by omega)]
        rfl
      · rw [k8 _ _ (by omega) (by omega)]; exact g27
    have hT8 : dt_z z i8 := gf_z hT3 (fun k j h => f4.1 k j (by omega))
    refine ml_85 (d := d) (z := z) (i0 := i8) (l0 := l9) (R := p_all z 741 ps0 0) hT8 (fun i5 l5 hc F h0 hR hI hp => ?_) (fun i5 l5 hc F h8 h9 => ?_) 741 ps0 0 i8 l9 (by omega) (Nat.zero_le _) PI_0 (by decide) rfl nq_r (by rw [k8 _ _ (by omega) (by omega)]; exact g8) hR0 k4
    · refine ⟨_, md_keep (d := d + 6) hI hR, ?_⟩
      rintro i7 l8 dd9 x10 ⟨i6, ⟨⟩, F5, S5⟩
      refine ⟨_, mk_rows (d := d + 5) hI hp S5, ?_⟩
      rintro i16 l17 dd18 x19 ⟨i6, l6, ⟨⟩, F6, g6, W6⟩
      have S6 := dS_f (i2 := i16) S5 (fun k j h1 h2 => F6 k j (by omega))
      refine ⟨_, mv_all (d := d + 2) hI hp S6 W6, ?_⟩
      rintro i25 l26 dd27 x28 ⟨i9, ⟨⟩, F9, O9⟩
      have e27 : i25 205 27 = Int32.ofNat ((p_all z 741 ps0 0).2.2 0 7) := by
        rw [F9 _ _ (by omega), F6 _ _ (by omega), F5 _ _ (by omega)]
        exact hR.2.2.2.2.2.2.2.2.2
      rw [e27]
      have hQ2 := hQ
      rw [show rd_a (p_all z 741 ps0 0) = Int32.ofNat ((p_all z 741 ps0 0).2.2 0 7) from if_pos hc] at hQ2
      refine hQ2 _ ⟨i25, l17, rfl, ⟨fun k j h1 h2 h3 => ?_, fun k j h1 h2 h3 h4 => ?_⟩, ?_, ?_, fun _ => mv_M hI hp (dS_f S6 (fun k j h1 h2 => F9 k j (by omega))) (dW_f (fun k j h => F9 k j (by omega)) W6) O9, fun y => absurd hc y⟩
      · rw [F9 k j (by omega), F6 k j (by omega), F5 k j (by omega), F.1 k j (by unfold nqP; omega), f4.1 k j (by omega), f3 k j (by omega) (by omega) (by omega)]
      · rw [g6 k (by omega), F.2 k j (by omega), f4.2 k j h4]
      · rw [F9 _ _ (by omega), F6 _ _ (by omega), F5 _ _ (by omega), F.1 _ _ (by unfold nqP; omega), k8 _ _ (by omega) (by omega)]
        exact g2
      · rw [F9 _ _ (by omega), F6 _ _ (by omega), F5 _ _ (by omega), h0, hc]
        rfl
    · have hQ2 := hQ
      rw [show rd_a (p_all z 741 ps0 0) = -1 - Int32.ofNat (p_all z 741 ps0 0).2.1 from if_neg hc] at hQ2
      refine hQ2 _ ⟨i5, l5, rfl, ⟨fun k j h1 h2 h3 => ?_, fun k j h1 h2 h3 h4 => ?_⟩, ?_, h8, fun y => absurd y hc, fun _ => ⟨fun k j hk => ?_, fun j => ?_⟩⟩
      · rw [F.1 k j (by unfold nqP; omega), f4.1 k j (by omega), f3 k j (by omega) (by omega) (by omega)]
      · rw [F.2 k j (by omega), f4.2 k j h4]
      · rw [F.1 _ _ (by unfold nqP; omega), k8 _ _ (by omega) (by omega)]
        exact g2
      · unfold pM_ at hk
        rw [F.1 k j (by unfold nqP; omega), f4.1 k j (by omega), f3 k j (by omega) (by omega) (by omega)]
      · rw [F.2 _ _ (by omega), f4.2 _ _ (by omega)]
  have go : ∀ (n k : Nat) (i2 : Nat → Nat → Int32), 9 = k + n → (∀ a j, ¬ (a = 214 ∧ 135 ≤ j) → i2 a j = i24 a j) → (∀ j, j < k → i2 214 (135 + j) = -1) → ab_Fr MX12_matter (d + 8) Q 53 [some (.ref 205), some (.int (Int32.ofNat k))] [] (0, 0) (i2, l, dd, x) (ab_E0 sc) := by
    intro n
    induction n with
    | zero =>
      intro k i2 hk F2 z2
      refine tMX12_matter_53 (d := d + 7) ⟨fun _ => hend i2 F2 (fun j hj => z2 j (by omega)), fun y => ?_⟩
      rw [show (9 : Int32) = Int32.ofNat 9 from rfl, nn_le (by omega) (by omega)] at y
      omega
    | succ n ih =>
      intro k i2 hk F2 z2
      refine tMX12_matter_53 (d := d + 7) ⟨fun y => ?_, fun _ => ?_⟩
      · rw [show (9 : Int32) = Int32.ofNat 9 from rfl, nn_le (by omega) (by omega)] at y
        omega
      · rw [show (135 : Int32) = Int32.ofNat 135 from rfl, nn_add, nn_cl (by omega), la_nx]
        refine ⟨la_vp (by omega) (by omega), ?_⟩
        rintro i3 rfl
        refine ih (k + 1) _ (by omega) (fun a j h => ?_) (fun j hj => ?_)
        · rw [show ab_u i2 214 (135 + k) (-1) a j = i2 a j from if_neg (by omega)]
          exact F2 a j h
        · by_cases c : j = k
          · rw [c, uu_e]
          · rw [uu_j (by omega)]
            exact z2 j (by omega)
  exact go 9 0 i24 rfl (fun _ _ _ => rfl) (fun j hj => absurd hj (Nat.not_lt_zero j))
end TKV
