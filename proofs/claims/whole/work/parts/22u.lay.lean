/-! fits: the class's layPlaces, noteReplies, areNoted -/
section TQU2
variable {d : Nat} {sc : Nat × (Nat → Int32)} {i : Nat → Nat → Int32} {l : Nat → Nat → Int64} {dd : Nat → Nat → Value} {x : Nat}
/-- laid before (v, s) -/
def lp_b (A : mA_) (i : Nat → Nat → Int32) (v s : Nat) : Prop := ∀ u w, u < aV_ A → w < aS_ A u → (u < v ∨ u = v ∧ w < s) → i 176 (fb_P A u + w) = Int32.ofNat (3 * u + w) ∧ i 177 (fb_P A u + w) = 0 ∧ i 173 (3 * u + w) = 0
theorem lp_22 {A : mA_} {m v : Nat} (hW : mt_W A) (hm : ab_isM m) (hd2 : dd 169 1 = .ref m) {i0 : Nat → Nat → Int32} (hK : mt_K A m i0) (hN : fb_N A ≤ 6) (hv : v < aV_ A) {Q : ab_Qt} (hQ : ∀ i2, fb_o i0 i2 → i2 169 12 = Int32.ofNat (fb_P A (v + 1)) → lp_b A i2 (v + 1) 0 → ab_Fr MX3_layPlaces (d + 1) Q 9 [some (.ref 169), some (.int (Int32.ofNat ((aT_ A + 1) ^ fb_P A (v + 1)))), some (.int (Int32.ofNat (v + 1))), none] [] (0, 0) (i2, l, dd, x) (ab_E0 sc)) :
    ∀ (r s : Nat) (i2 : Nat → Nat → Int32), aS_ A v = s + r → fb_o i0 i2 → i2 169 12 = Int32.ofNat (fb_P A v + s) → lp_b A i2 v s → ab_Fr MX3_layPlaces (d + 1) Q 22 [some (.ref 169), some (.int (Int32.ofNat ((aT_ A + 1) ^ (fb_P A v + s)))), some (.int (Int32.ofNat v)), some (.int (Int32.ofNat s))] [] (0, 0) (i2, l, dd, x) (ab_E0 sc) := by
  intro r
  have w1 := hW.1
  have w2 := hW.2.1
  have hS := hW.2.2.2.2.2.2.1 v hv
  have hP1 : fb_P A (v + 1) = fb_P A v + aS_ A v := rfl
  have hPN : fb_P A (v + 1) ≤ fb_N A := fb_mono (by omega)
  induction r with
  | zero =>
    intro s i2 hs o2 e2 b2
    have e0 := ((fb_K hW hm hK o2).2.2.2.2.1 v hv).1
    refine tMX3_layPlaces_22 ⟨m, hd2, hm, la_vp (by omega) (by omega), fun _ => ?_, fun c => ?_⟩
    · have h := hQ i2 o2 (by rw [e2, hP1, show s = aS_ A v by omega]) (fun u w hu hw h => b2 u w hu hw (by
        rcases h with h | h
        · by_cases e : u = v
          · subst e
            exact Or.inr ⟨rfl, by omega⟩
          · exact Or.inl (by omega)
        · exact absurd h.2 (Nat.not_lt_zero w)))
      rw [hP1, show aS_ A v = s by omega] at h
      rw [la_nx]
      exact h
    · simp (disch := omega) only [e0, ↓nn_m3, nn_p0, nn_p1, nn_p2, nn_p3, nn_p4, nn_p5, nn_p6, nn_p7, nn_p8, nn_p9, nn_p10, nn_p20, nn_p21, nn_le, nn_lt, nn_eq, nn_cl, nn_in, nn_add, nn_mul, nn_en, nn_ne, nn_mn, nn_64] at c
      omega
  | succ r ih =>
    intro s i2 hs o2 e2 b2
    have hK2 := fb_K hW hm hK o2
    have e0 := (hK2.2.2.2.2.1 v hv).1
    refine tMX3_layPlaces_22 ⟨m, hd2, hm, la_vp (by omega) (by omega), fun c => ?_, fun _ => ?_⟩
    · simp (disch := omega) only [e0, ↓nn_m3, nn_p0, nn_p1, nn_p2, nn_p3, nn_p4, nn_p5, nn_p6, nn_p7, nn_p8, nn_p9, nn_p10, nn_p20, nn_p21, nn_le, nn_lt, nn_eq, nn_cl, nn_in, nn_add, nn_mul, nn_en, nn_ne, nn_mn, nn_64] at c
      omega
    · rw [e2]
      refine ⟨fun c => ?_, fun _ => ⟨la_vp (by omega) (by omega), ?_⟩⟩
      · simp (disch := omega) only [↓nn_m3, nn_p0, nn_p1, nn_p2, nn_p3, nn_p4, nn_p5, nn_p6, nn_p7, nn_p8, nn_p9, nn_p10, nn_p20, nn_p21, nn_le, nn_lt, nn_eq, nn_cl, nn_in, nn_add, nn_mul, nn_en, nn_ne, nn_mn, nn_64] at c
        omega
      · rintro i5 rfl
        have e5 : ab_u i2 176 (Int32.ofNat (fb_P A v + s)).toNatClampNeg (Int32.ofNat v * 3 + Int32.ofNat s) 169 12 = Int32.ofNat (fb_P A v + s) := by rw [uu_k (by decide)]; exact e2
        rw [e5, nn_cl (by omega), nn_m3, nn_mul, nn_add, nn_cl (by omega)]
        refine ⟨la_vp (by omega) (by omega), ?_⟩
        rintro i7 rfl
        refine ⟨la_vp (by omega) (by omega), ?_⟩
        rintro i9 rfl
        rintro i11 rfl
        have o3 : fb_o i2 (ab_u (ab_u (ab_u (ab_u i2 176 (fb_P A v + s) (Int32.ofNat (3 * v + s))) 177 (fb_P A v + s) 0) 173 (3 * v + s) 0) 169 12 (Int32.ofNat (fb_P A v + s) + 1)) := fb_ot (fb_ot (fb_ot (fb_ou (by omega)) (fb_ou (by omega))) (fb_ou (by omega))) (fb_ou (by omega))
        have e9 : ab_u (ab_u (ab_u i2 176 (fb_P A v + s) (Int32.ofNat (3 * v + s))) 177 (fb_P A v + s) 0) 173 (3 * v + s) 0 169 12 = Int32.ofNat (fb_P A v + s) := by rw [uu_k (by decide), uu_k (by decide), uu_k (by decide)]; exact e2
        rw [e9]
        have q1 := (fb_K hW hm hK2 o3).1.1
        have h := ih (s + 1) _ (by omega) (fb_ot o2 o3) (by rw [uu_a ⟨rfl, rfl⟩, la_nx]; rfl) (fun u w hu hw h => by
          have c6 : (ab_u (ab_u (ab_u (ab_u i2 176 (fb_P A v + s) (Int32.ofNat (3 * v + s))) 177 (fb_P A v + s) 0) 173 (3 * v + s) 0) 169 12 (Int32.ofNat (fb_P A v + s) + 1)) 176 (fb_P A u + w) = ab_u i2 176 (fb_P A v + s) (Int32.ofNat (3 * v + s)) 176 (fb_P A u + w) := by rw [uu_k (by decide), uu_k (by decide), uu_k (by decide)]
          have c7 : (ab_u (ab_u (ab_u (ab_u i2 176 (fb_P A v + s) (Int32.ofNat (3 * v + s))) 177 (fb_P A v + s) 0) 173 (3 * v + s) 0) 169 12 (Int32.ofNat (fb_P A v + s) + 1)) 177 (fb_P A u + w) = ab_u (ab_u i2 176 (fb_P A v + s) (Int32.ofNat (3 * v + s))) 177 (fb_P A v + s) 0 177 (fb_P A u + w) := by rw [uu_k (by decide), uu_k (by decide)]
          have c3 : (ab_u (ab_u (ab_u (ab_u i2 176 (fb_P A v + s) (Int32.ofNat (3 * v + s))) 177 (fb_P A v + s) 0) 173 (3 * v + s) 0) 169 12 (Int32.ofNat (fb_P A v + s) + 1)) 173 (3 * u + w) = ab_u (ab_u (ab_u i2 176 (fb_P A v + s) (Int32.ofNat (3 * v + s))) 177 (fb_P A v + s) 0) 173 (3 * v + s) 0 173 (3 * u + w) := by rw [uu_k (by decide)]
          rw [c6, c7, c3]
          by_cases e : u = v ∧ w = s
          · obtain ⟨rfl, rfl⟩ := e
            exact ⟨uu_e, uu_e, uu_e⟩
          · have n1 : fb_P A u + w ≠ fb_P A v + s := fun z => e (fb_inj hw (by omega) z)
            have hSu := hW.2.2.2.2.2.2.1 u hu
            have n2 : 3 * u + w ≠ 3 * v + s := by omega
            rw [uu_j n1, uu_j n1, uu_j n2, uu_k (by decide), uu_k (by decide), uu_k (by decide)]
            exact b2 u w hu hw (by omega))
        rw [q1, la_nx, nn_mul, ← Nat.pow_succ, show Int32.ofNat s + 1 = Int32.ofNat (s + 1) from la_nx]
        exact h
theorem lp_9 {A : mA_} {m : Nat} (hW : mt_W A) (hp : 0 < aV_ A) (hm : ab_isM m) (hd2 : dd 169 1 = .ref m) {i0 : Nat → Nat → Int32} (hK : mt_K A m i0) (hN : fb_N A ≤ 6) {Q : ab_Qt} (hQ : ∀ i2, fb_o i0 i2 → fb_Pl A i2 → fb_Di A i2 (fb_d A 0) → Q (some (some (.int (Int32.ofNat ((aT_ A + 1) ^ fb_N A))))) (i2, l, dd, x) (ab_E0 sc)) :
    ∀ (r v : Nat) (i2 : Nat → Nat → Int32), aV_ A = v + r → fb_o i0 i2 → i2 169 12 = Int32.ofNat (fb_P A v) → lp_b A i2 v 0 → ab_Fr MX3_layPlaces (d + 1) Q 9 [some (.ref 169), some (.int (Int32.ofNat ((aT_ A + 1) ^ fb_P A v))), some (.int (Int32.ofNat v)), none] [] (0, 0) (i2, l, dd, x) (ab_E0 sc) := by
  intro r
  have w1 := hW.1
  have w2 := hW.2.1
  have w4 := hW.2.2.2.1 hp
  induction r with
  | zero =>
    intro v i2 hv o2 e2 b2
    have q2 := (fb_K hW hm hK o2).1.2
    have hb : (aT_ A + 1) ^ fb_P A v ≤ 4096 := by
      have h1 : (aT_ A + 1) ^ fb_P A v ≤ 4 ^ fb_P A v := Nat.pow_le_pow_left (by omega) _
      have h2 : 4 ^ fb_P A v ≤ 4 ^ 6 := Nat.pow_le_pow_right (by omega) (by rw [show v = aV_ A by omega]; exact hN)
      have h3 : (4 : Nat) ^ 6 = 4096 := rfl
      omega
    have hn : ¬ (4096 : Int32) < Int32.ofNat ((aT_ A + 1) ^ fb_P A v) := fun z => by
      have e : (4096 : Int32) = Int32.ofNat 4096 := rfl
      rw [e, nn_lt (by omega) (by omega)] at z
      omega
    have d0 : ∀ p, fb_d A 0 p = 0 := fun p => by
      unfold fb_d
      rw [Nat.zero_div, Nat.zero_mod]
    refine tMX3_layPlaces_9 ⟨m, hd2, hm, fun _ => ?_, fun c => ?_⟩
    · rw [if_neg hn, show v = aV_ A by omega]
      refine hQ i2 o2 ⟨by rw [e2, show v = aV_ A by omega]; rfl, fun u w hu hw => (b2 u w hu hw (Or.inl (by omega))).1⟩ (fun u w hu hw => ?_)
      rw [d0, show mt_wx A 0 = 0 from if_pos (by omega)]
      exact (b2 u w hu hw (Or.inl (by omega))).2
    · simp (disch := omega) only [q2, ↓nn_m3, nn_p0, nn_p1, nn_p2, nn_p3, nn_p4, nn_p5, nn_p6, nn_p7, nn_p8, nn_p9, nn_p10, nn_p20, nn_p21, nn_le, nn_lt, nn_eq, nn_cl, nn_in, nn_add, nn_mul, nn_en, nn_ne, nn_mn, nn_64] at c
      omega
  | succ r ih =>
    intro v i2 hv o2 e2 b2
    have q2 := (fb_K hW hm hK o2).1.2
    refine tMX3_layPlaces_9 ⟨m, hd2, hm, fun c => ?_, fun _ => ?_⟩
    · simp (disch := omega) only [q2, ↓nn_m3, nn_p0, nn_p1, nn_p2, nn_p3, nn_p4, nn_p5, nn_p6, nn_p7, nn_p8, nn_p9, nn_p10, nn_p20, nn_p21, nn_le, nn_lt, nn_eq, nn_cl, nn_in, nn_add, nn_mul, nn_en, nn_ne, nn_mn, nn_64] at c
      omega
    · exact lp_22 (d := d) (i0 := i0) hW hm hd2 hK hN (by omega) (fun i3 o3 e3 b3 => ih (v + 1) i3 (by omega) o3 e3 b3) (aS_ A v) 0 i2 (by omega) o2 e2 b2
theorem mt_lay {A : mA_} {m : Nat} (hW : mt_W A) (hp : 0 < aV_ A) (hm : ab_isM m) (hd2 : dd 169 1 = .ref m) (hK : mt_K A m i) (hN : fb_N A ≤ 6) : ab_Sp MX3_layPlaces (d + 1) [.ref 169] (i, l, dd, x) (ab_E0 sc) (some (.int (Int32.ofNat ((aT_ A + 1) ^ fb_N A)))) (fun σ => ∃ i2, σ = (i2, l, dd, x) ∧ fb_o i i2 ∧ fb_Pl A i2 ∧ fb_Di A i2 (fb_d A 0)) := by
  refine ab_ent (n := 0) okMX3_layPlaces.1 (fun G => Nat.le_of_ble_eq_true rfl) (fun Q hQ => ?_)
  refine tMX3_layPlaces_0 ?_
  rintro i1 rfl
  exact lp_9 (d := d) (i0 := i) hW hp hm hd2 hK hN (fun i2 o2 P2 D2 => hQ _ ⟨i2, rfl, o2, P2, D2⟩) (aV_ A) 0 _ (Nat.zero_add _).symm (fb_ou (by omega)) (by rw [uu_a ⟨rfl, rfl⟩]; rfl) (fun u w _ _ h => by omega)
/-- bits of what fits -/
def nb_x (a b c e : Bool) : Int32 := (if a then 1 else 0) ||| (if b then 2 else 0) ||| (if c then 4 else 0) ||| (if e then 8 else 0)
def nb_u (k : Nat) (f : Nat → Bool) : Int32 := nb_x (decide (0 < k) && f 0) (decide (1 < k) && f 1) (decide (2 < k) && f 2) (decide (3 < k) && f 3)
theorem nb_s1 {k : Nat} {f : Nat → Bool} (hk : k < 4) (h : f k = true) : nb_u (k + 1) f = nb_u k f ||| ((1 : Int32) <<< (Int32.ofNat k &&& 31)) := by
  rcases (show k = 0 ∨ k = 1 ∨ k = 2 ∨ k = 3 by omega) with rfl | rfl | rfl | rfl <;> unfold nb_u <;> rw [h] <;> (try generalize f 0 = b0) <;> (try generalize f 1 = b1) <;> (try generalize f 2 = b2) <;> (try generalize f 3 = b3) <;> (try revert b0) <;> (try revert b1) <;> (try revert b2) <;> (try revert b3) <;> decide
theorem nb_s0 {k : Nat} {f : Nat → Bool} (hk : k < 4) (h : f k = false) : nb_u (k + 1) f = nb_u k f := by
  rcases (show k = 0 ∨ k = 1 ∨ k = 2 ∨ k = 3 by omega) with rfl | rfl | rfl | rfl <;> unfold nb_u <;> rw [h] <;> (try generalize f 0 = b0) <;> (try generalize f 1 = b1) <;> (try generalize f 2 = b2) <;> (try generalize f 3 = b3) <;> (try revert b0) <;> (try revert b1) <;> (try revert b2) <;> (try revert b3) <;> decide
theorem nb_g {k z : Nat} {f : Nat → Bool} (hk : k ≤ 4) (hz : z < k) : (((nb_u k f >>> (Int32.ofNat z &&& 31)) &&& 1) = 0) = (f z = false) := by
  have : ∀ k : Fin 5, ∀ z : Fin 4, z.val < k.val → ∀ b0 b1 b2 b3 : Bool, decide (((nb_x (decide (0 < k.val) && b0) (decide (1 < k.val) && b1) (decide (2 < k.val) && b2) (decide (3 < k.val) && b3) >>> (Int32.ofNat z.val &&& 31)) &&& 1) = 0) = ! (match z.val with | 0 => b0 | 1 => b1 | 2 => b2 | _ => b3) := by decide
  have h := this ⟨k, by omega⟩ ⟨z, by omega⟩ hz (f 0) (f 1) (f 2) (f 3)
  have e : (match z with | 0 => f 0 | 1 => f 1 | 2 => f 2 | _ => f 3) = f z := by
    rcases (show z = 0 ∨ z = 1 ∨ z = 2 ∨ z = 3 by omega) with rfl | rfl | rfl | rfl <;> rfl
  dsimp only at h
  rw [e] at h
  unfold nb_u
  cases hf : f z with
  | true =>
    rw [hf] at h
    exact propext ⟨fun y => absurd h (by rw [decide_eq_true y]; decide), fun y => absurd y (by decide)⟩
  | false =>
    rw [hf] at h
    exact propext ⟨fun _ => rfl, fun _ => of_decide_eq_true h⟩
end TQU2
