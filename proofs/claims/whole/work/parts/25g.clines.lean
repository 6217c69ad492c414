/-! LINES, the class: truth, weight, loss -/
section TKG
variable {d : Nat} {sc : Nat × (Nat → Int32)} {i : Nat → Nat → Int32} {l : Nat → Nat → Int64} {dd : Nat → Nat → Value} {x : Nat}
/-- what a line changes -/
def lf_ (m : Nat) (i i2 : Nat → Nat → Int32) (l l2 : Nat → Nat → Int64) : Prop := (∀ k j, (k < m ∨ m + 46 < k) → ¬ (k = 157 ∧ (j = 0 ∨ 3 ≤ j)) → i2 k j = i k j) ∧ ∀ k, k ≠ 157 → k ≠ 158 → k ≠ 159 → l2 k = l k
theorem lf_r {m : Nat} : lf_ m i i l l := ⟨fun _ _ _ _ => rfl, fun _ _ _ _ => rfl⟩
theorem lf_t {m : Nat} {i2 i3 : Nat → Nat → Int32} {l2 l3 : Nat → Nat → Int64} (h1 : lf_ m i i2 l l2) (h2 : lf_ m i2 i3 l2 l3) : lf_ m i i3 l l3 := ⟨fun k j a b => (h2.1 k j a b).trans (h1.1 k j a b), fun k a b c => (h2.2 k a b c).trans (h1.2 k a b c)⟩
theorem lf_s {m : Nat} {i2 : Nat → Nat → Int32} {l2 : Nat → Nat → Int64} (h : sf_ i i2 l l2) : lf_ m i i2 l l2 := ⟨fun k j _ b => h.1 k j (by omega), fun k a _ _ => funext fun j => h.2 k j (by omega)⟩
theorem lf_m {m k j : Nat} {v : Int32} {i2 : Nat → Nat → Int32} {l2 : Nat → Nat → Int64} (h : lf_ m i i2 l l2) (hk : m ≤ k ∧ k ≤ m + 46) : lf_ m i (ab_u i2 k j v) l l2 := ⟨fun a b h1 h2 => by rw [uu_k (by omega)]; exact h.1 a b h1 h2, h.2⟩
theorem lf_l {m k j : Nat} {v : Int64} {i2 : Nat → Nat → Int32} {l2 : Nat → Nat → Int64} (h : lf_ m i i2 l l2) (hk : k = 158 ∨ k = 159) : lf_ m i i2 l (ab_u l2 k j v) := ⟨h.1, fun a b c e => by rw [uu_f (by omega)]; exact h.2 a b c e⟩
theorem lf_z {z : (Nat → Nat) × Nat} {m : Nat} {i2 : Nat → Nat → Int32} {l2 : Nat → Nat → Int64} (hm : ab_isM m) (hT : ct_z z i) (h : lf_ m i i2 l l2) : ct_z z i2 := rf_z hT (fun k j hk => h.1 k j (by rcases hm with rfl | rfl | rfl <;> omega) (by omega))
/-- the end of a line -/
def cl_ (m : Nat) (r : rs_) (i : Nat → Nat → Int32) (l : Nat → Nat → Int64) (dd : Nat → Nat → Value) (x : Nat) (σ : ab_S) : Prop := ∃ i2 l2, σ = (i2, l2, dd, x) ∧ lf_ m i i2 l l2 ∧ (r.1 = 0 → i2 157 0 = 0 ∧ cR_ r.2.2 m i2 l2 ∧ i2 157 5 = Int32.ofNat r.2.1) ∧ (r.1 ≠ 0 → i2 157 0 = Int32.ofNat r.1 ∧ i2 157 4 = Int32.ofNat r.2.1)
theorem bf_n {z : (Nat → Nat) × Nat} {c pl : Nat} {st : ps_} {r : rs_} (h : c ≠ 0) : b_fin z (ch_ c pl st r) = (c, pl, st) := by
  unfold ch_
  rw [if_neg h]
  exact if_neg h
theorem bf_y {z : (Nat → Nat) × Nat} {c pl : Nat} {st : ps_} {r : rs_} (h : c = 0) : b_fin z (ch_ c pl st r) = b_fin z r := by
  unfold ch_
  rw [if_pos h]
theorem rc_y : ¬ rc_ 0 = 0 := by decide
theorem rc_n {c : Nat} (h : c ≠ 0) : rc_ c = 0 := if_neg h
theorem rc_01 {c : Nat} : rc_ c = 0 ∨ rc_ c = 1 := by
  unfold rc_
  split
  · exact Or.inr rfl
  · exact Or.inl rfl
theorem cN_of {st : ps_} {m : Nat} (hR : cR_ st m i l) (hT : st 0 0 ≤ 3) (hV : st 0 1 ≤ 7) (hB : PB_ (st 0 0) (st 0 1) (st 1) (st 2)) : cN_ st m i l := ⟨⟨hT, hV, hR.1.1, hR.1.2⟩, hR.2.2.2.2.2.2.2.2.1, hR.2.2.2.2.2.2.2.2.2.1, hB⟩
theorem cR_l {st : ps_} {m n : Nat} (h : cR_ st m i l) : cR_ (ab_u st 0 7 n) m i l := h
/-- a line ends -/
theorem cl_stop {z : (Nat → Nat) × Nat} {m : Nat} {r : rs_} {i0 : Nat → Nat → Int32} {l0 : Nat → Nat → Int64} (hT : ct_z z i) (hm : ab_isM m) (hV : r.2.2 0 1 ≤ 7) (h1 : r.1 = 0) (hp : r.2.1 ≤ z.2) (hf : lf_ m i0 i l0 l) (h0 : i 157 0 = 0) (h5 : i 157 5 = Int32.ofNat r.2.1) (hR : cR_ r.2.2 m i l) {Q : ab_Qt} (hQ : ∀ σ, cl_ m (b_fin z r) i0 l0 dd x σ → Q (some (some (.int (rc_ (b_fin z r).1)))) σ (ab_E0 sc)) : ∃ (r6 : Int32) (P7 : ab_S → Prop), ab_Sp MX2_stop (d + 3) [.ref 157] (i, l, dd, x) (ab_E0 sc) (some (.int r6)) P7 ∧ ∀ i10 l11 dd12 x13, P7 (i10, l11, dd12, x13) → (r6 = 0 ∨ r6 = 1) ∧ Q (some (some (.int r6))) (i10, l11, dd12, x13) (ab_E0 sc) := by
  refine ⟨_, _, ct_stop (d := d) (p := r.2.1) hT hp h5, ?_⟩
  rintro i10 l11 dd12 x13 ⟨i2, l2, ⟨⟩, f, y, n⟩
  refine ⟨rc_01, ?_⟩
  have e : b_fin z r = ch_ (c_stop z r.2.1) (z_p z r.2.1) r.2.2 (0, z_e z r.2.1, ab_u r.2.2 0 7 (r.2.2 0 7 + 1)) := if_pos h1
  by_cases c : c_stop z r.2.1 = 0
  · have e2 : b_fin z r = (0, z_e z r.2.1, ab_u r.2.2 0 7 (r.2.2 0 7 + 1)) := e.trans (if_pos c)
    obtain ⟨y1, y2, -⟩ := y c
    have k2 := c_stop0 c
    rw [e2] at hQ
    rw [c]
    exact hQ _ ⟨i10, l11, rfl, lf_t hf (lf_s f), fun _ => ⟨y1.trans h0, cR_l (cR_s hm hR hV f), y2.2.2.1 (by omega)⟩, fun h => absurd rfl h⟩
  · have e2 : b_fin z r = (c_stop z r.2.1, z_p z r.2.1, r.2.2) := e.trans (if_neg c)
    obtain ⟨n1, n2⟩ := n c
    rw [e2] at hQ
    exact hQ _ ⟨i10, l11, rfl, lf_t hf (lf_s f), fun h => absurd h c, fun _ => ⟨n1, n2⟩⟩
/-- a check that fails ends the line -/
theorem cl_no {z : (Nat → Nat) × Nat} {m c pl : Nat} {st : ps_} {r : rs_} {i2 : Nat → Nat → Int32} {l2 : Nat → Nat → Int64} (hc : c ≠ 0) (hf : lf_ m i i2 l l2) (h : i2 157 0 = Int32.ofNat c ∧ i2 157 4 = Int32.ofNat pl) {Q : ab_Qt} (hQ : ∀ σ, cl_ m (b_fin z (ch_ c pl st r)) i l dd x σ → Q (some (some (.int (rc_ (b_fin z (ch_ c pl st r)).1)))) σ (ab_E0 sc)) : Q (some (some (.int 0))) (i2, l2, dd, x) (ab_E0 sc) := by
  rw [bf_n hc, rc_n hc] at hQ
  exact hQ _ ⟨i2, l2, rfl, hf, fun h => absurd h hc, fun _ => h⟩
theorem ct_truth {z : (Nat → Nat) × Nat} {st : ps_} {m p : Nat} (hT : ct_z z i) (hp : p ≤ z.2) (hk : z_k z p < 3) (hm : ab_isM m) (hd : dd 157 2 = .ref m) (hI : PI_ st) (hR : cR_ st m i l) (h0 : i 157 0 = 0) (k : ck_ z p i l) : ab_Sp MX2_readTruth (d + 4) [.ref 157] (i, l, dd, x) (ab_E0 sc) (some (.int (rc_ (b_fin z (b_truth z st p)).1))) (cl_ m (b_fin z (b_truth z st p)) i l dd x) := by
  obtain ⟨⟨a1, a2, a3, a4, a5, a6, a7⟩, hB, hC, hD, e1, e2, e3⟩ := hI
  obtain ⟨⟨r1, r1'⟩, r2, r3, r4, r5, r6, r7, r8, r9, r10, r11⟩ := id hR
  have hm7 : m + 46 < 157 := by rcases hm with rfl | rfl | rfl <;> omega
  have g1 := g_e hp hk
  refine ab_ent (n := 0) okMX2_readTruth.1 (fun G => Nat.le_of_ble_eq_true rfl) (fun Q hQ => ?_)
  unfold b_truth at hQ
  have h18 : (if st 0 6 = 0 ∧ st 0 0 < 3 then 0 else 4) ≠ 0 → ab_Fr MX2_readTruth (d + 4) Q 18 [some (.ref 157)] [] (0, 0) (i, l, dd, x) (ab_E0 sc) := fun c => by
    refine tMX2_readTruth_18 (d := d + 3) ⟨_, _, ct_fail (d := d + 2), ?_⟩
    rintro i5 l6 dd7 x8 ⟨⟩
    have e4 : (if st 0 6 = 0 ∧ st 0 0 < 3 then 0 else 4) = 4 := by
      split at c
      · exact absurd rfl c
      · rename_i y
        exact if_neg y
    refine ⟨Or.inl rfl, cl_no c (lf_s (sf_u sf_r (Or.inl rfl))) ⟨?_, ?_⟩ hQ⟩
    · rw [uu_e, e4]
      rfl
    · rw [uu_j (by omega)]
      exact k.1
  refine tMX2_readTruth_0 (d := d + 3) ?_
  rw [r11, nn_p0, nn_eq (by omega) (by omega)]
  refine ⟨fun c => h18 (by rw [if_neg (fun y => c y.1)]; omega), fun c => ⟨m, hd, hm, ?_⟩⟩
  rw [r1, nn_p3, nn_lt (by omega) (by omega)]
  refine ⟨fun c2 => ?_, fun c2 => h18 (by rw [if_neg (fun y => c2 y.2)]; omega)⟩
  rw [bf_y (if_pos ⟨c, c2⟩)] at hQ
  have hV0 : st 0 1 = 0 := by
    rcases Nat.eq_zero_or_pos (st 0 1) with g | g
    · exact g
    · have := a4 g
      omega
  have hN := cN_of hR a1 a2 hB
  refine ⟨_, _, ct_name (d := d) (st := st) (s := 1) hT g1.2 (k.2.2.1 hk) hm hd hN (Or.inl rfl), ?_⟩
  rw [c_nam1]
  rintro i9 l10 dd11 x12 ⟨i2, l2, ⟨⟩, f2, y2, n2⟩
  have hR2 := cR_s hm hR a2 f2
  by_cases c3 : c_new z st (z_e z p) = 0
  · rw [bf_y c3] at hQ
    rw [c3]
    obtain ⟨k1, x1, t1, v1⟩ := c_new0 c3
    obtain ⟨y20, y21, -, -⟩ := y2 c3
    have g2 := g_e g1.2 (show z_k z (z_e z p) < 3 by omega)
    refine ⟨fun _ => ⟨m, hd, hm, ?_⟩, fun y => absurd y rc_y⟩
    rw [hR2.1.1, nn_cl (by omega)]
    refine ⟨la_vp (by omega) (by omega), ?_⟩
    rintro l17 rfl
    rw [y21.2.2.2.2.1 k1]
    refine ⟨_, _, ct_num (d := d) (a := 1) (b := 19) (sf_z hT f2) g2.2 (y21.2.2.1 (by omega)) (by omega) (by omega), ?_⟩
    rintro i23 l24 dd25 x26 ⟨i3, l3, ⟨⟩, f3, y3, n3⟩
    by_cases c4 : c_num z 1 19 (z_e z (z_e z p)) = 0
    · rw [bf_y c4] at hQ
      rw [c4]
      obtain ⟨k2, w1, w2⟩ := c_num0 c4
      obtain ⟨y30, y31, -⟩ := y3 c4
      have g3 := g_e g2.2 (show z_k z (z_e z (z_e z p)) < 3 by omega)
      have e0 : i23 m 0 = Int32.ofNat (st 0 0) := by rw [f3.1 m 0 (by omega)]; exact hR2.1.1
      refine ⟨fun _ => ⟨m, hd, hm, ?_⟩, fun y => absurd y rc_y⟩
      rw [e0, nn_cl (by omega)]
      refine ⟨la_vp (by omega) (by omega), ?_⟩
      rintro i31 rfl i33 rfl
      rw [y31.2.2.2.2.2 k2, uu_k (by omega), e0, la_nx]
      have hF : lf_ m i (ab_u (ab_u i23 (m + 1) (st 0 0) (Int32.ofNat (z_v z (z_e z (z_e z p))))) m 0 (Int32.ofNat (st 0 0 + 1))) l l24 := lf_m (lf_m (lf_t (lf_l (lf_s f2) (Or.inl rfl)) (lf_s f3)) (by omega)) (by omega)
      refine cl_stop (d := d) (r := (0, z_e z (z_e z (z_e z p)), ab_u (ab_u (ab_u st 1 (st 0 0) (z_w z (z_e z p))) 3 (st 0 0) (z_v z (z_e z (z_e z p)))) 0 0 (st 0 0 + 1))) (lf_z hm hT hF) hm a2 rfl g3.2 hF ?_ ?_ ?_ hQ
      · rw [uu_k (by omega), uu_k (by omega), y30, y20]
        exact h0
      · rw [uu_k (by omega), uu_k (by omega)]
        exact y31.2.2.1 (by omega)
      · have f23 := sf_t f2 ⟨f3.1, fun k j hk => rfl⟩ (l3 := l10)
        have hi : ∀ k j, k ≠ 157 → i23 k j = i k j := fun k j hk => by rw [f3.1 k j (by omega), f2.1 k j (by omega)]
        refine ⟨⟨uu_e, ?_⟩, ⟨?_, fun y => ?_, ?_⟩, fun t ht => ?_, fun t e ht he => ?_, fun v hv => ?_, fun v s t hv => ?_, fun v t e hv => ?_, fun v s hv => ?_, fun t ht => ?_, fun v hv => ?_, ?_⟩
        · rw [uu_j (by omega), uu_k (by omega), hi _ _ (by omega)]
          exact r1'
        · rw [uu_j (by omega), uu_k (by omega), hi _ _ (by omega)]
          exact r2.1
        · rw [uu_j (by omega), uu_k (by omega), hi _ _ (by omega), uu_j (by omega), uu_k (by omega), hi _ _ (by omega)]
          exact r2.2.1 y
        · rw [uu_j (by omega), uu_k (by omega), hi _ _ (by omega)]
          exact r2.2.2
        · show _ = if t < st 0 0 + 1 then Int32.ofNat (ab_u (ab_u st 1 (st 0 0) (z_w z (z_e z p))) 3 (st 0 0) (z_v z (z_e z (z_e z p))) 3 t) else 0
          rw [uu_k (by omega)]
          by_cases e : t = st 0 0
          · rw [e, uu_e, uu_e, if_pos (by omega)]
          · rw [uu_j e, uu_j e, hi _ _ (by omega), r3 t ht, uu_k (by omega)]
            by_cases e' : t < st 0 0
            · rw [if_pos e', if_pos (by omega)]
            · rw [if_neg e', if_neg (by omega)]
        · rw [uu_k (by omega), uu_k (by omega), hi _ _ (by omega)]
          exact r4 t e ht he
        · exact absurd (show v < st 0 1 from hv) (by omega)
        · exact absurd (show v < st 0 1 from hv) (by omega)
        · exact absurd (show v < st 0 1 from hv) (by omega)
        · exact absurd (show v < st 0 1 from hv) (by omega)
        · show l24 158 t = Int64.ofNat (ab_u st 1 (st 0 0) (z_w z (z_e z p)) 1 t)
          have ht : t < st 0 0 + 1 := ht
          rw [f3.2 158 t (by omega)]
          by_cases e : t = st 0 0
          · rw [e, uu_e, uu_e]
          · rw [uu_j e, uu_j e, f2.2 158 t (by omega)]
            exact r9 t (by omega)
        · exact absurd (show v < st 0 1 from hv) (by omega)
        · rw [uu_k (by omega), uu_k (by omega), f3.1 157 3 (by omega), f2.1 157 3 (by omega)]
          exact r11
    · rw [rc_n c4]
      exact ⟨fun y => absurd rfl y, fun _ => cl_no c4 (lf_t (lf_l (lf_s f2) (Or.inl rfl)) (lf_s f3)) (n3 c4) hQ⟩
  · rw [rc_n c3]
    exact ⟨fun y => absurd rfl y, fun _ => cl_no c3 (lf_s f2) (n2 c3) hQ⟩
end TKG
