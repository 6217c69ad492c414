section TPG
variable {d : Nat} {sc : Nat × (Nat → Int32)} {R : ab_S → Prop} {i : Nat → Nat → Int32} {l : Nat → Nat → Int64} {dd : Nat → Nat → Value} {x : Nat}
/-- the matter that counts: voters, signs and votes of the class's cell m and of the model -/
def mt_C (i : Nat → Nat → Int32) (m : Nat) : Prop := i m 1 = i 205 30 ∧ (0 ≤ (i 205 30).toInt ∧ (i 205 30).toInt ≤ 7) ∧ (∀ v : Nat, v < 7 → (v : Int) < (i 205 30).toInt → i (m + 5 + 6 * v) 0 = i 212 v ∧ 2 ≤ (i 212 v).toInt ∧ (i 212 v).toInt ≤ 3) ∧
  ∀ v s : Nat, v < 7 → s < 3 → (v : Int) < (i 205 30).toInt → (s : Int) < (i 212 v).toInt → i (m + 47) (3 * v + s) = i 225 (3 * v + s)
theorem mk_i {σ : ab_S} {k j : Nat} (h : la_ws k j = false) : (la_mask σ).1 k j = σ.1 k j := by
  show (if la_ws k j then 0 else σ.1 k j) = σ.1 k j
  rw [h]
  rfl
theorem ws_v {m v : Nat} (hm : ab_isM m) (hv : v < 7) : la_ws (m + 5 + 6 * v) 0 = false := by
  match v, hv with
  | 0, _ => rcases hm with rfl | rfl | rfl <;> rfl
  | 1, _ => rcases hm with rfl | rfl | rfl <;> rfl
  | 2, _ => rcases hm with rfl | rfl | rfl <;> rfl
  | 3, _ => rcases hm with rfl | rfl | rfl <;> rfl
  | 4, _ => rcases hm with rfl | rfl | rfl <;> rfl
  | 5, _ => rcases hm with rfl | rfl | rfl <;> rfl
  | 6, _ => rcases hm with rfl | rfl | rfl <;> rfl
  | n + 7, h => exact absurd h (by omega)
theorem ws_47 {m j : Nat} (hm : ab_isM m) : la_ws (m + 47) j = false := by
  rcases hm with rfl | rfl | rfl <;> simp [la_ws]
theorem ws_212 {j : Nat} : la_ws 212 j = false := by simp [la_ws]
theorem ws_225 {j : Nat} (h : j < 21) : la_ws 225 j = false := by
  have h9 : ¬ 21 ≤ j := by omega
  simp [la_ws, h9]
theorem mt_C_mask {σ : ab_S} {m : Nat} (hm : ab_isM m) (h : mt_C (la_mask σ).1 m) : mt_C σ.1 m := by
  obtain ⟨h1, h2, h3, h4⟩ := h
  rw [mk_i (mt_ws hm), mk_i rfl] at h1
  rw [mk_i rfl] at h2
  refine ⟨h1, h2, fun v hv hv2 => ?_, fun v s hv hs hv2 hs2 => ?_⟩
  · have h9 := h3 v hv (by rw [mk_i rfl]; exact hv2)
    rw [mk_i (ws_v hm hv), mk_i ws_212] at h9
    exact h9
  · have h9 := h4 v s hv hs (by rw [mk_i rfl]; exact hv2) (by rw [mk_i ws_212]; exact hs2)
    rw [mk_i (ws_47 hm), mk_i (ws_225 (by omega))] at h9
    exact h9
theorem mt_hasV {m : Nat} {a : Int32} (hm : ab_isM m) : ab_Sp MX1_hasVoter (d + 1) [.ref m, .int a] (i, l, dd, x) (ab_E0 sc) (some (.int (if 0 ≤ a.toInt ∧ a.toInt < (i m 1).toInt then 1 else 0))) (fun σ => σ = (i, l, dd, x)) := by
  refine ab_enter (n := 1) okMX1_hasVoter.1 (fun G => Nat.le_of_ble_eq_true rfl) ?_
  refine tMX1_hasVoter_0 hm ⟨fun h => ?_, fun h0 => ⟨fun h => ?_, fun h => ?_⟩⟩
  · rw [la_lt0] at h
    rw [if_neg (fun q => by omega)]
    exact ⟨_, rfl, rfl, rfl, rfl⟩
  · rw [Int32.le_iff_toInt_le] at h
    rw [if_neg (fun q => by omega)]
    exact ⟨_, rfl, rfl, rfl, rfl⟩
  · rw [la_lt0] at h0
    rw [Int32.le_iff_toInt_le] at h
    rw [if_pos ⟨by omega, by omega⟩]
    exact ⟨_, rfl, rfl, rfl, rfl⟩
theorem mt_isV {a : Int32} : ab_Sp MX12_isVoter (d + 1) [.ref 205, .int a] (i, l, dd, x) (ab_E0 sc) (some (.int (if 0 ≤ a.toInt ∧ a.toInt < (i 205 30).toInt then 1 else 0))) (fun σ => σ = (i, l, dd, x)) := by
  refine ab_enter (n := 1) okMX12_isVoter.1 (fun G => Nat.le_of_ble_eq_true rfl) ?_
  refine tMX12_isVoter_0 ⟨fun h => ?_, fun h0 => ⟨fun h => ?_, fun h => ?_⟩⟩
  · rw [la_lt0] at h
    rw [if_neg (fun q => by omega)]
    exact ⟨_, rfl, rfl, rfl, rfl⟩
  · rw [Int32.le_iff_toInt_le] at h
    rw [if_neg (fun q => by omega)]
    exact ⟨_, rfl, rfl, rfl, rfl⟩
  · rw [la_lt0] at h0
    rw [Int32.le_iff_toInt_le] at h
    rw [if_pos ⟨by omega, by omega⟩]
    exact ⟨_, rfl, rfl, rfl, rfl⟩
/-- the sign s of the voter v is there -/
def mt_S (i : Nat → Nat → Int32) (a b : Int32) : Prop := (0 ≤ a.toInt ∧ a.toInt < (i 205 30).toInt) ∧ 0 ≤ b.toInt ∧ b.toInt < (i 212 a.toNatClampNeg).toInt
theorem mt_v {m : Nat} {a : Int32} (hC : mt_C i m) (h : 0 ≤ a.toInt ∧ a.toInt < (i 205 30).toInt) : ∃ v : Nat, v < 7 ∧ a = Int32.ofNat v ∧ a.toNatClampNeg = v ∧ (v : Int) < (i 205 30).toInt := by
  obtain ⟨v, hv, rfl⟩ := la_rep (a := a) (m := 7) h.1 (by have := hC.2.1.2; omega)
  have e2 := la_nat (n := v) (by omega)
  exact ⟨v, hv, rfl, (la_nn (by omega)).2, by omega⟩

theorem mt_hasS {m : Nat} {a b : Int32} (hm : ab_isM m) (hC : mt_C i m) : ab_Sp MX1_hasSign (d + 2) [.ref m, .int a, .int b] (i, l, dd, x) (ab_E0 sc) (some (.int (if (0 ≤ a.toInt ∧ a.toInt < (i 205 30).toInt) ∧ 0 ≤ b.toInt ∧ b.toInt < (i 212 a.toNatClampNeg).toInt then 1 else 0))) (fun σ => σ = (i, l, dd, x)) := by
  refine ab_enter (n := 2) okMX1_hasSign.1 (fun G => Nat.le_of_ble_eq_true rfl) ?_
  refine tMX1_hasSign_0 (d := d + 1) hm ⟨_, _, mt_hasV hm, ?_⟩
  rintro i5 l6 dd7 x8 ⟨⟩
  rw [hC.1]
  by_cases c : 0 ≤ a.toInt ∧ a.toInt < (i 205 30).toInt
  · rw [if_pos c]
    obtain ⟨v, hv, ea, en, hv2⟩ := mt_v hC c
    have e9 := (hC.2.2.1 v hv hv2).1
    refine ⟨fun z => absurd z (by decide), fun _ => ⟨fun h => ?_, fun h => ⟨by rw [ea]; exact la_vp hv (by omega), ?_⟩⟩⟩
    · rw [la_lt0] at h
      rw [if_neg (fun q => by have := q.2.1; omega)]
      exact ⟨_, rfl, rfl, rfl, rfl⟩
    · rw [la_lt0] at h
      rw [en, e9]
      refine ⟨fun h2 => ?_, fun h2 => ?_⟩
      · rw [Int32.le_iff_toInt_le] at h2
        rw [if_neg (fun q => by have := q.2.2; omega)]
        exact ⟨_, rfl, rfl, rfl, rfl⟩
      · rw [Int32.le_iff_toInt_le] at h2
        rw [if_pos ⟨c, by omega, by omega⟩]
        exact ⟨_, rfl, rfl, rfl, rfl⟩
  · rw [if_neg c, if_neg (fun q => c q.1)]
    exact ⟨fun _ => ⟨_, rfl, rfl, rfl, rfl⟩, fun z => absurd rfl z⟩
theorem mt_isS {m : Nat} {a b : Int32} (hC : mt_C i m) : ab_Sp MX12_isSign (d + 2) [.ref 205, .int a, .int b] (i, l, dd, x) (ab_E0 sc) (some (.int (if (0 ≤ a.toInt ∧ a.toInt < (i 205 30).toInt) ∧ 0 ≤ b.toInt ∧ b.toInt < (i 212 a.toNatClampNeg).toInt then 1 else 0))) (fun σ => σ = (i, l, dd, x)) := by
  refine ab_enter (n := 2) okMX12_isSign.1 (fun G => Nat.le_of_ble_eq_true rfl) ?_
  refine tMX12_isSign_0 (d := d + 1) ⟨_, _, mt_isV, ?_⟩
  rintro i5 l6 dd7 x8 ⟨⟩
  by_cases c : 0 ≤ a.toInt ∧ a.toInt < (i 205 30).toInt
  · rw [if_pos c]
    obtain ⟨v, hv, ea, en, hv2⟩ := mt_v hC c
    refine ⟨fun z => absurd z (by decide), fun _ => ⟨fun h => ?_, fun h => ⟨by rw [ea]; exact la_vp (by omega) (by omega), ?_⟩⟩⟩
    · rw [la_lt0] at h
      rw [if_neg (fun q => by have := q.2.1; omega)]
      exact ⟨_, rfl, rfl, rfl, rfl⟩
    · rw [la_lt0] at h
      rw [en]
      refine ⟨fun h2 => ?_, fun h2 => ?_⟩
      · rw [Int32.le_iff_toInt_le] at h2
        rw [if_neg (fun q => by have := q.2.2; omega)]
        exact ⟨_, rfl, rfl, rfl, rfl⟩
      · rw [Int32.le_iff_toInt_le] at h2
        rw [if_pos ⟨c, by omega, by omega⟩]
        exact ⟨_, rfl, rfl, rfl, rfl⟩
  · rw [if_neg c, if_neg (fun q => c q.1)]
    exact ⟨fun _ => ⟨_, rfl, rfl, rfl, rfl⟩, fun z => absurd rfl z⟩
/-- thrown written: what is told of the matter stays -/
theorem mt_C0 {m : Nat} {v0 : Int32} (hm : ab_isM m) (hC : mt_C i m) : mt_C (ab_u i 205 0 v0) m := by
  have e : ∀ k, k ≠ 205 → ab_u i 205 0 v0 k = i k := fun k h => ab_u_ne h
  have e30 : ab_u i 205 0 v0 205 30 = i 205 30 := if_neg (by omega)
  have h1 : m ≠ 205 := by rcases hm with rfl | rfl | rfl <;> decide
  have h2 : ∀ v : Nat, v < 7 → m + 5 + 6 * v ≠ 205 := fun v hv => by rcases hm with rfl | rfl | rfl <;> omega
  have h3 : m + 47 ≠ 205 := by rcases hm with rfl | rfl | rfl <;> decide
  obtain ⟨c1, c2, c3, c4⟩ := hC
  refine ⟨by rw [e m h1, e30]; exact c1, by rw [e30]; exact c2, fun v hv hv2 => ?_, fun v s hv hs hv2 hs2 => ?_⟩
  · rw [e30] at hv2
    rw [e _ (h2 v hv), e 212 (by decide)]
    exact c3 v hv hv2
  · rw [e30] at hv2
    rw [e 212 (by decide)] at hs2
    rw [e _ h3, e 225 (by decide)]
    exact c4 v s hv hs hv2 hs2
def mt_R (R : ab_S → Prop) : Prop := ∀ τ, R τ → ∃ m, τ.2.2.1 3 11 = .ref m ∧ ab_isM m ∧ mt_C τ.1 m
theorem mt_get (hR : mt_R R) (hI : la_I R (i, l, dd, x)) : ∃ m, dd 3 11 = .ref m ∧ ab_isM m ∧ mt_C i m := by
  obtain ⟨m, e0, hm, hC⟩ := hR _ hI.2.2
  exact ⟨m, e0, hm, mt_C_mask (σ := (i, l, dd, x)) hm hC⟩
theorem op_signs (hR : mt_R R) : la_c5 1310 sc (la_I R) := by
  rintro ⟨i, l, dd, x⟩ a hI
  obtain ⟨m, e0, hm, hC⟩ := mt_get hR hI
  refine ⟨if 0 ≤ a.toInt ∧ a.toInt < (i 205 30).toInt then i 212 a.toNatClampNeg else -1, fun σ => σ = (i, l, dd, x), ?_, ?_⟩
  · refine ab_enter (n := 1) okMX11_signs.1 (fun G => Nat.le_of_ble_eq_true rfl) ?_
    refine tMX11_signs_0 (d := 1310) ⟨m, e0, hm, _, _, mt_hasV (d := 1309) hm, ?_⟩
    rintro i5 l6 dd7 x8 ⟨⟩
    rw [hC.1]
    by_cases c : 0 ≤ a.toInt ∧ a.toInt < (i 205 30).toInt
    · obtain ⟨v, hv, ea, en, hv2⟩ := mt_v hC c
      rw [if_pos c, if_pos c]
      refine ⟨fun z => absurd z (by decide), fun _ => ⟨m, e0, hm, by rw [ea]; exact la_vp hv (by omega), ?_⟩⟩
      rw [en, (hC.2.2.1 v hv hv2).1]
      exact ⟨_, rfl, rfl, rfl, rfl⟩
    · rw [if_neg c, if_neg c]
      exact ⟨fun _ => ⟨_, rfl, rfl, rfl, rfl⟩, fun z => absurd rfl z⟩
  · rintro _ rfl
    refine ab_enter (n := 1) okMX12_signs.1 (fun G => Nat.le_of_ble_eq_true rfl) ?_
    refine tMX12_signs_0 (d := 1310) ?_
    rintro i1 rfl
    refine ⟨_, _, mt_isV (d := 1309), ?_⟩
    rintro i5 l6 dd7 x8 ⟨⟩
    rw [show ab_u i 205 0 0 205 30 = i 205 30 from if_neg (by omega), ab_u_ne (a := 212) (by omega)]
    by_cases c : 0 ≤ a.toInt ∧ a.toInt < (i 205 30).toInt
    · obtain ⟨v, hv, ea, en, hv2⟩ := mt_v hC c
      rw [if_pos c, if_pos c]
      refine ⟨fun z => absurd z (by decide), fun _ => ⟨by rw [ea]; exact la_vp (by omega) (by omega), ?_⟩⟩
      exact ⟨_, rfl, rfl, rfl, la_thr hI⟩
    · rw [if_neg c, if_neg c]
      exact ⟨fun _ => ⟨_, rfl, rfl, rfl, la_thr hI⟩, fun z => absurd rfl z⟩
theorem op_vote (hR : mt_R R) : la_c8 1310 sc (la_I R) := by
  rintro ⟨i, l, dd, x⟩ a b hI
  obtain ⟨m, e0, hm, hC⟩ := mt_get hR hI
  refine ⟨if (0 ≤ a.toInt ∧ a.toInt < (i 205 30).toInt) ∧ 0 ≤ b.toInt ∧ b.toInt < (i 212 a.toNatClampNeg).toInt then i 225 (3 * a.toNatClampNeg + b.toNatClampNeg) else -1, fun σ => σ = (i, l, dd, x), ?_, ?_⟩
  · refine ab_enter (n := 2) okMX11_vote.1 (fun G => Nat.le_of_ble_eq_true rfl) ?_
    refine tMX11_vote_0 (d := 1310) ⟨m, e0, hm, _, _, mt_hasS (d := 1308) hm hC, ?_⟩
    rintro i5 l6 dd7 x8 ⟨⟩
    by_cases c : (0 ≤ a.toInt ∧ a.toInt < (i 205 30).toInt) ∧ 0 ≤ b.toInt ∧ b.toInt < (i 212 a.toNatClampNeg).toInt
    · rw [if_pos c, if_pos c]
      obtain ⟨v, hv, rfl, en, hv2⟩ := mt_v hC c.1
      have h9 := (hC.2.2.1 v hv hv2).2.2
      rw [en] at c ⊢
      obtain ⟨s, hs, rfl⟩ := la_rep (a := b) (m := 3) c.2.1 (by have := c.2.2; omega)
      have e3 := la_nat (n := s) (by omega)
      refine ⟨fun z => absurd z (by decide), fun _ => ⟨m, e0, hm, by rw [la_3]; exact la_vp (by omega) (by omega), ?_⟩⟩
      rw [la_3, (la_nn (n := 3 * v + s) (by omega)).2, (la_nn (n := s) (by omega)).2, hC.2.2.2 v s hv hs hv2 (by have := c.2.2; omega)]
      exact ⟨_, rfl, rfl, rfl, rfl⟩
    · rw [if_neg c, if_neg c]
      exact ⟨fun _ => ⟨_, rfl, rfl, rfl, rfl⟩, fun z => absurd rfl z⟩
  · rintro _ rfl
    refine ab_enter (n := 2) okMX12_vote.1 (fun G => Nat.le_of_ble_eq_true rfl) ?_
    refine tMX12_vote_0 (d := 1310) ?_
    rintro i1 rfl
    refine ⟨_, _, mt_isS (d := 1308) (mt_C0 hm hC), ?_⟩
    rintro i5 l6 dd7 x8 ⟨⟩
    rw [show ab_u i 205 0 0 205 30 = i 205 30 from if_neg (by omega), ab_u_ne (a := 212) (by omega), ab_u_ne (a := 225) (by omega)]
    by_cases c : (0 ≤ a.toInt ∧ a.toInt < (i 205 30).toInt) ∧ 0 ≤ b.toInt ∧ b.toInt < (i 212 a.toNatClampNeg).toInt
    · rw [if_pos c, if_pos c]
      obtain ⟨v, hv, rfl, en, hv2⟩ := mt_v hC c.1
      have h9 := (hC.2.2.1 v hv hv2).2.2
      rw [en] at c ⊢
      obtain ⟨s, hs, rfl⟩ := la_rep (a := b) (m := 3) c.2.1 (by have := c.2.2; omega)
      refine ⟨fun z => absurd z (by decide), fun _ => ⟨by rw [la_3']; exact la_vp (by omega) (by omega), ?_⟩⟩
      rw [la_3', (la_nn (n := 3 * v + s) (by omega)).2, (la_nn (n := s) (by omega)).2]
      exact ⟨_, rfl, rfl, rfl, la_thr hI⟩
    · rw [if_neg c, if_neg c]
      exact ⟨fun _ => ⟨_, rfl, rfl, rfl, la_thr hI⟩, fun z => absurd rfl z⟩
end TPG
