/-! whether the tape tells a sign of each voter -/
section TPI
variable {d : Nat} {sc : Nat × (Nat → Int32)} {R : ab_S → Prop} {i : Nat → Nat → Int32} {l : Nat → Nat → Int64} {dd : Nat → Nat → Value} {x : Nat}
def mt_told (i : Nat → Nat → Int32) : Prop := ¬ i 205 30 = 0 ∧ i 4 1 = i 205 30 ∧ ∀ v : Nat, (v : Int) < (i 205 30).toInt → (i 5 v).toInt < (i 212 v).toInt
theorem la_nx {k : Nat} : Int32.ofNat k + 1 = Int32.ofNat (k + 1) := by
  rw [Int32.ofNat_add]
  rfl
theorem la_le {a : Int32} {k : Nat} (hk : k < 2 ^ 31) : a ≤ Int32.ofNat k ↔ a.toInt ≤ (k : Int) := by
  rw [Int32.le_iff_toInt_le, la_nat hk]
theorem mt_told_loop {m : Nat} (hm : ab_isM m) (hC : mt_C i m) (ht : ∀ j, j < 740 → la_byte (i 5 j)) {Q : ab_Qt} : ∀ (n k : Nat), (i 205 30).toInt = (k : Int) + n → ((∀ v : Nat, k ≤ v → (v : Int) < (i 205 30).toInt → (i 5 v).toInt < (i 212 v).toInt) → Q (some (some (.int 1))) (i, l, dd, x) (ab_E0 sc)) → ((¬ ∀ v : Nat, k ≤ v → (v : Int) < (i 205 30).toInt → (i 5 v).toInt < (i 212 v).toInt) → Q (some (some (.int 0))) (i, l, dd, x) (ab_E0 sc)) → ab_Fr MX1_hasSigns (d + 3) Q 22 [some (.ref m), some (.ref 4), some (.int (Int32.ofNat k))] [] (0, 0) (i, l, dd, x) (ab_E0 sc) := by
  intro n
  have h7 := hC.2.1.2
  induction n with
  | zero =>
    intro k hk h1 h0
    refine tMX1_hasSigns_22 (d := d + 2) hm ⟨fun _ => h1 (fun v hv hv2 => by omega), fun c => ?_⟩
    rw [hC.1, la_le (by omega)] at c
    omega
  | succ n ih =>
    intro k hk h1 h0
    refine tMX1_hasSigns_22 (d := d + 2) hm ⟨fun c => ?_, fun c => ⟨la_vp (by omega) (by omega), _, _, mt_hasS (d := d) hm hC, ?_⟩⟩
    · rw [hC.1, la_le (by omega)] at c
      omega
    · rintro i5 l6 dd7 x8 ⟨⟩
      have e1 := la_nat (n := k) (by omega)
      rw [(la_nn (n := k) (by omega)).2]
      have hb := ht k (by omega)
      unfold la_byte at hb
      by_cases g : (i 5 k).toInt < (i 212 k).toInt
      · rw [if_pos ⟨⟨by omega, by omega⟩, hb.1, g⟩]
        refine ⟨fun _ => ?_, fun z => absurd z (by decide)⟩
        rw [la_nx]
        refine ih (k + 1) (by omega) (fun q => h1 (fun v hv hv2 => ?_)) (fun q => h0 (fun q2 => q (fun v hv hv2 => q2 v (by omega) hv2)))
        rcases Nat.eq_or_lt_of_le hv with rfl | h9
        · exact g
        · exact q v h9 hv2
      · rw [if_neg (fun q => g q.2.2)]
        exact ⟨fun z => absurd rfl z, fun _ => h0 (fun q => g (q k (Nat.le_refl k) (by omega)))⟩
theorem mt_hasSigns {m : Nat} (hm : ab_isM m) (hC : mt_C i m) (ht : ∀ j, j < 740 → la_byte (i 5 j)) : ∃ r : Int32, (r = 1 ∧ mt_told i ∨ r = 0 ∧ ¬ mt_told i) ∧ ∀ d, ab_Sp MX1_hasSigns (d + 3) [.ref m, .ref 4] (i, l, dd, x) (ab_E0 sc) (some (.int r)) (fun σ => σ = (i, l, dd, x)) := by
  obtain ⟨n, hn, en⟩ := la_rep (a := i 205 30) (m := 8) hC.2.1.1 (by have := hC.2.1.2; omega)
  have e2 := la_nat (n := n) (by omega)
  rcases Classical.em (mt_told i) with h | h
  · refine ⟨1, Or.inl ⟨rfl, h⟩, fun d => ?_⟩
    obtain ⟨h1, h2, h3⟩ := h
    refine ab_enter (n := 1) okMX1_hasSigns.1 (fun G => Nat.le_of_ble_eq_true rfl) ?_
    refine tMX1_hasSigns_0 (d := d + 2) hm ⟨_, _, mt_empty (d := d + 1) hm, ?_⟩
    rintro i5 l6 dd7 x8 ⟨⟩
    rw [hC.1, if_neg h1]
    refine ⟨fun z => absurd rfl z, fun _ => ⟨fun _ => ?_, fun z => absurd h2 z⟩⟩
    exact mt_told_loop hm hC ht n 0 (by rw [en, e2]; omega) (fun _ => ⟨_, rfl, rfl, rfl, rfl⟩) (fun q => absurd (fun v _ hv => h3 v hv) q)
  · refine ⟨0, Or.inr ⟨rfl, h⟩, fun d => ?_⟩
    refine ab_enter (n := 1) okMX1_hasSigns.1 (fun G => Nat.le_of_ble_eq_true rfl) ?_
    refine tMX1_hasSigns_0 (d := d + 2) hm ⟨_, _, mt_empty (d := d + 1) hm, ?_⟩
    rintro i5 l6 dd7 x8 ⟨⟩
    rw [hC.1]
    by_cases c : i 205 30 = 0
    · rw [if_pos c]
      exact ⟨fun _ => ⟨_, rfl, rfl, rfl, rfl⟩, fun z => absurd z (by decide)⟩
    · rw [if_neg c]
      refine ⟨fun z => absurd rfl z, fun _ => ⟨fun h2 => ?_, fun _ => ⟨_, rfl, rfl, rfl, rfl⟩⟩⟩
      exact mt_told_loop hm hC ht n 0 (by rw [en, e2]; omega) (fun q => absurd ⟨c, h2, fun v hv => q v (Nat.zero_le v) hv⟩ h) (fun _ => ⟨_, rfl, rfl, rfl, rfl⟩)
theorem mt_clear : ab_Sp MX7_clear (d + 1) [.ref 4] (i, l, dd, x) (ab_E0 sc) none (fun σ => σ = (ab_u i 4 1 0, l, dd, x)) := by
  refine ab_enter (n := 0) okMX7_clear.1 (fun G => Nat.le_of_ble_eq_true rfl) ?_
  refine tMX7_clear_0 ?_
  rintro i1 rfl
  exact ⟨_, rfl, rfl, rfl, rfl⟩
end TPI
