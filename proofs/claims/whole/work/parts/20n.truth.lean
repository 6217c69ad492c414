section TPL
variable {d : Nat} {sc : Nat × (Nat → Int32)} {R : ab_S → Prop} {i : Nat → Nat → Int32} {l : Nat → Nat → Int64} {dd : Nat → Nat → Value} {x : Nat}
theorem mt_hasT {m : Nat} {a : Int32} (hm : ab_isM m) : ab_Sp MX1_hasTruth (d + 1) [.ref m, .int a] (i, l, dd, x) (ab_E0 sc) (some (.int (if 0 ≤ a.toInt ∧ a.toInt < (i m 0).toInt then 1 else 0))) (fun σ => σ = (i, l, dd, x)) := by
  refine ab_enter (n := 1) okMX1_hasTruth.1 (fun G => Nat.le_of_ble_eq_true rfl) ?_
  refine tMX1_hasTruth_0 hm ⟨fun h => ?_, fun h0 => ⟨fun h => ?_, fun h => ?_⟩⟩
  · rw [la_lt0] at h
    rw [if_neg (fun q => by omega)]
    exact ⟨_, rfl, rfl, rfl, rfl⟩
  · rw [Int32.le_iff_toInt_le] at h
    rw [if_neg (fun q => by omega)]
    exact ⟨_, rfl, rfl, rfl, rfl⟩
  · rw [la_lt0] at h0
    rw [Int32.le_iff_toInt_le] at h
    rw [if_pos ⟨by omega, by omega⟩]
    exact ⟨_, rfl, rfl, rfl, rfl⟩
theorem mt_isT {a : Int32} : ab_Sp MX12_isTruth (d + 1) [.ref 205, .int a] (i, l, dd, x) (ab_E0 sc) (some (.int (if 0 ≤ a.toInt ∧ a.toInt < (i 205 29).toInt then 1 else 0))) (fun σ => σ = (i, l, dd, x)) := by
  refine ab_enter (n := 1) okMX12_isTruth.1 (fun G => Nat.le_of_ble_eq_true rfl) ?_
  refine tMX12_isTruth_0 ⟨fun h => ?_, fun h0 => ⟨fun h => ?_, fun h => ?_⟩⟩
  · rw [la_lt0] at h
    rw [if_neg (fun q => by omega)]
    exact ⟨_, rfl, rfl, rfl, rfl⟩
  · rw [Int32.le_iff_toInt_le] at h
    rw [if_neg (fun q => by omega)]
    exact ⟨_, rfl, rfl, rfl, rfl⟩
  · rw [la_lt0] at h0
    rw [Int32.le_iff_toInt_le] at h
    rw [if_pos ⟨by omega, by omega⟩]
    exact ⟨_, rfl, rfl, rfl, rfl⟩
/-- the product of what is likely: a row's parts for a truth, voters before k -/
def mt_pr (c : Int64) (f : Nat → Int32) : Nat → Int64
  | 0 => c
  | k + 1 => mt_pr c f k * (f k).toInt64
theorem mt_parts_loop {m n a : Nat} {t : Nat} (hm : ab_isM m) (hk : (ab_E0 sc).1 a = .inr (0, n)) (hn : 7 ≤ n) (hC : mt_C i m) (hT : t < 3) (hb : ∀ v : Nat, (v : Int) < (i 205 30).toInt → 0 ≤ (i a v).toInt ∧ (i a v).toInt < 3) {c : Int64} {Q : ab_Qt} (hQ : Q (some (some (.long (mt_pr c (fun v => i (m + 5 + 6 * v + 1) (3 * t + (i a v).toInt.toNat)) (i 205 30).toInt.toNat)))) (i, l, dd, x) (ab_E0 sc)) : ∀ (r k : Nat), (i 205 30).toInt.toNat = k + r → ab_Fr MX1_partsOf (d + 1) Q 11 [some (.ref m), some (.int (Int32.ofNat t)), some (.ref a), some (.long (mt_pr c (fun v => i (m + 5 + 6 * v + 1) (3 * t + (i a v).toInt.toNat)) k)), none, some (.int (Int32.ofNat k))] [] (0, 0) (i, l, dd, x) (ab_E0 sc) := by
  intro r
  have h7 := hC.2.1
  induction r with
  | zero =>
    intro k hr
    refine tMX1_partsOf_11 hm hk ⟨fun _ => ?_, fun c0 => ?_⟩
    · rw [hr] at hQ
      exact hQ
    · rw [hC.1, la_le (by omega)] at c0
      omega
  | succ r ih =>
    intro k hr
    have hbk := hb k (by omega)
    have e1 : i a k = Int32.ofNat (i a k).toInt.toNat := la_inv hbk.1
    refine tMX1_partsOf_11 hm hk ⟨fun c0 => ?_, fun _ => ⟨la_vp (by omega) (by omega), ?_, ?_, ?_⟩⟩
    · rw [hC.1, la_le (by omega)] at c0
      omega
    · have h9 := la_vp (n := k) (len := 7) (by omega) (by omega)
      have h8 := la_nn (n := k) (by omega)
      refine ab_vp ?_
      rw [h8.2]
      simp [h8.1]
      omega
    · rw [(la_nn (n := k) (by omega)).2, e1, la_3]
      exact la_vp (by omega) (by omega)
    · rw [(la_nn (n := k) (by omega)).2, e1, la_3, (la_nn (n := 3 * t + (i a k).toInt.toNat) (by omega)).2, la_nx]
      exact ih (k + 1) (by omega)
end TPL
