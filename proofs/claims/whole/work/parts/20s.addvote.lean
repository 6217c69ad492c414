section TPQ
variable {d : Nat} {sc : Nat × (Nat → Int32)} {i : Nat → Nat → Int32} {l : Nat → Nat → Int64} {dd : Nat → Nat → Value} {x : Nat}
/-- a vote's weight is added, if it is a truth's -/
theorem mt_addV {m a n v : Nat} {b : Int32} (hm : ab_isM m) (hk : (ab_E0 sc).1 a = .inr (0, n)) (hn : 3 ≤ n) (hv : v < 7) (hT : (i m 0).toInt ≤ 3) : ab_Sp MX1_addVote (d + 1) [.ref m, .ref a, .int (Int32.ofNat v), .int b] (i, l, dd, x) (ab_E0 sc) none (fun σ => σ = (if 0 ≤ b.toInt ∧ b.toInt < (i m 0).toInt then ab_u i a b.toInt.toNat (i a b.toInt.toNat + i (m + 5 + 6 * v) 1) else i, l, dd, x)) := by
  refine ab_enter (n := 3) okMX1_addVote.1 (fun G => Nat.le_of_ble_eq_true rfl) ?_
  refine tMX1_addVote_0 hm hk ⟨fun h => ?_, fun h0 => ⟨fun h => ?_, fun h => ?_⟩⟩
  · rw [la_lt0] at h
    exact ⟨none, rfl, rfl, rfl, by rw [if_neg (fun q => by omega)]⟩
  · rw [Int32.le_iff_toInt_le] at h
    exact ⟨none, rfl, rfl, rfl, by rw [if_neg (fun q => by omega)]⟩
  · rw [la_lt0] at h0
    rw [Int32.le_iff_toInt_le] at h
    obtain ⟨t, ht, rfl⟩ := la_rep (a := b) (m := 3) (by omega) (by omega)
    have e := la_nat (n := t) (by omega)
    have e2 := la_nn (n := t) (by omega)
    have hvp : vp_in (Int32.ofNat t) n := by
      refine ab_vp ?_
      rw [e2.2]
      simp [e2.1]
      omega
    refine ⟨hvp, la_vp hv (by omega), hvp, ?_⟩
    rintro i1 rfl
    rw [e2.2, (la_nn (n := v) (by omega)).2]
    exact ⟨none, rfl, rfl, rfl, by rw [if_pos ⟨by omega, by omega⟩, la_tn (by omega)]⟩
end TPQ
