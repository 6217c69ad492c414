section TPP
variable {d : Nat} {sc : Nat × (Nat → Int32)} {i : Nat → Nat → Int32} {l : Nat → Nat → Int64} {dd : Nat → Nat → Value} {x : Nat}
theorem mt_clearT {m : Nat} (hm : ab_isM m) : ab_Sp MX1_clearTally (d + 1) [.ref m] (i, l, dd, x) (ab_E0 sc) none (fun σ => σ = (ab_u (ab_u (ab_u i (m + 48) 0 0) (m + 48) 1 0) (m + 48) 2 0, l, dd, x)) := by
  refine ab_enter (n := 0) okMX1_clearTally.1 (fun G => Nat.le_of_ble_eq_true rfl) ?_
  refine tMX1_clearTally_0 hm (tMX1_clearTally_2 hm ⟨fun z => absurd z (by decide), fun _ => ⟨ab_vp (by decide), ?_⟩⟩)
  rintro i1 rfl
  refine tMX1_clearTally_2 hm ⟨fun z => absurd z (by decide), fun _ => ⟨ab_vp (by decide), ?_⟩⟩
  rintro i1 rfl
  refine tMX1_clearTally_2 hm ⟨fun z => absurd z (by decide), fun _ => ⟨ab_vp (by decide), ?_⟩⟩
  rintro i1 rfl
  exact tMX1_clearTally_2 hm ⟨fun _ => ⟨none, rfl, rfl, rfl, rfl⟩, fun z => absurd (by decide) z⟩
/-- the weight of the votes for a truth, of the voters before k -/
def mt_tal (w b : Nat → Int32) (t : Int32) : Nat → Int32
  | 0 => 0
  | k + 1 => mt_tal w b t k + (if b k = t then w k else 0)
end TPP
