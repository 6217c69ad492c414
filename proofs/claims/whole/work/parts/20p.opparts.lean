section TPN
variable {d : Nat} {sc : Nat × (Nat → Int32)} {R : ab_S → Prop} {i : Nat → Nat → Int32} {l : Nat → Nat → Int64} {dd : Nat → Nat → Value} {x : Nat}
/-- what a rest R must tell of the matter that counts -/
def mt_RP (R : ab_S → Prop) : Prop := ∀ (i : Nat → Nat → Int32) (l : Nat → Nat → Int64) (dd : Nat → Nat → Value) (x : Nat), la_I R (i, l, dd, x) → ∃ m, dd 3 11 = .ref m ∧ ab_isM m ∧ mt_C i m ∧ mt_L i m ∧ mt_X i ∧ mt_P i l
theorem la_mask_il {i i2 : Nat → Nat → Int32} {l l2 : Nat → Nat → Int64} {dd : Nat → Nat → Value} {x x2 : Nat} (h : ∀ k j, la_ws k j = false → i2 k j = i k j) (hl : ∀ k j, la_ws k j = false → l2 k j = l k j) : la_mask (i2, l2, dd, x2) = la_mask (i, l, dd, x) := by
  unfold la_mask
  congr 1
  · funext k j
    cases e : la_ws k j with
    | true => rfl
    | false => simp [e, h k j e]
  · congr 1
    funext k j
    cases e : la_ws k j with
    | true => rfl
    | false => simp [e, hl k j e]
theorem mt_told_iff (ht : la_It (i, l, dd, x)) {m : Nat} (hC : mt_C i m) : mt_told i ↔ mt_toldM i := by
  have h2 : i 205 2 = i 4 1 := ht.2.1
  have h3 : ∀ j, j < 740 → i 206 j = i 5 j := fun j hj => (ht.2.2 j hj).1
  have h7 := hC.2.1
  unfold mt_told mt_toldM
  rw [h2]
  constructor
  · rintro ⟨a, b, c⟩
    exact ⟨a, b, fun v hv => by rw [h3 v (by omega)]; exact c v hv⟩
  · rintro ⟨a, b, c⟩
    exact ⟨a, b, fun v hv => by have := c v hv; rw [h3 v (by omega)] at this; exact this⟩
/-- both tapes emptied -/
theorem la_cut0 {l2 : Nat → Nat → Int64} {x2 : Nat} (hI : la_I R (i, l, dd, x)) (hl : ∀ k, k ≠ 249 → l2 k = l k) {v0 : Int32} : la_I R (ab_u (ab_u (ab_u i 4 1 0) 205 0 v0) 205 2 0, l2, dd, x2) := by
  obtain ⟨ht, hv, hR⟩ := hI
  refine ⟨?_, hv, ?_⟩
  · unfold la_It
    dsimp only
    rw [ab_u_ne (k := 205) (a := 5) (by omega), ab_u_ne (k := 205) (a := 5) (by omega), ab_u_ne (k := 4) (a := 5) (by omega), ab_u_ne (k := 205) (a := 206) (by omega), ab_u_ne (k := 205) (a := 206) (by omega), ab_u_ne (k := 4) (a := 206) (by omega), ab_u_ne (k := 205) (a := 4) (by omega), ab_u_ne (k := 205) (a := 4) (by omega)]
    refine ⟨?_, ?_, ht.2.2⟩
    · dsimp only
      rw [la_uv]
      exact ⟨by decide, by decide⟩
    · dsimp only
      rw [la_uv, la_uv]
  · rw [la_mask_il (i := i) (l := l) (x := x) (fun k j h => by rw [la_ui_ws rfl k j h, la_ui_ws rfl k j h, la_ui_ws rfl k j h]) (fun k j h => by rw [hl k (fun z => by subst z; cases h)])]
    exact hR
end TPN
