section TPJ
variable {d : Nat} {sc : Nat × (Nat → Int32)} {R : ab_S → Prop} {i : Nat → Nat → Int32} {l : Nat → Nat → Int64} {dd : Nat → Nat → Value} {x : Nat}
def mt_Sg (i : Nat → Nat → Int32) (v : Nat) : Nat := (i 212 v).toInt.toNat
def mt_bt (i : Nat → Nat → Int32) (v : Nat) : Nat := (i 206 v).toInt.toNat
/-- the model's radix -/
def mt_X (i : Nat → Nat → Int32) : Prop := ∀ v : Nat, (v : Int) < (i 205 30).toInt → i 223 v = Int32.ofNat (mt_rad (mt_Sg i) v)
def mt_toldM (i : Nat → Nat → Int32) : Prop := ¬ i 205 30 = 0 ∧ i 205 2 = i 205 30 ∧ ∀ v : Nat, (v : Int) < (i 205 30).toInt → (i 206 v).toInt < (i 212 v).toInt
theorem la_inv {a : Int32} (h : 0 ≤ a.toInt) : a = Int32.ofNat a.toInt.toNat := by
  have h9 : (a.toInt.toNat : Int) = a.toInt := by omega
  have h8 : Int32.ofInt (a.toInt.toNat : Int) = a := by rw [h9, Int32.ofInt_toInt]
  exact h8.symm.trans Int32.ofInt_eq_ofNat
theorem mt_row_loop {m : Nat} (hC : mt_C i m) (hX : mt_X i) (ht : ∀ j, j < 740 → la_byte (i 206 j)) {N : Nat} (hN : i 205 30 = Int32.ofNat N) (hN8 : N < 8) {Q : ab_Qt} : ∀ (n k : Nat), N = k + n → ((∀ v : Nat, k ≤ v → v < N → (i 206 v).toInt < (i 212 v).toInt) → Q (some (some (.int (Int32.ofNat (mt_row (mt_Sg i) (mt_bt i) N))))) (i, l, dd, x) (ab_E0 sc)) → ((¬ ∀ v : Nat, k ≤ v → v < N → (i 206 v).toInt < (i 212 v).toInt) → Q (some (some (.int (-1)))) (i, l, dd, x) (ab_E0 sc)) → ab_Fr MX12_rowTold (d + 1) Q 24 [some (.ref 205), some (.int (Int32.ofNat (mt_row (mt_Sg i) (mt_bt i) k))), some (.int (Int32.ofNat k))] [] (0, 0) (i, l, dd, x) (ab_E0 sc) := by
  intro n
  have e30 : (i 205 30).toInt = (N : Int) := by rw [hN, la_nat (by omega)]
  induction n with
  | zero =>
    intro k hk h1 h0
    have hk2 : N = k := hk
    subst hk2
    refine tMX12_rowTold_24 ⟨fun _ => h1 (fun v hv hv2 => by omega), fun c => ?_⟩
    rw [la_le (by omega)] at c
    omega
  | succ n ih =>
    intro k hk h1 h0
    refine tMX12_rowTold_24 ⟨fun c => ?_, fun c => ⟨la_vp (by omega) (by omega), la_vp (by omega) (by omega), ?_⟩⟩
    · rw [la_le (by omega)] at c
      omega
    · rw [(la_nn (n := k) (by omega)).2]
      refine ⟨fun g => ⟨la_vp (by omega) (by omega), la_vp (by omega) (by omega), ?_⟩, fun g => ?_⟩
      · rw [Int32.lt_iff_toInt_lt] at g
        have e1 : i 206 k = Int32.ofNat (mt_bt i k) := la_inv (ht k (by omega)).1
        rw [la_nx, hX k (by omega), e1, ← Int32.ofNat_mul, ← Int32.ofNat_add]
        refine ih (k + 1) (by omega) (fun q => h1 (fun v hv hv2 => ?_)) (fun q => h0 (fun q2 => q (fun v hv hv2 => q2 v (by omega) hv2)))
        rcases Nat.eq_or_lt_of_le hv with rfl | h9
        · exact g
        · exact q v h9 hv2
      · rw [Int32.lt_iff_toInt_lt] at g
        exact h0 (fun q => g (q k (Nat.le_refl k) (by omega)))
theorem mt_rowTold {m : Nat} (hC : mt_C i m) (hX : mt_X i) (ht : ∀ j, j < 740 → la_byte (i 206 j)) : ∃ r : Int32, (r = Int32.ofNat (mt_row (mt_Sg i) (mt_bt i) (i 205 30).toInt.toNat) ∧ mt_toldM i ∨ r = -1 ∧ ¬ mt_toldM i) ∧ ∀ d, ab_Sp MX12_rowTold (d + 1) [.ref 205] (i, l, dd, x) (ab_E0 sc) (some (.int r)) (fun σ => σ = (i, l, dd, x)) := by
  have hN : i 205 30 = Int32.ofNat (i 205 30).toInt.toNat := la_inv hC.2.1.1
  have h7 := hC.2.1
  generalize hn : (i 205 30).toInt.toNat = N at hN
  have hN8 : N < 8 := by omega
  rcases Classical.em (mt_toldM i) with h | h
  · refine ⟨_, Or.inl ⟨rfl, h⟩, fun d => ?_⟩
    obtain ⟨h1, h2, h3⟩ := h
    refine ab_enter (n := 0) okMX12_rowTold.1 (fun G => Nat.le_of_ble_eq_true rfl) ?_
    refine tMX12_rowTold_0 ⟨fun z => absurd z h1, fun _ => ⟨fun _ => ?_, fun z => absurd h2 z⟩⟩
    exact mt_row_loop hC hX ht hN hN8 N 0 (by omega) (fun _ => ⟨_, rfl, rfl, rfl, rfl⟩) (fun q => absurd (fun v _ hv => h3 v (by omega)) q)
  · refine ⟨-1, Or.inr ⟨rfl, h⟩, fun d => ?_⟩
    refine ab_enter (n := 0) okMX12_rowTold.1 (fun G => Nat.le_of_ble_eq_true rfl) ?_
    refine tMX12_rowTold_0 ⟨fun _ => ⟨_, rfl, rfl, rfl, rfl⟩, fun c => ⟨fun h2 => ?_, fun _ => ⟨_, rfl, rfl, rfl, rfl⟩⟩⟩
    exact mt_row_loop hC hX ht hN hN8 N 0 (by omega) (fun q => absurd ⟨c, h2, fun v hv => q v (Nat.zero_le v) (by omega)⟩ h) (fun _ => ⟨_, rfl, rfl, rfl, rfl⟩)
end TPJ
