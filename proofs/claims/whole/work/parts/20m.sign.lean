theorem la_div {a b : Nat} (ha : a < 2 ^ 31) (hb : b < 2 ^ 31) : Int32.ofNat a / Int32.ofNat b = Int32.ofNat (a / b) := by
  have hab : a / b ≤ a := Nat.div_le_self a b
  apply Int32.toInt.inj
  rw [Int32.toInt_div, la_nat ha, la_nat hb, la_nat (by omega)]
  rw [show ((a : Int).tdiv (b : Int)) = ((a / b : Nat) : Int) from rfl]
  generalize a / b = q at hab ⊢
  rw [Int.bmod_eq_of_le (by omega) (by omega)]
theorem la_minus {a b : Nat} (hb : b ≤ a) : Int32.ofNat a - Int32.ofNat b = Int32.ofNat (a - b) := by
  have e : Int32.ofNat a = Int32.ofNat (a - b) + Int32.ofNat b := by
    rw [← Int32.ofNat_add]
    congr 1
    omega
  rw [e]
  exact Int32.add_sub_cancel _ _
theorem la_mod {a b : Nat} (ha : a < 2 ^ 31) (hb : b < 2 ^ 31) : Int32.ofNat a - Int32.ofNat a / Int32.ofNat b * Int32.ofNat b = Int32.ofNat (a % b) := by
  rw [la_div ha hb, ← Int32.ofNat_mul, la_minus (Nat.div_mul_le_self a b)]
  congr 1
  have h := Nat.div_add_mod a b
  rw [Nat.mul_comm] at h
  omega
section TPK
variable {d : Nat} {sc : Nat × (Nat → Int32)} {R : ab_S → Prop} {i : Nat → Nat → Int32} {l : Nat → Nat → Int64} {dd : Nat → Nat → Value} {x : Nat}
theorem mt_sgn {m r v : Nat} (hC : mt_C i m) (hX : mt_X i) (hv : (v : Int) < (i 205 30).toInt) (hr : r < 2187) : ab_Sp MX12_sign (d + 1) [.ref 205, .int (Int32.ofNat r), .int (Int32.ofNat v)] (i, l, dd, x) (ab_E0 sc) (some (.int (Int32.ofNat (r / mt_rad (mt_Sg i) v % mt_Sg i v)))) (fun σ => σ = (i, l, dd, x)) := by
  have h7 := hC.2.1
  have hS : ∀ u : Nat, u < v + 1 → 2 ≤ mt_Sg i u ∧ mt_Sg i u ≤ 3 := fun u hu => by
    have h9 := (hC.2.2.1 u (by omega) (by omega)).2
    unfold mt_Sg
    omega
  have hp := mt_rad_pos (S := mt_Sg i) v (fun u hu => by have := (hS u (by omega)).1; omega)
  have hq := mt_rad_le (S := mt_Sg i) v (fun u hu => (hS u (by omega)).2)
  have h3 : (3 : Nat) ^ v ≤ 3 ^ 7 := Nat.pow_le_pow_right (by omega) (by omega)
  have h37 : (3 : Nat) ^ 7 = 2187 := rfl
  have hs : i 212 v = Int32.ofNat (mt_Sg i v) := la_inv (by have := (hC.2.2.1 v (by omega) hv).2.1; omega)
  have hSv := hS v (by omega)
  have n0 : ∀ k : Nat, 0 < k → k < 2 ^ 31 → ¬ Int32.ofNat k = 0 := fun k h1 h2 z => by
    have h9 := la_nat h2
    rw [z] at h9
    have h8 : ((0 : Int32).toInt) = 0 := rfl
    omega
  refine ab_enter (n := 2) okMX12_sign.1 (fun G => Nat.le_of_ble_eq_true rfl) ?_
  refine tMX12_sign_0 ?_
  rw [(la_nn (n := v) (by omega)).2, hX v hv, hs]
  refine ⟨la_vp (by omega) (by omega), n0 _ hp (by omega), la_vp (by omega) (by omega), n0 _ (by omega) (by omega), ?_⟩
  have hdl : r / mt_rad (mt_Sg i) v ≤ r := Nat.div_le_self _ _
  rw [la_div (by omega) (by omega), la_mod (by omega) (by omega)]
  exact ⟨_, rfl, rfl, rfl, rfl⟩
end TPK
