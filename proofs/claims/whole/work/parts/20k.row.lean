/-! a row of signs as a number -/
def mt_rad (S : Nat → Nat) : Nat → Nat
  | 0 => 1
  | v + 1 => mt_rad S v * S v
def mt_row (S b : Nat → Nat) : Nat → Nat
  | 0 => 0
  | k + 1 => mt_row S b k + b k * mt_rad S k
theorem mt_row_lt {S b : Nat → Nat} : ∀ k, (∀ v, v < k → b v < S v) → mt_row S b k < mt_rad S k := by
  intro k
  induction k with
  | zero => intro _; exact Nat.zero_lt_one
  | succ k ih =>
    intro h
    have h1 := ih (fun v hv => h v (by omega))
    have h2 := h k (by omega)
    show mt_row S b k + b k * mt_rad S k < mt_rad S k * S k
    calc mt_row S b k + b k * mt_rad S k < mt_rad S k + b k * mt_rad S k := by omega
      _ = mt_rad S k * (b k + 1) := by rw [Nat.mul_add, Nat.mul_one, Nat.mul_comm, Nat.add_comm]
      _ ≤ mt_rad S k * S k := Nat.mul_le_mul_left _ h2
theorem mt_rad_pos {S : Nat → Nat} : ∀ k, (∀ v, v < k → 0 < S v) → 0 < mt_rad S k := by
  intro k
  induction k with
  | zero => intro _; exact Nat.zero_lt_one
  | succ k ih =>
    intro h
    exact Nat.mul_pos (ih (fun v hv => h v (by omega))) (h k (by omega))
theorem mt_rad_le {S : Nat → Nat} : ∀ k, (∀ v, v < k → S v ≤ 3) → mt_rad S k ≤ 3 ^ k := by
  intro k
  induction k with
  | zero => intro _; exact Nat.le_refl _
  | succ k ih =>
    intro h
    show mt_rad S k * S k ≤ 3 ^ k * 3
    exact Nat.mul_le_mul (ih (fun v hv => h v (by omega))) (h k (by omega))
theorem mt_dvd {S : Nat → Nat} : ∀ (n v : Nat), mt_rad S (v + 1) ∣ mt_rad S (v + 1 + n) := by
  intro n v
  induction n with
  | zero => exact Nat.dvd_refl _
  | succ n ih => exact Nat.dvd_trans ih (Nat.dvd_mul_right _ _)
/-- the sign of a voter out of the row's number -/
theorem mt_sign {S b : Nat → Nat} {v : Nat} : ∀ n, (∀ u, u < v + 1 + n → b u < S u) → mt_row S b (v + 1 + n) / mt_rad S v % S v = b v := by
  intro n h
  have hp : ∀ u, u < v + 1 + n → 0 < S u := fun u hu => by have := h u hu; omega
  have e : ∀ n, ∃ q, mt_row S b (v + 1 + n) = mt_row S b (v + 1) + mt_rad S (v + 1) * q := by
    intro n
    induction n with
    | zero => exact ⟨0, by simp⟩
    | succ n ih =>
      obtain ⟨q, hq⟩ := ih
      obtain ⟨c, hc⟩ := mt_dvd (S := S) n v
      refine ⟨q + b (v + 1 + n) * c, ?_⟩
      show mt_row S b (v + 1 + n) + b (v + 1 + n) * mt_rad S (v + 1 + n) = _
      rw [hq, hc, Nat.mul_add, Nat.mul_left_comm, Nat.add_assoc]
  obtain ⟨q, hq⟩ := e n
  have h1 := mt_row_lt (S := S) (b := b) v (fun u hu => h u (by omega))
  have h2 := mt_rad_pos (S := S) v (fun u hu => hp u (by omega))
  have h3 := h v (by omega)
  rw [hq]
  show (mt_row S b v + b v * mt_rad S v + mt_rad S v * S v * q) / mt_rad S v % S v = b v
  rw [show mt_row S b v + b v * mt_rad S v + mt_rad S v * S v * q = mt_row S b v + mt_rad S v * (b v + S v * q) from by rw [Nat.mul_add, Nat.mul_comm (b v), Nat.mul_assoc, Nat.add_assoc]]
  rw [Nat.add_mul_div_left _ _ h2, Nat.div_eq_of_lt h1, Nat.zero_add, Nat.add_mul_mod_self_left, Nat.mod_eq_of_lt h3]
