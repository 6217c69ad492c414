/-! bar: the class's best bar -/
def lb_ (A : mA_) (t e n k : Nat) : Nat := pu_s (fun w => if w < n then bw_ A t w e else bw_ A t w t) k
def lb_n (A : mA_) (t e n : Nat) : Nat := lb_ A t e n 64
/-- the best of 1 .. k + 1 -/
def lb_b (A : mA_) (t e : Nat) : Nat → Nat
  | 0 => 1
  | k + 1 => if Int64.ofNat (lb_n A t e (k + 2)) < Int64.ofNat (lb_n A t e (lb_b A t e k)) then k + 2 else lb_b A t e k
theorem lb_up {A : mA_} {t e n : Nat} : ∀ k, lb_ A t e (n + 1) k + (if n < k then bw_ A t n t else 0) = lb_ A t e n k + (if n < k then bw_ A t n e else 0) := by
  intro k
  induction k with
  | zero => rfl
  | succ k ih =>
    have e1 : lb_ A t e (n + 1) (k + 1) = lb_ A t e (n + 1) k + (if k < n + 1 then bw_ A t k e else bw_ A t k t) := rfl
    have e2 : lb_ A t e n (k + 1) = lb_ A t e n k + (if k < n then bw_ A t k e else bw_ A t k t) := rfl
    rw [e1, e2]
    rcases Nat.lt_trichotomy n k with c | c | c
    · rw [if_neg (show ¬ k < n + 1 by omega), if_neg (show ¬ k < n by omega), if_pos (show n < k + 1 by omega), if_pos (show n < k + 1 by omega)]
      rw [if_pos c, if_pos c] at ih
      omega
    · subst c
      rw [if_pos (show n < n + 1 by omega), if_neg (show ¬ n < n by omega), if_pos (show n < n + 1 by omega), if_pos (show n < n + 1 by omega)]
      rw [if_neg (Nat.lt_irrefl n), if_neg (Nat.lt_irrefl n)] at ih
      omega
    · rw [if_pos (show k < n + 1 by omega), if_pos c, if_neg (show ¬ n < k + 1 by omega), if_neg (show ¬ n < k + 1 by omega)]
      rw [if_neg (show ¬ n < k by omega), if_neg (show ¬ n < k by omega)] at ih
      omega
theorem lb_same {A : mA_} {t e n : Nat} (h : ¬ n < 64) : lb_n A t e n = lb_n A t e (n + 1) := by
  have h2 := lb_up (A := A) (t := t) (e := e) (n := n) 64
  rw [if_neg h, if_neg h, Nat.add_zero, Nat.add_zero] at h2
  exact h2.symm
theorem lb_step {A : mA_} {t e n : Nat} (h : n < 64) : lb_n A t e (n + 1) + bw_ A t n t = lb_n A t e n + bw_ A t n e := by
  have h2 := lb_up (A := A) (t := t) (e := e) (n := n) 64
  rw [if_pos h, if_pos h] at h2
  exact h2
theorem lb_b_le {A : mA_} {t e : Nat} : ∀ k, 1 ≤ lb_b A t e k ∧ lb_b A t e k ≤ k + 1 := by
  intro k
  induction k with
  | zero => exact ⟨Nat.le_refl 1, Nat.le_refl 1⟩
  | succ k ih =>
    unfold lb_b
    split <;> omega
theorem nl_up {a b c d : Nat} (h : a + c = b + d) : Int64.ofNat b + (Int64.ofNat d - Int64.ofNat c) = Int64.ofNat a := by
  have h2 : Int64.ofNat a + Int64.ofNat c = Int64.ofNat b + Int64.ofNat d := by rw [nl_add, nl_add, h]
  rw [Int64.sub_eq_add_neg, ← Int64.add_assoc, ← h2, Int64.add_assoc, Int64.add_right_neg, Int64.add_zero]
section TQE3
variable {d : Nat} {sc : Nat × (Nat → Int32)} {i : Nat → Nat → Int32} {l : Nat → Nat → Int64} {dd : Nat → Nat → Value} {x : Nat}
theorem bb_55 {A : mA_} {t e : Nat} {l0 : Nat → Nat → Int64} (hl : ∀ w, w < 64 → l0 192 w = Int64.ofNat (bw_ A t w t) ∧ l0 193 w = Int64.ofNat (bw_ A t w e)) {Q : ab_Qt} (hQ : ∀ l2, (∀ k j, ¬ (k = 191 ∧ j = 3) → l2 k j = l0 k j) → l2 191 3 = Int64.ofNat (lb_n A t e (lb_b A t e 81)) → Q (some (some (.int (Int32.ofNat (lb_b A t e 81))))) (i, l2, dd, x) (ab_E0 sc)) :
    ∀ (r n : Nat) (l2 : Nat → Nat → Int64), 81 = n + r → (∀ k j, ¬ (k = 191 ∧ j = 3) → l2 k j = l0 k j) → l2 191 3 = Int64.ofNat (lb_n A t e (lb_b A t e n)) → ab_Fr MX5_bestBar (d + 1) Q 55 [some (.ref 191), none, none, none, some (.long (Int64.ofNat (lb_n A t e (n + 1)))), none, some (.int (Int32.ofNat (lb_b A t e n))), some (.int (Int32.ofNat (n + 2)))] [] (0, 0) (i, l2, dd, x) (ab_E0 sc) := by
  intro r
  induction r with
  | zero =>
    intro n l2 hn g2 e2
    refine tMX5_bestBar_55 ⟨fun _ => ?_, fun c => ?_⟩
    · rw [show n = 81 by omega] at e2 ⊢
      exact hQ l2 g2 e2
    · rw [show (82 : Int32) = Int32.ofNat 82 from rfl, nn_lt (by omega) (by omega)] at c
      omega
  | succ r ih =>
    intro n l2 hn g2 e2
    have hb := lb_b_le (A := A) (t := t) (e := e) n
    have eb : lb_b A t e (n + 1) = if Int64.ofNat (lb_n A t e (n + 2)) < Int64.ofNat (lb_n A t e (lb_b A t e n)) then n + 2 else lb_b A t e n := rfl
    have go : ab_Fr MX5_bestBar (d + 1) Q 93 [some (.ref 191), none, none, none, some (.long (Int64.ofNat (lb_n A t e (n + 2)))), none, some (.int (Int32.ofNat (lb_b A t e n))), some (.int (Int32.ofNat (n + 2)))] [] (0, 0) (i, l2, dd, x) (ab_E0 sc) := by
      refine tMX5_bestBar_93 ⟨fun c => ?_, fun c => ?_⟩
      · rw [e2] at c
        rw [if_neg c] at eb
        have h := ih (n + 1) l2 (by omega) g2 (by rw [eb]; exact e2)
        rw [eb] at h
        rw [la_nx]
        exact h
      · rw [e2] at c
        rw [if_pos c] at eb
        rintro l3 rfl
        have h := ih (n + 1) (ab_u l2 191 3 (Int64.ofNat (lb_n A t e (n + 2)))) (by omega) (fun k j hk => (if_neg hk).trans (g2 k j hk)) (by rw [eb]; exact uu_e)
        rw [eb] at h
        rw [la_nx]
        exact h
    refine tMX5_bestBar_55 ⟨fun c => ?_, fun _ => ⟨fun c => ?_, fun c => ?_⟩⟩
    · rw [show (82 : Int32) = Int32.ofNat 82 from rfl, nn_lt (by omega) (by omega)] at c
      omega
    · rw [show (64 : Int32) = Int32.ofNat 64 from rfl, nn_lt (by omega) (by omega)] at c
      rw [lb_same (n := n + 1) (by omega)]
      exact go
    · rw [show (64 : Int32) = Int32.ofNat 64 from rfl, nn_lt (by omega) (by omega)] at c
      rw [nn_p1, nn_sub (by omega), nn_cl (by omega), show n + 2 - 1 = n + 1 by omega, g2 193 _ (by omega), g2 192 _ (by omega), (hl (n + 1) (by omega)).1, (hl (n + 1) (by omega)).2, nl_up (lb_step (n := n + 1) (by omega))]
      exact ⟨la_vp (by omega) (by omega), la_vp (by omega) (by omega), go⟩
end TQE3
