/-! bar: the model's loop -/
section TQK3
variable {d : Nat} {sc : Nat × (Nat → Int32)} {i : Nat → Nat → Int32} {l : Nat → Nat → Int64} {dd : Nat → Nat → Value} {x : Nat}
theorem mb_48 {A : mA_} {t e : Nat} (hW : mt_W A) (ht : t < aT_ A) (he : e < aT_ A) {l0 : Nat → Nat → Int64} (h243 : ∀ w e, w < 82 → e < aT_ A → l0 243 (3 * w + e) = Int64.ofNat (bw_ A t w e)) {Q : ab_Qt} (hQ : ∀ l2, (∀ k j, ¬ (k = 205 ∧ j = 61) → l2 k j = l0 k j) → l2 205 61 = Int64.ofNat (lb_n A t e (lb_b A t e 81)) → Q (some (some (.int (Int32.ofNat (lb_b A t e 81))))) (i, l2, dd, x) (ab_E0 sc)) :
    ∀ (r n : Nat) (l2 : Nat → Nat → Int64), 81 = n + r → (∀ k j, ¬ (k = 205 ∧ j = 61) → l2 k j = l0 k j) → l2 205 61 = Int64.ofNat (lb_n A t e (lb_b A t e n)) → ab_Fr MX12_bar (d + 2) Q 48 [some (.ref 205), some (.int (Int32.ofNat t)), some (.int (Int32.ofNat e)), some (.int (Int32.ofNat (lb_b A t e n))), some (.int (Int32.ofNat (n + 2))), none, none] [] (0, 0) (i, l2, dd, x) (ab_E0 sc) := by
  intro r
  have w1 := hW.1
  induction r with
  | zero =>
    intro n l2 hn g2 e2
    refine tMX12_bar_48 (d := d + 1) ⟨fun _ => ?_, fun c => ?_⟩
    · rw [show n = 81 by omega] at e2 ⊢
      exact hQ l2 g2 e2
    · rw [show (82 : Int32) = Int32.ofNat 82 from rfl, nn_lt (by omega) (by omega)] at c
      omega
  | succ r ih =>
    intro n l2 hn g2 e2
    have hb := lb_b_le (A := A) (t := t) (e := e) n
    have eb : lb_b A t e (n + 1) = if Int64.ofNat (lb_n A t e (n + 2)) < Int64.ofNat (lb_n A t e (lb_b A t e n)) then n + 2 else lb_b A t e n := rfl
    refine tMX12_bar_48 (d := d + 1) ⟨fun c => ?_, fun _ => ⟨_, _, md_lostN (d := d) (n := n + 2) hW ht he (by omega) (fun w y hw hy => by rw [g2 243 _ (by omega)]; exact h243 w y hw hy), ?_⟩⟩
    · rw [show (82 : Int32) = Int32.ofNat 82 from rfl, nn_lt (by omega) (by omega)] at c
      omega
    · rintro i6 l7 dd8 x9 ⟨⟩
      refine ⟨fun c => ?_, fun _ => ⟨fun c => ?_, fun c => ?_⟩⟩
      · rw [nn_em (by omega)] at c
        exact absurd c id
      · rw [e2] at c
        rw [if_pos c] at eb
        rintro l3 rfl
        have h := ih (n + 1) (ab_u l2 205 61 (Int64.ofNat (lb_n A t e (n + 2)))) (by omega) (fun k j hk => (if_neg hk).trans (g2 k j hk)) (by rw [eb]; exact uu_e)
        rw [eb] at h
        rw [la_nx]
        exact h
      · rw [e2] at c
        rw [if_neg c] at eb
        have h := ih (n + 1) l2 (by omega) g2 (by rw [eb]; exact e2)
        rw [eb] at h
        rw [la_nx]
        exact h
end TQK3
