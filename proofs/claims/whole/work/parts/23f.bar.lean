/-! bar: the class's bestBar -/
section TQF3
variable {d : Nat} {sc : Nat × (Nat → Int32)} {i : Nat → Nat → Int32} {l : Nat → Nat → Int64} {dd : Nat → Nat → Value} {x : Nat}
theorem mt_bestBar {A : mA_} {m t e : Nat} (hW : mt_W A) (hp : 0 < aV_ A) (hm : ab_isM m) (hK : mt_K A m i) (ht : t < aT_ A) (he : e < aT_ A) : ab_Sp MX5_bestBar (d + 5) [.ref 191, .ref m, .int (Int32.ofNat t), .int (Int32.ofNat e)] (i, l, dd, x) (ab_E0 sc) (some (.int (Int32.ofNat (lb_b A t e 81)))) (fun σ => ∃ i2 l2, σ = (i2, l2, ab_u dd 160 0 (.ref m), x) ∧ kp_i i i2 ∧ (∀ k j, k ≠ 165 → k ≠ 192 → k ≠ 193 → ¬ (k = 191 ∧ j = 3) → l2 k j = l k j) ∧ l2 191 3 = Int64.ofNat (lb_n A t e (lb_b A t e 81))) := by
  refine ab_ent (n := 3) okMX5_bestBar.1 (fun G => Nat.le_of_ble_eq_true rfl) (fun Q hQ => ?_)
  refine tMX5_bestBar_0 (d := d + 4) hm ⟨_, mt_sortW (d := d) hW hp hm hK ht he, ?_⟩
  rintro i5 l6 dd7 x8 ⟨i2, l2, ⟨⟩, k2, h2, z2⟩
  have go : ∀ r k : Nat, 64 = k + r → 1 ≤ k → ab_Fr MX5_bestBar (d + 5) Q 18 [some (.ref 191), none, none, none, some (.long (Int64.ofNat (lb_ A t e 1 k))), none, some (.int (Int32.ofNat k)), none] [] (0, 0) (i5, l6, ab_u dd 160 0 (.ref m), x) (ab_E0 sc) := by
    intro r
    induction r with
    | zero =>
      intro k hk h1
      refine tMX5_bestBar_18 (d := d + 4) ⟨fun _ => ?_, fun c => ?_⟩
      · rintro l3 rfl
        rw [show k = 64 by omega]
        refine bb_55 (d := d + 4) (t := t) (e := e) (A := A) (l0 := ab_u l6 191 3 (Int64.ofNat (lb_ A t e 1 64))) (fun w hw => by rw [uu_k (by decide), uu_k (by decide)]; exact z2 w hw) (fun l4 g4 e4 => hQ _ ⟨i5, l4, rfl, k2, fun q j a b c h => ?_, e4⟩) 81 0 _ rfl (fun _ _ _ => rfl) uu_e
        rw [g4 q j h]
        exact (if_neg h).trans (congrFun (h2 q a b c) j)
      · rw [show (64 : Int32) = Int32.ofNat 64 from rfl, nn_le (by omega) (by omega)] at c
        omega
    | succ r ih =>
      intro k hk h1
      have es : lb_ A t e 1 (k + 1) = lb_ A t e 1 k + bw_ A t k t := by
        show lb_ A t e 1 k + (if k < 1 then bw_ A t k e else bw_ A t k t) = _
        rw [if_neg (by omega)]
      have ih2 := ih (k + 1) (by omega) (by omega)
      rw [es] at ih2
      refine tMX5_bestBar_18 (d := d + 4) ⟨fun c => ?_, fun _ => ⟨la_vp (by omega) (by omega), ?_⟩⟩
      · rw [show (64 : Int32) = Int32.ofNat 64 from rfl, nn_le (by omega) (by omega)] at c
        omega
      · rw [nn_cl (by omega), (z2 k (by omega)).1, nl_add, la_nx]
        exact ih2
  have e1 : lb_ A t e 1 1 = bw_ A t 0 e := by
    show 0 + (if 0 < 1 then bw_ A t 0 e else bw_ A t 0 t) = _
    rw [if_pos Nat.zero_lt_one, Nat.zero_add]
  have h := go 63 1 rfl (Nat.le_refl 1)
  rw [e1] at h
  rw [(z2 0 (by omega)).2]
  exact h
end TQF3
