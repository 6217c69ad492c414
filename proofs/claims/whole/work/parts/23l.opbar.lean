/-! the call bar -/
section TQL3
variable {d : Nat} {sc : Nat × (Nat → Int32)} {i : Nat → Nat → Int32} {l : Nat → Nat → Int64} {dd : Nat → Nat → Value} {x : Nat}
/-- stores that differ where bar keeps what it loses alone -/
def ba_E (τ τ2 : ab_S) : Prop := τ2.1 = τ.1 ∧ (∀ k j, ¬ (k = 191 ∧ j = 3) → ¬ (k = 205 ∧ j = 61) → τ2.2.1 k j = τ.2.1 k j) ∧ τ2.2.2.1 = τ.2.2.1
theorem op_bar {R : ab_S → Prop} {A : mA_} (hA : op_A R A) (hC : ∀ τ τ2, R τ → ba_E τ τ2 → τ2.2.1 191 3 = τ2.2.1 205 61 → R τ2) : la_c28 1310 sc (la_I R) := by
  rintro ⟨i, l, dd, x⟩ a1 a2 hI
  obtain ⟨hW, hA2⟩ := hA
  have w1 := hW.1
  obtain ⟨m, e0, hm, hK, hM⟩ := hA2 _ _ _ _ hI
  by_cases c : (0 ≤ a1.toInt ∧ a1.toInt < (aT_ A : Int)) ∧ (0 ≤ a2.toInt ∧ a2.toInt < (aT_ A : Int)) ∧ ¬ a1 = a2
  · obtain ⟨c1, c2, c3⟩ := c
    obtain ⟨t, ht, rfl⟩ := la_rep c1.1 c1.2
    obtain ⟨e, he, rfl⟩ := la_rep c2.1 c2.2
    have hp : 0 < aV_ A := by
      rcases Nat.eq_zero_or_pos (aV_ A) with y | y
      · have := hW.2.2.1 y
        omega
      · exact y
    have hb := lb_b_le (A := A) (t := t) (e := e) 81
    refine ⟨Int32.ofNat (lb_b A t e 81), fun σ => ∃ i2 l2 x2, σ = (i2, l2, ab_u dd 160 0 (.ref m), x2) ∧ kp_i i i2 ∧ (∀ k j, k ≠ 165 → k ≠ 192 → k ≠ 193 → ¬ (k = 191 ∧ j = 3) → l2 k j = l k j) ∧ l2 191 3 = Int64.ofNat (lb_n A t e (lb_b A t e 81)), ?_, ?_⟩
    · refine ab_ent (n := 2) okMX11_bar.1 (fun G => Nat.le_of_ble_eq_true rfl) (fun Q hQ => ?_)
      refine tMX11_bar_0 (d := 1310) ⟨m, e0, hm, _, _, mt_hasT1 (d := 1309) hW hm hK, ?_⟩
      rintro i5 l6 dd7 x8 ⟨⟩
      rw [if_pos c1]
      refine ⟨fun z => absurd z (by decide), fun _ => ⟨m, e0, hm, _, _, mt_hasT1 (d := 1309) hW hm hK, ?_⟩⟩
      rintro i5 l6 dd7 x8 ⟨⟩
      rw [if_pos c2]
      refine ⟨fun z => absurd z (by decide), fun _ => ⟨fun _ => ⟨m, e0, hm, _, _, mt_bestBar (d := 1305) hW hp hm hK ht he, ?_⟩, fun z => absurd z c3⟩⟩
      rintro i5 l6 dd7 x8 ⟨i2, l2, ⟨⟩, k2, h2, z2⟩
      exact hQ _ ⟨_, _, _, rfl, k2, h2, z2⟩
    · rintro σ1 ⟨i1, l1, x1, rfl, k1, h1, z1⟩
      have hM1 : mt_M A (ab_u i1 205 0 0) l1 := mt_M_fr hM (fun j a b => by rw [uu_j (by omega)]; exact k1.1 205 j (by rcases (show j = 29 ∨ j = 30 ∨ j = 31 by omega) with rfl | rfl | rfl <;> rfl)) (fun k a b => by
        rw [uu_f (by omega)]
        funext j
        exact k1.1 k j (by rcases (show k = 211 ∨ k = 212 ∨ k = 213 ∨ k = 214 ∨ k = 215 ∨ k = 216 ∨ k = 217 ∨ k = 218 ∨ k = 219 ∨ k = 220 ∨ k = 221 ∨ k = 222 ∨ k = 223 by omega) with rfl | rfl | rfl | rfl | rfl | rfl | rfl | rfl | rfl | rfl | rfl | rfl | rfl <;> rfl)) (fun j hj => by
        rw [uu_k (by omega)]
        exact k1.1 225 j (by simp [la_ws]; omega)) (funext fun j => h1 224 j (by omega) (by omega) (by omega) (by omega)) hW
      refine ab_ent (n := 2) okMX12_bar.1 (fun G => Nat.le_of_ble_eq_true rfl) (fun Q hQ => ?_)
      refine tMX12_bar_0 (d := 1310) ?_
      rintro i3 rfl
      refine ⟨_, _, mt_isT1 (d := 1309) hW hM1, ?_⟩
      rintro i5 l6 dd7 x8 ⟨⟩
      rw [if_pos c1]
      refine ⟨fun z => absurd z (by decide), fun _ => ⟨_, _, mt_isT1 (d := 1309) hW hM1, ?_⟩⟩
      rintro i5 l6 dd7 x8 ⟨⟩
      rw [if_pos c2]
      refine ⟨fun z => absurd z (by decide), fun _ => ⟨fun _ => ⟨_, md_byVotes (d := 1307) hW (by omega) hM1, ?_⟩, fun z => absurd z c3⟩⟩
      rintro i5 l6 dd7 x8 ⟨i4, l4, ⟨⟩, o4, f4, z4⟩
      refine ⟨_, md_byWeight (d := 1309) hW (bv_M hW hM1 o4) ht f4 z4, ?_⟩
      rintro i9 l9 dd9 x9 ⟨l5, ⟨⟩, g5, z5⟩
      have hfin : ∀ l7, (∀ k j, ¬ (k = 205 ∧ j = 61) → l7 k j = l9 k j) → l7 205 61 = Int64.ofNat (lb_n A t e (lb_b A t e 81)) → la_I R (i5, l7, ab_u dd 160 0 (.ref m), x1) := by
        intro l7 g7 e7
        have ki : kp_i i i5 := kp_it k1 (kp_it kp_0 (kp_bv o4).1)
        have kd := kp_160 (dd := dd) hm
        have h0 : ∀ k j, k ≠ 165 → k ≠ 192 → k ≠ 193 → k ≠ 241 → k ≠ 243 → ¬ (k = 191 ∧ j = 3) → ¬ (k = 205 ∧ j = 61) → l7 k j = l k j := fun k j a b c e f g h => by
          rw [g7 k j h, g5 k (by omega), o4.2 k (by omega)]
          exact h1 k j a b c g
        have h3 : l7 191 3 = Int64.ofNat (lb_n A t e (lb_b A t e 81)) := by
          rw [g7 191 3 (by omega), g5 191 (by omega), o4.2 191 (by omega)]
          exact z1
        have hJ := kp_I hI ki kp_lr kd (x2 := x1)
        refine ⟨hJ.1, hJ.2.1, hC _ _ hJ.2.2 ⟨rfl, fun k j a b => ?_, rfl⟩ ?_⟩
        · show (if la_ws k j then 0 else l7 k j) = (if la_ws k j then 0 else l k j)
          cases q : la_ws k j with
          | true => rfl
          | false =>
            have nq : ∀ y, kp_s y = true → k ≠ y := fun y hy z => by
              rw [z, kp_sw hy] at q
              cases q
            rw [if_neg (by decide), if_neg (by decide)]
            exact h0 k j (nq 165 rfl) (nq 192 rfl) (nq 193 rfl) (nq 241 rfl) (nq 243 rfl) a b
        · show l7 191 3 = l7 205 61
          rw [h3, e7]
      refine tMX12_bar_48 (d := 1310) ⟨fun z => absurd z (by decide), fun _ => ⟨_, _, md_lostN (d := 1309) (n := 1) hW ht he (by omega) z5, ?_⟩⟩
      rintro i6 l7 dd8 x9 ⟨⟩
      refine ⟨fun _ => ?_, fun z => absurd rfl z⟩
      rintro l8 rfl
      exact mb_48 (d := 1309) (t := t) (e := e) (A := A) (l0 := l9) hW ht he z5 (fun l10 g10 e10 => hQ _ (hfin l10 g10 e10)) 81 0 _ rfl (fun k j h => if_neg h) uu_e
  · refine ⟨-1, la_I R, ?_, ?_⟩
    · refine ab_ent (n := 2) okMX11_bar.1 (fun G => Nat.le_of_ble_eq_true rfl) (fun Q hQ => ?_)
      refine tMX11_bar_0 (d := 1310) ⟨m, e0, hm, _, _, mt_hasT1 (d := 1309) hW hm hK, ?_⟩
      rintro i5 l6 dd7 x8 ⟨⟩
      refine ⟨fun _ => hQ _ hI, fun g => ⟨m, e0, hm, _, _, mt_hasT1 (d := 1309) hW hm hK, ?_⟩⟩
      rintro i5 l6 dd7 x8 ⟨⟩
      refine ⟨fun _ => hQ _ hI, fun g2 => ⟨fun g3 => absurd ⟨Classical.byContradiction (fun z => g (if_neg z)), Classical.byContradiction (fun z => g2 (if_neg z)), g3⟩ c, fun _ => hQ _ hI⟩⟩
    · rintro ⟨i, l, dd, x⟩ hI
      refine ab_ent (n := 2) okMX12_bar.1 (fun G => Nat.le_of_ble_eq_true rfl) (fun Q hQ => ?_)
      refine tMX12_bar_0 (d := 1310) ?_
      rintro i1 rfl
      have hI2 := la_thr (v := 0) (x2 := x) hI
      obtain ⟨m, e0, hm, hK, hM⟩ := hA2 _ _ _ _ hI2
      refine ⟨_, _, mt_isT1 (d := 1309) hW hM, ?_⟩
      rintro i5 l6 dd7 x8 ⟨⟩
      refine ⟨fun _ => hQ _ hI2, fun g => ⟨_, _, mt_isT1 (d := 1309) hW hM, ?_⟩⟩
      rintro i5 l6 dd7 x8 ⟨⟩
      refine ⟨fun _ => hQ _ hI2, fun g2 => ⟨fun g3 => absurd ⟨Classical.byContradiction (fun z => g (if_neg z)), Classical.byContradiction (fun z => g2 (if_neg z)), g3⟩ c, fun _ => hQ _ hI2⟩⟩
end TQL3
