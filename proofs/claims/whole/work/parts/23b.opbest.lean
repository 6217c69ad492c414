/-! the call bestRule -/
section TQB3
variable {d : Nat} {sc : Nat × (Nat → Int32)} {i : Nat → Nat → Int32} {l : Nat → Nat → Int64} {dd : Nat → Nat → Value} {x : Nat}
theorem bv_0 {A : mA_} {u e : Nat} (hW : mt_W A) (h : ¬ ∃ r, r < mt_rad (aS_ A) (aV_ A) ∧ cd_r A (pu_g (aS_ A) (aV_ A) r) = u) : bv_ A u e = 0 := by
  unfold bv_
  rw [← cs_rows (G := fun b => if cd_r A b = u then cs_l A 7 b e (aT_ A) else 0) hW]
  exact pu_sz (fun r hr => if_neg (fun q => h ⟨r, hr, q⟩))
theorem br_lt {A : mA_} {u : Nat} (hW : mt_W A) (hp : 0 < aV_ A) : br_e A u < aT_ A := by
  have w4 := hW.2.2.2.1 hp
  have := mt_li_le (f := fun e => Int64.ofNat (bv_ A u e)) (aT_ A - 1)
  unfold br_e
  omega
theorem br_25 {A : mA_} (hW : mt_W A) (hp : 0 < aV_ A) (hM : mt_M A i l) (h242 : ∀ u, u < 4 ^ aV_ A → i 242 u = if (∃ r, r < mt_rad (aS_ A) (aV_ A) ∧ cd_r A (pu_g (aS_ A) (aV_ A) r) = u) then 1 else 0) (h241 : ∀ u e, u < 4 ^ aV_ A → e < aT_ A → l 241 (3 * u + e) = Int64.ofNat (bv_ A u e)) {Q : ab_Qt} (hQ : Q (some (some (.long (Int64.ofNat (br_ A))))) (i, l, dd, x) (ab_E0 sc)) :
    ∀ n u : Nat, 4 ^ aV_ A = u + n → ab_Fr MX12_bestRule (d + 2) Q 25 [some (.ref 205), some (.long (Int64.ofNat (pu_s (fun u => bv_ A u (br_e A u)) u))), none, some (.int (Int32.ofNat u))] [] (0, 0) (i, l, dd, x) (ab_E0 sc) := by
  intro n
  have w1 := hW.1
  have w2 := hW.2.1
  have w4 := hW.2.2.2.1 hp
  have h7 := cd_7 w2
  have r2 := hM.1.2.1
  induction n with
  | zero =>
    intro u hu
    refine tMX12_bestRule_25 (d := d + 1) ⟨fun _ => ?_, fun g => ?_⟩
    · rw [show u = 4 ^ aV_ A by omega]
      exact hQ
    · rw [r2, cd_sh w2, nn_le (by omega) (by omega)] at g
      omega
  | succ n ih =>
    intro u hu
    have ih2 := ih (u + 1) (by omega)
    have es : pu_s (fun u => bv_ A u (br_e A u)) (u + 1) = pu_s (fun u => bv_ A u (br_e A u)) u + bv_ A u (br_e A u) := rfl
    have hlt := br_lt (u := u) hW hp
    refine tMX12_bestRule_25 (d := d + 1) ⟨fun g => ?_, fun _ => ⟨la_vp (by omega) (by omega), ?_⟩⟩
    · rw [r2, cd_sh w2, nn_le (by omega) (by omega)] at g
      omega
    · rw [nn_cl (by omega), h242 u (by omega)]
      by_cases c : ∃ r, r < mt_rad (aS_ A) (aV_ A) ∧ cd_r A (pu_g (aS_ A) (aV_ A) r) = u
      · rw [if_pos c]
        refine ⟨fun z => absurd z (by decide), fun _ => ?_⟩
        have e0 := h241 u 0 (by omega) (by omega)
        have e1 := h241 u 1 (by omega) (by omega)
        rw [Nat.add_zero] at e0
        rw [nn_p3, nn_p1, nn_p2, nn_mul, nn_add, nn_add, nn_cl (by omega), nn_cl (by omega), nn_cl (by omega)]
        refine ⟨la_vp (by omega) (by omega), la_vp (by omega) (by omega), la_vp (by omega) (by omega), _, _, md_least (d := d) (f := fun e => Int64.ofNat (bv_ A u e)) hW hp hM e0.symm e1.symm (fun h => (h241 u 2 (by omega) (by omega)).symm), ?_⟩
        rintro i6 l7 dd8 x9 ⟨⟩
        rw [show mt_li (fun e => Int64.ofNat (bv_ A u e)) (aT_ A - 1) = br_e A u from rfl, nn_add, nn_cl (by omega), h241 u _ (by omega) hlt, nl_add, nn_add]
        rw [es] at ih2
        exact ⟨la_vp (by omega) (by omega), ih2⟩
      · rw [if_neg c]
        refine ⟨fun _ => ?_, fun z => absurd rfl z⟩
        rw [es, bv_0 hW c, Nat.add_zero] at ih2
        rw [la_nx]
        exact ih2
theorem kp_bv {i2 : Nat → Nat → Int32} {l2 : Nat → Nat → Int64} (h : bv_o i i2 l l2) : kp_i i i2 ∧ kp_l l l2 :=
  ⟨kp_fo h.1 (fun k h1 h2 => by rw [show k = 242 by omega]; rfl), kp_lo h.2 (fun k h1 h2 => by rw [show k = 241 by omega]; rfl)⟩
theorem op_bestRule {R : ab_S → Prop} {A : mA_} (hA : op_A R A) : la_c27 1310 sc (la_I R) := by
  rintro ⟨i, l, dd, x⟩ hI
  show th_c MX11_bestRule MX12_bestRule [] sc (la_I R) (i, l, dd, x)
  obtain ⟨hW, hA2⟩ := hA
  by_cases c : aV_ A = 0
  · refine th_no ?_ ?_
    · obtain ⟨m, e0, hm, hK, -⟩ := hA2 _ _ _ _ hI
      have hz := mt_z30 hW hK
      refine ab_enterX (n := 0) okMX11_bestRule.1 (fun G => Nat.le_of_ble_eq_true rfl) (by omega) ?_
      refine tMX11_bestRule_0 (d := 1309) ⟨m, e0, hm, _, _, mt_empty (d := 1308) hm, ?_⟩
      rintro i5 l6 dd7 x8 ⟨⟩
      rw [if_pos (hz.mpr c)]
      exact ⟨fun z => absurd z (by decide), fun _ => ⟨rfl, rfl, la_x hI⟩⟩
    · rintro ⟨i, l, dd, x⟩ hI
      obtain ⟨m, -, -, -, hM⟩ := hA2 _ _ _ _ hI
      refine ab_ent (n := 0) okMX12_bestRule.1 (fun G => Nat.le_of_ble_eq_true rfl) (fun Q hQ => ?_)
      refine tMX12_bestRule_0 (d := 1310) ?_
      rw [mt_z31 hW hM]
      refine ⟨fun z => absurd c z, fun _ => ⟨_, _, th_ref (d := 1309) hI, ?_⟩⟩
      intro i5 l6 dd7 x8 h
      exact hQ _ h
  · have hp : 0 < aV_ A := by omega
    refine th_ok (Int64.ofNat (br_ A)) ?_ ?_
    · obtain ⟨m, e0, hm, hK, -⟩ := hA2 _ _ _ _ hI
      have eD : ab_u dd 160 0 (.ref m) 3 11 = .ref m := by rw [uu_k (by decide)]; exact e0
      have hz := mt_z30 hW hK
      refine ab_enterX (n := 0) okMX11_bestRule.1 (fun G => Nat.le_of_ble_eq_true rfl) (by omega) ?_
      refine tMX11_bestRule_0 (d := 1309) ⟨m, e0, hm, _, _, mt_empty (d := 1308) hm, ?_⟩
      rintro i5 l6 dd7 x8 ⟨⟩
      rw [if_neg (fun z => c (hz.mp z))]
      refine ⟨fun _ => ⟨m, e0, hm, _, mt_votedT (d := 1306) hW hm hK, ?_⟩, fun z => absurd rfl z⟩
      rintro i5 l6 dd7 x8 ⟨i2, ⟨⟩, k2, R2⟩
      refine ⟨_, rw_sumBest (d := 1306) (n := 9) hW hp hm uu_e (gr_cb hW (mt_O9 hW)) rfl (by omega) (by omega) (mt_K_kp hW hm hK k2) R2, ?_⟩
      rintro i5 l6 dd7 x8 ⟨i3, l3, ⟨⟩, g3, h3, z3⟩
      have k3 := kp_it k2 (kp_g g3)
      have hJ := kp_I hI k3 (kp_h (a := 204) h3 rfl) (kp_160 hm) (x2 := x)
      refine ⟨m, eD, hm, _, _, mt_lostBy (d := 1308) (n := 9) (K := aK_ A 7) (F := rw_sum A (gr_cv A (aO_ A)) (rw_be A (gr_cv A (aO_ A)))) (Or.inl ⟨m, hm, rfl⟩) rfl (mt_KLo hW (mt_K_kp hW hm hK k3)) z3 (by omega), ?_⟩
      rintro i5 l6 dd7 x8 ⟨⟩
      rw [br_eq hW hp]
      exact ⟨rfl, rfl, hJ⟩
    · rintro ⟨i, l, dd, x⟩ hI
      obtain ⟨m, -, -, -, hM⟩ := hA2 _ _ _ _ hI
      refine ab_ent (n := 0) okMX12_bestRule.1 (fun G => Nat.le_of_ble_eq_true rfl) (fun Q hQ => ?_)
      refine tMX12_bestRule_0 (d := 1310) ?_
      rw [mt_z31 hW hM]
      refine ⟨fun _ => ?_, fun z => absurd z c⟩
      rintro i1 rfl
      have hI2 := la_thr (v := 0) (x2 := x) hI
      obtain ⟨m, e0, hm, hK, hM2⟩ := hA2 _ _ _ _ hI2
      refine ⟨_, md_byVotes (d := 1307) hW (by omega) hM2, ?_⟩
      rintro i5 l6 dd7 x8 ⟨i2, l2, ⟨⟩, o2, f2, z2⟩
      obtain ⟨k1, k2⟩ := kp_bv o2
      refine br_25 (d := 1309) hW hp (bv_M hW hM2 o2) f2 z2 (hQ _ ⟨?_, kp_I hI2 k1 k2 kp_dr, ?_⟩) _ 0 (Nat.zero_add _).symm
      · exact congrFun (o2.2 249 (by omega)) 0
      · exact (congrFun (o2.1 205 (by omega)) 0).trans uu_e
end TQB3
