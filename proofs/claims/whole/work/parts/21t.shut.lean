/-! signs there or not; comes, shut -/
section TQT
variable {d : Nat} {sc : Nat × (Nat → Int32)} {i : Nat → Nat → Int32} {l : Nat → Nat → Int64} {dd : Nat → Nat → Value} {x : Nat}
def cs_S (A : mA_) (a b : Int32) : Prop := ∃ v s, v < aV_ A ∧ s < aS_ A v ∧ a = Int32.ofNat v ∧ b = Int32.ofNat s
theorem mt_hasSy {A : mA_} {m v s : Nat} (hW : mt_W A) (hm : ab_isM m) (hK : mt_K A m i) (hv : v < aV_ A) (hs : s < aS_ A v) : ab_Sp MX1_hasSign (d + 2) [.ref m, .int (Int32.ofNat v), .int (Int32.ofNat s)] (i, l, dd, x) (ab_E0 sc) (some (.int 1)) (fun σ => σ = (i, l, dd, x)) := by
  have w2 := hW.2.1
  have h7 := hW.2.2.2.2.2.2.1 v hv
  refine ab_ent (n := 2) okMX1_hasSign.1 (fun G => Nat.le_of_ble_eq_true rfl) (fun Q hQ => ?_)
  refine tMX1_hasSign_0 (d := d + 1) hm ⟨_, _, mt_hasV1 (d := d) hW hm hK, ?_⟩
  rintro i5 l6 dd7 x8 ⟨⟩
  have e := (hK.2.2.2.2.1 v hv).1
  rw [la_nat (by omega), if_pos (by omega)]
  refine ⟨fun z => absurd z (by decide), fun _ => ⟨fun z => absurd z (la_nn (by omega)).1, fun _ => ?_⟩⟩
  simp (disch := omega) only [e, ↓nn_m3, nn_p0, nn_p1, nn_p2, nn_p3, nn_p4, nn_p5, nn_p6, nn_p7, nn_p8, nn_p9, nn_p10, nn_p20, nn_p21, nn_le, nn_lt, nn_eq, nn_cl, nn_in, nn_add, nn_mul, nn_en, nn_ne, nn_mn, nn_64]
  exact ⟨trivial, fun c => absurd c (by omega), fun _ => hQ _ rfl⟩
theorem mt_hasSn {A : mA_} {m : Nat} {a b : Int32} (hW : mt_W A) (hm : ab_isM m) (hK : mt_K A m i) (h : ¬ cs_S A a b) : ab_Sp MX1_hasSign (d + 2) [.ref m, .int a, .int b] (i, l, dd, x) (ab_E0 sc) (some (.int 0)) (fun σ => σ = (i, l, dd, x)) := by
  have w2 := hW.2.1
  refine ab_ent (n := 2) okMX1_hasSign.1 (fun G => Nat.le_of_ble_eq_true rfl) (fun Q hQ => ?_)
  refine tMX1_hasSign_0 (d := d + 1) hm ⟨_, _, mt_hasV1 (d := d) hW hm hK, ?_⟩
  rintro i5 l6 dd7 x8 ⟨⟩
  rcases mt_hvI (a := a) hW with ⟨v, hv, rfl, c⟩ | c
  · have h7 := hW.2.2.2.2.2.2.1 v hv
    have e := (hK.2.2.2.2.1 v hv).1
    rw [if_pos c]
    refine ⟨fun _ => hQ _ rfl, fun _ => ⟨fun _ => hQ _ rfl, fun g => ⟨la_vp (by omega) (by omega), ?_⟩⟩⟩
    rw [nn_cl (by omega), e]
    refine ⟨fun _ => hQ _ rfl, fun g2 => absurd ?_ h⟩
    rw [la_lt0] at g
    rw [Int32.le_iff_toInt_le, la_nat (by omega)] at g2
    obtain ⟨s, hs, rfl⟩ := la_rep (a := b) (m := aS_ A v) (by omega) (by omega)
    exact ⟨v, s, hv, hs, rfl, rfl⟩
  · rw [if_neg c]
    exact ⟨fun _ => hQ _ rfl, fun z => absurd rfl z⟩
theorem mt_isSy {A : mA_} {v s : Nat} (hW : mt_W A) (hM : mt_M A i l) (hv : v < aV_ A) (hs : s < aS_ A v) : ab_Sp MX12_isSign (d + 2) [.ref 205, .int (Int32.ofNat v), .int (Int32.ofNat s)] (i, l, dd, x) (ab_E0 sc) (some (.int 1)) (fun σ => σ = (i, l, dd, x)) := by
  have w2 := hW.2.1
  have h7 := hW.2.2.2.2.2.2.1 v hv
  refine ab_ent (n := 2) okMX12_isSign.1 (fun G => Nat.le_of_ble_eq_true rfl) (fun Q hQ => ?_)
  refine tMX12_isSign_0 (d := d + 1) ⟨_, _, mt_isV1 (d := d) hW hM, ?_⟩
  rintro i5 l6 dd7 x8 ⟨⟩
  have e := (hM.2.2.2.1 v hv).1
  rw [la_nat (by omega), if_pos (by omega)]
  refine ⟨fun z => absurd z (by decide), fun _ => ⟨fun z => absurd z (la_nn (by omega)).1, fun _ => ?_⟩⟩
  simp (disch := omega) only [e, ↓nn_m3, nn_p0, nn_p1, nn_p2, nn_p3, nn_p4, nn_p5, nn_p6, nn_p7, nn_p8, nn_p9, nn_p10, nn_p20, nn_p21, nn_le, nn_lt, nn_eq, nn_cl, nn_in, nn_add, nn_mul, nn_en, nn_ne, nn_mn, nn_64]
  exact ⟨trivial, fun c => absurd c (by omega), fun _ => hQ _ rfl⟩
theorem mt_isSn {A : mA_} {a b : Int32} (hW : mt_W A) (hM : mt_M A i l) (h : ¬ cs_S A a b) : ab_Sp MX12_isSign (d + 2) [.ref 205, .int a, .int b] (i, l, dd, x) (ab_E0 sc) (some (.int 0)) (fun σ => σ = (i, l, dd, x)) := by
  have w2 := hW.2.1
  refine ab_ent (n := 2) okMX12_isSign.1 (fun G => Nat.le_of_ble_eq_true rfl) (fun Q hQ => ?_)
  refine tMX12_isSign_0 (d := d + 1) ⟨_, _, mt_isV1 (d := d) hW hM, ?_⟩
  rintro i5 l6 dd7 x8 ⟨⟩
  rcases mt_hvI (a := a) hW with ⟨v, hv, rfl, c⟩ | c
  · have h7 := hW.2.2.2.2.2.2.1 v hv
    have e := (hM.2.2.2.1 v hv).1
    rw [if_pos c]
    refine ⟨fun _ => hQ _ rfl, fun _ => ⟨fun _ => hQ _ rfl, fun g => ⟨la_vp (by omega) (by omega), ?_⟩⟩⟩
    rw [nn_cl (by omega), e]
    refine ⟨fun _ => hQ _ rfl, fun g2 => absurd ?_ h⟩
    rw [la_lt0] at g
    rw [Int32.le_iff_toInt_le, la_nat (by omega)] at g2
    obtain ⟨s, hs, rfl⟩ := la_rep (a := b) (m := aS_ A v) (by omega) (by omega)
    exact ⟨v, s, hv, hs, rfl, rfl⟩
  · rw [if_neg c]
    exact ⟨fun _ => hQ _ rfl, fun z => absurd rfl z⟩
/-- the model's refusal, with thrown written -/
theorem op_comes {R : ab_S → Prop} {A : mA_} (hA : op_A R A) : la_c11 1310 sc (la_I R) := by
  rintro ⟨i, l, dd, x⟩ a1 a2 hI
  show th_c MX11_comes MX12_comes [.int a1, .int a2] sc (la_I R) (i, l, dd, x)
  obtain ⟨hW, hA2⟩ := hA
  have w1 := hW.1
  have none1 : (¬ ((0 ≤ a1.toInt ∧ a1.toInt < (aT_ A : Int)) ∧ (0 ≤ a2.toInt ∧ a2.toInt < (aT_ A : Int)))) → th_c MX11_comes MX12_comes [.int a1, .int a2] sc (la_I R) (i, l, dd, x) := by
    intro c
    refine th_no ?_ ?_
    · obtain ⟨m, e0, hm, hK, -⟩ := hA2 _ _ _ _ hI
      refine ab_enterX (n := 2) okMX11_comes.1 (fun G => Nat.le_of_ble_eq_true rfl) (by omega) ?_
      refine tMX11_comes_0 (d := 1309) ⟨m, e0, hm, _, _, mt_hasT1 (d := 1308) hW hm hK, ?_⟩
      rintro i5 l6 dd7 x8 ⟨⟩
      by_cases c1 : 0 ≤ a1.toInt ∧ a1.toInt < (aT_ A : Int)
      · rw [if_pos c1]
        refine ⟨fun z => absurd z (by decide), fun _ => ⟨m, e0, hm, _, _, mt_hasT1 (d := 1308) hW hm hK, ?_⟩⟩
        rintro i5 l6 dd7 x8 ⟨⟩
        rw [if_neg (fun z => c ⟨c1, z⟩)]
        exact ⟨fun z => absurd rfl z, fun _ => tMX11_comes_22 ⟨rfl, rfl, la_x hI⟩⟩
      · rw [if_neg c1]
        exact ⟨fun _ => tMX11_comes_22 ⟨rfl, rfl, la_x hI⟩, fun z => absurd rfl z⟩
    · rintro ⟨i, l, dd, x⟩ hI
      obtain ⟨m, -, -, -, hM⟩ := hA2 _ _ _ _ hI
      refine ab_ent (n := 2) okMX12_comes.1 (fun G => Nat.le_of_ble_eq_true rfl) (fun Q hQ => ?_)
      have ref : ab_Fr MX12_comes 1311 Q 16 [some (.ref 205), none, none, none, none, none] [] (0, 0) (i, l, dd, x) (ab_E0 sc) := by
        refine tMX12_comes_16 (d := 1310) ⟨_, _, th_ref (d := 1309) hI, ?_⟩
        intro i5 l6 dd7 x8 h
        exact hQ _ h
      refine tMX12_comes_0 (d := 1310) ⟨_, _, mt_isT1 (d := 1309) hW hM, ?_⟩
      rintro i5 l6 dd7 x8 ⟨⟩
      by_cases c1 : 0 ≤ a1.toInt ∧ a1.toInt < (aT_ A : Int)
      · rw [if_pos c1]
        refine ⟨fun z => absurd z (by decide), fun _ => ⟨_, _, mt_isT1 (d := 1309) hW hM, ?_⟩⟩
        rintro i5 l6 dd7 x8 ⟨⟩
        rw [if_neg (fun z => c ⟨c1, z⟩)]
        exact ⟨fun z => absurd rfl z, fun _ => ref⟩
      · rw [if_neg c1]
        exact ⟨fun _ => ref, fun z => absurd rfl z⟩
  rcases mt_htI (a := a1) hW with ⟨t, ht, rfl, c1⟩ | c1
  case inr => exact none1 (fun z => c1 z.1)
  rcases mt_htI (a := a2) hW with ⟨u, hu, rfl, c2⟩ | c2
  case inr => exact none1 (fun z => c2 z.2)
  have hp : 0 < aV_ A := by
    rcases Nat.eq_zero_or_pos (aV_ A) with z | z
    · have := hW.2.2.1 z
      omega
    · exact z
  refine th_ok (Int64.ofNat (cs_cm A (aO_ A) t u)) ?_ ?_
  · obtain ⟨m, e0, hm, hK, -⟩ := hA2 _ _ _ _ hI
    refine ab_enterX (n := 2) okMX11_comes.1 (fun G => Nat.le_of_ble_eq_true rfl) (by omega) ?_
    refine tMX11_comes_0 (d := 1309) ⟨m, e0, hm, _, _, mt_hasT1 (d := 1308) hW hm hK, ?_⟩
    rintro i5 l6 dd7 x8 ⟨⟩
    rw [if_pos c1]
    refine ⟨fun z => absurd z (by decide), fun _ => ⟨m, e0, hm, _, _, mt_hasT1 (d := 1308) hW hm hK, ?_⟩⟩
    rintro i5 l6 dd7 x8 ⟨⟩
    rw [if_pos c2]
    refine ⟨fun _ => ⟨m, e0, hm, _, mt_votedT (d := 1306) hW hm hK, ?_⟩, fun z => absurd z (by decide)⟩
    rintro i5 l6 dd7 x8 ⟨i2, ⟨⟩, k2, R2⟩
    refine ⟨_, mt_summed (d := 1306) (lam := aL_ A) (vt := aO_ A) hW hp hm uu_e (gr_cb hW (mt_O9 hW)) (mt_K_kp hW hm hK k2) R2 (fun t _ => gr_v), ?_⟩
    rintro i5 l6 dd7 x8 ⟨i3, l3, ⟨⟩, k3, kl3, z3⟩
    rw [nn_m3, nn_mul, nn_add, nn_cl (by omega), z3 t u (by omega) (by omega)]
    exact ⟨la_vp (by omega) (by omega), rfl, rfl, kp_I hI (kp_it k2 k3) kl3 (kp_160 hm)⟩
  · rintro ⟨i, l, dd, x⟩ hI
    obtain ⟨m, e0, hm, -, hM⟩ := hA2 _ _ _ _ hI
    refine ab_ent (n := 2) okMX12_comes.1 (fun G => Nat.le_of_ble_eq_true rfl) (fun Q hQ => ?_)
    refine tMX12_comes_0 (d := 1310) ⟨_, _, mt_isT1 (d := 1309) hW hM, ?_⟩
    rintro i5 l6 dd7 x8 ⟨⟩
    rw [if_pos c1]
    refine ⟨fun z => absurd z (by decide), fun _ => ⟨_, _, mt_isT1 (d := 1309) hW hM, ?_⟩⟩
    rintro i5 l6 dd7 x8 ⟨⟩
    rw [if_pos c2]
    refine ⟨fun _ => ?_, fun z => absurd z (by decide)⟩
    rintro i1 rfl
    have hI2 := la_thr (v := 0) (x2 := x) hI
    obtain ⟨m, e0, hm, hK, hM2⟩ := hA2 _ _ _ _ hI2
    refine md_co31 (d := 1308) hW hp hM2 (mt_MV hM2) hW.2.2.2.2.2.2.2.2.2.2.1 ht hu ?_ _ 0 _ (Nat.zero_add _).symm fr_r
    intro i3 f3
    refine hQ _ ⟨rfl, kp_I hI2 (kp_fo f3 kp_c67) kp_lr kp_dr, ?_⟩
    show i3 205 0 = 0
    rw [f3 205 (by omega)]
    exact uu_e
end TQT
