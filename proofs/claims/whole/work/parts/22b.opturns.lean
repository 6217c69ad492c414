/-! the calls turns, think -/
section TQB2
variable {d : Nat} {sc : Nat × (Nat → Int32)} {i : Nat → Nat → Int32} {l : Nat → Nat → Int64} {dd : Nat → Nat → Value} {x : Nat}
theorem md_ts24 {A : mA_} {v s : Nat} (hW : mt_W A) {i0 : Nat → Nat → Int32} (hM : mt_M A i0 l) (hv : v < aV_ A) (hs : s < aS_ A v) {Q : ab_Qt} (hQ : ∀ i2, fr_o 226 227 i0 i2 → Q (some (some (.long (Int64.ofNat (pu_s (fun t => pu_n (aS_ A) (aV_ A) (cs_tu A v s t)) (aT_ A)))))) (i2, l, dd, x) (ab_E0 sc)) :
    ∀ (n t : Nat) (i2 : Nat → Nat → Int32), aT_ A = t + n → fr_o 226 227 i0 i2 → ab_Fr MX12_turns (d + 5) Q 24 [some (.ref 205), some (.int (Int32.ofNat v)), some (.int (Int32.ofNat s)), some (.long (Int64.ofNat (pu_s (fun t => pu_n (aS_ A) (aV_ A) (cs_tu A v s t)) t))), none, some (.int (Int32.ofNat t))] [] (0, 0) (i2, l, dd, x) (ab_E0 sc) := by
  intro n
  have w1 := hW.1
  induction n with
  | zero =>
    intro t i2 ht f2
    have r1 := (mt_M_f hM f2 (by omega) hW).1.1
    refine tMX12_turns_24 (d := d + 4) ⟨fun _ => by rw [show t = aT_ A by omega]; exact hQ i2 f2, fun c => ?_⟩
    simp (disch := omega) only [r1, ↓nn_m3, nn_p0, nn_p1, nn_p2, nn_p3, nn_p4, nn_p5, nn_p6, nn_p7, nn_p8, nn_p9, nn_p10, nn_p20, nn_p21, nn_le, nn_lt, nn_eq, nn_cl, nn_in, nn_add, nn_mul, nn_en, nn_ne, nn_mn, nn_64] at c
    omega
  | succ n ih =>
    intro t i2 ht f2
    have hM2 := mt_M_f hM f2 (by omega) hW
    have r1 := hM2.1.1
    refine tMX12_turns_24 (d := d + 4) ⟨fun c => ?_, fun _ => ⟨_, _, md_turned (d := d) (t := t) hW hM2 hv hs (by omega), ?_⟩⟩
    · simp (disch := omega) only [r1, ↓nn_m3, nn_p0, nn_p1, nn_p2, nn_p3, nn_p4, nn_p5, nn_p6, nn_p7, nn_p8, nn_p9, nn_p10, nn_p20, nn_p21, nn_le, nn_lt, nn_eq, nn_cl, nn_in, nn_add, nn_mul, nn_en, nn_ne, nn_mn, nn_64] at c
      omega
    · rintro i6 l7 dd8 x9 ⟨i3, ⟨⟩, f3⟩
      rw [nl_add, la_nx]
      exact ih (t + 1) _ (by omega) (fr_t f2 f3)
theorem op_turns {R : ab_S → Prop} {A : mA_} (hA : op_A R A) : la_c15 1310 sc (la_I R) := by
  rintro ⟨i, l, dd, x⟩ a1 a2 hI
  show th_c MX11_turns MX12_turns [.int a1, .int a2] sc (la_I R) (i, l, dd, x)
  obtain ⟨hW, hA2⟩ := hA
  have w1 := hW.1
  rcases Classical.em (cs_S A a1 a2) with c | c
  · obtain ⟨v, s, hv, hs, rfl, rfl⟩ := c
    refine th_ok (Int64.ofNat (pu_s (fun t => pu_n (aS_ A) (aV_ A) (cs_tu A v s t)) (aT_ A))) ?_ ?_
    · obtain ⟨m, e0, hm, hK, -⟩ := hA2 _ _ _ _ hI
      refine ab_enterX (n := 2) okMX11_turns.1 (fun G => Nat.le_of_ble_eq_true rfl) (by omega) ?_
      refine tMX11_turns_0 (d := 1309) ⟨m, e0, hm, _, _, mt_hasSy (d := 1307) hW hm hK hv hs, ?_⟩
      rintro i5 l6 dd7 x8 ⟨⟩
      refine ⟨fun _ => ⟨m, e0, hm, _, mt_countTurns (d := 1305) hW hm hK hv hs, ?_⟩, fun z => absurd z (by decide)⟩
      rintro i5 l6 dd7 x8 ⟨i2, l2, ⟨⟩, k2, kl2, z2⟩
      rw [z2 0 (by omega), z2 1 (by omega), z2 2 (by omega), nl_add, nl_add, ← pu_s3 (f := fun t => pu_n (aS_ A) (aV_ A) (cs_tu A v s t)) w1 (fun t ht => pu_nz (fun b _ => by
        unfold cs_tu
        rw [mt_pa0 hW ht, Nat.mul_zero]
        split <;> rfl))]
      refine ⟨rfl, ?_, kp_I hI k2 kl2 (kp_dt (kp_169 hm) (kp_160 hm))⟩
      rw [show pu_s (fun t => pu_n (aS_ A) (aV_ A) (cs_tu A v s t)) 3 = 0 + pu_n (aS_ A) (aV_ A) (cs_tu A v s 0) + pu_n (aS_ A) (aV_ A) (cs_tu A v s 1) + pu_n (aS_ A) (aV_ A) (cs_tu A v s 2) from rfl, Nat.zero_add]
    · rintro ⟨i, l, dd, x⟩ hI
      obtain ⟨m, e0, hm, -, hM⟩ := hA2 _ _ _ _ hI
      refine ab_ent (n := 2) okMX12_turns.1 (fun G => Nat.le_of_ble_eq_true rfl) (fun Q hQ => ?_)
      refine tMX12_turns_0 (d := 1310) ⟨_, _, mt_isSy (d := 1308) hW hM hv hs, ?_⟩
      rintro i5 l6 dd7 x8 ⟨⟩
      refine ⟨fun _ => ?_, fun z => absurd z (by decide)⟩
      rintro i1 rfl
      have hI2 := la_thr (v := 0) (x2 := x) hI
      obtain ⟨m, e0, hm, hK, hM2⟩ := hA2 _ _ _ _ hI2
      refine md_ts24 (d := 1306) hW hM2 hv hs ?_ (aT_ A) 0 _ (by omega) fr_r
      intro i3 f3
      refine hQ _ ⟨rfl, kp_I hI2 (kp_fo f3 kp_c67) kp_lr kp_dr, ?_⟩
      show i3 205 0 = 0
      rw [f3 205 (by omega)]
      exact uu_e
  · refine th_no ?_ ?_
    · obtain ⟨m, e0, hm, hK, -⟩ := hA2 _ _ _ _ hI
      refine ab_enterX (n := 2) okMX11_turns.1 (fun G => Nat.le_of_ble_eq_true rfl) (by omega) ?_
      refine tMX11_turns_0 (d := 1309) ⟨m, e0, hm, _, _, mt_hasSn (d := 1307) hW hm hK c, ?_⟩
      rintro i5 l6 dd7 x8 ⟨⟩
      exact ⟨fun z => absurd rfl z, fun _ => ⟨rfl, rfl, la_x hI⟩⟩
    · rintro ⟨i, l, dd, x⟩ hI
      obtain ⟨m, e0, hm, -, hM⟩ := hA2 _ _ _ _ hI
      refine ab_ent (n := 2) okMX12_turns.1 (fun G => Nat.le_of_ble_eq_true rfl) (fun Q hQ => ?_)
      refine tMX12_turns_0 (d := 1310) ⟨_, _, mt_isSn (d := 1308) hW hM c, ?_⟩
      rintro i5 l6 dd7 x8 ⟨⟩
      refine ⟨fun z => absurd rfl z, fun _ => ⟨_, _, th_ref (d := 1309) hI, ?_⟩⟩
      intro i5 l6 dd7 x8 h
      exact hQ _ h
theorem op_think {R : ab_S → Prop} {A : mA_} (hA : op_A R A) : la_c16 1310 sc (la_I R) := by
  rintro ⟨i, l, dd, x⟩ a1 a2 a3 hI
  show th_c MX11_think MX12_think [.int a1, .int a2, .int a3] sc (la_I R) (i, l, dd, x)
  obtain ⟨hW, hA2⟩ := hA
  have w1 := hW.1
  have none1 : (¬ (cs_S A a1 a2 ∧ (0 ≤ a3.toInt ∧ a3.toInt < (aT_ A : Int)))) → th_c MX11_think MX12_think [.int a1, .int a2, .int a3] sc (la_I R) (i, l, dd, x) := by
    intro c
    refine th_no ?_ ?_
    · obtain ⟨m, e0, hm, hK, -⟩ := hA2 _ _ _ _ hI
      refine ab_enterX (n := 3) okMX11_think.1 (fun G => Nat.le_of_ble_eq_true rfl) (by omega) ?_
      rcases Classical.em (cs_S A a1 a2) with c1 | c1
      · obtain ⟨v, s, hv, hs, rfl, rfl⟩ := c1
        refine tMX11_think_0 (d := 1309) ⟨m, e0, hm, _, _, mt_hasSy (d := 1307) hW hm hK hv hs, ?_⟩
        rintro i5 l6 dd7 x8 ⟨⟩
        refine ⟨fun z => absurd z (by decide), fun _ => ⟨m, e0, hm, _, _, mt_hasT1 (d := 1308) hW hm hK, ?_⟩⟩
        rintro i5 l6 dd7 x8 ⟨⟩
        rw [if_neg (fun z => c ⟨⟨v, s, hv, hs, rfl, rfl⟩, z⟩)]
        exact ⟨fun z => absurd rfl z, fun _ => tMX11_think_23 ⟨rfl, rfl, la_x hI⟩⟩
      · refine tMX11_think_0 (d := 1309) ⟨m, e0, hm, _, _, mt_hasSn (d := 1307) hW hm hK c1, ?_⟩
        rintro i5 l6 dd7 x8 ⟨⟩
        exact ⟨fun _ => tMX11_think_23 ⟨rfl, rfl, la_x hI⟩, fun z => absurd rfl z⟩
    · rintro ⟨i, l, dd, x⟩ hI
      obtain ⟨m, -, -, -, hM⟩ := hA2 _ _ _ _ hI
      refine ab_ent (n := 3) okMX12_think.1 (fun G => Nat.le_of_ble_eq_true rfl) (fun Q hQ => ?_)
      have ref : ab_Fr MX12_think 1311 Q 17 [some (.ref 205), none, none, none] [] (0, 0) (i, l, dd, x) (ab_E0 sc) := by
        refine tMX12_think_17 (d := 1310) ⟨_, _, th_ref (d := 1309) hI, ?_⟩
        intro i5 l6 dd7 x8 h
        exact hQ _ h
      rcases Classical.em (cs_S A a1 a2) with c1 | c1
      · obtain ⟨v, s, hv, hs, rfl, rfl⟩ := c1
        refine tMX12_think_0 (d := 1310) ⟨_, _, mt_isSy (d := 1308) hW hM hv hs, ?_⟩
        rintro i5 l6 dd7 x8 ⟨⟩
        refine ⟨fun z => absurd z (by decide), fun _ => ⟨_, _, mt_isT1 (d := 1309) hW hM, ?_⟩⟩
        rintro i5 l6 dd7 x8 ⟨⟩
        rw [if_neg (fun z => c ⟨⟨v, s, hv, hs, rfl, rfl⟩, z⟩)]
        exact ⟨fun z => absurd rfl z, fun _ => ref⟩
      · refine tMX12_think_0 (d := 1310) ⟨_, _, mt_isSn (d := 1308) hW hM c1, ?_⟩
        rintro i5 l6 dd7 x8 ⟨⟩
        exact ⟨fun _ => ref, fun z => absurd rfl z⟩
  rcases Classical.em (cs_S A a1 a2) with c1 | c1
  case inr => exact none1 (fun z => c1 z.1)
  rcases mt_htI (a := a3) hW with ⟨t, ht, rfl, c2⟩ | c2
  case inr => exact none1 (fun z => c2 z.2)
  obtain ⟨v, s, hv, hs, rfl, rfl⟩ := c1
  refine th_ok (Int64.ofNat (pu_n (aS_ A) (aV_ A) (cs_tu A v s t))) ?_ ?_
  · obtain ⟨m, e0, hm, hK, -⟩ := hA2 _ _ _ _ hI
    refine ab_enterX (n := 3) okMX11_think.1 (fun G => Nat.le_of_ble_eq_true rfl) (by omega) ?_
    refine tMX11_think_0 (d := 1309) ⟨m, e0, hm, _, _, mt_hasSy (d := 1307) hW hm hK hv hs, ?_⟩
    rintro i5 l6 dd7 x8 ⟨⟩
    refine ⟨fun z => absurd z (by decide), fun _ => ⟨m, e0, hm, _, _, mt_hasT1 (d := 1308) hW hm hK, ?_⟩⟩
    rintro i5 l6 dd7 x8 ⟨⟩
    rw [if_pos c2]
    refine ⟨fun _ => ⟨m, e0, hm, _, mt_countTurns (d := 1305) hW hm hK hv hs, ?_⟩, fun z => absurd z (by decide)⟩
    rintro i5 l6 dd7 x8 ⟨i2, l2, ⟨⟩, k2, kl2, z2⟩
    rw [nn_cl (by omega), z2 t (by omega)]
    exact ⟨la_vp (by omega) (by omega), rfl, rfl, kp_I hI k2 kl2 (kp_dt (kp_169 hm) (kp_160 hm))⟩
  · rintro ⟨i, l, dd, x⟩ hI
    obtain ⟨m, e0, hm, -, hM⟩ := hA2 _ _ _ _ hI
    refine ab_ent (n := 3) okMX12_think.1 (fun G => Nat.le_of_ble_eq_true rfl) (fun Q hQ => ?_)
    refine tMX12_think_0 (d := 1310) ⟨_, _, mt_isSy (d := 1308) hW hM hv hs, ?_⟩
    rintro i5 l6 dd7 x8 ⟨⟩
    refine ⟨fun z => absurd z (by decide), fun _ => ⟨_, _, mt_isT1 (d := 1309) hW hM, ?_⟩⟩
    rintro i5 l6 dd7 x8 ⟨⟩
    rw [if_pos c2]
    refine ⟨fun _ => ?_, fun z => absurd z (by decide)⟩
    rintro i1 rfl
    have hI2 := la_thr (v := 0) (x2 := x) hI
    obtain ⟨m, e0, hm, hK, hM2⟩ := hA2 _ _ _ _ hI2
    refine ⟨_, _, md_turned (d := 1306) hW hM2 hv hs ht, ?_⟩
    rintro i5 l6 dd7 x8 ⟨i3, ⟨⟩, f3⟩
    refine hQ _ ⟨rfl, kp_I hI2 (kp_fo f3 kp_c67) kp_lr kp_dr, ?_⟩
    show i5 205 0 = 0
    rw [f3 205 (by omega)]
    exact uu_e
end TQB2
