section TQY
variable {d : Nat} {sc : Nat × (Nat → Int32)} {i : Nat → Nat → Int32} {l : Nat → Nat → Int64} {dd : Nat → Nat → Value} {x : Nat}
theorem cs_kn_lt {A : mA_} {b : Nat → Nat} (hW : mt_W A) (hp : 0 < aV_ A) : cs_kn A b < aT_ A := by
  have w4 := hW.2.2.2.1 hp
  have := mt_li_le (f := fun e => Int64.ofNat (cs_l A 7 b e (aT_ A))) (aT_ A - 1)
  unfold cs_kn
  omega
theorem md_kw31 {A : mA_} {a : Nat} {v : Nat} (hW : mt_W A) (hp : 0 < aV_ A) (hM : mt_M A i l) (ha : a < 2) (hv : v = pu_n (aS_ A) (aV_ A) (fun b => if a = 0 then cs_l A 7 b (cs_kn A b) (aT_ A) else mt_pa A b (cs_kn A b))) {Q : ab_Qt} (hQ : Q (some (some (.long (Int64.ofNat v)))) (i, l, dd, x) (ab_E0 sc)) :
    ∀ (n r : Nat), mt_rad (aS_ A) (aV_ A) = r + n → ab_Fr MX12_knows (d + 4) Q 31 [some (.ref 205), some (.int (Int32.ofNat a)), some (.long (Int64.ofNat (pu_s (fun r => if a = 0 then cs_l A 7 (pu_g (aS_ A) (aV_ A) r) (cs_kn A (pu_g (aS_ A) (aV_ A) r)) (aT_ A) else mt_pa A (pu_g (aS_ A) (aV_ A) r) (cs_kn A (pu_g (aS_ A) (aV_ A) r))) r))), none, some (.int (Int32.ofNat r))] [] (0, 0) (i, l, dd, x) (ab_E0 sc) := by
  intro n
  have hR := (mt_rows hW).1
  have w1 := hW.1
  have r3 := hM.1.2.2 (by omega)
  induction n with
  | zero =>
    intro r hr
    refine tMX12_knows_31 (d := d + 3) ⟨fun _ => ?_, fun c => ?_⟩
    · rw [show r = mt_rad (aS_ A) (aV_ A) by omega, cs_rows (G := fun b => if a = 0 then cs_l A 7 b (cs_kn A b) (aT_ A) else mt_pa A b (cs_kn A b)) hW, ← hv]
      exact hQ
    · simp (disch := omega) only [r3, ↓nn_m3, nn_p0, nn_p1, nn_p2, nn_p3, nn_p4, nn_p5, nn_p6, nn_p7, nn_p8, nn_p9, nn_p10, nn_p20, nn_p21, nn_le, nn_lt, nn_eq, nn_cl, nn_in, nn_add, nn_mul, nn_en, nn_ne, nn_mn, nn_64] at c
      omega
  | succ n ih =>
    intro r hr
    have hlt := cs_kn_lt (b := pu_g (aS_ A) (aV_ A) r) hW hp
    have e12 := hM.2.2.2.2.2.2.2 r _ (by omega) hlt
    have ih2 := ih (r + 1) (by omega)
    have ess : ∀ z, (if a = 0 then cs_l A 7 (pu_g (aS_ A) (aV_ A) r) (cs_kn A (pu_g (aS_ A) (aV_ A) r)) (aT_ A) else mt_pa A (pu_g (aS_ A) (aV_ A) r) (cs_kn A (pu_g (aS_ A) (aV_ A) r))) = z → pu_s (fun r => if a = 0 then cs_l A 7 (pu_g (aS_ A) (aV_ A) r) (cs_kn A (pu_g (aS_ A) (aV_ A) r)) (aT_ A) else mt_pa A (pu_g (aS_ A) (aV_ A) r) (cs_kn A (pu_g (aS_ A) (aV_ A) r))) (r + 1) = pu_s (fun r => if a = 0 then cs_l A 7 (pu_g (aS_ A) (aV_ A) r) (cs_kn A (pu_g (aS_ A) (aV_ A) r)) (aT_ A) else mt_pa A (pu_g (aS_ A) (aV_ A) r) (cs_kn A (pu_g (aS_ A) (aV_ A) r))) r + z := fun z hz => by rw [← hz]; rfl
    refine tMX12_knows_31 (d := d + 3) ⟨fun c => ?_, fun _ => ?_⟩
    · simp (disch := omega) only [r3, ↓nn_m3, nn_p0, nn_p1, nn_p2, nn_p3, nn_p4, nn_p5, nn_p6, nn_p7, nn_p8, nn_p9, nn_p10, nn_p20, nn_p21, nn_le, nn_lt, nn_eq, nn_cl, nn_in, nn_add, nn_mul, nn_en, nn_ne, nn_mn, nn_64] at c
      omega
    · rw [nn_p0, nn_eq (by omega) (by omega)]
      refine ⟨fun g => ⟨_, _, md_knownAt (d := d) hW hp hM (by omega), ?_⟩, fun g => ⟨_, _, md_knownAt (d := d) hW hp hM (by omega), ?_⟩⟩
      · rintro i6 l7 dd8 x9 ⟨⟩
        rw [ess _ (if_neg g)] at ih2
        simp (disch := omega) only [e12, ↓nn_m3, nn_p0, nn_p1, nn_p2, nn_p3, nn_p4, nn_p5, nn_p6, nn_p7, nn_p8, nn_p9, nn_p10, nn_p20, nn_p21, nn_le, nn_lt, nn_eq, nn_cl, nn_in, nn_add, nn_mul, nn_en, nn_ne, nn_mn, nn_64, nl_p0, nl_p1, nl_p20, nl_add, nl_mul]
        exact ⟨trivial, ih2⟩
      · rintro i6 l7 dd8 x9 ⟨⟩
        refine ⟨_, _, md_commonly (d := d + 1) hW hM (by omega) hlt, ?_⟩
        rintro i6 l7 dd8 x9 ⟨⟩
        rw [ess _ (if_pos g)] at ih2
        rw [nl_add, la_nx]
        exact ih2
theorem op_knows {R : ab_S → Prop} {A : mA_} (hA : op_A R A) : la_c14 1310 sc (la_I R) := by
  rintro ⟨i, l, dd, x⟩ a1 hI
  show th_c MX11_knows MX12_knows [.int a1] sc (la_I R) (i, l, dd, x)
  obtain ⟨hW, hA2⟩ := hA
  have w2 := hW.2.1
  have e1 : ((1 : Int32).toInt) = 1 := rfl
  have none1 : (¬ (0 < aV_ A ∧ ¬ a1 < 0 ∧ a1 ≤ 1)) → th_c MX11_knows MX12_knows [.int a1] sc (la_I R) (i, l, dd, x) := by
    intro c
    refine th_no ?_ ?_
    · obtain ⟨m, e0, hm, hK, -⟩ := hA2 _ _ _ _ hI
      have hz := mt_z30 hW hK
      have thr : ∀ Q : ab_Qt, Q none (i, l, dd, x + 1) (ab_E0 sc) → ab_Fr MX11_knows 1310 Q 19 [none, none] [] (0, 0) (i, l, dd, x) (ab_E0 sc) := fun Q h => tMX11_knows_19 h
      refine ab_enterX (n := 1) okMX11_knows.1 (fun G => Nat.le_of_ble_eq_true rfl) (by omega) ?_
      refine tMX11_knows_0 (d := 1309) ⟨m, e0, hm, _, _, mt_empty (d := 1308) hm, ?_⟩
      rintro i5 l6 dd7 x8 ⟨⟩
      refine ⟨fun _ => thr _ ⟨rfl, rfl, la_x hI⟩, fun g => ⟨fun _ => thr _ ⟨rfl, rfl, la_x hI⟩, fun g2 => ⟨fun g3 => absurd ⟨?_, g2, g3⟩ c, fun _ => thr _ ⟨rfl, rfl, la_x hI⟩⟩⟩⟩
      rcases Nat.eq_zero_or_pos (aV_ A) with z | z
      · rw [if_pos (hz.mpr z)] at g
        exact absurd g (by decide)
      · exact z
    · rintro ⟨i, l, dd, x⟩ hI
      obtain ⟨m, -, -, -, hM⟩ := hA2 _ _ _ _ hI
      refine ab_ent (n := 1) okMX12_knows.1 (fun G => Nat.le_of_ble_eq_true rfl) (fun Q hQ => ?_)
      have ref : ab_Fr MX12_knows 1311 Q 16 [some (.ref 205), none, none, none, none] [] (0, 0) (i, l, dd, x) (ab_E0 sc) := by
        refine tMX12_knows_16 (d := 1310) ⟨_, _, th_ref (d := 1309) hI, ?_⟩
        intro i5 l6 dd7 x8 h
        exact hQ _ h
      refine tMX12_knows_0 (d := 1310) ?_
      rw [mt_z31 hW hM]
      refine ⟨fun _ => ref, fun g => ⟨_, _, mn_isIn (d := 1309), ?_⟩⟩
      rintro i5 l6 dd7 x8 ⟨⟩
      rw [if_neg (fun q => c ⟨by omega, q.1, by
        have h2 := q.2
        rw [Int32.lt_iff_toInt_lt] at h2
        rw [Int32.le_iff_toInt_le]
        omega⟩)]
      exact ⟨fun z => absurd rfl z, fun _ => ref⟩
  rcases Classical.em (0 < aV_ A ∧ ¬ a1 < 0 ∧ a1 ≤ 1) with c | c
  case inr => exact none1 c
  obtain ⟨hp, c1, c2⟩ := c
  have hcc : ¬ a1 < 0 ∧ ¬ (1 : Int32) < a1 := ⟨c1, by
    rw [Int32.le_iff_toInt_le] at c2
    rw [Int32.lt_iff_toInt_lt]
    omega⟩
  have c1' := c1
  have c2' := c2
  rw [la_lt0] at c1'
  rw [Int32.le_iff_toInt_le] at c2'
  obtain ⟨a, ha, rfl⟩ := la_rep (a := a1) (m := 2) (by omega) (by omega)
  have hlt : ∀ b, pu_t (aS_ A) (aV_ A) b → cs_kn A b < 3 := fun b _ => by
    have := cs_kn_lt (b := b) hW hp
    have := hW.1
    omega
  refine th_ok (Int64.ofNat (pu_n (aS_ A) (aV_ A) (fun b => if a = 0 then cs_l A 7 b (cs_kn A b) (aT_ A) else mt_pa A b (cs_kn A b)))) ?_ ?_
  · obtain ⟨m, e0, hm, hK, -⟩ := hA2 _ _ _ _ hI
    have eD : ab_u dd 160 0 (.ref m) 3 11 = .ref m := by rw [uu_k (by decide)]; exact e0
    have hz := mt_z30 hW hK
    refine ab_enterX (n := 1) okMX11_knows.1 (fun G => Nat.le_of_ble_eq_true rfl) (by omega) ?_
    refine tMX11_knows_0 (d := 1309) ⟨m, e0, hm, _, _, mt_empty (d := 1308) hm, ?_⟩
    rintro i5 l6 dd7 x8 ⟨⟩
    rw [if_neg (fun z => by rw [hz] at z; omega)]
    refine ⟨fun z => absurd rfl z, fun _ => ⟨fun z => absurd z c1, fun _ => ⟨fun _ => ⟨m, e0, hm, _, mt_seeing (d := 1306) hW hm hK, ?_⟩, fun z => absurd c2 z⟩⟩⟩
    rintro i5 l6 dd7 x8 ⟨i2, ⟨⟩, f2, R2⟩
    have k2 := kp_fo f2 kp_c14
    refine ⟨_, rw_sumBest (d := 1306) (n := 9) hW hp hm uu_e (gr_cb hW (fun v s hv hs => by have := (hW.2.2.2.2.2.2.1 v hv).2; omega)) rfl (by omega) (by omega) (mt_K_kp hW hm hK k2) R2, ?_⟩
    rintro i5 l6 dd7 x8 ⟨i3, l3, ⟨⟩, g3, h3, z3⟩
    have k3 := kp_it k2 (kp_g g3)
    have hJ := kp_I hI k3 (kp_h (a := 204) h3 rfl) (kp_160 hm) (x2 := x)
    have z4 : ∀ t e, t < 3 → e < 3 → l6 204 (3 * t + e) = Int64.ofNat (pu_n (aS_ A) (aV_ A) (fun b => if cs_kn A b = e then mt_pa A b t else 0)) := fun t e ht he => by rw [z3 t e ht he, se_sum hW]
    rw [nn_p0, nn_eq (by omega) (by omega)]
    refine ⟨fun g => ⟨_, _, mt_rightOf (d := 1308) (n := 9) (F := fun t e => pu_n (aS_ A) (aV_ A) (fun b => if cs_kn A b = e then mt_pa A b t else 0)) rfl (by omega) z4, ?_⟩, fun g => ⟨m, eD, hm, _, _, mt_lostBy (d := 1308) (n := 9) (K := aK_ A 7) (F := fun t e => pu_n (aS_ A) (aV_ A) (fun b => if cs_kn A b = e then mt_pa A b t else 0)) (Or.inl ⟨m, hm, rfl⟩) rfl (mt_KLo hW (mt_K_kp hW hm hK k3)) z4 (by omega), ?_⟩⟩
    · rintro i5 l6 dd7 x8 ⟨⟩
      rw [show pu_n (aS_ A) (aV_ A) (fun b => if cs_kn A b = 0 then mt_pa A b 0 else 0) + pu_n (aS_ A) (aV_ A) (fun b => if cs_kn A b = 1 then mt_pa A b 1 else 0) + pu_n (aS_ A) (aV_ A) (fun b => if cs_kn A b = 2 then mt_pa A b 2 else 0) = pu_n (aS_ A) (aV_ A) (fun b => if a = 0 then cs_l A 7 b (cs_kn A b) (aT_ A) else mt_pa A b (cs_kn A b)) from by
        rw [gs_rt (P := fun b t => mt_pa A b t) hlt]
        exact pu_nc (fun b _ => (if_neg g).symm)]
      exact ⟨rfl, rfl, hJ⟩
    · rintro i5 l6 dd7 x8 ⟨⟩
      rw [gs_tb (P := fun b t => mt_pa A b t) (T := aT_ A) hW.1 hlt (fun b t ht => mt_pa0 hW ht), show pu_n (aS_ A) (aV_ A) (fun b => pu_s (fun t => mt_pa A b t * aK_ A 7 t (cs_kn A b)) (aT_ A)) = pu_n (aS_ A) (aV_ A) (fun b => if a = 0 then cs_l A 7 b (cs_kn A b) (aT_ A) else mt_pa A b (cs_kn A b)) from pu_nc (fun b _ => (if_pos g).symm)]
      exact ⟨rfl, rfl, hJ⟩
  · rintro ⟨i, l, dd, x⟩ hI
    obtain ⟨m, e0, hm, -, hM⟩ := hA2 _ _ _ _ hI
    refine ab_ent (n := 1) okMX12_knows.1 (fun G => Nat.le_of_ble_eq_true rfl) (fun Q hQ => ?_)
    refine tMX12_knows_0 (d := 1310) ?_
    rw [mt_z31 hW hM]
    refine ⟨fun z => absurd z (by omega), fun g => ⟨_, _, mn_isIn (d := 1309), ?_⟩⟩
    rintro i5 l6 dd7 x8 ⟨⟩
    rw [if_pos hcc]
    refine ⟨fun _ => ?_, fun z => absurd z (by decide)⟩
    rintro i1 rfl
    have hI2 := la_thr (v := 0) (x2 := x) hI
    obtain ⟨m, e0, hm, hK, hM2⟩ := hA2 _ _ _ _ hI2
    exact md_kw31 (d := 1307) hW hp hM2 ha rfl (hQ _ ⟨rfl, hI2, show ab_u i 205 0 (0 : Int32) 205 0 = 0 from uu_e⟩) _ 0 (Nat.zero_add _).symm
end TQY
