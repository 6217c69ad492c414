section TQU
variable {d : Nat} {sc : Nat × (Nat → Int32)} {i : Nat → Nat → Int32} {l : Nat → Nat → Int64} {dd : Nat → Nat → Value} {x : Nat}
theorem pu_pz {c : Nat} {f : Nat → Nat} {v : Nat} (h : f v = 0) : ∀ k, v < k → pu_p c f k = 0 := by
  intro k
  induction k with
  | zero => intro hv; exact absurd hv (Nat.not_lt_zero v)
  | succ k ih =>
    intro hv
    show pu_p c f k * f k = 0
    by_cases e : v = k
    · rw [← e, h, Nat.mul_zero]
    · rw [ih (by omega), Nat.zero_mul]
/-- likelihoods with one voter's sign pinned -/
def cs_lp (A : mA_) (v s : Nat) : Nat → Nat → Nat → Nat := fun w u t => if w = v ∧ u ≠ s then 0 else aL_ A w u t
theorem cs_lpf {A : mA_} {v s t : Nat} : gr_f (fun v s => aL_ A v s t) v (fun u => if u = s then aL_ A v u t else 0) = fun w u => cs_lp A v s w u t := by
  funext w u
  unfold gr_f cs_lp
  by_cases e : w = v
  · rw [if_pos e]
    by_cases e2 : u = s
    · rw [if_pos e2, if_neg (fun q => q.2 e2), e]
    · rw [if_neg e2, if_pos ⟨e, e2⟩]
  · rw [if_neg e, if_neg (fun q => e q.1)]
/-- the cases with a sign of a voter -/
theorem cs_pin {A : mA_} {v s t u : Nat} {vt v2 : Nat → Nat → Nat} (hW : mt_W A) (hv : v < aV_ A) (h2 : ∀ w, w < aV_ A → w ≠ v → v2 w = vt w) (h3 : v2 v s = vt v s) : cs_w A v2 (cs_lp A v s) t u = pu_n (aS_ A) (aV_ A) (fun b => if b v = s then cs_e A vt t u b else 0) := by
  unfold cs_w cs_e cs_d
  refine pu_nc (fun b _ => ?_)
  by_cases e : b v = s
  · rw [if_pos e, mt_db_c (b := fun w => v2 w (b w)) (c := fun w => vt w (b w)) hW (fun w hw => by
      by_cases e2 : w = v
      · rw [e2, e]
        exact h3
      · rw [h2 w hw e2])]
    have e4 : pu_p (aC_ A t) (fun w => cs_lp A v s w (b w) t) (aV_ A) = mt_pa A b t := pu_pc _ (fun w hw => if_neg (fun q => q.2 (by rw [q.1]; exact e)))
    rw [e4]
  · rw [if_neg e, pu_pz (v := v) (f := fun w => cs_lp A v s w (b w) t) (if_pos ⟨rfl, e⟩) _ hv]
    split <;> rfl
/-- all parts of a row -/
def cs_al (A : mA_) (b : Nat → Nat) (k : Nat) : Nat := pu_s (fun t => mt_pa A b t) k
theorem md_al5 {A : mA_} {r : Nat} (hW : mt_W A) (hM : mt_M A i l) (hr : r < mt_rad (aS_ A) (aV_ A)) {Q : ab_Qt} (hQ : Q (some (some (.long (Int64.ofNat (cs_al A (pu_g (aS_ A) (aV_ A) r) (aT_ A)))))) (i, l, dd, x) (ab_E0 sc)) : ∀ n t : Nat, aT_ A = t + n → ab_Fr MX12_allOf (d + 1) Q 5 [some (.ref 205), some (.int (Int32.ofNat r)), some (.long (Int64.ofNat (cs_al A (pu_g (aS_ A) (aV_ A) r) t))), none, some (.int (Int32.ofNat t))] [] (0, 0) (i, l, dd, x) (ab_E0 sc) := by
  intro n
  have hR := (mt_rows hW).1
  have w1 := hW.1
  have r1 := hM.1.1
  induction n with
  | zero =>
    intro t ht
    refine tMX12_allOf_5 ⟨fun _ => by rw [show t = aT_ A by omega]; exact hQ, fun c => ?_⟩
    simp (disch := omega) only [r1, ↓nn_m3, nn_p0, nn_p1, nn_p2, nn_p3, nn_p4, nn_p5, nn_p6, nn_p7, nn_p8, nn_p9, nn_p10, nn_p20, nn_p21, nn_le, nn_lt, nn_eq, nn_cl, nn_in, nn_add, nn_mul, nn_en, nn_ne, nn_mn, nn_64] at c
    omega
  | succ n ih =>
    intro t ht
    have e12 := hM.2.2.2.2.2.2.2 r t hr (by omega)
    refine tMX12_allOf_5 ⟨fun c => ?_, fun _ => ?_⟩
    · simp (disch := omega) only [r1, ↓nn_m3, nn_p0, nn_p1, nn_p2, nn_p3, nn_p4, nn_p5, nn_p6, nn_p7, nn_p8, nn_p9, nn_p10, nn_p20, nn_p21, nn_le, nn_lt, nn_eq, nn_cl, nn_in, nn_add, nn_mul, nn_en, nn_ne, nn_mn, nn_64] at c
      omega
    · simp (disch := omega) only [e12, ↓nn_m3, nn_p0, nn_p1, nn_p2, nn_p3, nn_p4, nn_p5, nn_p6, nn_p7, nn_p8, nn_p9, nn_p10, nn_p20, nn_p21, nn_le, nn_lt, nn_eq, nn_cl, nn_in, nn_add, nn_mul, nn_en, nn_ne, nn_mn, nn_64, nl_p0, nl_p1, nl_p20, nl_add, nl_mul]
      exact ⟨trivial, ih (t + 1) (by omega)⟩
theorem md_all {A : mA_} {r : Nat} (hW : mt_W A) (hM : mt_M A i l) (hr : r < mt_rad (aS_ A) (aV_ A)) : ab_Sp MX12_allOf (d + 1) [.ref 205, .int (Int32.ofNat r)] (i, l, dd, x) (ab_E0 sc) (some (.long (Int64.ofNat (cs_al A (pu_g (aS_ A) (aV_ A) r) (aT_ A))))) (fun σ => σ = (i, l, dd, x)) := by
  refine ab_ent (n := 1) okMX12_allOf.1 (fun G => Nat.le_of_ble_eq_true rfl) (fun Q hQ => ?_)
  exact tMX12_allOf_0 (md_al5 hW hM hr (hQ _ rfl) (aT_ A) 0 (by omega))
def cs_sh (A : mA_) (u v s : Nat) (b : Nat → Nat) : Nat := if b v = s then (if cs_d A (aO_ A) b = u then cs_al A b (aT_ A) else 0) else 0
theorem cs_she {A : mA_} {u v s : Nat} (hW : mt_W A) : pu_n (aS_ A) (aV_ A) (fun b => if b v = s then cs_e A (aO_ A) 0 u b else 0) + pu_n (aS_ A) (aV_ A) (fun b => if b v = s then cs_e A (aO_ A) 1 u b else 0) + pu_n (aS_ A) (aV_ A) (fun b => if b v = s then cs_e A (aO_ A) 2 u b else 0) = pu_n (aS_ A) (aV_ A) (cs_sh A u v s) := by
  rw [← pu_na, ← pu_na]
  refine pu_nc (fun b _ => ?_)
  unfold cs_sh cs_e cs_al
  rw [← pu_s3 (f := fun t => mt_pa A b t) hW.1 (fun t ht => mt_pa0 hW ht)]
  by_cases e : b v = s
  · rw [if_pos e, if_pos e, if_pos e, if_pos e]
    by_cases e2 : cs_d A (aO_ A) b = u
    · rw [if_pos e2, if_pos e2, if_pos e2, if_pos e2]
      show _ = 0 + mt_pa A b 0 + mt_pa A b 1 + mt_pa A b 2
      omega
    · rw [if_neg e2, if_neg e2, if_neg e2, if_neg e2]
  · rw [if_neg e, if_neg e, if_neg e, if_neg e]
theorem md_sh33 {A : mA_} {u v s : Nat} (hW : mt_W A) (hp : 0 < aV_ A) {i0 : Nat → Nat → Int32} (hM : mt_M A i0 l) (hv : v < aV_ A) (hs : s < aS_ A v) (hu : u < aT_ A) {Q : ab_Qt} (hQ : ∀ i2, fr_o 226 227 i0 i2 → Q (some (some (.long (Int64.ofNat (pu_n (aS_ A) (aV_ A) (cs_sh A u v s)))))) (i2, l, dd, x) (ab_E0 sc)) :
    ∀ (n r : Nat) (i2 : Nat → Nat → Int32), mt_rad (aS_ A) (aV_ A) = r + n → fr_o 226 227 i0 i2 → ab_Fr MX12_shut (d + 3) Q 33 [some (.ref 205), some (.int (Int32.ofNat u)), some (.int (Int32.ofNat v)), some (.int (Int32.ofNat s)), some (.long (Int64.ofNat (pu_s (fun r => cs_sh A u v s (pu_g (aS_ A) (aV_ A) r)) r))), none, some (.int (Int32.ofNat r))] [] (0, 0) (i2, l, dd, x) (ab_E0 sc) := by
  intro n
  have hR := (mt_rows hW).1
  have w1 := hW.1
  have hS := hW.2.2.2.2.2.2.1 v hv
  induction n with
  | zero =>
    intro r i2 hr f2
    have r3 := (mt_M_f hM f2 (by omega) hW).1.2.2
    refine tMX12_shut_33 (d := d + 2) ⟨fun _ => ?_, fun c => ?_⟩
    · rw [show r = mt_rad (aS_ A) (aV_ A) by omega, cs_rows (G := cs_sh A u v s) hW]
      exact hQ i2 f2
    · simp (disch := omega) only [r3, ↓nn_m3, nn_p0, nn_p1, nn_p2, nn_p3, nn_p4, nn_p5, nn_p6, nn_p7, nn_p8, nn_p9, nn_p10, nn_p20, nn_p21, nn_le, nn_lt, nn_eq, nn_cl, nn_in, nn_add, nn_mul, nn_en, nn_ne, nn_mn, nn_64] at c
      omega
  | succ n ih =>
    intro r i2 hr f2
    have hM2 := mt_M_f hM f2 (by omega) hW
    have r3 := hM2.1.2.2 (by omega)
    have hdl : cs_d A (aO_ A) (pu_g (aS_ A) (aV_ A) r) < aT_ A := cs_db_lt (p := fun v => aO_ A v (pu_g (aS_ A) (aV_ A) r v)) hW hp
    have hgl := (pu_gt (S := aS_ A) (k := aV_ A) (r := r) (fun v hv => by have := (hW.2.2.2.2.2.2.1 v hv).1; omega)).1 v hv
    have ess : pu_s (fun r => cs_sh A u v s (pu_g (aS_ A) (aV_ A) r)) (r + 1) = pu_s (fun r => cs_sh A u v s (pu_g (aS_ A) (aV_ A) r)) r + cs_sh A u v s (pu_g (aS_ A) (aV_ A) r) := rfl
    refine tMX12_shut_33 (d := d + 2) ⟨fun c => ?_, fun _ => ⟨_, _, mt_sg (d := d + 1) hW hM2 hv (by omega), ?_⟩⟩
    · simp (disch := omega) only [r3, ↓nn_m3, nn_p0, nn_p1, nn_p2, nn_p3, nn_p4, nn_p5, nn_p6, nn_p7, nn_p8, nn_p9, nn_p10, nn_p20, nn_p21, nn_le, nn_lt, nn_eq, nn_cl, nn_in, nn_add, nn_mul, nn_en, nn_ne, nn_mn, nn_64] at c
      omega
    · rintro i6 l7 dd8 x9 ⟨⟩
      rw [la_nx, nn_eq (by omega) (by omega)]
      refine ⟨fun c => ?_, fun c => ⟨_, _, mt_decideRow (d := d) (o := 0) hW hp hM2 (by omega) (mt_MV hM2) hW.2.2.2.2.2.2.2.2.2.2.1 (by omega), ?_⟩⟩
      · have ih2 := ih (r + 1) _ (by omega) f2
        rw [ess, show cs_sh A u v s (pu_g (aS_ A) (aV_ A) r) = 0 from if_neg c] at ih2
        exact ih2
      · rintro i6 l7 dd8 x9 ⟨i3, ⟨⟩, f3, -⟩
        have ih2 := ih (r + 1) _ (by omega) (fr_t f2 f3)
        rw [nn_eq (by unfold cs_d at hdl; omega) (by omega)]
        have ec : cs_sh A u v s (pu_g (aS_ A) (aV_ A) r) = if cs_d A (aO_ A) (pu_g (aS_ A) (aV_ A) r) = u then cs_al A (pu_g (aS_ A) (aV_ A) r) (aT_ A) else 0 := if_pos c
        refine ⟨fun c2 => ?_, fun c2 => ⟨_, _, md_all (d := d + 1) hW (mt_M_f hM2 f3 (by omega) hW) (by omega), ?_⟩⟩
        · rw [ess, show cs_sh A u v s (pu_g (aS_ A) (aV_ A) r) = 0 from ec.trans (if_neg c2)] at ih2
          exact ih2
        · rintro i6 l7 dd8 x9 ⟨⟩
          rw [ess, show cs_sh A u v s (pu_g (aS_ A) (aV_ A) r) = cs_al A (pu_g (aS_ A) (aV_ A) r) (aT_ A) from ec.trans (if_pos c2)] at ih2
          rw [nl_add]
          exact ih2
theorem op_shut {R : ab_S → Prop} {A : mA_} (hA : op_A R A) : la_c34 1310 sc (la_I R) := by
  rintro ⟨i, l, dd, x⟩ a1 a2 a3 hI
  show th_c MX11_shut MX12_shut [.int a1, .int a2, .int a3] sc (la_I R) (i, l, dd, x)
  obtain ⟨hW, hA2⟩ := hA
  have w1 := hW.1
  have w2 := hW.2.1
  have none1 : (¬ ((0 ≤ a1.toInt ∧ a1.toInt < (aT_ A : Int)) ∧ cs_S A a2 a3)) → th_c MX11_shut MX12_shut [.int a1, .int a2, .int a3] sc (la_I R) (i, l, dd, x) := by
    intro c
    refine th_no ?_ ?_
    · obtain ⟨m, e0, hm, hK, -⟩ := hA2 _ _ _ _ hI
      refine ab_enterX (n := 3) okMX11_shut.1 (fun G => Nat.le_of_ble_eq_true rfl) (by omega) ?_
      refine tMX11_shut_0 (d := 1309) ⟨m, e0, hm, _, _, mt_hasT1 (d := 1308) hW hm hK, ?_⟩
      rintro i5 l6 dd7 x8 ⟨⟩
      by_cases c1 : 0 ≤ a1.toInt ∧ a1.toInt < (aT_ A : Int)
      · rw [if_pos c1]
        refine ⟨fun z => absurd z (by decide), fun _ => ⟨m, e0, hm, _, _, mt_hasSn (d := 1307) hW hm hK (fun z => c ⟨c1, z⟩), ?_⟩⟩
        rintro i5 l6 dd7 x8 ⟨⟩
        exact ⟨fun z => absurd rfl z, fun _ => tMX11_shut_23 ⟨rfl, rfl, la_x hI⟩⟩
      · rw [if_neg c1]
        exact ⟨fun _ => tMX11_shut_23 ⟨rfl, rfl, la_x hI⟩, fun z => absurd rfl z⟩
    · rintro ⟨i, l, dd, x⟩ hI
      obtain ⟨m, -, -, -, hM⟩ := hA2 _ _ _ _ hI
      refine ab_ent (n := 3) okMX12_shut.1 (fun G => Nat.le_of_ble_eq_true rfl) (fun Q hQ => ?_)
      have ref : ab_Fr MX12_shut 1311 Q 17 [some (.ref 205), none, none, none, none, none, none] [] (0, 0) (i, l, dd, x) (ab_E0 sc) := by
        refine tMX12_shut_17 (d := 1310) ⟨_, _, th_ref (d := 1309) hI, ?_⟩
        intro i5 l6 dd7 x8 h
        exact hQ _ h
      refine tMX12_shut_0 (d := 1310) ⟨_, _, mt_isT1 (d := 1309) hW hM, ?_⟩
      rintro i5 l6 dd7 x8 ⟨⟩
      by_cases c1 : 0 ≤ a1.toInt ∧ a1.toInt < (aT_ A : Int)
      · rw [if_pos c1]
        refine ⟨fun z => absurd z (by decide), fun _ => ⟨_, _, mt_isSn (d := 1308) hW hM (fun z => c ⟨c1, z⟩), ?_⟩⟩
        rintro i5 l6 dd7 x8 ⟨⟩
        exact ⟨fun z => absurd rfl z, fun _ => ref⟩
      · rw [if_neg c1]
        exact ⟨fun _ => ref, fun z => absurd rfl z⟩
  rcases mt_htI (a := a1) hW with ⟨u, hu, rfl, c1⟩ | c1
  case inr => exact none1 (fun z => c1 z.1)
  rcases Classical.em (cs_S A a2 a3) with c2 | c2
  case inr => exact none1 (fun z => c2 z.2)
  obtain ⟨v, s, hv, hs, rfl, rfl⟩ := c2
  have hp : 0 < aV_ A := by omega
  have hS := hW.2.2.2.2.2.2.1 v hv
  refine th_ok (Int64.ofNat (pu_n (aS_ A) (aV_ A) (cs_sh A u v s))) ?_ ?_
  · obtain ⟨m, e0, hm, hK, -⟩ := hA2 _ _ _ _ hI
    have eD : ab_u dd 160 0 (.ref m) 3 11 = .ref m := by rw [uu_k (by decide)]; exact e0
    refine ab_enterX (n := 3) okMX11_shut.1 (fun G => Nat.le_of_ble_eq_true rfl) (by omega) ?_
    refine tMX11_shut_0 (d := 1309) ⟨m, e0, hm, _, _, mt_hasT1 (d := 1308) hW hm hK, ?_⟩
    rintro i5 l6 dd7 x8 ⟨⟩
    rw [if_pos c1]
    refine ⟨fun z => absurd z (by decide), fun _ => ⟨m, e0, hm, _, _, mt_hasSy (d := 1307) hW hm hK hv hs, ?_⟩⟩
    rintro i5 l6 dd7 x8 ⟨⟩
    refine ⟨fun _ => ⟨m, e0, hm, _, mt_votedT (d := 1306) hW hm hK, ?_⟩, fun z => absurd z (by decide)⟩
    rintro i5 l6 dd7 x8 ⟨i2, ⟨⟩, k2, R2⟩
    have hK2 := mt_K_kp hW hm hK k2
    have c2 := gr_cb hW (mt_O9 hW)
    refine ⟨m, eD, hm, ?_⟩
    rw [nn_m3, nn_mul, nn_add, nn_cl (by omega), mt_KV hK2 v s hv hs]
    refine ⟨la_vp (by omega) (by omega), _, mt_pin (d := 1306) hW hm uu_e hK2 hv hs (mt_O9 hW v s hv hs) R2 (fun u hu => (c2 u hu).1.2), ?_⟩
    rintro i5 l6 dd7 x8 ⟨i3, ⟨⟩, f3, R3⟩
    have k3 := kp_it k2 (kp_fo f3 kp_c14)
    refine ⟨_, mt_summed (d := 1306) (lam := cs_lp A v s) (vt := gr_f (aO_ A) v (fun _ => aO_ A v s)) (cv := gr_u (gr_cv A (aO_ A)) v (mt_ad mt_c0 (aO_ A v s) (aL_ A v s))) hW hp hm uu_e (gr_cbu c2 (gr_c1 hW (mt_O9 hW v s hv hs))) (mt_K_kp hW hm hK k3) R3 (fun t _ => by rw [← cs_lpf]; exact gr_pin hs gr_v), ?_⟩
    rintro i5 l6 dd7 x8 ⟨i4, l4, ⟨⟩, k4, kl4, z4⟩
    have e1 := z4 0 u (by omega) (by omega)
    have e2 := z4 1 u (by omega) (by omega)
    have e3 := z4 2 u (by omega) (by omega)
    have hpin : ∀ t, cs_w A (gr_f (aO_ A) v (fun _ => aO_ A v s)) (cs_lp A v s) t u = pu_n (aS_ A) (aV_ A) (fun b => if b v = s then cs_e A (aO_ A) t u b else 0) := fun t => cs_pin hW hv (fun w _ hw => if_neg hw) (by unfold gr_f; rw [if_pos rfl])
    rw [hpin, Nat.mul_zero, Nat.zero_add] at e1
    rw [hpin] at e2 e3
    rw [nn_p3, nn_p6, nn_add, nn_add, nn_cl (by omega), nn_cl (by omega), nn_cl (by omega), e1, e2, e3, nl_add, nl_add, cs_she hW]
    exact ⟨la_vp (by omega) (by omega), la_vp (by omega) (by omega), la_vp (by omega) (by omega), rfl, rfl, kp_I hI (kp_it k3 k4) kl4 (kp_160 hm)⟩
  · rintro ⟨i, l, dd, x⟩ hI
    obtain ⟨m, e0, hm, -, hM⟩ := hA2 _ _ _ _ hI
    refine ab_ent (n := 3) okMX12_shut.1 (fun G => Nat.le_of_ble_eq_true rfl) (fun Q hQ => ?_)
    refine tMX12_shut_0 (d := 1310) ⟨_, _, mt_isT1 (d := 1309) hW hM, ?_⟩
    rintro i5 l6 dd7 x8 ⟨⟩
    rw [if_pos c1]
    refine ⟨fun z => absurd z (by decide), fun _ => ⟨_, _, mt_isSy (d := 1308) hW hM hv hs, ?_⟩⟩
    rintro i5 l6 dd7 x8 ⟨⟩
    refine ⟨fun _ => ?_, fun z => absurd z (by decide)⟩
    rintro i1 rfl
    have hI2 := la_thr (v := 0) (x2 := x) hI
    obtain ⟨m, e0, hm, hK, hM2⟩ := hA2 _ _ _ _ hI2
    refine md_sh33 (d := 1308) hW hp hM2 hv hs hu ?_ _ 0 _ (Nat.zero_add _).symm fr_r
    intro i3 f3
    refine hQ _ ⟨rfl, kp_I hI2 (kp_fo f3 kp_c67) kp_lr kp_dr, ?_⟩
    show i3 205 0 = 0
    rw [f3 205 (by omega)]
    exact uu_e
end TQU
