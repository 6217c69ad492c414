section TQM2
variable {d : Nat} {sc : Nat × (Nat → Int32)} {i : Nat → Nat → Int32} {l : Nat → Nat → Int64} {dd : Nat → Nat → Value} {x : Nat}
theorem tp_mid_o {R : ab_S → Prop} : ∀ (σ : ab_S) (w : Int64), tp_mid R i σ → tp_mid R i (la_o σ w) := by
  rintro σ w ⟨i0, l0, d0, x0, rfl, h1, h2, h3⟩
  exact ⟨i0, ab_u l0 249 0 w, d0, x0, rfl, la_out h1, h2, h3⟩
theorem tp_vt_c {A : mA_} {i2 : Nat → Nat → Int32} (h5 : i2 5 = i 5) (h4 : i2 4 1 = i 4 1) : tp_vt A i2 ↔ tp_vt A i := by
  unfold tp_vt tp_p
  rw [h5, h4]
theorem op_minutes {R : ab_S → Prop} {A : mA_} (hA : op_A R A) : la_c33 1310 sc (la_I R) := by
  rintro ⟨i, l, dd, x⟩ a1 a2 hI
  show th_c MX11_minutes MX12_minutes [.int a1, .int a2] sc (la_I R) (i, l, dd, x)
  obtain ⟨hW, hA2⟩ := hA
  have w1 := hW.1
  have w2 := hW.2.1
  have none1 : (¬ (cs_S A a1 a2 ∧ tp_vt A i)) → th_c MX11_minutes MX12_minutes [.int a1, .int a2] sc (la_I R) (i, l, dd, x) := by
    intro c
    refine ⟨none, 0, fun σ => la_I R σ ∧ σ.1 5 = i 5 ∧ σ.1 4 1 = i 4 1, fun σ => la_I R σ ∧ σ.1 205 0 = 1, ?_, fun σ w h => ⟨la_out h.1, h.2⟩, ?_, ?_, fun _ h => by cases h⟩
    · obtain ⟨m, e0, hm, hK, -⟩ := hA2 _ _ _ _ hI
      refine ab_enterX (n := 2) okMX11_minutes.1 (fun G => Nat.le_of_ble_eq_true rfl) (by omega) ?_
      rcases Classical.em (cs_S A a1 a2) with c1 | c1
      · obtain ⟨v, s, hv, hs, rfl, rfl⟩ := c1
        refine tMX11_minutes_0 (d := 1309) ⟨m, e0, hm, _, _, mt_hasSy (d := 1307) hW hm hK hv hs, ?_⟩
        rintro i5 l6 dd7 x8 ⟨⟩
        obtain ⟨r, hr, hV⟩ := tv_cls (sc := sc) hW hI hm hK
        refine ⟨fun z => absurd z (by decide), fun _ => ⟨m, e0, hm, _, _, hV 1306, ?_⟩⟩
        rintro i5 l6 dd7 x8 ⟨⟩
        rcases hr with ⟨-, h⟩ | ⟨rfl, -⟩
        · exact absurd ⟨⟨v, s, hv, hs, rfl, rfl⟩, h⟩ c
        · exact ⟨fun z => absurd rfl z, fun _ => tMX11_minutes_26 ⟨rfl, rfl, la_x hI, rfl, rfl⟩⟩
      · refine tMX11_minutes_0 (d := 1309) ⟨m, e0, hm, _, _, mt_hasSn (d := 1307) hW hm hK c1, ?_⟩
        rintro i5 l6 dd7 x8 ⟨⟩
        exact ⟨fun _ => tMX11_minutes_26 ⟨rfl, rfl, la_x hI, rfl, rfl⟩, fun z => absurd rfl z⟩
    · rintro ⟨i2, l2, d2, x2⟩ ⟨hI2, h5, h4⟩
      dsimp only at h5 h4
      obtain ⟨m, -, -, -, hM⟩ := hA2 _ _ _ _ hI2
      refine ab_ent (n := 2) okMX12_minutes.1 (fun G => Nat.le_of_ble_eq_true rfl) (fun Q hQ => ?_)
      have ref : ab_Fr MX12_minutes 1311 Q 16 [some (.ref 205), none, none, none, none, none] [] (0, 0) (i2, l2, d2, x2) (ab_E0 sc) := by
        refine tMX12_minutes_16 (d := 1310) ⟨_, _, th_ref (d := 1309) hI2, ?_⟩
        intro i5 l6 dd7 x8 h
        exact hQ _ h
      rcases Classical.em (cs_S A a1 a2) with c1 | c1
      · obtain ⟨v, s, hv, hs, rfl, rfl⟩ := c1
        refine tMX12_minutes_0 (d := 1310) ⟨_, _, mt_isSy (d := 1308) hW hM hv hs, ?_⟩
        rintro i5 l6 dd7 x8 ⟨⟩
        obtain ⟨r, hr, hV⟩ := tv_mod (sc := sc) (j := i2) (l2 := l2) hW hI2 hM rfl rfl
        refine ⟨fun z => absurd z (by decide), fun _ => ⟨_, _, hV 1309 _ _, ?_⟩⟩
        rintro i5 l6 dd7 x8 ⟨⟩
        rcases hr with ⟨-, h⟩ | ⟨rfl, -⟩
        · exact absurd ⟨⟨v, s, hv, hs, rfl, rfl⟩, (tp_vt_c h5 h4).mp h⟩ c
        · exact ⟨fun z => absurd rfl z, fun _ => ref⟩
      · refine tMX12_minutes_0 (d := 1310) ⟨_, _, mt_isSn (d := 1308) hW hM c1, ?_⟩
        rintro i5 l6 dd7 x8 ⟨⟩
        exact ⟨fun _ => ref, fun z => absurd rfl z⟩
    · rintro ⟨i3, l3, dd3, x3⟩ ⟨h, e⟩
      refine ⟨h, ?_⟩
      rw [if_pos rfl, ← e]
      exact mn_thrown (d := 1310)
  rcases Classical.em (cs_S A a1 a2 ∧ tp_vt A i) with ⟨c1, c2⟩ | c
  case inr => exact none1 c
  obtain ⟨v, s, hv, hs, rfl, rfl⟩ := c1
  have hp : 0 < aV_ A := by omega
  have hS := hW.2.2.2.2.2.2.1 v hv
  have hb : ∀ v, v < aV_ A → i 5 v = Int32.ofNat (tp_p i v) ∧ tp_p i v ≤ 9 := fun v hv => ⟨(tp_pe hI (by omega)).1, by have := c2.2.2 v hv; omega⟩
  refine th_tk (Int64.ofNat (pu_n (aS_ A) (aV_ A) (cs_mi A (tp_p i) v s))) (tp_mid R i) tp_mid_o ?_ ?_
  · obtain ⟨m, e0, hm, hK, -⟩ := hA2 _ _ _ _ hI
    have eD : ab_u dd 160 0 (.ref m) 3 11 = .ref m := by rw [uu_k (by decide)]; exact e0
    refine ab_enterX (n := 2) okMX11_minutes.1 (fun G => Nat.le_of_ble_eq_true rfl) (by omega) ?_
    refine tMX11_minutes_0 (d := 1309) ⟨m, e0, hm, _, _, mt_hasSy (d := 1307) hW hm hK hv hs, ?_⟩
    rintro i5 l6 dd7 x8 ⟨⟩
    obtain ⟨r, hr, hV⟩ := tv_cls (sc := sc) hW hI hm hK
    refine ⟨fun z => absurd z (by decide), fun _ => ⟨m, e0, hm, _, _, hV 1306, ?_⟩⟩
    rintro i5 l6 dd7 x8 ⟨⟩
    rcases hr with ⟨rfl, -⟩ | ⟨-, h⟩
    case inr => exact absurd c2 h
    refine ⟨fun _ => ⟨m, e0, hm, ?_⟩, fun z => absurd z (by decide)⟩
    obtain ⟨e5, e9⟩ := hb v hv
    have h9 := mt_O9 hW v s hv hs
    rw [nn_m3, nn_mul, nn_add, nn_cl (by omega), nn_cl (by omega), mt_KV hK v s hv hs, e5, nn_eq (by omega) (by omega)]
    refine ⟨la_vp (by omega) (by omega), la_vp (by omega) (by omega), fun c3 => ?_, fun c3 => ⟨_, mt_votedAs (d := 1306) (p := tp_p i) hW hm hK hb, ?_⟩⟩
    · refine tMX11_minutes_109 (d := 1309) ⟨_, mt_clear (d := 1308), ?_⟩
      rintro i5 l6 dd7 x8 ⟨⟩
      have ez : pu_n (aS_ A) (aV_ A) (cs_mi A (tp_p i) v s) = 0 := pu_nz (fun b _ => by
        unfold cs_mi
        by_cases e : b v = s
        · rw [if_pos e, show va_m A (aO_ A) (tp_p i) b = 0 from if_neg (fun q => c3 (by rw [← e]; exact q v hv)), Nat.zero_mul]
        · rw [if_neg e])
      rw [ez]
      exact ⟨rfl, rfl, i, l, dd, x, rfl, hI, rfl, rfl⟩
    · rintro i5 l6 dd7 x8 ⟨i2, ⟨⟩, f2, R2⟩
      have k2 := kp_fo f2 kp_c14
      have hcb := va_cb (A := A) (vt := aO_ A) (p := tp_p i) hW (fun v hv => (hb v hv).2)
      refine ⟨_, mt_pin (d := 1306) (vote := 9) hW hm uu_e (mt_K_kp hW hm hK k2) hv hs (Nat.le_refl 9) R2 (fun u hu => (hcb u hu).1.2), ?_⟩
      rintro i5 l6 dd7 x8 ⟨i3, ⟨⟩, f3, R3⟩
      have k3 := kp_it k2 (kp_fo f3 kp_c14)
      refine ⟨_, mt_summed (d := 1306) (lam := mi_l A (tp_p i) v s) (vt := gr_f (fun v _ => tp_p i v) v (fun _ => 9)) (cv := mi_cv A (tp_p i) v s) hW hp hm uu_e (gr_cbu hcb (gr_c1 hW (Nat.le_refl 9))) (mt_K_kp hW hm hK k3) R3 (fun t _ => mi_gr hs), ?_⟩
      rintro i5 l6 dd7 x8 ⟨i4, l4, ⟨⟩, k4, kl4, z4⟩
      refine ⟨_, _, mt_sumOf (d := 1308) (n := 9) (F := fun t e => cs_w A (gr_f (fun v _ => tp_p i v) v (fun _ => 9)) (mi_l A (tp_p i) v s) t e) rfl (by omega) z4, ?_⟩
      rintro i5 l6 dd7 x8 ⟨⟩
      rw [mi_sum hW hp hv c3]
      have k5 := kp_it k3 k4
      refine tMX11_minutes_109 (d := 1309) ⟨_, mt_clear (d := 1308), ?_⟩
      rintro i6 l7 dd8 x9 ⟨⟩
      exact ⟨rfl, rfl, _, _, _, _, rfl, kp_I hI k5 kl4 (kp_160 hm) (x2 := x), k5.2.1, k5.2.2.2.1⟩
  · rintro σ1 ⟨i0, l0, d0, x0, rfl, hI0, h5, h4⟩
    obtain ⟨m, e0, hm, hK, hM⟩ := hA2 _ _ _ _ hI0
    have hM1 : mt_M A (ab_u i0 4 1 0) l0 := mt_M_fr hM (fun j _ _ => uu_k (by omega)) (fun k _ _ => uu_f (by omega)) (fun j _ => uu_k (by omega)) rfl hW
    refine ab_ent (n := 2) okMX12_minutes.1 (fun G => Nat.le_of_ble_eq_true rfl) (fun Q hQ => ?_)
    refine tMX12_minutes_0 (d := 1310) ⟨_, _, mt_isSy (d := 1308) hW hM1 hv hs, ?_⟩
    rintro i5 l6 dd7 x8 ⟨⟩
    obtain ⟨r, hr, hV⟩ := tv_mod (sc := sc) (j := ab_u i0 4 1 0) (l2 := l0) hW hI0 hM1 (uu_k (by decide)) (uu_f (by decide))
    refine ⟨fun z => absurd z (by decide), fun _ => ⟨_, _, hV 1309 _ _, ?_⟩⟩
    rintro i5 l6 dd7 x8 ⟨⟩
    rcases hr with ⟨rfl, -⟩ | ⟨-, h⟩
    case inr => exact absurd ((tp_vt_c h5 h4).mpr c2) h
    refine ⟨fun _ => ?_, fun z => absurd z (by decide)⟩
    rintro i1 rfl
    rintro i2 rfl
    have hJ := la_cut0 (v0 := 0) (l2 := l0) (x2 := x0) hI0 (fun _ _ => rfl)
    obtain ⟨m, -, -, -, hM⟩ := hA2 _ _ _ _ hJ
    have hpe : ∀ v, v < aV_ A → (ab_u (ab_u (ab_u i0 4 1 0) 205 0 0) 205 2 0) 206 v = Int32.ofNat (tp_p i v) ∧ tp_p i v ≤ 255 := fun v hv => by
      have h1 := tp_pe hI0 (v := v) (by omega)
      have e : tp_p i0 v = tp_p i v := by
        unfold tp_p
        rw [h5]
      rw [e] at h1
      rw [uu_k (by omega), uu_k (by omega), uu_k (by omega)]
      exact ⟨h1.2.2, h1.2.1⟩
    refine md_mi36 (d := 1308) hW hM hpe hv hs (hQ _ ⟨rfl, hJ, ?_⟩) _ 0 (Nat.zero_add _).symm
    show ab_u (ab_u (ab_u i0 4 1 0) 205 0 0) 205 2 0 205 0 = 0
    rw [uu_j (by decide)]
    exact uu_e
end TQM2
