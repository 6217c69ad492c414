/-! known, knows -/
section TQX
variable {d : Nat} {sc : Nat × (Nat → Int32)} {i : Nat → Nat → Int32} {l : Nat → Nat → Int64} {dd : Nat → Nat → Value} {x : Nat}
theorem mt_pa_c {A : mA_} {b c : Nat → Nat} {t : Nat} (h : ∀ v, v < aV_ A → b v = c v) : mt_pa A b t = mt_pa A c t := pu_pc _ (fun v hv => by rw [h v hv])
theorem cs_l_c {A : mA_} {w e k : Nat} {b c : Nat → Nat} (h : ∀ v, v < aV_ A → b v = c v) : cs_l A w b e k = cs_l A w c e k := pu_sc (fun t _ => by rw [mt_pa_c h])
theorem cs_kn_c {A : mA_} {b c : Nat → Nat} (h : ∀ v, v < aV_ A → b v = c v) : cs_kn A b = cs_kn A c := mt_li_c _ (fun e _ => by rw [cs_l_c h])
theorem op_known {R : ab_S → Prop} {A : mA_} (hA : op_A R A) : la_c13 1310 sc (la_I R) := by
  rintro ⟨i, l, dd, x⟩ hI
  obtain ⟨hW, hA2⟩ := hA
  obtain ⟨m, e0, hm, hK, hM⟩ := hA2 _ _ _ _ hI
  have w2 := hW.2.1
  obtain ⟨r, hr, hS⟩ := tp_cls (sc := sc) hW hI hm hK hM
  rcases hr with ⟨rfl, b, hb⟩ | ⟨rfl, hb⟩
  · refine ⟨Int32.ofNat (cs_kn A b), tp_mid R i, ?_, ?_⟩
    · refine ab_ent (n := 0) okMX11_known.1 (fun G => Nat.le_of_ble_eq_true rfl) (fun Q hQ => ?_)
      refine tMX11_known_0 (d := 1310) ⟨m, e0, hm, _, _, hS 1307, ?_⟩
      rintro i5 l6 dd7 x8 ⟨⟩
      refine ⟨fun z => absurd z (by decide), fun _ => ⟨m, e0, hm, _, _, mt_knownBy (d := 1307) (n := 740) hW hb.1 hm hK rfl (by omega) hb.2.2, ?_⟩⟩
      rintro i5 l6 dd7 x8 ⟨l2, ⟨⟩, f2⟩
      refine tMX11_known_32 (d := 1310) ⟨_, mt_clear (d := 1309), ?_⟩
      rintro i5 l6 dd7 x8 ⟨⟩
      exact hQ _ ⟨i, _, dd, x, rfl, kp_I hI kp_ir (kp_49 hm f2) kp_dr, rfl, rfl⟩
    · rintro σ1 ⟨i0, l0, d0, x0, rfl, hI0, h5, h4⟩
      obtain ⟨m, e0, hm, hK, hM⟩ := hA2 _ _ _ _ hI0
      obtain ⟨r, hr, hS⟩ := tp_mod (sc := sc) (v0 := 0) (v1 := 0) hW hI0 hm hK hM
      refine ab_ent (n := 0) okMX12_known.1 (fun G => Nat.le_of_ble_eq_true rfl) (fun Q hQ => ?_)
      refine tMX12_known_0 (d := 1310) ?_
      rintro i1 rfl
      refine ⟨_, _, hS 1309 _ _ _, ?_⟩
      rintro i5 l6 dd7 x8 ⟨⟩
      rintro i1 rfl
      have hb0 : tp_sg A i0 b := (tp_sg_c h5 h4).mpr hb
      rcases hr with ⟨c, k, hc, rfl, hk, hg⟩ | ⟨-, h⟩
      · have hJ := la_cut0 (v0 := 0) (l2 := l0) (x2 := x0) hI0 (fun _ _ => rfl)
        obtain ⟨m, e0, hm, hK, hM⟩ := hA2 _ _ _ _ hJ
        have hR := (mt_rows hW).1
        rw [nn_p1, nn_en (by omega)]
        refine ⟨fun _ => ⟨_, _, md_knownAt (d := 1307) hW hb.1 hM hk, ?_⟩, fun z => z.elim⟩
        rintro i5 l6 dd7 x8 ⟨⟩
        rw [cs_kn_c (fun v hv => (hg v hv).trans (tp_sg_u hW hc hb0 v hv))]
        exact hQ _ hJ
      · exact absurd ⟨b, hb0⟩ h
  · refine ⟨-1, tp_mid R i, ?_, ?_⟩
    · refine ab_ent (n := 0) okMX11_known.1 (fun G => Nat.le_of_ble_eq_true rfl) (fun Q hQ => ?_)
      refine tMX11_known_0 (d := 1310) ⟨m, e0, hm, _, _, hS 1307, ?_⟩
      rintro i5 l6 dd7 x8 ⟨⟩
      refine ⟨fun _ => tMX11_known_32 (d := 1310) ⟨_, mt_clear (d := 1309), ?_⟩, fun z => absurd rfl z⟩
      rintro i5 l6 dd7 x8 ⟨⟩
      exact hQ _ ⟨i, l, dd, x, rfl, hI, rfl, rfl⟩
    · rintro σ1 ⟨i0, l0, d0, x0, rfl, hI0, h5, h4⟩
      obtain ⟨m, e0, hm, hK, hM⟩ := hA2 _ _ _ _ hI0
      obtain ⟨r, hr, hS⟩ := tp_mod (sc := sc) (v0 := 0) (v1 := 0) hW hI0 hm hK hM
      refine ab_ent (n := 0) okMX12_known.1 (fun G => Nat.le_of_ble_eq_true rfl) (fun Q hQ => ?_)
      refine tMX12_known_0 (d := 1310) ?_
      rintro i1 rfl
      refine ⟨_, _, hS 1309 _ _ _, ?_⟩
      rintro i5 l6 dd7 x8 ⟨⟩
      rintro i1 rfl
      rcases hr with ⟨c, k, hc, -, -, -⟩ | ⟨rfl, h⟩
      · exact absurd ⟨c, (tp_sg_c h5 h4).mp hc⟩ hb
      · exact ⟨fun z => absurd rfl z, fun _ => hQ _ (la_cut0 hI0 (fun _ _ => rfl))⟩
/-- tables and what they lose, any decision -/
theorem gs_tb {N : Nat → Nat} {V T : Nat} {P : (Nat → Nat) → Nat → Nat} {e : (Nat → Nat) → Nat} {K : Nat → Nat → Nat} (hT : T ≤ 3) (he : ∀ b, pu_t N V b → e b < 3) (hP : ∀ b t, T ≤ t → P b t = 0) : mt_tb (fun t u => pu_n N V (fun b => if e b = u then P b t else 0)) K = pu_n N V (fun b => pu_s (fun t => P b t * K t (e b)) T) := by
  rw [mt_tb_s, pu_ns, pu_s3 hT (fun t ht => pu_sz (fun u _ => by
    rw [pu_nz (fun b _ => by rw [hP b t ht]; split <;> rfl), Nat.zero_mul]))]
  refine pu_sc (fun t _ => ?_)
  rw [pu_sc (g := fun u => pu_n N V (fun b => if u = e b then P b t * K t u else 0)) (fun u _ => by
    rw [← pu_nr]
    refine pu_nc (fun b _ => ?_)
    by_cases c : e b = u
    · rw [if_pos c, if_pos c.symm]
    · rw [if_neg c, if_neg (fun q => c q.symm), Nat.zero_mul]), ← pu_ns]
  refine pu_nc (fun b hb => ?_)
  rw [pu_s1 (f := fun u => P b t * K t u), if_pos (he b hb)]
theorem gs_rt {N : Nat → Nat} {V : Nat} {P : (Nat → Nat) → Nat → Nat} {e : (Nat → Nat) → Nat} (he : ∀ b, pu_t N V b → e b < 3) : pu_n N V (fun b => if e b = 0 then P b 0 else 0) + pu_n N V (fun b => if e b = 1 then P b 1 else 0) + pu_n N V (fun b => if e b = 2 then P b 2 else 0) = pu_n N V (fun b => P b (e b)) := by
  rw [← pu_na, ← pu_na]
  refine pu_nc (fun b hb => ?_)
  have h := he b hb
  generalize e b = u at h
  rcases (show u = 0 ∨ u = 1 ∨ u = 2 by omega) with rfl | rfl | rfl <;> simp
/-- rows of signs -/
theorem se_vc {A : mA_} {v : Nat} : ∀ s, (mt_vc A (fun _ s => s) v s).1 = s ∧ ∀ a, a < s → (mt_vc A (fun _ s => s) v s).2.1 a = a ∧ ∀ t, (mt_vc A (fun _ s => s) v s).2.2 a t = aL_ A v a t := by
  intro s
  induction s with
  | zero => exact ⟨rfl, fun a ha => absurd ha (Nat.not_lt_zero a)⟩
  | succ s ih =>
    obtain ⟨h1, h2⟩ := ih
    obtain ⟨f1, f2, f3, f4⟩ := mt_fi_s (code := (mt_vc A (fun _ s => s) v s).2.1) (vote := s) (mt_vc A (fun _ s => s) v s).1 0
    have ek : mt_fi (mt_vc A (fun _ s => s) v s).2.1 s (mt_vc A (fun _ s => s) v s).1 0 = s := by
      rw [h1] at f2 f3 ⊢
      rcases Nat.lt_or_ge (mt_fi (mt_vc A (fun _ s => s) v s).2.1 s s 0) s with c | c
      · have h3 := f3 (by omega)
        rw [(h2 _ c).1] at h3
        exact h3
      · omega
    show (mt_ad (mt_vc A (fun _ s => s) v s) s (aL_ A v s)).1 = s + 1 ∧ ∀ a, a < s + 1 → (mt_ad (mt_vc A (fun _ s => s) v s) s (aL_ A v s)).2.1 a = a ∧ ∀ t, (mt_ad (mt_vc A (fun _ s => s) v s) s (aL_ A v s)).2.2 a t = aL_ A v a t
    unfold mt_ad
    rw [ek]
    dsimp only
    refine ⟨by rw [h1, if_pos rfl], fun a ha => ?_⟩
    by_cases e : a = s
    · rw [e]
      refine ⟨pu_ue, fun t => ?_⟩
      rw [if_pos rfl, h1, if_pos rfl, Nat.zero_add]
    · refine ⟨by rw [pu_un e]; exact (h2 a (by omega)).1, fun t => ?_⟩
      rw [if_neg e]
      exact (h2 a (by omega)).2 t
theorem se_N {A : mA_} : rw_N (gr_cv A (fun _ s => s)) = aS_ A := by
  funext v
  exact (se_vc (aS_ A v)).1
theorem se_p {A : mA_} {b : Nat → Nat} {t : Nat} (hb : pu_t (aS_ A) (aV_ A) b) : rw_p A (gr_cv A (fun _ s => s)) b (aV_ A) t = mt_pa A b t := pu_pc _ (fun v hv => ((se_vc (aS_ A v)).2 (b v) (hb.1 v hv)).2 t)
theorem se_be {A : mA_} {b : Nat → Nat} (hW : mt_W A) (hb : pu_t (aS_ A) (aV_ A) b) : rw_be A (gr_cv A (fun _ s => s)) b = cs_kn A b := mt_li_c _ (fun e _ => congrArg Int64.ofNat (by
  rw [pu_s3 hW.1 (fun t ht => by
    dsimp only
    rw [se_p hb, mt_pa0 hW ht, Nat.zero_mul])]
  exact pu_sc (fun t _ => by dsimp only; rw [se_p hb])))
theorem se_sum {A : mA_} {t u : Nat} (hW : mt_W A) : rw_sum A (gr_cv A (fun _ s => s)) (rw_be A (gr_cv A (fun _ s => s))) t u = pu_n (aS_ A) (aV_ A) (fun b => if cs_kn A b = u then mt_pa A b t else 0) := by
  unfold rw_sum
  rw [se_N]
  exact pu_nc (fun b hb => by rw [se_be hW hb, se_p hb])
theorem mt_se27 {A : mA_} {m v : Nat} (hW : mt_W A) (hm : ab_isM m) (hd : dd 160 0 = .ref m) (hK : mt_K A m i) (hv : v < aV_ A) {Q : ab_Qt} (hQ : ∀ i2, fr_o 161 164 i i2 → mt_co v i i2 → mt_c1 (mt_vc A (fun _ s => s) v (aS_ A v)) v i2 → ab_Fr MX4_seeing (d + 3) Q 7 [some (.ref 160), none, some (.int (Int32.ofNat (v + 1))), none] [] (0, 0) (i2, l, dd, x) (ab_E0 sc)) :
    ∀ (r s : Nat) (i2 : Nat → Nat → Int32), aS_ A v = s + r → fr_o 161 164 i i2 → mt_co v i i2 → mt_c1 (mt_vc A (fun _ s => s) v s) v i2 → ab_Fr MX4_seeing (d + 3) Q 27 [some (.ref 160), none, some (.int (Int32.ofNat v)), some (.int (Int32.ofNat s))] [] (0, 0) (i2, l, dd, x) (ab_E0 sc) := by
  intro r
  have w2 := hW.2.1
  have hS := hW.2.2.2.2.2.2.1 v hv
  induction r with
  | zero =>
    intro s i2 hs f2 o2 c2
    have e0 : i2 (m + 5 + 6 * v) 0 = Int32.ofNat (aS_ A v) := ((mt_K_o hm hK f2 (by omega) hW).2.2.2.2.1 v hv).1
    have hs2 : s = aS_ A v := by omega
    refine tMX4_seeing_27 (d := d + 2) ⟨m, hd, hm, la_vp (by omega) (by omega), fun _ => ?_, fun c => ?_⟩
    · simp (disch := omega) only [↓nn_m3, nn_p0, nn_p1, nn_p2, nn_p3, nn_p4, nn_p5, nn_p6, nn_p7, nn_p8, nn_p9, nn_p10, nn_p20, nn_p21, nn_le, nn_lt, nn_eq, nn_cl, nn_in, nn_add, nn_mul, nn_en, nn_ne, nn_mn, nn_64]
      rw [hs2] at c2
      exact hQ i2 f2 o2 c2
    · simp (disch := omega) only [e0, ↓nn_m3, nn_p0, nn_p1, nn_p2, nn_p3, nn_p4, nn_p5, nn_p6, nn_p7, nn_p8, nn_p9, nn_p10, nn_p20, nn_p21, nn_le, nn_lt, nn_eq, nn_cl, nn_in, nn_add, nn_mul, nn_en, nn_ne, nn_mn, nn_64] at c
      omega
  | succ r ih =>
    intro s i2 hs f2 o2 c2
    have hK2 := mt_K_o hm hK f2 (by omega) hW
    have e0 : i2 (m + 5 + 6 * v) 0 = Int32.ofNat (aS_ A v) := (hK2.2.2.2.2.1 v hv).1
    have hcb := mt_vc_b (vt := fun _ s => s) (v := v) hW (fun s hs => by omega) s (by omega)
    refine tMX4_seeing_27 (d := d + 2) ⟨m, hd, hm, la_vp (by omega) (by omega), fun c => ?_, fun _ => ?_⟩
    · simp (disch := omega) only [e0, ↓nn_m3, nn_p0, nn_p1, nn_p2, nn_p3, nn_p4, nn_p5, nn_p6, nn_p7, nn_p8, nn_p9, nn_p10, nn_p20, nn_p21, nn_le, nn_lt, nn_eq, nn_cl, nn_in, nn_add, nn_mul, nn_en, nn_ne, nn_mn, nn_64] at c
      omega
    · refine ⟨_, mt_addC (d := d) (vote := s) hW hm hd hK2 hv (by omega) c2 ⟨by have := hcb.1; omega, fun b hb => ⟨(hcb.2 b hb).1, fun t => by have := (hcb.2 b hb).2 t; omega⟩⟩ (by omega), ?_⟩
      rintro i8 l9 dd10 x11 ⟨i3, ⟨⟩, f3, o3, c3⟩
      rw [la_nx]
      exact ih (s + 1) _ (by omega) (fr_t f2 f3) (mt_co_t o2 o3) c3
theorem mt_se7 {A : mA_} {m : Nat} (hW : mt_W A) (hm : ab_isM m) (hd : dd 160 0 = .ref m) {i0 : Nat → Nat → Int32} (hK : mt_K A m i0) {Q : ab_Qt} (hQ : ∀ i2, fr_o 161 164 i0 i2 → rw_R (aV_ A) (gr_cv A (fun _ s => s)) i2 → Q (some none) (i2, l, dd, x) (ab_E0 sc)) :
    ∀ (r v : Nat) (i2 : Nat → Nat → Int32), aV_ A = v + r → fr_o 161 164 i0 i2 → rw_R v (gr_cv A (fun _ s => s)) i2 → ab_Fr MX4_seeing (d + 3) Q 7 [some (.ref 160), none, some (.int (Int32.ofNat v)), none] [] (0, 0) (i2, l, dd, x) (ab_E0 sc) := by
  intro r
  have w2 := hW.2.1
  induction r with
  | zero =>
    intro v i2 hv f2 R2
    have q2 := (mt_K_o hm hK f2 (by omega) hW).1.2
    have hv2 : v = aV_ A := by omega
    refine tMX4_seeing_7 (d := d + 2) ⟨m, hd, hm, fun _ => ?_, fun c => ?_⟩
    · rw [hv2] at R2
      exact hQ i2 f2 R2
    · simp (disch := omega) only [q2, ↓nn_m3, nn_p0, nn_p1, nn_p2, nn_p3, nn_p4, nn_p5, nn_p6, nn_p7, nn_p8, nn_p9, nn_p10, nn_p20, nn_p21, nn_le, nn_lt, nn_eq, nn_cl, nn_in, nn_add, nn_mul, nn_en, nn_ne, nn_mn, nn_64] at c
      omega
  | succ r ih =>
    intro v i2 hv f2 R2
    have hK2 := mt_K_o hm hK f2 (by omega) hW
    have q2 := hK2.1.2
    have hS := hW.2.2.2.2.2.2.1
    refine tMX4_seeing_7 (d := d + 2) ⟨m, hd, hm, fun c => ?_, fun _ => ?_⟩
    · simp (disch := omega) only [q2, ↓nn_m3, nn_p0, nn_p1, nn_p2, nn_p3, nn_p4, nn_p5, nn_p6, nn_p7, nn_p8, nn_p9, nn_p10, nn_p20, nn_p21, nn_le, nn_lt, nn_eq, nn_cl, nn_in, nn_add, nn_mul, nn_en, nn_ne, nn_mn, nn_64] at c
      omega
    · simp (disch := omega) only [↓nn_m3, nn_p0, nn_p1, nn_p2, nn_p3, nn_p4, nn_p5, nn_p6, nn_p7, nn_p8, nn_p9, nn_p10, nn_p20, nn_p21, nn_le, nn_lt, nn_eq, nn_cl, nn_in, nn_add, nn_mul, nn_en, nn_ne, nn_mn, nn_64]
      refine ⟨trivial, ?_⟩
      rintro i4 rfl
      have fr1 : fr_o 161 164 i0 (ab_u i2 161 v (Int32.ofNat 0)) := fr_u f2 (by omega)
      refine mt_se27 hW hm hd (mt_K_o hm hK fr1 (by omega) hW) (by omega) ?_ (aS_ A v) 0 _ (by omega) fr_r mt_co_r ⟨uu_e, fun b hb => absurd hb (Nat.not_lt_zero b)⟩
      intro i3 f3 o3 c3
      refine ih (v + 1) i3 (by omega) (fr_t fr1 f3) (fun u hu => ?_)
      by_cases e : u = v
      · rw [e]
        exact c3
      · have h3 : (mt_vc A (fun _ s => s) u (aS_ A u)).1 ≤ 3 := by rw [(se_vc (aS_ A u)).1]; exact (hS u (by omega)).2
        exact o3 _ u e h3 (mt_co_u (i := i2) mt_co_r (by omega) _ u e h3 (R2 u (by omega)))
theorem mt_seeing {A : mA_} {m : Nat} (hW : mt_W A) (hm : ab_isM m) (hK : mt_K A m i) : ab_Sp MX4_seeing (d + 3) [.ref 160, .ref m] (i, l, dd, x) (ab_E0 sc) none (fun σ => ∃ i2, σ = (i2, l, ab_u dd 160 0 (.ref m), x) ∧ fr_o 161 164 i i2 ∧ rw_R (aV_ A) (gr_cv A (fun _ s => s)) i2) := by
  refine ab_ent (n := 1) okMX4_seeing.1 (fun G => Nat.le_of_ble_eq_true rfl) (fun Q hQ => ?_)
  refine tMX4_seeing_0 (d := d + 2) hm ?_
  rintro dd1 rfl
  refine mt_se7 (i0 := i) hW hm uu_e hK ?_ (aV_ A) 0 i (by omega) fr_r (fun u hu => absurd hu (Nat.not_lt_zero u))
  intro i2 f2 R2
  exact hQ _ ⟨i2, rfl, f2, R2⟩
end TQX
