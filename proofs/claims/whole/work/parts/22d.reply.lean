section TQD2
variable {d : Nat} {sc : Nat × (Nat → Int32)} {i : Nat → Nat → Int32} {l : Nat → Nat → Int64} {dd : Nat → Nat → Value} {x : Nat}
theorem ho_b9 {A : mA_} {v : Nat} {vt : Nat → Nat → Nat} {b : Nat → Nat} (hv : v < aV_ A) : rw_b (ho_cv A vt v) b v = 9 := by
  unfold rw_b
  rw [show ho_cv A vt v v = (1, fun _ => 9, fun _ _ => 1) from if_pos rfl]
theorem ho_cb {A : mA_} {v : Nat} {vt : Nat → Nat → Nat} (hW : mt_W A) (h9 : ∀ v s, v < aV_ A → s < aS_ A v → vt v s ≤ 9) : rw_cb A (ho_cv A vt v) :=
  gr_cbu (gr_cb hW h9) ⟨⟨by decide, by decide⟩, fun _ _ => ⟨show 9 ≤ 9 from Nat.le_refl 9, fun _ => show 1 ≤ 60 by decide⟩⟩
/-- the first rows' losing -/
def ho_pt (A : mA_) (vt : Nat → Nat → Nat) (v z t k : Nat) : Nat := pu_s (fun j => ho_g A vt v z t (pu_d (rw_N (ho_cv A vt v)) (aV_ A) j)) k
def ho_h (l l2 : Nat → Nat → Int64) : Prop := ∀ k, k ≠ 165 → k ≠ 170 → l2 k = l k
theorem ho_54 {A : mA_} {m v k : Nat} {vt : Nat → Nat → Nat} (hW : mt_W A) (hp : 0 < aV_ A) (h9 : ∀ v s, v < aV_ A → s < aS_ A v → vt v s ≤ 9) (hm : ab_isM m) (hd : dd 160 0 = .ref m) (hd2 : dd 169 1 = .ref m) (hv : v < aV_ A) {i0 : Nat → Nat → Int32} {l0 : Nat → Nat → Int64} {F : Nat → Nat → Nat} (hK : mt_K A m i0) (hR : rw_R (aV_ A) (ho_cv A vt v) i0) (hs : rw_s A (ho_cv A vt v) (pu_d (rw_N (ho_cv A vt v)) (aV_ A) k) i0 l0) {c0 : Int32} {Q : ab_Qt} (hQ : ∀ i2 l2, rw_g i0 i2 → ho_h l0 l2 → (k + 1 < mt_rad (rw_N (ho_cv A vt v)) (aV_ A) → rw_s A (ho_cv A vt v) (pu_d (rw_N (ho_cv A vt v)) (aV_ A) (k + 1)) i2 l2) → (∀ z t, z < 4 → t < 3 → l2 170 (3 * z + t) = Int64.ofNat (F z t + (if z ≤ aT_ A then ho_g A vt v z t (pu_d (rw_N (ho_cv A vt v)) (aV_ A) k) else 0))) → ab_Fr MX3_hearOthers (d + 4) Q 44 [some (.ref 169), none, none, some (.int (Int32.ofNat v)), some (.int c0), some (.int (Int32.ofNat (k + 1))), none] [] (0, 0) (i2, l2, dd, x) (ab_E0 sc)) :
    ∀ (n y : Nat) (i2 : Nat → Nat → Int32) (l2 : Nat → Nat → Int64), aT_ A + 1 = y + n → rw_g i0 i2 → ho_h l0 l2 → rw_s A (ho_cv A vt v) (pu_d (rw_N (ho_cv A vt v)) (aV_ A) k) i2 l2 → (∀ z t, z < 4 → t < 3 → l2 170 (3 * z + t) = Int64.ofNat (F z t + (if z < y then ho_g A vt v z t (pu_d (rw_N (ho_cv A vt v)) (aV_ A) k) else 0))) → ab_Fr MX3_hearOthers (d + 4) Q 54 [some (.ref 169), none, none, some (.int (Int32.ofNat v)), some (.int c0), some (.int (Int32.ofNat k)), some (.int (Int32.ofNat y))] [] (0, 0) (i2, l2, dd, x) (ab_E0 sc) := by
  intro n
  have w1 := hW.1
  have hc := ho_cb (v := v) hW h9
  have hb := rw_dlt (A := A) hc (k := k)
  induction n with
  | zero =>
    intro y i2 l2 hy g2 h2 s2 z2
    have hK2 := mt_K_o hm hK (rw_g_o g2) (by omega) hW
    have e1 := hK2.1.1
    refine tMX3_hearOthers_54 (d := d + 3) ⟨m, hd2, hm, fun _ => ⟨_, rw_step (d := d + 1) hW hp hm hd hK2 (rw_R_g hR g2) hc s2 hb, ?_⟩, fun c => ?_⟩
    · rintro i24 l25 dd26 x27 ⟨i5, l5, ⟨⟩, f5, g5, s5⟩
      rw [la_nx]
      refine hQ _ _ (rw_g_t g2 (rw_g_f f5)) (fun q a b => (g5 q (by omega)).trans (h2 q a b)) (fun hr => ?_) (fun z t hz ht => ?_)
      · rw [← pu_ds (N := rw_N (ho_cv A vt v)) (i := k) (fun v hv => (hc v hv).1.1) hr]
        exact s5
      · rw [g5 170 (by omega), z2 z t hz ht]
        congr 2
        by_cases c : z < y
        · rw [if_pos c, if_pos (by omega)]
        · rw [if_neg c, if_neg (by omega)]
    · simp (disch := omega) only [e1, ↓nn_m3, nn_p0, nn_p1, nn_p2, nn_p3, nn_p4, nn_p5, nn_p6, nn_p7, nn_p8, nn_p9, nn_p10, nn_p20, nn_p21, nn_le, nn_lt, nn_eq, nn_cl, nn_in, nn_add, nn_mul, nn_en, nn_ne, nn_mn, nn_64] at c
      omega
  | succ n ih =>
    intro y i2 l2 hy g2 h2 s2 z2
    have hK2 := mt_K_o hm hK (rw_g_o g2) (by omega) hW
    have e1 := hK2.1.1
    refine tMX3_hearOthers_54 (d := d + 3) ⟨m, hd2, hm, fun c => ?_, fun _ => ⟨_, mt_addLosing (d := d) (y := y) hW hp hm hd hd2 hK2 s2 (rw_b9_c hc hb) (ho_b9 hv) hv (by omega) z2, ?_⟩⟩
    · simp (disch := omega) only [e1, ↓nn_m3, nn_p0, nn_p1, nn_p2, nn_p3, nn_p4, nn_p5, nn_p6, nn_p7, nn_p8, nn_p9, nn_p10, nn_p20, nn_p21, nn_le, nn_lt, nn_eq, nn_cl, nn_in, nn_add, nn_mul, nn_en, nn_ne, nn_mn, nn_64] at c
      omega
    · rintro i24 l25 dd26 x27 ⟨i5, l5, ⟨⟩, f5, g5, z5⟩
      rw [la_nx]
      refine ih (y + 1) _ _ (by omega) (rw_g_t g2 (rw_g_8 f5)) (fun q a b => (g5 q (by omega)).trans (h2 q a b)) (rw_s_l (rw_s_8 s2 f5) (g5 165 (by omega))) (fun z t hz ht => ?_)
      rw [z5 z t hz ht]
      by_cases c : z = y
      · rw [if_pos c, if_neg (by omega), if_pos (by omega), Nat.add_zero]
        rw [c]
      · rw [if_neg c, Nat.add_zero]
        by_cases c2 : z < y
        · rw [if_pos c2, if_pos (by omega)]
        · rw [if_neg c2, if_neg (by omega)]
theorem ho_44 {A : mA_} {m v : Nat} {vt : Nat → Nat → Nat} (hW : mt_W A) (hp : 0 < aV_ A) (h9 : ∀ v s, v < aV_ A → s < aS_ A v → vt v s ≤ 9) (hm : ab_isM m) (hd : dd 160 0 = .ref m) (hd2 : dd 169 1 = .ref m) (hv : v < aV_ A) {i0 : Nat → Nat → Int32} {l0 : Nat → Nat → Int64} (hK : mt_K A m i0) (hR : rw_R (aV_ A) (ho_cv A vt v) i0) {Q : ab_Qt} (hQ : ∀ i2 l2, rw_g i0 i2 → ho_h l0 l2 → (∀ z t, z ≤ aT_ A → t < 3 → l2 170 (3 * z + t) = Int64.ofNat (pu_n (rw_N (ho_cv A vt v)) (aV_ A) (ho_g A vt v z t))) → Q (some none) (i2, l2, dd, x) (ab_E0 sc)) :
    ∀ (n k : Nat) (i2 : Nat → Nat → Int32) (l2 : Nat → Nat → Int64), mt_rad (rw_N (ho_cv A vt v)) (aV_ A) = k + n → rw_g i0 i2 → ho_h l0 l2 → (0 < n → rw_s A (ho_cv A vt v) (pu_d (rw_N (ho_cv A vt v)) (aV_ A) k) i2 l2) → (∀ z t, z < 4 → t < 3 → l2 170 (3 * z + t) = Int64.ofNat (if z ≤ aT_ A then ho_pt A vt v z t k else 0)) → ab_Fr MX3_hearOthers (d + 4) Q 44 [some (.ref 169), none, none, some (.int (Int32.ofNat v)), some (.int (Int32.ofNat (mt_rad (rw_N (ho_cv A vt v)) (aV_ A)))), some (.int (Int32.ofNat k)), none] [] (0, 0) (i2, l2, dd, x) (ab_E0 sc) := by
  intro n
  have w1 := hW.1
  have hc := ho_cb (v := v) hW h9
  have hcnt := (rw_cnt hW hc (aV_ A) (Nat.le_refl _)).2
  induction n with
  | zero =>
    intro k i2 l2 hk g2 h2 s2 z2
    refine tMX3_hearOthers_44 (d := d + 3) ⟨fun _ => hQ i2 l2 g2 h2 (fun z t hz ht => ?_), fun c => ?_⟩
    · rw [z2 z t (by omega) ht, if_pos hz, show k = mt_rad (rw_N (ho_cv A vt v)) (aV_ A) by omega]
      exact congrArg Int64.ofNat (pu_dn (G := ho_g A vt v z t) (fun w hw => (hc w hw).1.1))
    · simp (disch := omega) only [↓nn_m3, nn_p0, nn_p1, nn_p2, nn_p3, nn_p4, nn_p5, nn_p6, nn_p7, nn_p8, nn_p9, nn_p10, nn_p20, nn_p21, nn_le, nn_lt, nn_eq, nn_cl, nn_in, nn_add, nn_mul, nn_en, nn_ne, nn_mn, nn_64] at c
      omega
  | succ n ih =>
    intro k i2 l2 hk g2 h2 s2 z2
    have s2 := s2 (by omega)
    refine tMX3_hearOthers_44 (d := d + 3) ⟨fun c => ?_, fun _ => ?_⟩
    · simp (disch := omega) only [↓nn_m3, nn_p0, nn_p1, nn_p2, nn_p3, nn_p4, nn_p5, nn_p6, nn_p7, nn_p8, nn_p9, nn_p10, nn_p20, nn_p21, nn_le, nn_lt, nn_eq, nn_cl, nn_in, nn_add, nn_mul, nn_en, nn_ne, nn_mn, nn_64] at c
      omega
    · refine ho_54 (d := d) (k := k) (i0 := i2) (l0 := l2) (F := fun z t => if z ≤ aT_ A then ho_pt A vt v z t k else 0) hW hp h9 hm hd hd2 hv (mt_K_o hm hK (rw_g_o g2) (by omega) hW) (rw_R_g hR g2) s2 ?_ (aT_ A + 1) 0 i2 l2 (by omega) rw_g_r (fun _ _ _ => rfl) s2 (fun z t hz ht => by rw [if_neg (Nat.not_lt_zero z), Nat.add_zero]; exact z2 z t hz ht)
      intro i3 l3 g3 h3 s3 z3
      refine ih (k + 1) _ _ (by omega) (rw_g_t g2 g3) (fun q a b => (h3 q a b).trans (h2 q a b)) (fun hr => s3 (by omega)) (fun z t hz ht => ?_)
      rw [z3 z t hz ht]
      by_cases c : z ≤ aT_ A
      · rw [if_pos c, if_pos c, if_pos c]
        rfl
      · rw [if_neg c, if_neg c, if_neg c]
/-- what the class hears -/
theorem mt_hear {A : mA_} {m a n v : Nat} {vt : Nat → Nat → Nat} (hW : mt_W A) (hm : ab_isM m) (hK : mt_K A m i) (hk : (ab_E0 sc).1 a = .inr (0, n)) (hn : 21 ≤ n ∧ n < 2 ^ 31) (ha : a < 161 ∨ 164 < a) (hV : mt_Vc A i a vt) (h9 : ∀ v s, v < aV_ A → s < aS_ A v → vt v s ≤ 9) (hv : v < aV_ A) : ab_Sp MX3_hearOthers (d + 4) [.ref 169, .ref m, .ref a, .int (Int32.ofNat v)] (i, l, dd, x) (ab_E0 sc) none (fun σ => ∃ i2 l2, σ = (i2, l2, ab_u (ab_u dd 169 1 (.ref m)) 160 0 (.ref m), x) ∧ fr_o 161 168 i i2 ∧ ho_h l l2 ∧ ∀ z t, z ≤ aT_ A → t < 3 → l2 170 (3 * z + t) = Int64.ofNat (pu_n (rw_N (ho_cv A vt v)) (aV_ A) (ho_g A vt v z t))) := by
  have hp : 0 < aV_ A := by omega
  have w1 := hW.1
  refine ab_ent (n := 3) okMX3_hearOthers.1 (fun G => Nat.le_of_ble_eq_true rfl) (fun Q hQ => ?_)
  refine tMX3_hearOthers_0 (d := d + 3) hm hk ?_
  rintro dd1 rfl
  refine ⟨_, mt_emptyL (d := d + 2) (a := 170) (n := 12) rfl (by omega), ?_⟩
  rintro i5 l6 dd7 x8 ⟨l2, ⟨⟩, f2, z2⟩
  refine ⟨m, uu_e, hm, _, mt_voting (d := d) hW hm hK hk hn ha hV h9, ?_⟩
  rintro i5 l7 dd7 x8 ⟨i2, ⟨⟩, k2, R2⟩
  have c2 := gr_cb hW h9
  refine ⟨_, mt_leaveOut (d := d + 1) (cv := gr_cv A vt) hW hv R2 (fun u hu => (c2 u hu).1.2), ?_⟩
  rintro i5 l7 dd7 x8 ⟨i3, ⟨⟩, f3, R3⟩
  have k3 := fr_t k2 f3
  refine ⟨_, _, rw_first (d := d + 1) (cv := ho_cv A vt v) hW hm uu_e (mt_K_o hm hK k3 (by omega) hW) R3 (ho_cb hW h9), ?_⟩
  rintro i5 l8 dd7 x8 ⟨i4, l4, ⟨⟩, f4, g4, s4⟩
  have k4 : fr_o 161 168 i i5 := fr_t (fr_w k3 (by omega)) (fr_w (rw_f_w f4) (by omega))
  refine ho_44 (d := d) (i0 := i5) (l0 := l8) hW hp h9 hm uu_e (by rw [uu_k (by decide)]; exact uu_e) hv (mt_K_o hm hK k4 (by omega) hW) (rw_R_r R3 f4) ?_ _ 0 _ _ (Nat.zero_add _).symm rw_g_r (fun _ _ _ => rfl) (fun _ => by rw [pu_d0]; exact s4) (fun z t hz ht => by rw [g4 170 (by omega), z2 _ (by omega)]; split <;> rfl)
  intro i6 l9 g6 h6 z6
  exact hQ _ ⟨_, _, rfl, fr_t k4 (fr_w (rw_g_o g6) (by omega)), fun q a b => (h6 q a b).trans ((g4 q (by omega)).trans (f2 q (by omega))), z6⟩
theorem mt_rl20 {A : mA_} {m v s y : Nat} {P : Nat → Nat} (hW : mt_W A) (hm : ab_isM m) (hK : mt_K A m i) (hv : v < aV_ A) (hs : s < aS_ A v) (hy : y < 4) (hP : ∀ t, t < 3 → l 170 (3 * y + t) = Int64.ofNat (P t)) {Q : ab_Qt} (hQ : Q (some (some (.long (Int64.ofNat (pu_s (fun t => P t * aL_ A v s t) 3))))) (i, l, dd, x) (ab_E0 sc)) :
    ∀ n t : Nat, 3 = t + n → ab_Fr MX3_lostBy (d + 1) Q 20 [some (.ref 169), none, some (.int (Int32.ofNat s)), some (.int (Int32.ofNat y)), some (.ref (m + 5 + 6 * v + 1)), some (.long (Int64.ofNat (pu_s (fun t => P t * aL_ A v s t) t))), none, some (.int (Int32.ofNat t))] [] (0, 0) (i, l, dd, x) (ab_E0 sc) := by
  intro n
  have w2 := hW.2.1
  have hS := hW.2.2.2.2.2.2.1 v hv
  have hkd := (kd_vc (sc := sc) hm (show v < 7 by omega)).2
  induction n with
  | zero =>
    intro t ht
    refine tMX3_lostBy_20 hkd ⟨fun _ => by rw [show t = 3 by omega]; exact hQ, fun c => ?_⟩
    simp (disch := omega) only [↓nn_m3, nn_p0, nn_p1, nn_p2, nn_p3, nn_p4, nn_p5, nn_p6, nn_p7, nn_p8, nn_p9, nn_p10, nn_p20, nn_p21, nn_le, nn_lt, nn_eq, nn_cl, nn_in, nn_add, nn_mul, nn_en, nn_ne, nn_mn, nn_64] at c
    omega
  | succ n ih =>
    intro t ht
    have e1 := hP t (by omega)
    have e2 := hK.2.2.2.2.2.1 v s t hv hs (by omega)
    have hL := (hW.2.2.2.2.2.2.2.1 v s t).1
    refine tMX3_lostBy_20 hkd ⟨fun c => ?_, fun _ => ?_⟩
    · simp (disch := omega) only [↓nn_m3, nn_p0, nn_p1, nn_p2, nn_p3, nn_p4, nn_p5, nn_p6, nn_p7, nn_p8, nn_p9, nn_p10, nn_p20, nn_p21, nn_le, nn_lt, nn_eq, nn_cl, nn_in, nn_add, nn_mul, nn_en, nn_ne, nn_mn, nn_64] at c
      omega
    · simp (disch := omega) only [e1, e2, ↓nn_m3, nn_p0, nn_p1, nn_p2, nn_p3, nn_p4, nn_p5, nn_p6, nn_p7, nn_p8, nn_p9, nn_p10, nn_p20, nn_p21, nn_le, nn_lt, nn_eq, nn_cl, nn_in, nn_add, nn_mul, nn_en, nn_ne, nn_mn, nn_64, nl_p0, nl_p1, nl_p20, nl_add, nl_mul]
      exact ⟨trivial, trivial, ih (t + 1) (by omega)⟩
theorem mt_rlost {A : mA_} {m v s y : Nat} {vt : Nat → Nat → Nat} (hW : mt_W A) (hm : ab_isM m) (hd2 : dd 169 1 = .ref m) (hK : mt_K A m i) (hv : v < aV_ A) (hs : s < aS_ A v) (hy : y ≤ aT_ A) (hH : ∀ z t, z ≤ aT_ A → t < 3 → l 170 (3 * z + t) = Int64.ofNat (pu_n (rw_N (ho_cv A vt v)) (aV_ A) (ho_g A vt v z t))) : ab_Sp MX3_lostBy (d + 1) [.ref 169, .int (Int32.ofNat v), .int (Int32.ofNat s), .int (Int32.ofNat y)] (i, l, dd, x) (ab_E0 sc) (some (.long (rp_f A vt v s y))) (fun σ => σ = (i, l, dd, x)) := by
  have w1 := hW.1
  have w2 := hW.2.1
  refine ab_ent (n := 3) okMX3_lostBy.1 (fun G => Nat.le_of_ble_eq_true rfl) (fun Q hQ => ?_)
  refine tMX3_lostBy_0 ⟨m, hd2, hm, la_vp (by omega) (by omega), ?_⟩
  rw [nn_cl (by omega)]
  have h := hQ _ rfl
  unfold rp_f at h
  rw [← ho_sum hW hv hs] at h
  exact mt_rl20 hW hm hK hv hs (by omega) (hH y · hy) h 3 0 (by omega)
theorem mt_be41 {A : mA_} {m v s now : Nat} {vt : Nat → Nat → Nat} (hW : mt_W A) (hm : ab_isM m) (hd2 : dd 169 1 = .ref m) (hK : mt_K A m i) (hv : v < aV_ A) (hs : s < aS_ A v) (hn : now ≤ aT_ A) (hH : ∀ z t, z ≤ aT_ A → t < 3 → l 170 (3 * z + t) = Int64.ofNat (pu_n (rw_N (ho_cv A vt v)) (aV_ A) (ho_g A vt v z t))) {Q : ab_Qt} (hQ : Q (some (some (.int (Int32.ofNat (mt_wx A (rp_c (rp_f A vt v s) now (aT_ A + 1))))))) (i, l, dd, x) (ab_E0 sc)) :
    ∀ n k : Nat, aT_ A + 1 = k + n → ab_Fr MX3_best (d + 2) Q 41 [some (.ref 169), some (.int (Int32.ofNat v)), some (.int (Int32.ofNat s)), none, none, some (.int (Int32.ofNat (rp_c (rp_f A vt v s) now k))), some (.long (rp_f A vt v s (rp_c (rp_f A vt v s) now k))), none, some (.int (Int32.ofNat k)), none, none] [] (0, 0) (i, l, dd, x) (ab_E0 sc) := by
  intro n
  have w1 := hW.1
  have e := hK.1.1
  induction n with
  | zero =>
    intro k hk
    have hk2 : k = aT_ A + 1 := by omega
    refine tMX3_best_41 (d := d + 1) ⟨m, hd2, hm, fun _ => ⟨_, _, mt_voteAt (d := d) hW hm hd2 hK (by rw [hk2]; exact rp_c_le hn), ?_⟩, fun c => ?_⟩
    · rintro i8 l9 dd10 x11 ⟨⟩
      rw [hk2]
      exact hQ
    · simp (disch := omega) only [e, ↓nn_m3, nn_p0, nn_p1, nn_p2, nn_p3, nn_p4, nn_p5, nn_p6, nn_p7, nn_p8, nn_p9, nn_p10, nn_p20, nn_p21, nn_le, nn_lt, nn_eq, nn_cl, nn_in, nn_add, nn_mul, nn_en, nn_ne, nn_mn, nn_64] at c
      omega
  | succ n ih =>
    intro k hk
    have ih2 := ih (k + 1) (by omega)
    unfold rp_c at ih2
    refine tMX3_best_41 (d := d + 1) ⟨m, hd2, hm, fun c => ?_, fun _ => ⟨_, _, mt_rlost (d := d) (y := k) hW hm hd2 hK hv hs (by omega) hH, ?_⟩⟩
    · simp (disch := omega) only [e, ↓nn_m3, nn_p0, nn_p1, nn_p2, nn_p3, nn_p4, nn_p5, nn_p6, nn_p7, nn_p8, nn_p9, nn_p10, nn_p20, nn_p21, nn_le, nn_lt, nn_eq, nn_cl, nn_in, nn_add, nn_mul, nn_en, nn_ne, nn_mn, nn_64] at c
      omega
    · rintro i8 l9 dd10 x11 ⟨⟩
      rw [la_nx]
      refine ⟨fun c => ?_, fun c => ?_⟩
      · rw [if_neg c] at ih2
        exact ih2
      · rw [if_pos c] at ih2
        exact ih2
/-- the class's reply -/
theorem mt_best {A : mA_} {m v s : Nat} {vt : Nat → Nat → Nat} (hW : mt_W A) (hm : ab_isM m) (hd2 : dd 169 1 = .ref m) (hK : mt_K A m i) (hv : v < aV_ A) (hs : s < aS_ A v) (h9 : vt v s ≤ 9) (hH : ∀ z t, z ≤ aT_ A → t < 3 → l 170 (3 * z + t) = Int64.ofNat (pu_n (rw_N (ho_cv A vt v)) (aV_ A) (ho_g A vt v z t))) : ab_Sp MX3_best (d + 2) [.ref 169, .int (Int32.ofNat v), .int (Int32.ofNat s), .int (Int32.ofNat (vt v s))] (i, l, dd, x) (ab_E0 sc) (some (.int (Int32.ofNat (rp_y A vt v s)))) (fun σ => σ = (i, l, dd, x)) := by
  have w1 := hW.1
  have e := hK.1.1
  refine ab_ent (n := 3) okMX3_best.1 (fun G => Nat.le_of_ble_eq_true rfl) (fun Q hQ => ?_)
  have key : ∀ z, z = rp_now A (vt v s) → ab_Fr MX3_best (d + 2) Q 22 [some (.ref 169), some (.int (Int32.ofNat v)), some (.int (Int32.ofNat s)), none, none, none, none, none, none, none, none] [.int (Int32.ofNat z)] (0, 0) (i, l, dd, x) (ab_E0 sc) := by
    intro z hz
    have hzl : z ≤ aT_ A := by rw [hz]; exact rp_now_le
    refine tMX3_best_22 (d := d + 1) ⟨_, _, mt_rlost (d := d) (y := z) hW hm hd2 hK hv hs hzl hH, ?_⟩
    rintro i8 l9 dd10 x11 ⟨⟩
    have h := hQ _ rfl
    unfold rp_y at h
    rw [← hz] at h
    exact mt_be41 (d := d) (now := z) hW hm hd2 hK hv hs hzl hH h (aT_ A + 1) 0 (by omega)
  refine tMX3_best_0 (d := d + 1) ⟨m, hd2, hm, _, _, mt_hasT1 (d := d) hW hm hK, ?_⟩
  rintro i8 l9 dd10 x11 ⟨⟩
  rw [la_nat (by omega)]
  by_cases c : vt v s < aT_ A
  · rw [if_pos (by omega)]
    exact ⟨fun z => absurd z (by decide), fun _ => key _ (by unfold rp_now; rw [if_pos c])⟩
  · rw [if_neg (by omega)]
    refine ⟨fun _ => ⟨m, hd2, hm, ?_⟩, fun z => absurd rfl z⟩
    rw [e]
    exact key _ (by unfold rp_now; rw [if_neg c])
end TQD2
