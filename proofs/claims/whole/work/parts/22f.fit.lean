/-! the calls reply, fit -/
section TQF2
variable {d : Nat} {sc : Nat × (Nat → Int32)} {i : Nat → Nat → Int32} {l : Nat → Nat → Int64} {dd : Nat → Nat → Value} {x : Nat}
theorem kp_c18 : ∀ k, 161 ≤ k → k ≤ 168 → kp_s k = true := fun k h1 h2 => by
  rcases (show k = 161 ∨ k = 162 ∨ k = 163 ∨ k = 164 ∨ k = 165 ∨ k = 166 ∨ k = 167 ∨ k = 168 by omega) with rfl | rfl | rfl | rfl | rfl | rfl | rfl | rfl <;> rfl
theorem kp_c8 : ∀ k, 228 ≤ k → k ≤ 228 → kp_s k = true := fun k h1 h2 => by
  rcases (show k = 228 by omega) with rfl
  rfl
theorem kp_lo {lo hi : Nat} {l2 : Nat → Nat → Int64} (h : fr_o lo hi l l2) (hc : ∀ k, lo ≤ k → k ≤ hi → kp_s k = true) : kp_l l l2 := kp_lc (fun k hk => h k (by
  rcases Nat.lt_or_ge k lo with c | c
  · exact Or.inl c
  · rcases Nat.lt_or_ge hi k with c2 | c2
    · exact Or.inr c2
    · rw [hc k c c2] at hk
      cases hk))
theorem kp_ho {l2 : Nat → Nat → Int64} (h : ho_h l l2) : kp_l l l2 := kp_lc (fun k hk => h k (kp_ne hk 165 rfl) (kp_ne hk 170 rfl))
theorem rp_y9 {A : mA_} {vt : Nat → Nat → Nat} {v s : Nat} (hW : mt_W A) : rp_y A vt v s ≤ 9 ∧ (rp_y A vt v s < aT_ A ∨ rp_y A vt v s = 9) := by
  have w1 := hW.1
  unfold rp_y mt_wx
  split <;> omega
theorem op_reply {R : ab_S → Prop} {A : mA_} (hA : op_A R A) : la_c17 1310 sc (la_I R) := by
  rintro ⟨i, l, dd, x⟩ a1 a2 hI
  obtain ⟨hW, hA2⟩ := hA
  have w2 := hW.2.1
  obtain ⟨m, e0, hm, hK, -⟩ := hA2 _ _ _ _ hI
  rcases Classical.em (cs_S A a1 a2) with c | c
  · obtain ⟨v, s, hv, hs, rfl, rfl⟩ := c
    have hS := hW.2.2.2.2.2.2.1 v hv
    refine ⟨Int32.ofNat (rp_y A (aO_ A) v s), la_I R, ?_, ?_⟩
    · refine ab_ent (n := 2) okMX11_reply.1 (fun G => Nat.le_of_ble_eq_true rfl) (fun Q hQ => ?_)
      refine tMX11_reply_0 (d := 1310) ⟨m, e0, hm, _, _, mt_hasSy (d := 1308) hW hm hK hv hs, ?_⟩
      rintro i5 l6 dd7 x8 ⟨⟩
      refine ⟨fun _ => ⟨m, e0, hm, _, mt_hear (d := 1306) hW hm hK (kd_47 hm) (by omega) (by rcases hm with rfl | rfl | rfl <;> omega) (mt_KV hK) (mt_O9 hW) hv, ?_⟩, fun z => absurd z (by decide)⟩
      rintro i5 l6 dd7 x8 ⟨i2, l2, ⟨⟩, f2, h2, z2⟩
      have hK2 := mt_K_o hm hK f2 (by omega) hW
      refine ⟨m, by rw [uu_k (by decide), uu_k (by decide)]; exact e0, hm, ?_⟩
      rw [nn_m3, nn_mul, nn_add, nn_cl (by omega), mt_KV hK2 v s hv hs]
      refine ⟨la_vp (by omega) (by omega), _, _, mt_best (d := 1308) hW hm (by rw [uu_k (by decide)]; exact uu_e) hK2 hv hs (mt_O9 hW v s hv hs) z2, ?_⟩
      rintro i5 l6 dd7 x8 ⟨⟩
      exact hQ _ (kp_I hI (kp_fo f2 kp_c18) (kp_ho h2) (kp_dt (kp_169 hm) (kp_160 hm)))
    · rintro ⟨i, l, dd, x⟩ hI
      refine ab_ent (n := 2) okMX12_reply.1 (fun G => Nat.le_of_ble_eq_true rfl) (fun Q hQ => ?_)
      refine tMX12_reply_0 (d := 1310) ?_
      rintro i1 rfl
      have hI2 := la_thr (v := 0) (x2 := x) hI
      obtain ⟨m, e0, hm, hK, hM2⟩ := hA2 _ _ _ _ hI2
      refine ⟨_, _, mt_isSy (d := 1308) hW hM2 hv hs, ?_⟩
      rintro i5 l6 dd7 x8 ⟨⟩
      refine ⟨fun z => absurd z (by decide), fun _ => ⟨_, _, md_replyBy (d := 1307) (o := 0) hW hW.2.2.2.2.2.2.2.2.2.2.1 hM2 (by omega) (mt_MV hM2) hv hs, ?_⟩⟩
      rintro i5 l6 dd7 x8 ⟨i3, l3, ⟨⟩, f3, g3⟩
      exact hQ _ (kp_I hI2 (kp_fo f3 kp_c67) (kp_lo g3 kp_c8) kp_dr)
  · refine ⟨-1, la_I R, ?_, ?_⟩
    · refine ab_ent (n := 2) okMX11_reply.1 (fun G => Nat.le_of_ble_eq_true rfl) (fun Q hQ => ?_)
      refine tMX11_reply_0 (d := 1310) ⟨m, e0, hm, _, _, mt_hasSn (d := 1308) hW hm hK c, ?_⟩
      rintro i5 l6 dd7 x8 ⟨⟩
      exact ⟨fun z => absurd rfl z, fun _ => hQ _ hI⟩
    · rintro ⟨i, l, dd, x⟩ hI
      refine ab_ent (n := 2) okMX12_reply.1 (fun G => Nat.le_of_ble_eq_true rfl) (fun Q hQ => ?_)
      refine tMX12_reply_0 (d := 1310) ?_
      rintro i1 rfl
      have hI2 := la_thr (v := 0) (x2 := x) hI
      obtain ⟨m, e0, hm, hK, hM2⟩ := hA2 _ _ _ _ hI2
      refine ⟨_, _, mt_isSn (d := 1308) hW hM2 c, ?_⟩
      rintro i5 l6 dd7 x8 ⟨⟩
      exact ⟨fun _ => hQ _ hI2, fun z => absurd rfl z⟩
/-- the votes are fit -/
def cs_fit (A : mA_) (vt : Nat → Nat → Nat) : Nat := if (∀ v, v < aV_ A → ∀ s, s < aS_ A v → rp_y A vt v s = vt v s) then 1 else 0
theorem mt_K_18 {A : mA_} {m : Nat} {i2 : Nat → Nat → Int32} (hW : mt_W A) (hm : ab_isM m) (hK : mt_K A m i) (hf : fr_o 161 168 i i2) : mt_K A m i2 := mt_K_o hm hK hf (by omega) hW
/-- what isFit of the class leaves -/
def fi_P (m : Nat) (i : Nat → Nat → Int32) (l : Nat → Nat → Int64) (dd : Nat → Nat → Value) (i2 : Nat → Nat → Int32) (l2 : Nat → Nat → Int64) (d2 : Nat → Nat → Value) : Prop := fr_o 161 168 i i2 ∧ ho_h l l2 ∧ kp_d dd d2 ∧ (dd 169 1 = .ref m → d2 169 1 = .ref m)
theorem fi_d {m : Nat} {d2 : Nat → Nat → Value} (hm : ab_isM m) (h : kp_d dd d2) : kp_d dd (ab_u (ab_u d2 169 1 (.ref m)) 160 0 (.ref m)) ∧ (dd 169 1 = .ref m → ab_u (ab_u d2 169 1 (.ref m)) 160 0 (.ref m) 169 1 = .ref m) :=
  ⟨kp_dt h (kp_dt (kp_169 hm) (kp_160 hm)), fun _ => by rw [uu_k (by decide)]; exact uu_e⟩
theorem fi_20 {A : mA_} {m a n v : Nat} {vt : Nat → Nat → Nat} (hW : mt_W A) (hm : ab_isM m) (hd2 : dd 169 1 = .ref m) (hK : mt_K A m i) (hk : (ab_E0 sc).1 a = .inr (0, n)) (hn : 21 ≤ n ∧ n < 2 ^ 31) (hV : mt_Vc A i a vt) (h9 : ∀ v s, v < aV_ A → s < aS_ A v → vt v s ≤ 9) (hv : v < aV_ A) (hH : ∀ z t, z ≤ aT_ A → t < 3 → l 170 (3 * z + t) = Int64.ofNat (pu_n (rw_N (ho_cv A vt v)) (aV_ A) (ho_g A vt v z t))) {Q : ab_Qt} (h1 : (∀ s, s < aS_ A v → rp_y A vt v s = vt v s) → ab_Fr MX3_isFit (d + 3) Q 2 [some (.ref 169), some (.ref m), some (.ref a), some (.int (Int32.ofNat (v + 1))), none, none] [] (0, 0) (i, l, dd, x) (ab_E0 sc)) (h0 : cs_fit A vt = 0 → Q (some (some (.int 0))) (i, l, dd, x) (ab_E0 sc)) :
    ∀ n2 s : Nat, aS_ A v = s + n2 → (∀ u, u < s → rp_y A vt v u = vt v u) → ab_Fr MX3_isFit (d + 3) Q 20 [some (.ref 169), some (.ref m), some (.ref a), some (.int (Int32.ofNat v)), some (.int (Int32.ofNat s)), none] [] (0, 0) (i, l, dd, x) (ab_E0 sc) := by
  intro n2
  have w2 := hW.2.1
  have hS := hW.2.2.2.2.2.2.1 v hv
  have e0 := (hK.2.2.2.2.1 v hv).1
  induction n2 with
  | zero =>
    intro s hs h
    refine tMX3_isFit_20 (d := d + 2) hm hk ⟨la_vp (by omega) (by omega), fun _ => ?_, fun c => ?_⟩
    · rw [la_nx]
      exact h1 (fun u hu => h u (by omega))
    · simp (disch := omega) only [e0, ↓nn_m3, nn_p0, nn_p1, nn_p2, nn_p3, nn_p4, nn_p5, nn_p6, nn_p7, nn_p8, nn_p9, nn_p10, nn_p20, nn_p21, nn_le, nn_lt, nn_eq, nn_cl, nn_in, nn_add, nn_mul, nn_en, nn_ne, nn_mn, nn_64] at c
      omega
  | succ n2 ih =>
    intro s hs h
    have eV := hV v s hv (by omega)
    have e9 := h9 v s hv (by omega)
    have hy := (rp_y9 (vt := vt) (v := v) (s := s) hW).1
    refine tMX3_isFit_20 (d := d + 2) hm hk ⟨la_vp (by omega) (by omega), fun c => ?_, fun _ => ?_⟩
    · simp (disch := omega) only [e0, ↓nn_m3, nn_p0, nn_p1, nn_p2, nn_p3, nn_p4, nn_p5, nn_p6, nn_p7, nn_p8, nn_p9, nn_p10, nn_p20, nn_p21, nn_le, nn_lt, nn_eq, nn_cl, nn_in, nn_add, nn_mul, nn_en, nn_ne, nn_mn, nn_64] at c
      omega
    · rw [nn_m3, nn_mul, nn_add, nn_cl (by omega), eV]
      refine ⟨la_vp (by omega) (by omega), _, _, mt_best (d := d) hW hm hd2 hK hv (by omega) e9 hH, ?_⟩
      rintro i5 l6 dd7 x8 ⟨⟩
      rw [nn_eq (by omega) (by omega), la_nx]
      refine ⟨fun c => ih (s + 1) (by omega) (fun u hu => ?_), fun c => h0 ?_⟩
      · by_cases e : u = s
        · rw [e]
          exact c
        · exact h u (by omega)
      · exact if_neg (fun q => c (q v hv s (by omega)))
theorem fi_2 {A : mA_} {m a n : Nat} {vt : Nat → Nat → Nat} (hW : mt_W A) (hm : ab_isM m) {i0 : Nat → Nat → Int32} {l0 : Nat → Nat → Int64} {d0 : Nat → Nat → Value} (hK : mt_K A m i0) (hk : (ab_E0 sc).1 a = .inr (0, n)) (hn : 21 ≤ n ∧ n < 2 ^ 31) (ha : a < 161 ∨ 168 < a) (hV : mt_Vc A i0 a vt) (h9 : ∀ v s, v < aV_ A → s < aS_ A v → vt v s ≤ 9) {Q : ab_Qt} (hQ : ∀ i2 l2 d2, fi_P m i0 l0 d0 i2 l2 d2 → Q (some (some (.int (Int32.ofNat (cs_fit A vt))))) (i2, l2, d2, x) (ab_E0 sc)) :
    ∀ (r v : Nat) (i2 : Nat → Nat → Int32) (l2 : Nat → Nat → Int64) (d2 : Nat → Nat → Value), aV_ A = v + r → fi_P m i0 l0 d0 i2 l2 d2 → (∀ u, u < v → ∀ s, s < aS_ A u → rp_y A vt u s = vt u s) → ab_Fr MX3_isFit (d + 5) Q 2 [some (.ref 169), some (.ref m), some (.ref a), some (.int (Int32.ofNat v)), none, none] [] (0, 0) (i2, l2, d2, x) (ab_E0 sc) := by
  intro r
  have w2 := hW.2.1
  induction r with
  | zero =>
    intro v i2 l2 d2 hv P2 h
    have q2 := (mt_K_18 hW hm hK P2.1).1.2
    refine tMX3_isFit_2 (d := d + 4) hm hk ⟨fun _ => ?_, fun c => ?_⟩
    · have h2 := hQ i2 l2 d2 P2
      unfold cs_fit at h2
      rw [if_pos (fun u hu => h u (by omega))] at h2
      exact h2
    · simp (disch := omega) only [q2, ↓nn_m3, nn_p0, nn_p1, nn_p2, nn_p3, nn_p4, nn_p5, nn_p6, nn_p7, nn_p8, nn_p9, nn_p10, nn_p20, nn_p21, nn_le, nn_lt, nn_eq, nn_cl, nn_in, nn_add, nn_mul, nn_en, nn_ne, nn_mn, nn_64] at c
      omega
  | succ r ih =>
    intro v i2 l2 d2 hv P2 h
    have hK2 := mt_K_18 hW hm hK P2.1
    have q2 := hK2.1.2
    refine tMX3_isFit_2 (d := d + 4) hm hk ⟨fun c => ?_, fun _ => ⟨_, mt_hear (d := d) hW hm hK2 hk hn (by omega) (mt_Vc_o hV P2.1 (by omega)) h9 (by omega), ?_⟩⟩
    · simp (disch := omega) only [q2, ↓nn_m3, nn_p0, nn_p1, nn_p2, nn_p3, nn_p4, nn_p5, nn_p6, nn_p7, nn_p8, nn_p9, nn_p10, nn_p20, nn_p21, nn_le, nn_lt, nn_eq, nn_cl, nn_in, nn_add, nn_mul, nn_en, nn_ne, nn_mn, nn_64] at c
      omega
    · rintro i5 l6 dd7 x8 ⟨i3, l3, ⟨⟩, f3, h3, z3⟩
      have P3 : fi_P m i0 l0 d0 i5 l6 (ab_u (ab_u d2 169 1 (.ref m)) 160 0 (.ref m)) := ⟨fr_t P2.1 f3, fun q a b => (h3 q a b).trans (P2.2.1 q a b), fi_d hm P2.2.2.1⟩
      refine fi_20 (d := d + 2) hW hm (by rw [uu_k (by decide)]; exact uu_e) (mt_K_18 hW hm hK P3.1) hk hn (mt_Vc_o hV P3.1 (by omega)) h9 (by omega) z3 (fun h4 => ih (v + 1) _ _ _ (by omega) P3 (fun u hu => ?_)) (fun h4 => ?_) (aS_ A v) 0 (by omega) (fun u hu => absurd hu (Nat.not_lt_zero u))
      · by_cases e : u = v
        · rw [e]
          exact h4
        · exact h u (by omega)
      · have h5 := hQ _ _ _ P3
        rw [h4] at h5
        exact h5
theorem mt_isFit {A : mA_} {m a n : Nat} {vt : Nat → Nat → Nat} (hW : mt_W A) (hm : ab_isM m) (hK : mt_K A m i) (hk : (ab_E0 sc).1 a = .inr (0, n)) (hn : 21 ≤ n ∧ n < 2 ^ 31) (ha : a < 161 ∨ 168 < a) (hV : mt_Vc A i a vt) (h9 : ∀ v s, v < aV_ A → s < aS_ A v → vt v s ≤ 9) : ab_Sp MX3_isFit (d + 5) [.ref 169, .ref m, .ref a] (i, l, dd, x) (ab_E0 sc) (some (.int (Int32.ofNat (cs_fit A vt)))) (fun σ => ∃ i2 l2 d2, σ = (i2, l2, d2, x) ∧ fi_P m i l dd i2 l2 d2) := by
  refine ab_ent (n := 2) okMX3_isFit.1 (fun G => Nat.le_of_ble_eq_true rfl) (fun Q hQ => ?_)
  refine tMX3_isFit_0 (d := d + 4) hm hk (fi_2 (d := d) (i0 := i) (l0 := l) (d0 := dd) hW hm hK hk hn ha hV h9 ?_ (aV_ A) 0 i l dd (by omega) ⟨fr_r, fun _ _ _ => rfl, kp_dr, id⟩ (fun u hu => absurd hu (Nat.not_lt_zero u)))
  intro i2 l2 d2 P2
  exact hQ _ ⟨i2, l2, d2, rfl, P2⟩
/-- the model -/
theorem md_fi12 {A : mA_} {o v : Nat} {vt : Nat → Nat → Nat} (hW : mt_W A) (hk : mt_vt A vt) (ho : o < 2) (hv : v < aV_ A) {i0 : Nat → Nat → Int32} {l0 : Nat → Nat → Int64} (hM : mt_M A i0 l0) (hV : mt_Vo A i0 o vt) {Q : ab_Qt} (h1 : ∀ i2 l2, fr_o 226 227 i0 i2 → fr_o 228 228 l0 l2 → (∀ s, s < aS_ A v → rp_y A vt v s = vt v s) → ab_Fr MX12_isFitBy (d + 4) Q 2 [some (.ref 205), some (.int (Int32.ofNat o)), some (.int (Int32.ofNat (v + 1))), none] [] (0, 0) (i2, l2, dd, x) (ab_E0 sc)) (h0 : ∀ i2 l2, fr_o 226 227 i0 i2 → fr_o 228 228 l0 l2 → cs_fit A vt = 0 → Q (some (some (.int 0))) (i2, l2, dd, x) (ab_E0 sc)) :
    ∀ (n s : Nat) (i2 : Nat → Nat → Int32) (l2 : Nat → Nat → Int64), aS_ A v = s + n → fr_o 226 227 i0 i2 → fr_o 228 228 l0 l2 → (∀ u, u < s → rp_y A vt v u = vt v u) → ab_Fr MX12_isFitBy (d + 4) Q 12 [some (.ref 205), some (.int (Int32.ofNat o)), some (.int (Int32.ofNat v)), some (.int (Int32.ofNat s))] [] (0, 0) (i2, l2, dd, x) (ab_E0 sc) := by
  intro n
  have w2 := hW.2.1
  have hS := hW.2.2.2.2.2.2.1 v hv
  induction n with
  | zero =>
    intro s i2 l2 hs f2 g2 h
    have e0 := ((mt_M_2 hW hM f2 g2).2.2.2.1 v hv).1
    refine tMX12_isFitBy_12 (d := d + 3) ⟨la_vp (by omega) (by omega), fun _ => ?_, fun c => ?_⟩
    · rw [la_nx]
      exact h1 i2 l2 f2 g2 (fun u hu => h u (by omega))
    · simp (disch := omega) only [e0, ↓nn_m3, nn_p0, nn_p1, nn_p2, nn_p3, nn_p4, nn_p5, nn_p6, nn_p7, nn_p8, nn_p9, nn_p10, nn_p20, nn_p21, nn_le, nn_lt, nn_eq, nn_cl, nn_in, nn_add, nn_mul, nn_en, nn_ne, nn_mn, nn_64] at c
      omega
  | succ n ih =>
    intro s i2 l2 hs f2 g2 h
    have hM2 := mt_M_2 hW hM f2 g2
    have e0 := (hM2.2.2.2.1 v hv).1
    have eV := hV v s hv (by omega)
    have e9 := mt_vt9 hW hk hv (show s < aS_ A v by omega)
    have hy := (rp_y9 (vt := vt) (v := v) (s := s) hW).1
    refine tMX12_isFitBy_12 (d := d + 3) ⟨la_vp (by omega) (by omega), fun c => ?_, fun _ => ⟨_, _, md_replyBy (d := d) hW hk hM2 ho (mt_Vo_o hV f2 (by omega)) hv (by omega), ?_⟩⟩
    · simp (disch := omega) only [e0, ↓nn_m3, nn_p0, nn_p1, nn_p2, nn_p3, nn_p4, nn_p5, nn_p6, nn_p7, nn_p8, nn_p9, nn_p10, nn_p20, nn_p21, nn_le, nn_lt, nn_eq, nn_cl, nn_in, nn_add, nn_mul, nn_en, nn_ne, nn_mn, nn_64] at c
      omega
    · rintro i5 l6 dd7 x8 ⟨i3, l3, ⟨⟩, f3, g3⟩
      rw [nn_p21, nn_p3, nn_mul, nn_mul, nn_add, nn_add, nn_cl (by omega), show i5 225 (21 * o + 3 * v + s) = Int32.ofNat (vt v s) by rw [f3 225 (by omega), f2 225 (by omega)]; exact eV, nn_eq (by omega) (by omega), la_nx]
      refine ⟨la_vp (by omega) (by omega), fun c => ih (s + 1) _ _ (by omega) (fr_t f2 f3) (fr_t g2 g3) (fun u hu => ?_), fun c => h0 _ _ (fr_t f2 f3) (fr_t g2 g3) ?_⟩
      · by_cases e : u = s
        · rw [e]
          exact c
        · exact h u (by omega)
      · exact if_neg (fun q => c (q v hv s (by omega)))
theorem md_fi2 {A : mA_} {o : Nat} {vt : Nat → Nat → Nat} (hW : mt_W A) (hk : mt_vt A vt) (ho : o < 2) {i0 : Nat → Nat → Int32} {l0 : Nat → Nat → Int64} (hM : mt_M A i0 l0) (hV : mt_Vo A i0 o vt) {Q : ab_Qt} (hQ : ∀ i2 l2, fr_o 226 227 i0 i2 → fr_o 228 228 l0 l2 → Q (some (some (.int (Int32.ofNat (cs_fit A vt))))) (i2, l2, dd, x) (ab_E0 sc)) :
    ∀ (n v : Nat) (i2 : Nat → Nat → Int32) (l2 : Nat → Nat → Int64), aV_ A = v + n → fr_o 226 227 i0 i2 → fr_o 228 228 l0 l2 → (∀ u, u < v → ∀ s, s < aS_ A u → rp_y A vt u s = vt u s) → ab_Fr MX12_isFitBy (d + 4) Q 2 [some (.ref 205), some (.int (Int32.ofNat o)), some (.int (Int32.ofNat v)), none] [] (0, 0) (i2, l2, dd, x) (ab_E0 sc) := by
  intro n
  have w2 := hW.2.1
  induction n with
  | zero =>
    intro v i2 l2 hv f2 g2 h
    have r2 := (mt_M_2 hW hM f2 g2).1.2.1
    refine tMX12_isFitBy_2 (d := d + 3) ⟨fun _ => ?_, fun c => ?_⟩
    · have h2 := hQ i2 l2 f2 g2
      unfold cs_fit at h2
      rw [if_pos (fun u hu => h u (by omega))] at h2
      exact h2
    · simp (disch := omega) only [r2, ↓nn_m3, nn_p0, nn_p1, nn_p2, nn_p3, nn_p4, nn_p5, nn_p6, nn_p7, nn_p8, nn_p9, nn_p10, nn_p20, nn_p21, nn_le, nn_lt, nn_eq, nn_cl, nn_in, nn_add, nn_mul, nn_en, nn_ne, nn_mn, nn_64] at c
      omega
  | succ n ih =>
    intro v i2 l2 hv f2 g2 h
    have r2 := (mt_M_2 hW hM f2 g2).1.2.1
    refine tMX12_isFitBy_2 (d := d + 3) ⟨fun c => ?_, fun _ => ?_⟩
    · simp (disch := omega) only [r2, ↓nn_m3, nn_p0, nn_p1, nn_p2, nn_p3, nn_p4, nn_p5, nn_p6, nn_p7, nn_p8, nn_p9, nn_p10, nn_p20, nn_p21, nn_le, nn_lt, nn_eq, nn_cl, nn_in, nn_add, nn_mul, nn_en, nn_ne, nn_mn, nn_64] at c
      omega
    · refine md_fi12 (d := d) (i0 := i0) (l0 := l0) hW hk ho (by omega) hM hV (fun i3 l3 f3 g3 h4 => ih (v + 1) _ _ (by omega) f3 g3 (fun u hu => ?_)) (fun i3 l3 f3 g3 h4 => ?_) (aS_ A v) 0 i2 l2 (by omega) f2 g2 (fun u hu => absurd hu (Nat.not_lt_zero u))
      · by_cases e : u = v
        · rw [e]
          exact h4
        · exact h u (by omega)
      · have h5 := hQ _ _ f3 g3
        rw [h4] at h5
        exact h5
theorem md_isFit {A : mA_} {o : Nat} {vt : Nat → Nat → Nat} (hW : mt_W A) (hk : mt_vt A vt) (ho : o < 2) (hM : mt_M A i l) (hV : mt_Vo A i o vt) : ab_Sp MX12_isFitBy (d + 4) [.ref 205, .int (Int32.ofNat o)] (i, l, dd, x) (ab_E0 sc) (some (.int (Int32.ofNat (cs_fit A vt)))) (fun σ => ∃ i2 l2, σ = (i2, l2, dd, x) ∧ fr_o 226 227 i i2 ∧ fr_o 228 228 l l2) := by
  refine ab_ent (n := 1) okMX12_isFitBy.1 (fun G => Nat.le_of_ble_eq_true rfl) (fun Q hQ => ?_)
  refine tMX12_isFitBy_0 (d := d + 3) (md_fi2 (d := d) (i0 := i) (l0 := l) hW hk ho hM hV ?_ (aV_ A) 0 i l (by omega) fr_r fr_r (fun u hu => absurd hu (Nat.not_lt_zero u)))
  intro i2 l2 f2 g2
  exact hQ _ ⟨i2, l2, rfl, f2, g2⟩
theorem cs_fit01 {A : mA_} {vt : Nat → Nat → Nat} : cs_fit A vt = 0 ∨ cs_fit A vt = 1 := by
  unfold cs_fit
  split
  · exact Or.inr rfl
  · exact Or.inl rfl
theorem op_fit {R : ab_S → Prop} {A : mA_} (hA : op_A R A) : la_c18 1310 sc (la_I R) := by
  rintro ⟨i, l, dd, x⟩ hI
  obtain ⟨hW, hA2⟩ := hA
  obtain ⟨m, e0, hm, hK, -⟩ := hA2 _ _ _ _ hI
  have hz := mt_z30 hW hK
  by_cases c : aV_ A = 0
  · refine ⟨-1, la_I R, ?_, ?_⟩
    · refine ab_ent (n := 0) okMX11_fit.1 (fun G => Nat.le_of_ble_eq_true rfl) (fun Q hQ => ?_)
      refine tMX11_fit_0 (d := 1310) ⟨m, e0, hm, _, _, mt_empty (d := 1309) hm, ?_⟩
      rintro i5 l6 dd7 x8 ⟨⟩
      rw [if_pos (hz.mpr c)]
      exact ⟨fun z => absurd z (by decide), fun _ => hQ _ hI⟩
    · rintro ⟨i, l, dd, x⟩ hI
      obtain ⟨m, e0, hm, hK, hM⟩ := hA2 _ _ _ _ hI
      refine ab_ent (n := 0) okMX12_fit.1 (fun G => Nat.le_of_ble_eq_true rfl) (fun Q hQ => ?_)
      refine tMX12_fit_0 (d := 1310) ?_
      rintro i1 rfl
      rw [uu_j (by decide), mt_z31 hW hM]
      exact ⟨fun z => absurd c z, fun _ => hQ _ (la_thr hI)⟩
  · refine ⟨Int32.ofNat (cs_fit A (aO_ A)), la_I R, ?_, ?_⟩
    · refine ab_ent (n := 0) okMX11_fit.1 (fun G => Nat.le_of_ble_eq_true rfl) (fun Q hQ => ?_)
      refine tMX11_fit_0 (d := 1310) ⟨m, e0, hm, _, _, mt_empty (d := 1309) hm, ?_⟩
      rintro i5 l6 dd7 x8 ⟨⟩
      rw [if_neg (fun z => c (hz.mp z))]
      refine ⟨fun _ => ⟨m, e0, hm, _, _, mt_isFit (d := 1305) hW hm hK (kd_47 hm) (by omega) (by rcases hm with rfl | rfl | rfl <;> omega) (mt_KV hK) (mt_O9 hW), ?_⟩, fun z => absurd rfl z⟩
      rintro i5 l6 dd7 x8 ⟨i2, l2, d2, ⟨⟩, P2⟩
      have hJ := kp_I hI (kp_fo P2.1 kp_c18) (kp_ho P2.2.1) P2.2.2.1 (x2 := x)
      rcases cs_fit01 (A := A) (vt := aO_ A) with z | z
      · rw [z] at hQ ⊢
        exact ⟨fun _ => hQ _ hJ, fun y => absurd rfl y⟩
      · rw [z] at hQ ⊢
        exact ⟨fun y => absurd y (by decide), fun _ => hQ _ hJ⟩
    · rintro ⟨i, l, dd, x⟩ hI
      obtain ⟨m, e0, hm, hK, hM⟩ := hA2 _ _ _ _ hI
      refine ab_ent (n := 0) okMX12_fit.1 (fun G => Nat.le_of_ble_eq_true rfl) (fun Q hQ => ?_)
      refine tMX12_fit_0 (d := 1310) ?_
      rintro i1 rfl
      have hI2 := la_thr (v := 0) (x2 := x) hI
      obtain ⟨m, e0, hm, hK, hM2⟩ := hA2 _ _ _ _ hI2
      rw [mt_z31 hW hM2]
      refine ⟨fun _ => ⟨_, _, md_isFit (d := 1306) (o := 0) hW hW.2.2.2.2.2.2.2.2.2.2.1 (by omega) hM2 (mt_MV hM2), ?_⟩, fun z => absurd z c⟩
      rintro i5 l6 dd7 x8 ⟨i3, l3, ⟨⟩, f3, g3⟩
      have hJ := kp_I hI2 (kp_fo f3 kp_c67) (kp_lo g3 kp_c8) kp_dr (x2 := x)
      rcases cs_fit01 (A := A) (vt := aO_ A) with z | z
      · rw [z] at hQ ⊢
        exact ⟨fun _ => hQ _ hJ, fun y => absurd rfl y⟩
      · rw [z] at hQ ⊢
        exact ⟨fun y => absurd y (by decide), fun _ => hQ _ hJ⟩
end TQF2
