/-! turns, think: both sides -/
section TQA2
variable {d : Nat} {sc : Nat × (Nat → Int32)} {i : Nat → Nat → Int32} {l : Nat → Nat → Int64} {dd : Nat → Nat → Value} {x : Nat}
def cs_tu (A : mA_) (v s t : Nat) (b : Nat → Nat) : Nat := if b v = s then cs_tn A v (fun w => aO_ A w (b w)) * mt_pa A b t else 0
def tu_cv (A : mA_) (v s : Nat) : Nat → mC_ := gr_u (gr_cv A (aO_ A)) v (mt_ad mt_c0 9 (aL_ A v s))
theorem kp_169 {m : Nat} (hm : ab_isM m) : kp_d dd (ab_u dd 169 1 (.ref m)) := by
  refine ⟨fun k j hk => ?_, fun ⟨a, b, c, e, f, g⟩ => ⟨?_, ?_, ?_, ⟨m, uu_e, hm⟩, ?_, ?_⟩⟩
  · unfold ab_u
    rw [if_neg]
    rintro ⟨rfl, rfl⟩
    cases hk
  · rw [uu_k (by decide)]
    exact a
  · rw [uu_k (by decide)]
    exact b
  · rw [uu_k (by decide)]
    exact c
  · rw [uu_k (by decide)]
    exact f
  · rw [uu_k (by decide)]
    exact g
theorem tu_b9 {A : mA_} {v s : Nat} {b : Nat → Nat} (hb : ∀ w, w < aV_ A → b w < (tu_cv A v s w).1) (hv : v < aV_ A) : rw_b (tu_cv A v s) b v = 9 := by
  have h := hb v hv
  have e : tu_cv A v s v = mt_ad mt_c0 9 (aL_ A v s) := if_pos rfl
  unfold rw_b
  rw [e] at h ⊢
  have h0 : b v = 0 := by
    have h1 : (mt_ad mt_c0 9 (aL_ A v s)).1 = 1 := rfl
    omega
  rw [h0]
  rfl
theorem tu_cb {A : mA_} {v s : Nat} (hW : mt_W A) : rw_cb A (tu_cv A v s) := gr_cbu (gr_cb hW (mt_O9 hW)) (gr_c1 hW (Nat.le_refl 9))
/-- the sum over the class's rows is that over cases -/
theorem tu_sum {A : mA_} {v s t : Nat} (hW : mt_W A) (hv : v < aV_ A) (hs : s < aS_ A v) : pu_n (rw_N (tu_cv A v s)) (aV_ A) (fun c => cs_tn A v (rw_b (tu_cv A v s) c) * rw_p A (tu_cv A v s) c (aV_ A) t) = pu_n (aS_ A) (aV_ A) (cs_tu A v s t) := by
  have hr : gr_r (aS_ A) (aV_ A) (tu_cv A v s) t (gr_f (aO_ A) v (fun _ => 9)) (fun w u => cs_lp A v s w u t) := by
    rw [← cs_lpf]
    exact gr_pin hs gr_v
  have h := gr_eq (z := aC_ A t) (aV_ A) (cs_tn A v) (fun p q hpq => cs_tn_c hW (fun w hw _ => hpq w hw)) hr
  rw [show pu_n (rw_N (tu_cv A v s)) (aV_ A) (fun c => cs_tn A v (rw_b (tu_cv A v s) c) * rw_p A (tu_cv A v s) c (aV_ A) t) = pu_n (rw_N (tu_cv A v s)) (aV_ A) (fun c => cs_tn A v (rw_b (tu_cv A v s) c) * pu_p (aC_ A t) (fun w => (tu_cv A v s w).2.2 (c w) t) (aV_ A)) from rfl, h]
  refine pu_nc (fun b _ => ?_)
  unfold cs_tu
  by_cases e : b v = s
  · rw [if_pos e, cs_tn_c (q := fun w => aO_ A w (b w)) hW (fun w hw hn => by
      unfold gr_f
      rw [if_neg hn])]
    have e4 : pu_p (aC_ A t) (fun w => cs_lp A v s w (b w) t) (aV_ A) = mt_pa A b t := pu_pc _ (fun w hw => if_neg (fun q => q.2 (by rw [q.1]; exact e)))
    rw [e4]
  · rw [if_neg e, pu_pz (v := v) (f := fun w => cs_lp A v s w (b w) t) (if_pos ⟨rfl, e⟩) _ hv, Nat.mul_zero]
def tu_pt (A : mA_) (v s t k : Nat) : Nat := pu_s (fun j => cs_tn A v (rw_b (tu_cv A v s) (pu_d (rw_N (tu_cv A v s)) (aV_ A) j)) * rw_p A (tu_cv A v s) (pu_d (rw_N (tu_cv A v s)) (aV_ A) j) (aV_ A) t) k
theorem tu_all {A : mA_} {v s t : Nat} (hW : mt_W A) (hv : v < aV_ A) (hs : s < aS_ A v) : tu_pt A v s t (mt_rad (rw_N (tu_cv A v s)) (aV_ A)) = pu_n (aS_ A) (aV_ A) (cs_tu A v s t) := by
  rw [← tu_sum hW hv hs]
  exact pu_dn (G := fun c => cs_tn A v (rw_b (tu_cv A v s) c) * rw_p A (tu_cv A v s) c (aV_ A) t) (fun w hw => (tu_cb hW w hw).1.1)
/-- longs that countTurns writes -/
def tu_h (l l2 : Nat → Nat → Int64) : Prop := ∀ k, k ≠ 165 → k ≠ 171 → l2 k = l k
theorem tu_71 {A : mA_} {m v s : Nat} {r0 k0 : Int32} {b : Nat → Nat} {F : Nat → Nat} {l0 : Nat → Nat → Int64} (hW : mt_W A) (hm : ab_isM m) (hd : dd 160 0 = .ref m) (hK : mt_K A m i) (hs : rw_s A (tu_cv A v s) b i l0) (hF : ∀ t, t < 3 → l0 171 t = Int64.ofNat (F t)) {Q : ab_Qt} (hQ : ∀ l2, fr_o 171 171 l0 l2 → (∀ t, t < 3 → l2 171 t = Int64.ofNat (F t + rw_p A (tu_cv A v s) b (aV_ A) t)) → ab_Fr MX3_countTurns (d + 2) Q 102 [some (.ref 169), none, some (.int (Int32.ofNat v)), none, some (.int r0), some (.int k0), none] [] (0, 0) (i, l2, dd, x) (ab_E0 sc)) :
    ∀ (n t : Nat) (l2 : Nat → Nat → Int64), 3 = t + n → fr_o 171 171 l0 l2 → (∀ u, u < t → l2 171 u = Int64.ofNat (F u + rw_p A (tu_cv A v s) b (aV_ A) u)) → (∀ u, t ≤ u → u < 3 → l2 171 u = Int64.ofNat (F u)) → ab_Fr MX3_countTurns (d + 2) Q 71 [some (.ref 169), none, some (.int (Int32.ofNat v)), none, some (.int r0), some (.int k0), some (.int (Int32.ofNat t))] [] (0, 0) (i, l2, dd, x) (ab_E0 sc) := by
  intro n
  induction n with
  | zero =>
    intro t l2 ht f2 z2 y2
    refine tMX3_countTurns_71 (d := d + 1) ⟨fun _ => hQ l2 f2 (fun u hu => z2 u (by omega)), fun c => ?_⟩
    simp (disch := omega) only [↓nn_m3, nn_p0, nn_p1, nn_p2, nn_p3, nn_p4, nn_p5, nn_p6, nn_p7, nn_p8, nn_p9, nn_p10, nn_p20, nn_p21, nn_le, nn_lt, nn_eq, nn_cl, nn_in, nn_add, nn_mul, nn_en, nn_ne, nn_mn, nn_64] at c
    omega
  | succ n ih =>
    intro t l2 ht f2 z2 y2
    refine tMX3_countTurns_71 (d := d + 1) ⟨fun c => ?_, fun _ => ⟨la_vp (by omega) (by omega), _, _, rw_partsNow (d := d) (t := t) hW hm hd hK (rw_s_l hs (f2 165 (by omega))) (by omega), ?_⟩⟩
    · simp (disch := omega) only [↓nn_m3, nn_p0, nn_p1, nn_p2, nn_p3, nn_p4, nn_p5, nn_p6, nn_p7, nn_p8, nn_p9, nn_p10, nn_p20, nn_p21, nn_le, nn_lt, nn_eq, nn_cl, nn_in, nn_add, nn_mul, nn_en, nn_ne, nn_mn, nn_64] at c
      omega
    · rintro i6 l7 dd8 x9 ⟨⟩
      refine ⟨la_vp (by omega) (by omega), ?_⟩
      rintro l3 rfl
      rw [nn_cl (by omega), y2 t (Nat.le_refl t) (by omega), nl_add, la_nx]
      refine ih (t + 1) _ (by omega) (fr_u f2 (by omega)) (fun u hu => ?_) (fun u hu hu3 => ?_)
      · by_cases e : u = t
        · rw [e]
          exact uu_e
        · rw [uu_j e]
          exact z2 u (by omega)
      · rw [uu_j (by omega)]
        exact y2 u (by omega) hu3
theorem tu_53 {A : mA_} {m v s : Nat} (hW : mt_W A) (hp : 0 < aV_ A) (hm : ab_isM m) (hd : dd 160 0 = .ref m) (hd2 : dd 169 1 = .ref m) (hv : v < aV_ A) (hs : s < aS_ A v) {i0 : Nat → Nat → Int32} {l0 : Nat → Nat → Int64} (hK : mt_K A m i0) (hR : rw_R (aV_ A) (tu_cv A v s) i0) {Q : ab_Qt} (hQ : ∀ i2 l2, rw_g i0 i2 → tu_h l0 l2 → (∀ t, t < 3 → l2 171 t = Int64.ofNat (pu_n (aS_ A) (aV_ A) (cs_tu A v s t))) → Q (some none) (i2, l2, dd, x) (ab_E0 sc)) :
    ∀ (n k : Nat) (i2 : Nat → Nat → Int32) (l2 : Nat → Nat → Int64), mt_rad (rw_N (tu_cv A v s)) (aV_ A) = k + n → rw_g i0 i2 → tu_h l0 l2 → (0 < n → rw_s A (tu_cv A v s) (pu_d (rw_N (tu_cv A v s)) (aV_ A) k) i2 l2) → (∀ t, t < 3 → l2 171 t = Int64.ofNat (tu_pt A v s t k)) → ab_Fr MX3_countTurns (d + 4) Q 53 [some (.ref 169), none, some (.int (Int32.ofNat v)), none, some (.int (Int32.ofNat (mt_rad (rw_N (tu_cv A v s)) (aV_ A)))), some (.int (Int32.ofNat k)), none] [] (0, 0) (i2, l2, dd, x) (ab_E0 sc) := by
  intro n
  have hc := tu_cb (v := v) (s := s) hW
  have hcnt := (rw_cnt hW hc (aV_ A) (Nat.le_refl _)).2
  induction n with
  | zero =>
    intro k i2 l2 hk g2 h2 s2 z2
    refine tMX3_countTurns_53 (d := d + 3) ⟨fun _ => hQ i2 l2 g2 h2 (fun t ht => ?_), fun c => ?_⟩
    · rw [z2 t ht, show k = mt_rad (rw_N (tu_cv A v s)) (aV_ A) by omega, tu_all hW hv hs]
    · simp (disch := omega) only [↓nn_m3, nn_p0, nn_p1, nn_p2, nn_p3, nn_p4, nn_p5, nn_p6, nn_p7, nn_p8, nn_p9, nn_p10, nn_p20, nn_p21, nn_le, nn_lt, nn_eq, nn_cl, nn_in, nn_add, nn_mul, nn_en, nn_ne, nn_mn, nn_64] at c
      omega
  | succ n ih =>
    intro k i2 l2 hk g2 h2 s2 z2
    have s2 := s2 (by omega)
    have hb := rw_dlt (A := A) hc (k := k)
    have hK2 := mt_K_o hm hK (rw_g_o g2) (by omega) hW
    have h9 := rw_b9_c hc hb
    have hb9 := tu_b9 hb hv
    refine tMX3_countTurns_53 (d := d + 3) ⟨fun c => ?_, fun _ => ⟨_, _, mt_turnsNow (d := d) hW hp hm hd hd2 hK2 s2 h9 hv hb9, ?_⟩⟩
    · simp (disch := omega) only [↓nn_m3, nn_p0, nn_p1, nn_p2, nn_p3, nn_p4, nn_p5, nn_p6, nn_p7, nn_p8, nn_p9, nn_p10, nn_p20, nn_p21, nn_le, nn_lt, nn_eq, nn_cl, nn_in, nn_add, nn_mul, nn_en, nn_ne, nn_mn, nn_64] at c
      omega
    · rintro i6 l7 dd8 x9 ⟨i3, ⟨⟩, f3⟩
      have g3 := rw_g_t g2 (rw_g_8 f3)
      have hK3 := mt_K_o hm hK (rw_g_o g3) (by omega) hW
      have s3 := rw_s_8 s2 f3
      have fin : ∀ l4, fr_o 171 171 l2 l4 → (∀ t, t < 3 → l4 171 t = Int64.ofNat (tu_pt A v s t (k + 1))) → ab_Fr MX3_countTurns (d + 4) Q 102 [some (.ref 169), none, some (.int (Int32.ofNat v)), none, some (.int (Int32.ofNat (mt_rad (rw_N (tu_cv A v s)) (aV_ A)))), some (.int (Int32.ofNat k)), none] [] (0, 0) (i6, l4, dd, x) (ab_E0 sc) := by
        intro l4 f4 z4
        refine tMX3_countTurns_102 (d := d + 3) ⟨_, rw_step (d := d + 1) hW hp hm hd hK3 (rw_R_g hR g3) hc (rw_s_l s3 (f4 165 (by omega))) hb, ?_⟩
        rintro i24 l25 dd26 x27 ⟨i5, l5, ⟨⟩, f5, g5, s5⟩
        rw [la_nx]
        refine ih (k + 1) _ _ (by omega) (rw_g_t g3 (rw_g_f f5)) (fun q a b => (g5 q (by omega)).trans ((f4 q (by omega)).trans (h2 q a b))) (fun hr => ?_) (fun t ht => ?_)
        · rw [← pu_ds (N := rw_N (tu_cv A v s)) (i := k) (fun v hv => (hc v hv).1.1) (by omega)]
          exact s5
        · rw [g5 171 (by omega)]
          exact z4 t ht
      have hpt : ∀ t, tu_pt A v s t (k + 1) = tu_pt A v s t k + cs_tn A v (rw_b (tu_cv A v s) (pu_d (rw_N (tu_cv A v s)) (aV_ A) k)) * rw_p A (tu_cv A v s) (pu_d (rw_N (tu_cv A v s)) (aV_ A) k) (aV_ A) t := fun t => rfl
      rcases (show cs_tn A v (rw_b (tu_cv A v s) (pu_d (rw_N (tu_cv A v s)) (aV_ A) k)) = 0 ∨ cs_tn A v (rw_b (tu_cv A v s) (pu_d (rw_N (tu_cv A v s)) (aV_ A) k)) = 1 from by
        unfold cs_tn
        split
        · exact Or.inl rfl
        · exact Or.inr rfl) with c | c
      · rw [c]
        refine ⟨fun _ => fin l2 fr_r (fun t ht => ?_), fun z => absurd rfl z⟩
        rw [hpt, c, Nat.zero_mul, Nat.add_zero]
        exact z2 t ht
      · rw [c]
        refine ⟨fun z => absurd z (by decide), fun _ => ?_⟩
        refine tu_71 (d := d + 2) (l0 := l2) hW hm hd hK3 s3 z2 (fun l4 f4 z4 => fin l4 f4 (fun t ht => ?_)) 3 0 l2 (by omega) fr_r (fun u hu => absurd hu (Nat.not_lt_zero u)) (fun u _ hu => z2 u hu)
        rw [hpt, c, Nat.one_mul]
        exact z4 t ht
theorem mt_countTurns {A : mA_} {m v s : Nat} (hW : mt_W A) (hm : ab_isM m) (hK : mt_K A m i) (hv : v < aV_ A) (hs : s < aS_ A v) : ab_Sp MX3_countTurns (d + 4) [.ref 169, .ref m, .int (Int32.ofNat v), .int (Int32.ofNat s)] (i, l, dd, x) (ab_E0 sc) none (fun σ => ∃ i2 l2, σ = (i2, l2, ab_u (ab_u dd 169 1 (.ref m)) 160 0 (.ref m), x) ∧ kp_i i i2 ∧ kp_l l l2 ∧ ∀ t, t < 3 → l2 171 t = Int64.ofNat (pu_n (aS_ A) (aV_ A) (cs_tu A v s t))) := by
  have hp : 0 < aV_ A := by omega
  refine ab_ent (n := 3) okMX3_countTurns.1 (fun G => Nat.le_of_ble_eq_true rfl) (fun Q hQ => ?_)
  refine tMX3_countTurns_0 (d := d + 3) hm ?_
  rintro dd1 rfl
  refine ⟨_, mt_emptyL (d := d + 2) (a := 171) (n := 3) rfl (by omega), ?_⟩
  rintro i5 l6 dd7 x8 ⟨l2, ⟨⟩, f2, z2⟩
  refine ⟨m, uu_e, hm, _, mt_votedT (d := d) hW hm hK, ?_⟩
  rintro i5 l7 dd7 x8 ⟨i2, ⟨⟩, k2, R2⟩
  have c2 := gr_cb hW (mt_O9 hW)
  refine ⟨_, mt_pin (d := d) (vote := 9) hW hm uu_e (mt_K_kp hW hm hK k2) hv hs (Nat.le_refl 9) R2 (fun u hu => (c2 u hu).1.2), ?_⟩
  rintro i5 l7 dd7 x8 ⟨i3, ⟨⟩, f3, R3⟩
  have k3 := kp_it k2 (kp_fo f3 kp_c14)
  refine ⟨_, _, rw_first (d := d + 1) (cv := tu_cv A v s) hW hm uu_e (mt_K_kp hW hm hK k3) R3 (tu_cb hW), ?_⟩
  rintro i5 l8 dd7 x8 ⟨i4, l4, ⟨⟩, f4, g4, s4⟩
  have k4 := kp_it k3 (kp_g (rw_g_f f4))
  refine tu_53 (d := d) (i0 := i5) (l0 := l8) hW hp hm uu_e (by rw [uu_k (by decide)]; exact uu_e) hv hs (mt_K_kp hW hm hK k4) (rw_R_r R3 f4) ?_ _ 0 _ _ (Nat.zero_add _).symm rw_g_r (fun _ _ _ => rfl) (fun _ => by rw [pu_d0]; exact s4) (fun t ht => by rw [g4 171 (by omega), z2 t (by omega)]; rfl)
  intro i6 l9 g6 h6 z6
  refine hQ _ ⟨_, _, rfl, kp_it k4 (kp_g g6), kp_lc (fun k hk => ?_), z6⟩
  have h1 := kp_ne hk 165 rfl
  have h2 := kp_ne hk 171 rfl
  exact (h6 k h1 h2).trans ((g4 k (by omega)).trans (f2 k (by omega)))
theorem md_td6 {A : mA_} {v s t : Nat} (hW : mt_W A) (hp : 0 < aV_ A) {i0 : Nat → Nat → Int32} (hM : mt_M A i0 l) (hv : v < aV_ A) (hs : s < aS_ A v) (ht : t < aT_ A) {Q : ab_Qt} (hQ : ∀ i2, fr_o 226 227 i0 i2 → Q (some (some (.long (Int64.ofNat (pu_n (aS_ A) (aV_ A) (cs_tu A v s t)))))) (i2, l, dd, x) (ab_E0 sc)) :
    ∀ (n r : Nat) (i2 : Nat → Nat → Int32), mt_rad (aS_ A) (aV_ A) = r + n → fr_o 226 227 i0 i2 → ab_Fr MX12_turned (d + 4) Q 6 [some (.ref 205), some (.int (Int32.ofNat v)), some (.int (Int32.ofNat s)), some (.int (Int32.ofNat t)), some (.long (Int64.ofNat (pu_s (fun r => cs_tu A v s t (pu_g (aS_ A) (aV_ A) r)) r))), none, some (.int (Int32.ofNat r))] [] (0, 0) (i2, l, dd, x) (ab_E0 sc) := by
  intro n
  have hR := (mt_rows hW).1
  have w1 := hW.1
  have hS := hW.2.2.2.2.2.2.1 v hv
  induction n with
  | zero =>
    intro r i2 hr f2
    have r3 := (mt_M_f hM f2 (by omega) hW).1.2.2
    refine tMX12_turned_6 (d := d + 3) ⟨fun _ => ?_, fun c => ?_⟩
    · rw [show r = mt_rad (aS_ A) (aV_ A) by omega, cs_rows (G := cs_tu A v s t) hW]
      exact hQ i2 f2
    · simp (disch := omega) only [r3, ↓nn_m3, nn_p0, nn_p1, nn_p2, nn_p3, nn_p4, nn_p5, nn_p6, nn_p7, nn_p8, nn_p9, nn_p10, nn_p20, nn_p21, nn_le, nn_lt, nn_eq, nn_cl, nn_in, nn_add, nn_mul, nn_en, nn_ne, nn_mn, nn_64] at c
      omega
  | succ n ih =>
    intro r i2 hr f2
    have hM2 := mt_M_f hM f2 (by omega) hW
    have r3 := hM2.1.2.2 (by omega)
    have hgl := (pu_gt (S := aS_ A) (k := aV_ A) (r := r) (fun v hv => by have := (hW.2.2.2.2.2.2.1 v hv).1; omega)).1 v hv
    have ess : ∀ z, cs_tu A v s t (pu_g (aS_ A) (aV_ A) r) = z → pu_s (fun r => cs_tu A v s t (pu_g (aS_ A) (aV_ A) r)) (r + 1) = pu_s (fun r => cs_tu A v s t (pu_g (aS_ A) (aV_ A) r)) r + z := fun z hz => by rw [← hz]; rfl
    refine tMX12_turned_6 (d := d + 3) ⟨fun c => ?_, fun _ => ⟨_, _, mt_sg (d := d + 2) hW hM2 hv (by omega), ?_⟩⟩
    · simp (disch := omega) only [r3, ↓nn_m3, nn_p0, nn_p1, nn_p2, nn_p3, nn_p4, nn_p5, nn_p6, nn_p7, nn_p8, nn_p9, nn_p10, nn_p20, nn_p21, nn_le, nn_lt, nn_eq, nn_cl, nn_in, nn_add, nn_mul, nn_en, nn_ne, nn_mn, nn_64] at c
      omega
    · rintro i6 l7 dd8 x9 ⟨⟩
      rw [la_nx, nn_eq (by omega) (by omega)]
      refine ⟨fun c => ?_, fun c => ⟨_, _, md_isTurned (d := d) hW hp hM2 hv (by omega), ?_⟩⟩
      · have ih2 := ih (r + 1) _ (by omega) f2
        rw [ess 0 (if_neg c)] at ih2
        exact ih2
      · rintro i6 l7 dd8 x9 ⟨i3, ⟨⟩, f3⟩
        have ih2 := ih (r + 1) _ (by omega) (fr_t f2 f3)
        have ec : cs_tu A v s t (pu_g (aS_ A) (aV_ A) r) = cs_tn A v (fun w => aO_ A w (pu_g (aS_ A) (aV_ A) r w)) * mt_pa A (pu_g (aS_ A) (aV_ A) r) t := if_pos c
        have e12 := (mt_M_f hM2 f3 (by omega) hW).2.2.2.2.2.2.2 r t (by omega) ht
        rcases (show cs_tn A v (fun w => aO_ A w (pu_g (aS_ A) (aV_ A) r w)) = 0 ∨ cs_tn A v (fun w => aO_ A w (pu_g (aS_ A) (aV_ A) r w)) = 1 from by
          unfold cs_tn
          split
          · exact Or.inl rfl
          · exact Or.inr rfl) with c2 | c2
        · rw [ess 0 (by rw [ec, c2, Nat.zero_mul])] at ih2
          rw [c2]
          exact ⟨fun _ => ih2, fun z => absurd rfl z⟩
        · rw [ess (mt_pa A (pu_g (aS_ A) (aV_ A) r) t) (by rw [ec, c2, Nat.one_mul])] at ih2
          rw [c2]
          refine ⟨fun z => absurd z (by decide), fun _ => ?_⟩
          simp (disch := omega) only [e12, ↓nn_m3, nn_p0, nn_p1, nn_p2, nn_p3, nn_p4, nn_p5, nn_p6, nn_p7, nn_p8, nn_p9, nn_p10, nn_p20, nn_p21, nn_le, nn_lt, nn_eq, nn_cl, nn_in, nn_add, nn_mul, nn_en, nn_ne, nn_mn, nn_64, nl_p0, nl_p1, nl_p20, nl_add, nl_mul]
          exact ⟨trivial, ih2⟩
theorem md_turned {A : mA_} {v s t : Nat} (hW : mt_W A) (hM : mt_M A i l) (hv : v < aV_ A) (hs : s < aS_ A v) (ht : t < aT_ A) : ab_Sp MX12_turned (d + 4) [.ref 205, .int (Int32.ofNat v), .int (Int32.ofNat s), .int (Int32.ofNat t)] (i, l, dd, x) (ab_E0 sc) (some (.long (Int64.ofNat (pu_n (aS_ A) (aV_ A) (cs_tu A v s t))))) (fun σ => ∃ i2, σ = (i2, l, dd, x) ∧ fr_o 226 227 i i2) := by
  refine ab_ent (n := 3) okMX12_turned.1 (fun G => Nat.le_of_ble_eq_true rfl) (fun Q hQ => ?_)
  exact tMX12_turned_0 (d := d + 3) (md_td6 (i0 := i) hW (by omega) hM hv hs ht (fun i2 f2 => hQ _ ⟨i2, rfl, f2⟩) _ 0 i (Nat.zero_add _).symm fr_r)
end TQA2
