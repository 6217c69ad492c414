section TQL
variable {d : Nat} {sc : Nat × (Nat → Int32)} {i : Nat → Nat → Int32} {l : Nat → Nat → Int64} {dd : Nat → Nat → Value} {x : Nat}
def rw_h (a : Nat) (l l2 : Nat → Nat → Int64) : Prop := ∀ k, k ≠ 165 → k ≠ a → l2 k = l k
theorem rw_h_t {a : Nat} {l2 l3 : Nat → Nat → Int64} (h1 : rw_h a l l2) (h2 : rw_h a l2 l3) : rw_h a l l3 := fun k p q => (h2 k p q).trans (h1 k p q)
theorem rw_h_a {a : Nat} {l2 : Nat → Nat → Int64} (h : fr_o a a l l2) : rw_h a l l2 := fun k _ q => h k (by omega)
theorem rw_h_5 {a : Nat} {l2 : Nat → Nat → Int64} (h : fr_o 165 165 l l2) : rw_h a l l2 := fun k q _ => h k (by omega)
/-- the sum over the first rows, then over all -/
def rw_pt (A : mA_) (cv : Nat → mC_) (e : (Nat → Nat) → Nat) (k t u : Nat) : Nat := pu_s (fun j => if e (pu_d (rw_N cv) (aV_ A) j) = u then rw_p A cv (pu_d (rw_N cv) (aV_ A) j) (aV_ A) t else 0) k
def rw_sum (A : mA_) (cv : Nat → mC_) (e : (Nat → Nat) → Nat) (t u : Nat) : Nat := pu_n (rw_N cv) (aV_ A) (fun b => if e b = u then rw_p A cv b (aV_ A) t else 0)
theorem rw_pt_all {A : mA_} {cv : Nat → mC_} {e : (Nat → Nat) → Nat} {t u : Nat} (hc : rw_cb A cv) : rw_pt A cv e (mt_rad (rw_N cv) (aV_ A)) t u = rw_sum A cv e t u :=
  pu_dn (G := fun b => if e b = u then rw_p A cv b (aV_ A) t else 0) (fun v hv => (hc v hv).1.1)
theorem rw_dlt {A : mA_} {cv : Nat → mC_} (hc : rw_cb A cv) {k : Nat} : ∀ v, v < aV_ A → pu_d (rw_N cv) (aV_ A) k v < (cv v).1 := fun v hv => (pu_dt (N := rw_N cv) (k := aV_ A) (i := k) (fun u hu => (hc u hu).1.1)).1 v hv
theorem rw_su11 {A : mA_} {m a n : Nat} {cv : Nat → mC_} (hW : mt_W A) (hp : 0 < aV_ A) (hm : ab_isM m) (hd : dd 160 0 = .ref m) (hc : rw_cb A cv) (hk : (ab_E0 sc).1 a = .inr (1, n)) (hn : 9 ≤ n ∧ n < 2 ^ 31) (ha : a ≠ 165) {i0 : Nat → Nat → Int32} {l0 : Nat → Nat → Int64} (hK : mt_K A m i0) (hR : rw_R (aV_ A) cv i0) {Q : ab_Qt} (hQ : ∀ i2 l2, rw_g i0 i2 → rw_h a l0 l2 → (∀ t u, t < 3 → u < 3 → l2 a (3 * t + u) = Int64.ofNat (rw_sum A cv (rw_db A cv) t u)) → Q (some none) (i2, l2, dd, x) (ab_E0 sc)) :
    ∀ (r k : Nat) (i2 : Nat → Nat → Int32) (l2 : Nat → Nat → Int64), mt_rad (rw_N cv) (aV_ A) = k + r → rw_g i0 i2 → rw_h a l0 l2 → (0 < r → rw_s A cv (pu_d (rw_N cv) (aV_ A) k) i2 l2) → (∀ t u, t < 3 → u < 3 → l2 a (3 * t + u) = Int64.ofNat (rw_pt A cv (rw_db A cv) k t u)) → ab_Fr MX4_sumUp (d + 3) Q 11 [some (.ref 160), some (.ref a), some (.int (Int32.ofNat (mt_rad (rw_N cv) (aV_ A)))), some (.int (Int32.ofNat k))] [] (0, 0) (i2, l2, dd, x) (ab_E0 sc) := by
  intro r
  have hcnt := (rw_cnt hW hc (aV_ A) (Nat.le_refl _)).2
  induction r with
  | zero =>
    intro k i2 l2 hk2 g2 h2 s2 z2
    have e : k = mt_rad (rw_N cv) (aV_ A) := by omega
    refine tMX4_sumUp_11 (d := d + 2) hk ⟨fun _ => hQ i2 l2 g2 h2 (fun t u ht hu => ?_), fun c => ?_⟩
    · rw [z2 t u ht hu, e, rw_pt_all hc]
    · simp (disch := omega) only [↓nn_m3, nn_p0, nn_p1, nn_p2, nn_p3, nn_p4, nn_p5, nn_p6, nn_p7, nn_p8, nn_p9, nn_p10, nn_p20, nn_p21, nn_le, nn_lt, nn_eq, nn_cl, nn_in, nn_add, nn_mul, nn_en, nn_ne, nn_mn, nn_64] at c
      omega
  | succ r ih =>
    intro k i2 l2 hk2 g2 h2 s2 z2
    have s2 := s2 (by omega)
    have hb := rw_dlt (A := A) hc (k := k)
    have hK2 := mt_K_o hm hK (rw_g_o g2) (by omega) hW
    have hlt : rw_db A cv (pu_d (rw_N cv) (aV_ A) k) < 3 := by
      have := mt_dt_lt (f := fun t => mt_tl (aW_ A) (rw_b cv (pu_d (rw_N cv) (aV_ A) k)) t (aV_ A)) (ch := if aH_ A = 7 then 9 else rw_b cv (pu_d (rw_N cv) (aV_ A) k) (aH_ A)) hW hp
      have w1 := hW.1
      exact Nat.lt_of_lt_of_le this w1
    refine tMX4_sumUp_11 (d := d + 2) hk ⟨fun c => ?_, fun _ => ⟨_, _, rw_dec (d := d) hW hp hm hd hK2 s2 (rw_b9_c hc hb), ?_⟩⟩
    · simp (disch := omega) only [↓nn_m3, nn_p0, nn_p1, nn_p2, nn_p3, nn_p4, nn_p5, nn_p6, nn_p7, nn_p8, nn_p9, nn_p10, nn_p20, nn_p21, nn_le, nn_lt, nn_eq, nn_cl, nn_in, nn_add, nn_mul, nn_en, nn_ne, nn_mn, nn_64] at c
      omega
    · rintro i6 l7 dd8 x9 ⟨i3, ⟨⟩, f3⟩
      have g3 := rw_g_t g2 (rw_g_8 f3)
      have hK3 := mt_K_o hm hK (rw_g_o g3) (by omega) hW
      refine ⟨_, rw_addRow (d := d) hW hm hd hK3 hk hn ha (rw_s_8 s2 f3) hlt z2, ?_⟩
      rintro i15 l16 dd17 x18 ⟨l4, ⟨⟩, f4, z4⟩
      refine ⟨_, rw_step (d := d) hW hp hm hd hK3 (rw_R_g hR g3) hc (rw_s_l (rw_s_8 s2 f3) (f4 165 (by omega))) hb, ?_⟩
      rintro i24 l25 dd26 x27 ⟨i5, l5, ⟨⟩, f5, g5, s5⟩
      rw [la_nx]
      refine ih (k + 1) _ _ (by omega) (rw_g_t g3 (rw_g_f f5)) (rw_h_t h2 (rw_h_t (rw_h_a f4) (rw_h_5 g5))) (fun hr => ?_) (fun t u ht hu => ?_)
      · rw [← pu_ds (N := rw_N cv) (i := k) (fun v hv => (hc v hv).1.1) (by omega)]
        exact s5
      · rw [g5 a (by omega), z4 t u ht hu]
        rfl
theorem rw_sumUp {A : mA_} {m a n : Nat} {cv : Nat → mC_} (hW : mt_W A) (hp : 0 < aV_ A) (hm : ab_isM m) (hd : dd 160 0 = .ref m) (hc : rw_cb A cv) (hk : (ab_E0 sc).1 a = .inr (1, n)) (hn : 9 ≤ n ∧ n < 2 ^ 31) (ha : a ≠ 165) (hK : mt_K A m i) (hR : rw_R (aV_ A) cv i) : ab_Sp MX4_sumUp (d + 3) [.ref 160, .ref a] (i, l, dd, x) (ab_E0 sc) none (fun σ => ∃ i2 l2, σ = (i2, l2, dd, x) ∧ rw_g i i2 ∧ rw_h a l l2 ∧ ∀ t u, t < 3 → u < 3 → l2 a (3 * t + u) = Int64.ofNat (rw_sum A cv (rw_db A cv) t u)) := by
  refine ab_ent (n := 1) okMX4_sumUp.1 (fun G => Nat.le_of_ble_eq_true rfl) (fun Q hQ => ?_)
  refine tMX4_sumUp_0 (d := d + 2) hk ⟨_, mt_emptyL (d := d + 1) hk hn.2, ?_⟩
  rintro i5 l6 dd7 x8 ⟨l2, ⟨⟩, f2, z2⟩
  refine ⟨_, _, rw_first (d := d) hW hm hd hK hR hc, ?_⟩
  rintro i14 l15 dd16 x17 ⟨i3, l3, ⟨⟩, f3, g3, s3⟩
  refine rw_su11 (i0 := i) (l0 := l) hW hp hm hd hc hk hn ha hK hR ?_ (mt_rad (rw_N cv) (aV_ A)) 0 _ _ (by omega) (rw_g_f f3) (rw_h_t (rw_h_a f2) (rw_h_5 g3)) (fun _ => by rw [pu_d0]; exact s3) (fun t u ht hu => by rw [g3 a (by omega), z2 _ (by omega)]; rfl)
  intro i4 l4 g4 h4 z4
  exact hQ _ ⟨i4, l4, rfl, g4, h4, z4⟩
/-- the truth that loses least in the row now -/
def rw_be (A : mA_) (cv : Nat → mC_) (b : Nat → Nat) : Nat := mt_li (mt_f (fun t => rw_p A cv b (aV_ A) t) (aK_ A 7)) (aT_ A - 1)
theorem mt_KLo {A : mA_} {m : Nat} (hW : mt_W A) (hK : mt_K A m i) : mt_Lo i (m + 2) (aK_ A 7) := fun t e ht he => ⟨hK.2.2.2.1 t e ht he, hW.2.2.2.2.2.2.2.2.2.1 7 t e⟩
theorem rw_sb11 {A : mA_} {m a n : Nat} {cv : Nat → mC_} (hW : mt_W A) (hp : 0 < aV_ A) (hm : ab_isM m) (hd : dd 160 0 = .ref m) (hc : rw_cb A cv) (hk : (ab_E0 sc).1 a = .inr (1, n)) (hn : 9 ≤ n ∧ n < 2 ^ 31) (ha : a ≠ 165) {i0 : Nat → Nat → Int32} {l0 : Nat → Nat → Int64} (hK : mt_K A m i0) (hR : rw_R (aV_ A) cv i0) {Q : ab_Qt} (hQ : ∀ i2 l2, rw_g i0 i2 → rw_h a l0 l2 → (∀ t u, t < 3 → u < 3 → l2 a (3 * t + u) = Int64.ofNat (rw_sum A cv (rw_be A cv) t u)) → Q (some none) (i2, l2, dd, x) (ab_E0 sc)) :
    ∀ (r k : Nat) (i2 : Nat → Nat → Int32) (l2 : Nat → Nat → Int64), mt_rad (rw_N cv) (aV_ A) = k + r → rw_g i0 i2 → rw_h a l0 l2 → (0 < r → rw_s A cv (pu_d (rw_N cv) (aV_ A) k) i2 l2) → (∀ t u, t < 3 → u < 3 → l2 a (3 * t + u) = Int64.ofNat (rw_pt A cv (rw_be A cv) k t u)) → ab_Fr MX4_sumUpBest (d + 3) Q 11 [some (.ref 160), some (.ref a), some (.int (Int32.ofNat (mt_rad (rw_N cv) (aV_ A)))), some (.int (Int32.ofNat k))] [] (0, 0) (i2, l2, dd, x) (ab_E0 sc) := by
  intro r
  have hcnt := (rw_cnt hW hc (aV_ A) (Nat.le_refl _)).2
  have w1 := hW.1
  have w2 := hW.2.1
  have w4 := hW.2.2.2.1 hp
  induction r with
  | zero =>
    intro k i2 l2 hk2 g2 h2 s2 z2
    have e : k = mt_rad (rw_N cv) (aV_ A) := by omega
    refine tMX4_sumUpBest_11 (d := d + 2) hk ⟨fun _ => hQ i2 l2 g2 h2 (fun t u ht hu => ?_), fun c => ?_⟩
    · rw [z2 t u ht hu, e, rw_pt_all hc]
    · simp (disch := omega) only [↓nn_m3, nn_p0, nn_p1, nn_p2, nn_p3, nn_p4, nn_p5, nn_p6, nn_p7, nn_p8, nn_p9, nn_p10, nn_p20, nn_p21, nn_le, nn_lt, nn_eq, nn_cl, nn_in, nn_add, nn_mul, nn_en, nn_ne, nn_mn, nn_64] at c
      omega
  | succ r ih =>
    intro k i2 l2 hk2 g2 h2 s2 z2
    have s2 := s2 (by omega)
    have hb := rw_dlt (A := A) hc (k := k)
    have hK2 := mt_K_o hm hK (rw_g_o g2) (by omega) hW
    have hlt : rw_be A cv (pu_d (rw_N cv) (aV_ A) k) < 3 := by
      have := mt_li_le (f := mt_f (fun t => rw_p A cv (pu_d (rw_N cv) (aV_ A) k) (aV_ A) t) (aK_ A 7)) (aT_ A - 1)
      show mt_li _ _ < 3
      omega
    refine tMX4_sumUpBest_11 (d := d + 2) hk ⟨fun c => ?_, fun _ => ⟨m, hd, hm, ?_⟩⟩
    · simp (disch := omega) only [↓nn_m3, nn_p0, nn_p1, nn_p2, nn_p3, nn_p4, nn_p5, nn_p6, nn_p7, nn_p8, nn_p9, nn_p10, nn_p20, nn_p21, nn_le, nn_lt, nn_eq, nn_cl, nn_in, nn_add, nn_mul, nn_en, nn_ne, nn_mn, nn_64] at c
      omega
    · rw [hK2.1.1, hK2.1.2, nn_m3, nn_mul]
      refine ⟨_, _, mt_leastOf (d := d) (P := fun t => rw_p A cv (pu_d (rw_N cv) (aV_ A) k) (aV_ A) t) (K := aK_ A 7) (Or.inl ⟨m, hm, rfl⟩) rfl (mt_KLo hW hK2) (fun t ht => (s2.2.1 (aV_ A) t (Nat.le_refl _) ht).1) (by omega) (by omega), ?_⟩
      rintro i6 l7 dd8 x9 ⟨⟩
      refine ⟨_, rw_addRow (d := d) hW hm hd hK2 hk hn ha s2 hlt z2, ?_⟩
      rintro i15 l16 dd17 x18 ⟨l4, ⟨⟩, f4, z4⟩
      refine ⟨_, rw_step (d := d) hW hp hm hd hK2 (rw_R_g hR g2) hc (rw_s_l s2 (f4 165 (by omega))) hb, ?_⟩
      rintro i24 l25 dd26 x27 ⟨i5, l5, ⟨⟩, f5, g5, s5⟩
      rw [la_nx]
      refine ih (k + 1) _ _ (by omega) (rw_g_t g2 (rw_g_f f5)) (rw_h_t h2 (rw_h_t (rw_h_a f4) (rw_h_5 g5))) (fun hr => ?_) (fun t u ht hu => ?_)
      · rw [← pu_ds (N := rw_N cv) (i := k) (fun v hv => (hc v hv).1.1) (by omega)]
        exact s5
      · rw [g5 a (by omega), z4 t u ht hu]
        rfl
theorem rw_sumBest {A : mA_} {m a n : Nat} {cv : Nat → mC_} (hW : mt_W A) (hp : 0 < aV_ A) (hm : ab_isM m) (hd : dd 160 0 = .ref m) (hc : rw_cb A cv) (hk : (ab_E0 sc).1 a = .inr (1, n)) (hn : 9 ≤ n ∧ n < 2 ^ 31) (ha : a ≠ 165) (hK : mt_K A m i) (hR : rw_R (aV_ A) cv i) : ab_Sp MX4_sumUpBest (d + 3) [.ref 160, .ref a] (i, l, dd, x) (ab_E0 sc) none (fun σ => ∃ i2 l2, σ = (i2, l2, dd, x) ∧ rw_g i i2 ∧ rw_h a l l2 ∧ ∀ t u, t < 3 → u < 3 → l2 a (3 * t + u) = Int64.ofNat (rw_sum A cv (rw_be A cv) t u)) := by
  refine ab_ent (n := 1) okMX4_sumUpBest.1 (fun G => Nat.le_of_ble_eq_true rfl) (fun Q hQ => ?_)
  refine tMX4_sumUpBest_0 (d := d + 2) hk ⟨_, mt_emptyL (d := d + 1) hk hn.2, ?_⟩
  rintro i5 l6 dd7 x8 ⟨l2, ⟨⟩, f2, z2⟩
  refine ⟨_, _, rw_first (d := d) hW hm hd hK hR hc, ?_⟩
  rintro i14 l15 dd16 x17 ⟨i3, l3, ⟨⟩, f3, g3, s3⟩
  refine rw_sb11 (i0 := i) (l0 := l) hW hp hm hd hc hk hn ha hK hR ?_ (mt_rad (rw_N cv) (aV_ A)) 0 _ _ (by omega) (rw_g_f f3) (rw_h_t (rw_h_a f2) (rw_h_5 g3)) (fun _ => by rw [pu_d0]; exact s3) (fun t u ht hu => by rw [g3 a (by omega), z2 _ (by omega)]; rfl)
  intro i4 l4 g4 h4 z4
  exact hQ _ ⟨i4, l4, rfl, g4, h4, z4⟩
end TQL
