section TQI
variable {d : Nat} {sc : Nat × (Nat → Int32)} {i : Nat → Nat → Int32} {l : Nat → Nat → Int64} {dd : Nat → Nat → Value} {x : Nat}
theorem pu_pc {c : Nat} {f g : Nat → Nat} : ∀ k, (∀ v, v < k → f v = g v) → pu_p c f k = pu_p c g k := by
  intro k
  induction k with
  | zero => intro _; rfl
  | succ k ih =>
    intro h
    show pu_p c f k * f k = pu_p c g k * g k
    rw [ih (fun v hv => h v (by omega)), h k (by omega)]
theorem rw_q_c {A : mA_} {cv : Nat → mC_} {b c : Nat → Nat} {k K : Nat} (h : ∀ u, u < k → c u = b u) (hk : k ≤ K) (hq : rw_q A cv b K i l) : rw_q A cv c k i l := by
  refine ⟨fun v t hv ht => ?_, fun v hv => ?_⟩
  · obtain ⟨h1, h2⟩ := hq.1 v t (by omega) ht
    refine ⟨h1.trans ?_, h2.trans ?_⟩
    · unfold rw_p
      exact congrArg Int64.ofNat (pu_pc v (fun u hu => congrArg (fun z => (cv u).2.2 z t) (h u (by omega)).symm))
    · unfold rw_w
      exact congrArg Int32.ofNat (mt_tl_c (fun u hu => by unfold rw_b; rw [h u (by omega)]))
  · rw [hq.2 v (by omega)]
    unfold rw_b
    rw [h v hv]
/-- cells that rows write: taken, parts, weights, row -/
def rw_f (i i2 : Nat → Nat → Int32) : Prop := ∀ k, k ≠ 162 → k ≠ 166 → k ≠ 167 → i2 k = i k
theorem rw_f_t {i2 i3 : Nat → Nat → Int32} (h1 : rw_f i i2) (h2 : rw_f i2 i3) : rw_f i i3 := fun k a b c => (h2 k a b c).trans (h1 k a b c)
theorem rw_f_o {i2 : Nat → Nat → Int32} (h : fr_o 166 167 i i2) : rw_f i i2 := fun k _ b c => h k (by omega)
theorem rw_f_2 {i2 : Nat → Nat → Int32} (h : fr_o 162 162 i i2) : rw_f i i2 := fun k a _ _ => h k (by omega)
theorem rw_f_w {i2 : Nat → Nat → Int32} (h : rw_f i i2) : fr_o 162 167 i i2 := fun k hk => h k (by omega) (by omega) (by omega)
theorem rw_R_r {V : Nat} {cv : Nat → mC_} {i2 : Nat → Nat → Int32} (h : rw_R V cv i) (hf : rw_f i i2) : rw_R V cv i2 := rw_R_f h (hf 161 (by decide) (by decide) (by decide)) (hf 163 (by decide) (by decide) (by decide)) (hf 164 (by decide) (by decide) (by decide))
def rw_N (cv : Nat → mC_) : Nat → Nat := fun v => (cv v).1
/-- the row now is b -/
def rw_s (A : mA_) (cv : Nat → mC_) (b : Nat → Nat) (i : Nat → Nat → Int32) (l : Nat → Nat → Int64) : Prop := rw_k (aV_ A) b i ∧ rw_q A cv b (aV_ A) i l
theorem rw_cnt {A : mA_} {cv : Nat → mC_} (hW : mt_W A) (hc : rw_cb A cv) : ∀ v, v ≤ aV_ A → 0 < mt_rad (rw_N cv) v ∧ mt_rad (rw_N cv) v ≤ 2187 := fun v hv => by
  have h1 := mt_rad_le (S := rw_N cv) v (fun u hu => (hc u (by omega)).1.2)
  have h0 := mt_rad_pos (S := rw_N cv) v (fun u hu => (hc u (by omega)).1.1)
  have w2 := hW.2.1
  have h2 : (3 : Nat) ^ v ≤ 3 ^ 7 := Nat.pow_le_pow_right (by omega) (by omega)
  have h4 : (3 : Nat) ^ 7 = 2187 := rfl
  exact ⟨h0, by omega⟩
theorem rw_fi39 {A : mA_} {m : Nat} {cv : Nat → mC_} {r0 : Int32} {i0 : Nat → Nat → Int32} {l0 : Nat → Nat → Int64} (hW : mt_W A) (hm : ab_isM m) (hd : dd 160 0 = .ref m) (hK : mt_K A m i0) (hR : rw_R (aV_ A) cv i0) (hc : rw_cb A cv) (hk : rw_k (aV_ A) (fun _ => 0) i0) {Q : ab_Qt} (hQ : ∀ i2 l2, rw_f i0 i2 → fr_o 165 165 l0 l2 → rw_s A cv (fun _ => 0) i2 l2 → Q (some (some (.int r0))) (i2, l2, dd, x) (ab_E0 sc)) :
    ∀ (r t : Nat) (i2 : Nat → Nat → Int32) (l2 : Nat → Nat → Int64), 3 = t + r → fr_o 166 166 i0 i2 → fr_o 165 165 l0 l2 → (∀ u, u < t → l2 165 u = Int64.ofNat (aC_ A u) ∧ i2 166 u = Int32.ofNat 0) → ab_Fr MX4_first (d + 2) Q 39 [some (.ref 160), some (.int r0), some (.int (Int32.ofNat t))] [] (0, 0) (i2, l2, dd, x) (ab_E0 sc) := by
  intro r
  induction r with
  | zero =>
    intro t i2 l2 ht f2 g2 e5
    have hk2 : rw_k (aV_ A) (fun _ => 0) i2 := fun v hv => by rw [f2 162 (by omega)]; exact hk v hv
    refine tMX4_first_39 (d := d + 1) ⟨fun _ => ⟨_, rw_fill (d := d) (v := 0) (b := fun _ => 0) hW hm hd (mt_K_o hm hK f2 (by omega) hW) (rw_R_f hR (f2 161 (by omega)) (f2 163 (by omega)) (f2 164 (by omega))) hc (fun v hv => (hc v hv).1.1) hk2 (Nat.zero_le _) ⟨fun v t hv ht => ?_, fun v hv => absurd hv (Nat.not_lt_zero v)⟩, ?_⟩, fun c => ?_⟩
    · have hv0 : v = 0 := by omega
      subst hv0
      rw [Nat.mul_zero, Nat.zero_add]
      exact e5 t (by omega)
    · rintro i6 l7 dd8 x9 ⟨i3, l3, ⟨⟩, f3, g3, q3⟩
      exact hQ _ _ (rw_f_o (fr_t (fr_w f2 (by omega)) f3)) (fr_t g2 g3) ⟨fun v hv => by rw [f3 162 (by omega)]; exact hk2 v hv, q3⟩
    · simp (disch := omega) only [↓nn_m3, nn_p0, nn_p1, nn_p2, nn_p3, nn_p4, nn_p5, nn_p6, nn_p7, nn_p8, nn_p9, nn_p10, nn_p20, nn_p21, nn_le, nn_lt, nn_eq, nn_cl, nn_in, nn_add, nn_mul, nn_en, nn_ne, nn_mn, nn_64] at c
      omega
  | succ r ih =>
    intro t i2 l2 ht f2 g2 e5
    have eC : i2 (m + 1) t = Int32.ofNat (aC_ A t) := (mt_K_o hm hK f2 (by omega) hW).2.2.1 t (by omega)
    have hC20 := (hW.2.2.2.2.1 t).1
    refine tMX4_first_39 (d := d + 1) ⟨fun c => ?_, fun _ => ⟨m, hd, hm, ?_⟩⟩
    · simp (disch := omega) only [↓nn_m3, nn_p0, nn_p1, nn_p2, nn_p3, nn_p4, nn_p5, nn_p6, nn_p7, nn_p8, nn_p9, nn_p10, nn_p20, nn_p21, nn_le, nn_lt, nn_eq, nn_cl, nn_in, nn_add, nn_mul, nn_en, nn_ne, nn_mn, nn_64] at c
      omega
    · simp (disch := omega) only [eC, ↓nn_m3, nn_p0, nn_p1, nn_p2, nn_p3, nn_p4, nn_p5, nn_p6, nn_p7, nn_p8, nn_p9, nn_p10, nn_p20, nn_p21, nn_le, nn_lt, nn_eq, nn_cl, nn_in, nn_add, nn_mul, nn_en, nn_ne, nn_mn, nn_64]
      refine ⟨trivial, trivial, ?_⟩
      rintro l3 rfl
      refine ⟨trivial, ?_⟩
      rintro i3 rfl
      refine ih (t + 1) _ _ (by omega) (fr_u f2 (by omega)) (fr_u g2 (by omega)) (fun u hu => ?_)
      by_cases e : u = t
      · rw [e, uu_e, uu_e]
        exact ⟨rfl, rfl⟩
      · rw [uu_j e, uu_j e]
        exact e5 u (by omega)
theorem rw_fi4 {A : mA_} {m : Nat} {cv : Nat → mC_} {i0 : Nat → Nat → Int32} {l0 : Nat → Nat → Int64} (hW : mt_W A) (hm : ab_isM m) (hd : dd 160 0 = .ref m) (hK : mt_K A m i0) (hR : rw_R (aV_ A) cv i0) (hc : rw_cb A cv) {Q : ab_Qt} (hQ : ∀ i2 l2, rw_f i0 i2 → fr_o 165 165 l0 l2 → rw_s A cv (fun _ => 0) i2 l2 → Q (some (some (.int (Int32.ofNat (mt_rad (rw_N cv) (aV_ A)))))) (i2, l2, dd, x) (ab_E0 sc)) :
    ∀ (r v : Nat) (i2 : Nat → Nat → Int32), aV_ A = v + r → fr_o 162 162 i0 i2 → (∀ u, u < v → i2 162 u = Int32.ofNat 0) → ab_Fr MX4_first (d + 2) Q 4 [some (.ref 160), some (.int (Int32.ofNat (mt_rad (rw_N cv) v))), some (.int (Int32.ofNat v))] [] (0, 0) (i2, l0, dd, x) (ab_E0 sc) := by
  intro r
  have w2 := hW.2.1
  induction r with
  | zero =>
    intro v i2 hv f2 e5
    have e1 := (mt_K_o hm hK f2 (by omega) hW).1.2
    have hv2 : v = aV_ A := by omega
    refine tMX4_first_4 (d := d + 1) ⟨m, hd, hm, fun _ => ?_, fun c => ?_⟩
    · rw [hv2] at e5 ⊢
      refine rw_fi39 (i0 := i2) (l0 := l0) hW hm hd (mt_K_o hm hK f2 (by omega) hW) (rw_R_f hR (f2 161 (by omega)) (f2 163 (by omega)) (f2 164 (by omega))) hc (fun u hu => e5 u hu) ?_ 3 0 i2 l0 (by omega) fr_r fr_r (fun u hu => absurd hu (Nat.not_lt_zero u))
      intro i3 l3 f3 g3 s3
      exact hQ i3 l3 (rw_f_t (rw_f_2 f2) f3) g3 s3
    · simp (disch := omega) only [e1, ↓nn_m3, nn_p0, nn_p1, nn_p2, nn_p3, nn_p4, nn_p5, nn_p6, nn_p7, nn_p8, nn_p9, nn_p10, nn_p20, nn_p21, nn_le, nn_lt, nn_eq, nn_cl, nn_in, nn_add, nn_mul, nn_en, nn_ne, nn_mn, nn_64] at c
      omega
  | succ r ih =>
    intro v i2 hv f2 e5
    have hK2 := mt_K_o hm hK f2 (by omega) hW
    have e1 := hK2.1.2
    have e161 : i2 161 v = Int32.ofNat (rw_N cv v) := by
      rw [f2 161 (by omega)]
      exact (hR v (by omega)).1
    refine tMX4_first_4 (d := d + 1) ⟨m, hd, hm, fun c => ?_, fun _ => ?_⟩
    · simp (disch := omega) only [e1, ↓nn_m3, nn_p0, nn_p1, nn_p2, nn_p3, nn_p4, nn_p5, nn_p6, nn_p7, nn_p8, nn_p9, nn_p10, nn_p20, nn_p21, nn_le, nn_lt, nn_eq, nn_cl, nn_in, nn_add, nn_mul, nn_en, nn_ne, nn_mn, nn_64] at c
      omega
    · simp (disch := omega) only [↓nn_m3, nn_p0, nn_p1, nn_p2, nn_p3, nn_p4, nn_p5, nn_p6, nn_p7, nn_p8, nn_p9, nn_p10, nn_p20, nn_p21, nn_le, nn_lt, nn_eq, nn_cl, nn_in, nn_add, nn_mul, nn_en, nn_ne, nn_mn, nn_64]
      refine ⟨trivial, ?_⟩
      rintro i3 rfl
      rw [uu_k (by omega), e161, nn_mul]
      refine ⟨trivial, ih (v + 1) _ (by omega) (fr_u f2 (by omega)) (fun u hu => ?_)⟩
      by_cases e : u = v
      · rw [e]
        exact uu_e
      · rw [uu_j e]
        exact e5 u (by omega)
theorem rw_first {A : mA_} {m : Nat} {cv : Nat → mC_} (hW : mt_W A) (hm : ab_isM m) (hd : dd 160 0 = .ref m) (hK : mt_K A m i) (hR : rw_R (aV_ A) cv i) (hc : rw_cb A cv) : ab_Sp MX4_first (d + 2) [.ref 160] (i, l, dd, x) (ab_E0 sc) (some (.int (Int32.ofNat (mt_rad (rw_N cv) (aV_ A))))) (fun σ => ∃ i2 l2, σ = (i2, l2, dd, x) ∧ rw_f i i2 ∧ fr_o 165 165 l l2 ∧ rw_s A cv (fun _ => 0) i2 l2) := by
  refine ab_ent (n := 0) okMX4_first.1 (fun G => Nat.le_of_ble_eq_true rfl) (fun Q hQ => ?_)
  refine tMX4_first_0 (d := d + 1) (rw_fi4 (i0 := i) (l0 := l) hW hm hd hK hR hc ?_ (aV_ A) 0 i (by omega) fr_r (fun u hu => absurd hu (Nat.not_lt_zero u)))
  intro i2 l2 f2 g2 s2
  exact hQ _ ⟨i2, l2, rfl, f2, g2, s2⟩
theorem pu_nx_lt {N : Nat → Nat} : ∀ {k : Nat} {b : Nat → Nat}, (∀ v, v < k → b v < N v) → ∀ v, v < k → pu_nx N k b v < N v := by
  intro k
  induction k with
  | zero => intro b _ v hv; exact absurd hv (Nat.not_lt_zero v)
  | succ k ih =>
    intro b h v hv
    have h0 := h k (by omega)
    show (if b k + 1 < N k then pu_u b k (b k + 1) else pu_u (pu_nx N k b) k 0) v < N v
    by_cases c : b k + 1 < N k
    · rw [if_pos c]
      by_cases e : v = k
      · rw [e, pu_ue]
        exact c
      · rw [pu_un e]
        exact h v hv
    · rw [if_neg c]
      by_cases e : v = k
      · rw [e, pu_ue]
        omega
      · rw [pu_un e]
        exact ih (fun u hu => h u (by omega)) v (by omega)
theorem rw_st10 {A : mA_} {m : Nat} {cv : Nat → mC_} {b B : Nat → Nat} {i0 : Nat → Nat → Int32} (hW : mt_W A) (hm : ab_isM m) (hd : dd 160 0 = .ref m) (hK : mt_K A m i0) (hR : rw_R (aV_ A) cv i0) (hc : rw_cb A cv) (hq : rw_q A cv b (aV_ A) i0 l) (hB : ∀ v, v < aV_ A → B v < (cv v).1) {Q : ab_Qt} (hQ : ∀ i2 l2, rw_f i0 i2 → fr_o 165 165 l l2 → rw_s A cv B i2 l2 → Q (some none) (i2, l2, dd, x) (ab_E0 sc)) :
    ∀ (k : Nat) (c : Nat → Nat) (i2 : Nat → Nat → Int32), k < aV_ A → pu_nx (rw_N cv) (k + 1) c = B → (∀ u, u ≤ k → c u = b u) → (∀ u, u < aV_ A → c u < (cv u).1) → fr_o 162 162 i0 i2 → rw_k (aV_ A) c i2 → ab_Fr MX4_step (d + 2) Q 10 [some (.ref 160), some (.int (Int32.ofNat k))] [] (0, 0) (i2, l, dd, x) (ab_E0 sc) := by
  intro k
  have w2 := hW.2.1
  have fin : ∀ (k : Nat) (c : Nat → Nat) (i2 : Nat → Nat → Int32) (z : Nat), k < aV_ A → B = pu_u c k z → (∀ u, u < k → c u = b u) → fr_o 162 162 i0 i2 → rw_k (aV_ A) c i2 → ab_Fr MX4_step (d + 2) Q 78 [some (.ref 160), some (.int (Int32.ofNat k))] [.int (Int32.ofNat z), .int (Int32.ofNat k), .ref 162] (0, 0) (i2, l, dd, x) (ab_E0 sc) := by
    intro k c i2 z hk hBz hcb f2 k2
    refine tMX4_step_78 (d := d + 1) (n_s0 := 7) rfl ⟨la_vp (by omega) (by omega), ?_⟩
    rintro i3 rfl
    rw [nn_cl (by omega)]
    have f3 : fr_o 162 162 i0 (ab_u i2 162 k (Int32.ofNat z)) := fr_u f2 (by omega)
    have k3 : rw_k (aV_ A) B (ab_u i2 162 k (Int32.ofNat z)) := fun u hu => by
      rw [hBz]
      by_cases e : u = k
      · rw [e, pu_ue]
        exact uu_e
      · rw [pu_un e, uu_j e]
        exact k2 u hu
    refine ⟨_, rw_fill (d := d) (b := B) hW hm hd (mt_K_o hm hK f3 (by omega) hW) (rw_R_f hR (f3 161 (by omega)) (f3 163 (by omega)) (f3 164 (by omega))) hc hB k3 (by omega) ?_, ?_⟩
    · have hq3 : rw_q A cv b (aV_ A) (ab_u i2 162 k (Int32.ofNat z)) l := by
        unfold rw_q
        rw [f3 166 (by omega), f3 167 (by omega)]
        exact hq
      exact rw_q_c (fun u hu => by rw [hBz, pu_un (by omega)]; exact hcb u hu) (by omega) hq3
    · rintro i7 l8 dd9 x10 ⟨i4, l4, ⟨⟩, f4, g4, q4⟩
      exact hQ _ _ (rw_f_t (rw_f_2 f3) (rw_f_o f4)) g4 ⟨fun v hv => by rw [f4 162 (by omega)]; exact k3 v hv, q4⟩
  have go44 : ∀ (k : Nat) (c : Nat → Nat) (i2 : Nat → Nat → Int32), k < aV_ A → B = pu_u c k (if c k + 1 < (cv k).1 then c k + 1 else 0) → (∀ u, u ≤ k → c u = b u) → (∀ u, u < aV_ A → c u < (cv u).1) → fr_o 162 162 i0 i2 → rw_k (aV_ A) c i2 → ab_Fr MX4_step (d + 2) Q 44 [some (.ref 160), some (.int (Int32.ofNat k))] [] (0, 0) (i2, l, dd, x) (ab_E0 sc) := by
    intro k c i2 hk hBz hcb hcl f2 k2
    have e161 : i2 161 k = Int32.ofNat (cv k).1 := by
      rw [f2 161 (by omega)]
      exact (hR k hk).1
    have e162 := k2 k hk
    have hc3 := (hc k hk).1
    have hck := hcl k hk
    refine tMX4_step_44 (d := d + 1) ?_
    simp (disch := omega) only [e161, e162, ↓nn_m3, nn_p0, nn_p1, nn_p2, nn_p3, nn_p4, nn_p5, nn_p6, nn_p7, nn_p8, nn_p9, nn_p10, nn_p20, nn_p21, nn_le, nn_lt, nn_eq, nn_cl, nn_in, nn_add, nn_mul, nn_en, nn_ne, nn_mn, nn_64]
    refine ⟨trivial, trivial, fun c1 => ?_, fun c1 => ⟨trivial, ?_⟩⟩
    · rw [if_neg (by omega)] at hBz
      exact fin k c i2 0 hk hBz (fun u hu => hcb u (by omega)) f2 k2
    · rw [if_pos (by omega)] at hBz
      exact fin k c i2 (c k + 1) hk hBz (fun u hu => hcb u (by omega)) f2 k2
  induction k with
  | zero =>
    intro c i2 hk hB2 hcb hcl f2 k2
    refine tMX4_step_10 (d := d + 1) ⟨fun _ => go44 0 c i2 hk ?_ hcb hcl f2 k2, fun c => ?_⟩
    · rw [← hB2]
      show (if c 0 + 1 < (cv 0).1 then pu_u c 0 (c 0 + 1) else pu_u c 0 0) = _
      by_cases c1 : c 0 + 1 < (cv 0).1
      · rw [if_pos c1, if_pos c1]
      · rw [if_neg c1, if_neg c1]
    · simp (disch := omega) only [↓nn_m3, nn_p0, nn_p1, nn_p2, nn_p3, nn_p4, nn_p5, nn_p6, nn_p7, nn_p8, nn_p9, nn_p10, nn_p20, nn_p21, nn_le, nn_lt, nn_eq, nn_cl, nn_in, nn_add, nn_mul, nn_en, nn_ne, nn_mn, nn_64] at c
      omega
  | succ k ih =>
    intro c i2 hk hB2 hcb hcl f2 k2
    have e161 : i2 161 (k + 1) = Int32.ofNat (cv (k + 1)).1 := by
      rw [f2 161 (by omega)]
      exact (hR (k + 1) hk).1
    have e162 := k2 (k + 1) hk
    have hc3 := (hc (k + 1) hk).1
    have hck := hcl (k + 1) hk
    have hB3 : (if c (k + 1) + 1 < (cv (k + 1)).1 then pu_u c (k + 1) (c (k + 1) + 1) else pu_u (pu_nx (rw_N cv) (k + 1) c) (k + 1) 0) = B := hB2
    refine tMX4_step_10 (d := d + 1) ⟨fun c => ?_, fun _ => ?_⟩
    · simp (disch := omega) only [↓nn_m3, nn_p0, nn_p1, nn_p2, nn_p3, nn_p4, nn_p5, nn_p6, nn_p7, nn_p8, nn_p9, nn_p10, nn_p20, nn_p21, nn_le, nn_lt, nn_eq, nn_cl, nn_in, nn_add, nn_mul, nn_en, nn_ne, nn_mn, nn_64] at c
      omega
    · simp (disch := omega) only [e161, e162, ↓nn_m3, nn_p0, nn_p1, nn_p2, nn_p3, nn_p4, nn_p5, nn_p6, nn_p7, nn_p8, nn_p9, nn_p10, nn_p20, nn_p21, nn_le, nn_lt, nn_eq, nn_cl, nn_in, nn_add, nn_mul, nn_en, nn_ne, nn_mn, nn_64]
      refine ⟨trivial, trivial, fun c1 => go44 (k + 1) c i2 hk ?_ hcb hcl f2 k2, fun c1 => ⟨trivial, ?_⟩⟩
      · rw [if_pos c1] at hB3 ⊢
        exact hB3.symm
      · rintro i3 rfl
        rw [if_neg c1, ← pu_nxu (Nat.le_refl (k + 1))] at hB3
        rw [Nat.add_sub_cancel]
        refine ih (pu_u c (k + 1) 0) _ (by omega) hB3 (fun u hu => ?_) (fun u hu => ?_) (fr_u f2 (by omega)) (fun u hu => ?_)
        · rw [pu_un (by omega)]
          exact hcb u (by omega)
        · by_cases e : u = k + 1
          · rw [e, pu_ue]
            omega
          · rw [pu_un e]
            exact hcl u hu
        · by_cases e : u = k + 1
          · rw [e, pu_ue]
            exact uu_e
          · rw [pu_un e, uu_j e]
            exact k2 u hu
theorem rw_step {A : mA_} {m : Nat} {cv : Nat → mC_} {b : Nat → Nat} (hW : mt_W A) (hp : 0 < aV_ A) (hm : ab_isM m) (hd : dd 160 0 = .ref m) (hK : mt_K A m i) (hR : rw_R (aV_ A) cv i) (hc : rw_cb A cv) (hs : rw_s A cv b i l) (hb : ∀ v, v < aV_ A → b v < (cv v).1) : ab_Sp MX4_step (d + 2) [.ref 160] (i, l, dd, x) (ab_E0 sc) none (fun σ => ∃ i2 l2, σ = (i2, l2, dd, x) ∧ rw_f i i2 ∧ fr_o 165 165 l l2 ∧ rw_s A cv (pu_nx (rw_N cv) (aV_ A) b) i2 l2) := by
  have w2 := hW.2.1
  refine ab_ent (n := 0) okMX4_step.1 (fun G => Nat.le_of_ble_eq_true rfl) (fun Q hQ => ?_)
  refine tMX4_step_0 (d := d + 1) ⟨m, hd, hm, ?_⟩
  rw [hK.1.2, nn_p1, nn_sub (by omega)]
  refine rw_st10 (i0 := i) (b := b) (B := pu_nx (rw_N cv) (aV_ A) b) hW hm hd hK hR hc hs.2 (pu_nx_lt hb) ?_ (aV_ A - 1) b i (by omega) (by rw [show aV_ A - 1 + 1 = aV_ A by omega]) (fun _ _ => rfl) hb fr_r hs.1
  intro i2 l2 f2 g2 s2
  exact hQ _ ⟨i2, l2, rfl, f2, g2, s2⟩
end TQI
