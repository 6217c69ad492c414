/-! the class: decided in the row now; sums over all rows -/
section TQK
variable {d : Nat} {sc : Nat × (Nat → Int32)} {i : Nat → Nat → Int32} {l : Nat → Nat → Int64} {dd : Nat → Nat → Value} {x : Nat}
def rw_db (A : mA_) (cv : Nat → mC_) (b : Nat → Nat) : Nat := mt_db A (rw_b cv b)
/-- cells that a row's look writes -/
def rw_g (i i2 : Nat → Nat → Int32) : Prop := ∀ k, k ≠ 162 → k ≠ 166 → k ≠ 167 → k ≠ 168 → i2 k = i k
theorem rw_g_t {i2 i3 : Nat → Nat → Int32} (h1 : rw_g i i2) (h2 : rw_g i2 i3) : rw_g i i3 := fun k a b c e => (h2 k a b c e).trans (h1 k a b c e)
theorem rw_g_f {i2 : Nat → Nat → Int32} (h : rw_f i i2) : rw_g i i2 := fun k a b c _ => h k a b c
theorem rw_g_8 {i2 : Nat → Nat → Int32} (h : fr_o 168 168 i i2) : rw_g i i2 := fun k _ _ _ e => h k (by omega)
theorem rw_g_r : rw_g i i := fun _ _ _ _ _ => rfl
theorem rw_g_o {i2 : Nat → Nat → Int32} (h : rw_g i i2) : fr_o 162 168 i i2 := fun k hk => h k (by omega) (by omega) (by omega) (by omega)
theorem rw_R_g {V : Nat} {cv : Nat → mC_} {i2 : Nat → Nat → Int32} (h : rw_R V cv i) (hf : rw_g i i2) : rw_R V cv i2 := rw_R_f h (hf 161 (by decide) (by decide) (by decide) (by decide)) (hf 163 (by decide) (by decide) (by decide) (by decide)) (hf 164 (by decide) (by decide) (by decide) (by decide))
theorem rw_s_8 {A : mA_} {cv : Nat → mC_} {b : Nat → Nat} {i2 : Nat → Nat → Int32} (h : rw_s A cv b i l) (hf : fr_o 168 168 i i2) : rw_s A cv b i2 l := by
  unfold rw_s rw_k rw_q
  rw [hf 162 (by decide), hf 166 (by decide), hf 167 (by decide)]
  exact h
theorem rw_s_l {A : mA_} {cv : Nat → mC_} {b : Nat → Nat} {l2 : Nat → Nat → Int64} (h : rw_s A cv b i l) (hf : l2 165 = l 165) : rw_s A cv b i l2 := by
  unfold rw_s rw_q
  rw [hf]
  exact h
theorem rw_ta2 {A : mA_} {m : Nat} {cv : Nat → mC_} {b : Nat → Nat} {i0 : Nat → Nat → Int32} (hW : mt_W A) (hm : ab_isM m) (hd : dd 160 0 = .ref m) (hK : mt_K A m i0) (hs : rw_s A cv b i0 l) {Q : ab_Qt} (hQ : ∀ i2, fr_o 168 168 i0 i2 → (∀ t, t < 3 → i2 168 t = Int32.ofNat (mt_tl (aW_ A) (rw_b cv b) t (aV_ A))) → Q (some none) (i2, l, dd, x) (ab_E0 sc)) :
    ∀ (r t : Nat) (i2 : Nat → Nat → Int32), 3 = t + r → fr_o 168 168 i0 i2 → (∀ u, u < t → i2 168 u = Int32.ofNat (mt_tl (aW_ A) (rw_b cv b) u (aV_ A))) → ab_Fr MX4_takeTally (d + 1) Q 2 [some (.ref 160), some (.int (Int32.ofNat t))] [] (0, 0) (i2, l, dd, x) (ab_E0 sc) := by
  intro r
  have w2 := hW.2.1
  induction r with
  | zero =>
    intro t i2 ht f2 z2
    refine tMX4_takeTally_2 ⟨fun _ => hQ i2 f2 (fun u hu => z2 u (by omega)), fun c => ?_⟩
    simp (disch := omega) only [↓nn_m3, nn_p0, nn_p1, nn_p2, nn_p3, nn_p4, nn_p5, nn_p6, nn_p7, nn_p8, nn_p9, nn_p10, nn_p20, nn_p21, nn_le, nn_lt, nn_eq, nn_cl, nn_in, nn_add, nn_mul, nn_en, nn_ne, nn_mn, nn_64] at c
    omega
  | succ r ih =>
    intro t i2 ht f2 z2
    have e1 := (mt_K_o hm hK f2 (by omega) hW).1.2
    have e166 : i2 166 (3 * aV_ A + t) = Int32.ofNat (mt_tl (aW_ A) (rw_b cv b) t (aV_ A)) := by
      rw [f2 166 (by omega)]
      exact (hs.2.1 (aV_ A) t (Nat.le_refl _) (by omega)).2
    refine tMX4_takeTally_2 ⟨fun c => ?_, fun _ => ⟨m, hd, hm, ?_⟩⟩
    · simp (disch := omega) only [↓nn_m3, nn_p0, nn_p1, nn_p2, nn_p3, nn_p4, nn_p5, nn_p6, nn_p7, nn_p8, nn_p9, nn_p10, nn_p20, nn_p21, nn_le, nn_lt, nn_eq, nn_cl, nn_in, nn_add, nn_mul, nn_en, nn_ne, nn_mn, nn_64] at c
      omega
    · simp (disch := omega) only [e1, e166, ↓nn_m3, nn_p0, nn_p1, nn_p2, nn_p3, nn_p4, nn_p5, nn_p6, nn_p7, nn_p8, nn_p9, nn_p10, nn_p20, nn_p21, nn_le, nn_lt, nn_eq, nn_cl, nn_in, nn_add, nn_mul, nn_en, nn_ne, nn_mn, nn_64]
      refine ⟨trivial, trivial, ?_⟩
      rintro i3 rfl
      refine ih (t + 1) _ (by omega) (fr_u f2 (by omega)) (fun u hu => ?_)
      by_cases e : u = t
      · rw [e]
        exact uu_e
      · rw [uu_j e]
        exact z2 u (by omega)
theorem rw_tally {A : mA_} {m : Nat} {cv : Nat → mC_} {b : Nat → Nat} (hW : mt_W A) (hm : ab_isM m) (hd : dd 160 0 = .ref m) (hK : mt_K A m i) (hs : rw_s A cv b i l) : ab_Sp MX4_takeTally (d + 1) [.ref 160] (i, l, dd, x) (ab_E0 sc) none (fun σ => ∃ i2, σ = (i2, l, dd, x) ∧ fr_o 168 168 i i2 ∧ ∀ t, t < 3 → i2 168 t = Int32.ofNat (mt_tl (aW_ A) (rw_b cv b) t (aV_ A))) := by
  refine ab_ent (n := 0) okMX4_takeTally.1 (fun G => Nat.le_of_ble_eq_true rfl) (fun Q hQ => ?_)
  refine tMX4_takeTally_0 (rw_ta2 (i0 := i) hW hm hd hK hs ?_ 3 0 i (by omega) fr_r (fun u hu => absurd hu (Nat.not_lt_zero u)))
  intro i2 f2 z2
  exact hQ _ ⟨i2, rfl, f2, z2⟩
/-- codes that decide: truths or 9 or anything small -/
def rw_b9 (A : mA_) (cv : Nat → mC_) (b : Nat → Nat) : Prop := ∀ v, v < aV_ A → rw_b cv b v ≤ 9
theorem rw_b9_c {A : mA_} {cv : Nat → mC_} {b : Nat → Nat} (hc : rw_cb A cv) (hb : ∀ v, v < aV_ A → b v < (cv v).1) : rw_b9 A cv b := fun v hv => ((hc v hv).2 (b v) (hb v hv)).1
theorem rw_dec {A : mA_} {m : Nat} {cv : Nat → mC_} {b : Nat → Nat} (hW : mt_W A) (hp : 0 < aV_ A) (hm : ab_isM m) (hd : dd 160 0 = .ref m) (hK : mt_K A m i) (hs : rw_s A cv b i l) (h9 : rw_b9 A cv b) : ab_Sp MX4_decidesNow (d + 2) [.ref 160] (i, l, dd, x) (ab_E0 sc) (some (.int (Int32.ofNat (rw_db A cv b)))) (fun σ => ∃ i2, σ = (i2, l, dd, x) ∧ fr_o 168 168 i i2) := by
  have hW2 := hW
  obtain ⟨w1, w2, w3, w4, w5, w6, w7, w8, w9, w10, w11, w12, w13, w14, w15⟩ := hW2
  refine ab_ent (n := 0) okMX4_decidesNow.1 (fun G => Nat.le_of_ble_eq_true rfl) (fun Q hQ => ?_)
  refine tMX4_decidesNow_0 (d := d + 1) ⟨_, rw_tally (d := d) hW hm hd hK hs, ?_⟩
  rintro i5 l6 dd7 x8 ⟨i2, ⟨⟩, f2, z2⟩
  have hK2 := mt_K_o hm hK f2 (by omega) hW
  have hs2 := rw_s_8 hs f2
  have e5 := hK2.2.1.2.2
  have hb : ∀ t, mt_tl (aW_ A) (rw_b cv b) t (aV_ A) < 2 ^ 31 := fun t => by
    have := mt_tl_le (w := aW_ A) (b := rw_b cv b) (t := t) w12 (aV_ A)
    omega
  have fin : ∀ z, z = (if aH_ A = 7 then 9 else rw_b cv b (aH_ A)) → z < 2 ^ 31 → ab_Fr MX4_decidesNow (d + 2) Q 40 [none] [.int (Int32.ofNat z), .ref 168, .ref m] (0, 0) (i5, l, dd, x) (ab_E0 sc) := by
    rintro z hz hz2
    refine tMX4_decidesNow_40 (d := d + 1) (n_s1 := 3) hm rfl ⟨_, _, mt_decides (d := d) (f := fun t => mt_tl (aW_ A) (rw_b cv b) t (aV_ A)) hW hp hm hK2 rfl (by omega) (fun t ht => z2 t (by omega)) hb hz2, ?_⟩
    rintro i5 l6 dd7 x8 ⟨⟩
    rw [hz]
    exact hQ _ ⟨_, rfl, f2⟩
  refine ⟨m, hd, hm, ?_⟩
  rw [e5]
  unfold mt_h
  by_cases c7 : aH_ A = 7
  · rw [if_pos c7]
    exact ⟨fun z => absurd rfl z, fun _ => fin 9 (by rw [if_pos c7]) (by omega)⟩
  · rw [if_neg c7]
    have hH : aH_ A < aV_ A := by omega
    have e167 := hs2.2.2 (aH_ A) hH
    have h9H := h9 (aH_ A) hH
    simp (disch := omega) only [e167, ↓nn_m3, nn_p0, nn_p1, nn_p2, nn_p3, nn_p4, nn_p5, nn_p6, nn_p7, nn_p8, nn_p9, nn_p10, nn_p20, nn_p21, nn_le, nn_lt, nn_eq, nn_cl, nn_in, nn_add, nn_mul, nn_en, nn_ne, nn_mn, nn_64]
    exact ⟨fun _ => ⟨trivial, fin _ (by rw [if_neg c7]) (by omega)⟩, fun z => z.elim⟩
theorem rw_partsNow {A : mA_} {m t : Nat} {cv : Nat → mC_} {b : Nat → Nat} (hW : mt_W A) (hm : ab_isM m) (hd : dd 160 0 = .ref m) (hK : mt_K A m i) (hs : rw_s A cv b i l) (ht : t < 3) : ab_Sp MX4_partsNow (d + 1) [.ref 160, .int (Int32.ofNat t)] (i, l, dd, x) (ab_E0 sc) (some (.long (Int64.ofNat (rw_p A cv b (aV_ A) t)))) (fun σ => σ = (i, l, dd, x)) := by
  have w2 := hW.2.1
  refine ab_ent (n := 1) okMX4_partsNow.1 (fun G => Nat.le_of_ble_eq_true rfl) (fun Q hQ => ?_)
  refine tMX4_partsNow_0 ⟨m, hd, hm, ?_⟩
  have e1 := hK.1.2
  have e2 := (hs.2.1 (aV_ A) t (Nat.le_refl _) ht).1
  simp (disch := omega) only [e1, e2, ↓nn_m3, nn_p0, nn_p1, nn_p2, nn_p3, nn_p4, nn_p5, nn_p6, nn_p7, nn_p8, nn_p9, nn_p10, nn_p20, nn_p21, nn_le, nn_lt, nn_eq, nn_cl, nn_in, nn_add, nn_mul, nn_en, nn_ne, nn_mn, nn_64]
  exact ⟨trivial, hQ _ rfl⟩
theorem rw_weightNow {A : mA_} {m t : Nat} {cv : Nat → mC_} {b : Nat → Nat} (hW : mt_W A) (hm : ab_isM m) (hd : dd 160 0 = .ref m) (hK : mt_K A m i) (hs : rw_s A cv b i l) (ht : t < 3) : ab_Sp MX4_weightNow (d + 1) [.ref 160, .int (Int32.ofNat t)] (i, l, dd, x) (ab_E0 sc) (some (.int (Int32.ofNat (rw_w A cv b (aV_ A) t)))) (fun σ => σ = (i, l, dd, x)) := by
  have w2 := hW.2.1
  refine ab_ent (n := 1) okMX4_weightNow.1 (fun G => Nat.le_of_ble_eq_true rfl) (fun Q hQ => ?_)
  refine tMX4_weightNow_0 ⟨m, hd, hm, ?_⟩
  have e1 := hK.1.2
  have e2 := (hs.2.1 (aV_ A) t (Nat.le_refl _) ht).2
  simp (disch := omega) only [e1, e2, ↓nn_m3, nn_p0, nn_p1, nn_p2, nn_p3, nn_p4, nn_p5, nn_p6, nn_p7, nn_p8, nn_p9, nn_p10, nn_p20, nn_p21, nn_le, nn_lt, nn_eq, nn_cl, nn_in, nn_add, nn_mul, nn_en, nn_ne, nn_mn, nn_64]
  exact ⟨trivial, hQ _ rfl⟩
/-- a row's parts come to a table -/
theorem rw_ar2 {A : mA_} {m a n e : Nat} {cv : Nat → mC_} {b : Nat → Nat} {F : Nat → Nat → Nat} {l0 : Nat → Nat → Int64} (hW : mt_W A) (hm : ab_isM m) (hd : dd 160 0 = .ref m) (hK : mt_K A m i) (hk : (ab_E0 sc).1 a = .inr (1, n)) (hn : 9 ≤ n ∧ n < 2 ^ 31) (ha : a ≠ 165) (hs : rw_s A cv b i l0) (he : e < 3) (hF : ∀ t u, t < 3 → u < 3 → l0 a (3 * t + u) = Int64.ofNat (F t u)) {Q : ab_Qt} (hQ : ∀ l2, fr_o a a l0 l2 → (∀ t u, t < 3 → u < 3 → l2 a (3 * t + u) = Int64.ofNat (F t u + (if e = u then rw_p A cv b (aV_ A) t else 0))) → Q (some none) (i, l2, dd, x) (ab_E0 sc)) :
    ∀ (r t : Nat) (l2 : Nat → Nat → Int64), 3 = t + r → fr_o a a l0 l2 → (∀ t2 u, t2 < 3 → u < 3 → l2 a (3 * t2 + u) = Int64.ofNat (F t2 u + (if t2 < t ∧ e = u then rw_p A cv b (aV_ A) t2 else 0))) → ab_Fr MX4_addRow (d + 2) Q 2 [some (.ref 160), some (.ref a), some (.int (Int32.ofNat e)), some (.int (Int32.ofNat t))] [] (0, 0) (i, l2, dd, x) (ab_E0 sc) := by
  intro r
  induction r with
  | zero =>
    intro t l2 ht f2 z2
    refine tMX4_addRow_2 (d := d + 1) hk ⟨fun _ => hQ l2 f2 (fun t2 u ht2 hu => ?_), fun c => ?_⟩
    · rw [z2 t2 u ht2 hu]
      by_cases c : e = u
      · rw [if_pos c, if_pos ⟨by omega, c⟩]
      · rw [if_neg c, if_neg (fun q => c q.2)]
    · simp (disch := omega) only [↓nn_m3, nn_p0, nn_p1, nn_p2, nn_p3, nn_p4, nn_p5, nn_p6, nn_p7, nn_p8, nn_p9, nn_p10, nn_p20, nn_p21, nn_le, nn_lt, nn_eq, nn_cl, nn_in, nn_add, nn_mul, nn_en, nn_ne, nn_mn, nn_64] at c
      omega
  | succ r ih =>
    intro t l2 ht f2 z2
    have e1 := z2 t e (by omega) he
    rw [if_neg (by omega), Nat.add_zero] at e1
    refine tMX4_addRow_2 (d := d + 1) hk ⟨fun c => ?_, fun _ => ?_⟩
    · simp (disch := omega) only [↓nn_m3, nn_p0, nn_p1, nn_p2, nn_p3, nn_p4, nn_p5, nn_p6, nn_p7, nn_p8, nn_p9, nn_p10, nn_p20, nn_p21, nn_le, nn_lt, nn_eq, nn_cl, nn_in, nn_add, nn_mul, nn_en, nn_ne, nn_mn, nn_64] at c
      omega
    · rw [nn_m3, nn_mul, nn_add]
      refine ⟨la_vp (by omega) (by omega), _, _, rw_partsNow (d := d) (t := t) hW hm hd hK (rw_s_l hs (f2 165 (by omega))) (by omega), ?_⟩
      rintro i6 l7 dd8 x9 ⟨⟩
      refine ⟨la_vp (by omega) (by omega), ?_⟩
      rintro l11 rfl
      rw [nn_cl (by omega), e1, nl_add, la_nx]
      refine ih (t + 1) _ (by omega) (fr_u f2 (by omega)) (fun t2 u ht2 hu => ?_)
      by_cases c : t2 = t ∧ u = e
      · obtain ⟨rfl, rfl⟩ := c
        rw [uu_e, if_pos ⟨by omega, rfl⟩]
      · rw [uu_j (by omega), z2 t2 u ht2 hu]
        congr 2
        by_cases c2 : t2 < t ∧ e = u
        · rw [if_pos c2, if_pos ⟨by omega, c2.2⟩]
        · rw [if_neg c2, if_neg (by omega)]
theorem rw_addRow {A : mA_} {m a n e : Nat} {cv : Nat → mC_} {b : Nat → Nat} {F : Nat → Nat → Nat} (hW : mt_W A) (hm : ab_isM m) (hd : dd 160 0 = .ref m) (hK : mt_K A m i) (hk : (ab_E0 sc).1 a = .inr (1, n)) (hn : 9 ≤ n ∧ n < 2 ^ 31) (ha : a ≠ 165) (hs : rw_s A cv b i l) (he : e < 3) (hF : ∀ t u, t < 3 → u < 3 → l a (3 * t + u) = Int64.ofNat (F t u)) : ab_Sp MX4_addRow (d + 2) [.ref 160, .ref a, .int (Int32.ofNat e)] (i, l, dd, x) (ab_E0 sc) none (fun σ => ∃ l2, σ = (i, l2, dd, x) ∧ fr_o a a l l2 ∧ ∀ t u, t < 3 → u < 3 → l2 a (3 * t + u) = Int64.ofNat (F t u + (if e = u then rw_p A cv b (aV_ A) t else 0))) := by
  refine ab_ent (n := 2) okMX4_addRow.1 (fun G => Nat.le_of_ble_eq_true rfl) (fun Q hQ => ?_)
  refine tMX4_addRow_0 (d := d + 1) hk (rw_ar2 (l0 := l) hW hm hd hK hk hn ha hs he hF ?_ 3 0 l (by omega) fr_r (fun t2 u ht2 hu => by rw [hF t2 u ht2 hu, if_neg (by omega), Nat.add_zero]))
  intro l2 f2 z2
  exact hQ _ ⟨l2, rfl, f2, z2⟩
end TQK
