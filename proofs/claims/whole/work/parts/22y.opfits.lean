/-! the call fits -/
section TQY2
variable {d : Nat} {sc : Nat × (Nat → Int32)} {i : Nat → Nat → Int32} {l : Nat → Nat → Int64} {dd : Nat → Nat → Value} {x : Nat}
theorem fb_PB {A : mA_} (hW : mt_W A) : ∀ v, v ≤ aV_ A → fb_P A v ≤ 3 * v := by
  intro v
  induction v with
  | zero => intro _; exact Nat.le_refl 0
  | succ v ih =>
    intro hv
    have := ih (by omega)
    have hS := hW.2.2.2.2.2.2.1 v (by omega)
    show fb_P A v + aS_ A v ≤ 3 * (v + 1)
    omega
theorem mt_signsA {A : mA_} {m : Nat} (hW : mt_W A) (hm : ab_isM m) (hK : mt_K A m i) : ab_Sp MX1_signsInAll (d + 1) [.ref m] (i, l, dd, x) (ab_E0 sc) (some (.int (Int32.ofNat (fb_N A)))) (fun σ => σ = (i, l, dd, x)) := by
  have w2 := hW.2.1
  have q2 := hK.1.2
  refine ab_ent (n := 0) okMX1_signsInAll.1 (fun G => Nat.le_of_ble_eq_true rfl) (fun Q hQ => ?_)
  refine tMX1_signsInAll_0 hm ?_
  have go : ∀ r v : Nat, aV_ A = v + r → ab_Fr MX1_signsInAll (d + 1) Q 4 [some (.ref m), some (.int (Int32.ofNat (fb_P A v))), some (.int (Int32.ofNat v))] [] (0, 0) (i, l, dd, x) (ab_E0 sc) := by
    intro r
    induction r with
    | zero =>
      intro v hv
      refine tMX1_signsInAll_4 hm ⟨fun _ => ?_, fun c => ?_⟩
      · rw [show v = aV_ A by omega]
        exact hQ _ rfl
      · simp (disch := omega) only [q2, ↓nn_m3, nn_p0, nn_p1, nn_p2, nn_p3, nn_p4, nn_p5, nn_p6, nn_p7, nn_p8, nn_p9, nn_p10, nn_p20, nn_p21, nn_le, nn_lt, nn_eq, nn_cl, nn_in, nn_add, nn_mul, nn_en, nn_ne, nn_mn, nn_64] at c
        omega
    | succ r ih =>
      intro v hv
      refine tMX1_signsInAll_4 hm ⟨fun c => ?_, fun _ => ⟨la_vp (by omega) (by omega), ?_⟩⟩
      · simp (disch := omega) only [q2, ↓nn_m3, nn_p0, nn_p1, nn_p2, nn_p3, nn_p4, nn_p5, nn_p6, nn_p7, nn_p8, nn_p9, nn_p10, nn_p20, nn_p21, nn_le, nn_lt, nn_eq, nn_cl, nn_in, nn_add, nn_mul, nn_en, nn_ne, nn_mn, nn_64] at c
        omega
      · rw [nn_cl (by omega), (hK.2.2.2.2.1 v (by omega)).1, nn_add, la_nx]
        exact ih (v + 1) (by omega)
  exact go _ 0 (Nat.zero_add _).symm
/-- the model's end with a table -/
def mf_Q (A : mA_) (b : Nat) (i : Nat → Nat → Int32) (l : Nat → Nat → Int64) (i2 : Nat → Nat → Int32) (l2 : Nat → Nat → Int64) : Prop := (∀ k j, k ≠ 225 → k ≠ 226 → k ≠ 227 → k ≠ 247 → k ≠ 248 → ¬ (k = 205 ∧ j = 68) → i2 k j = i k j) ∧ (∀ j, j < 21 → i2 225 j = i 225 j) ∧ (∀ v s, v < aV_ A → s < aS_ A v → i2 247 (3 * v + s) = Int32.ofNat (fb_v A b v s)) ∧ (∀ v, v < aV_ A → i2 248 v = Int32.ofNat (aS_ A v)) ∧ i2 205 68 = Int32.ofNat (aV_ A) ∧ fr_o 228 228 l l2
theorem mf_275 {A : mA_} {n : Nat} (hW : mt_W A) {i0 : Nat → Nat → Int32} (hM : mt_M A i0 l) {Q : ab_Qt} (hQ : ∀ i2, fr_o 248 248 i0 i2 → (∀ v, v < aV_ A → i2 248 v = Int32.ofNat (aS_ A v)) → Q (some (some (.int (Int32.ofNat n)))) (i2, l, dd, x) (ab_E0 sc)) :
    ∀ (r v : Nat) (i2 : Nat → Nat → Int32), aV_ A = v + r → fr_o 248 248 i0 i2 → (∀ u, u < v → i2 248 u = Int32.ofNat (aS_ A u)) → ab_Fr MX12_fits (d + 1) Q 275 [some (.ref 205), none, none, some (.int (Int32.ofNat n)), none, none, some (.int (Int32.ofNat v)), none, none, none, none] [] (0, 0) (i2, l, dd, x) (ab_E0 sc) := by
  intro r
  have w2 := hW.2.1
  induction r with
  | zero =>
    intro v i2 hv f2 z2
    have r2 := hM.1.2.1
    rw [← f2 205 (by omega)] at r2
    refine tMX12_fits_275 ⟨fun _ => hQ i2 f2 (fun u hu => z2 u (by omega)), fun c => ?_⟩
    simp (disch := omega) only [r2, ↓nn_m3, nn_p0, nn_p1, nn_p2, nn_p3, nn_p4, nn_p5, nn_p6, nn_p7, nn_p8, nn_p9, nn_p10, nn_p20, nn_p21, nn_le, nn_lt, nn_eq, nn_cl, nn_in, nn_add, nn_mul, nn_en, nn_ne, nn_mn, nn_64] at c
    omega
  | succ r ih =>
    intro v i2 hv f2 z2
    have r2 := hM.1.2.1
    rw [← f2 205 (by omega)] at r2
    have e0 := (hM.2.2.2.1 v (by omega)).1
    rw [← f2 212 (by omega)] at e0
    refine tMX12_fits_275 ⟨fun c => ?_, fun _ => ⟨la_vp (by omega) (by omega), la_vp (by omega) (by omega), ?_⟩⟩
    · simp (disch := omega) only [r2, ↓nn_m3, nn_p0, nn_p1, nn_p2, nn_p3, nn_p4, nn_p5, nn_p6, nn_p7, nn_p8, nn_p9, nn_p10, nn_p20, nn_p21, nn_le, nn_lt, nn_eq, nn_cl, nn_in, nn_add, nn_mul, nn_en, nn_ne, nn_mn, nn_64] at c
      omega
    · rintro i3 rfl
      rw [nn_cl (by omega), e0, la_nx]
      refine ih (v + 1) _ (by omega) (fr_u f2 (by omega)) (fun u hu => ?_)
      by_cases e : u = v
      · rw [e]
        exact uu_e
      · rw [uu_j e]
        exact z2 u (by omega)
theorem mf_51 {A : mA_} (hW : mt_W A) (hM : mt_M A i l) (hN : fb_N A ≤ 6) {Q : ab_Qt} (hQ : ab_Fr MX12_fits (d + 1) Q 81 [some (.ref 205), none, some (.int (Int32.ofNat ((aT_ A + 1) ^ fb_N A))), some (.int 0), some (.long 1000000000000000000), none, some (.int 0), none, none, none, none] [] (0, 0) (i, l, dd, x) (ab_E0 sc)) :
    ∀ r k : Nat, fb_N A = k + r → ab_Fr MX12_fits (d + 1) Q 51 [some (.ref 205), some (.int (Int32.ofNat (fb_N A))), some (.int (Int32.ofNat ((aT_ A + 1) ^ k))), some (.int (Int32.ofNat k)), none, none, none, none, none, none, none] [] (0, 0) (i, l, dd, x) (ab_E0 sc) := by
  intro r
  induction r with
  | zero =>
    intro k hk
    refine tMX12_fits_51 ⟨fun _ => ?_, fun c => ?_⟩
    · rw [show k = fb_N A by omega]
      exact hQ
    · rw [nn_le (by omega) (by omega)] at c
      omega
  | succ r ih =>
    intro k hk
    refine tMX12_fits_51 ⟨fun c => ?_, fun _ => ?_⟩
    · rw [nn_le (by omega) (by omega)] at c
      omega
    · rw [hM.1.1, la_nx, la_nx, nn_mul, ← Nat.pow_succ]
      exact ih (k + 1) (by omega)
theorem mf_9 {A : mA_} (hW : mt_W A) (hM : mt_M A i l) {Q : ab_Qt} (hQ : ∀ v, v = aV_ A → ab_Fr MX12_fits (d + 1) Q 9 [some (.ref 205), some (.int (Int32.ofNat (fb_N A))), some (.int (Int32.ofNat v)), none, none, none, none, none, none, none, none] [] (0, 0) (i, l, dd, x) (ab_E0 sc)) :
    ∀ r v : Nat, aV_ A = v + r → ab_Fr MX12_fits (d + 1) Q 9 [some (.ref 205), some (.int (Int32.ofNat (fb_P A v))), some (.int (Int32.ofNat v)), none, none, none, none, none, none, none, none] [] (0, 0) (i, l, dd, x) (ab_E0 sc) := by
  intro r
  have w2 := hW.2.1
  have r2 := hM.1.2.1
  induction r with
  | zero =>
    intro v hv
    have h := hQ v (by omega)
    rw [show fb_P A v = fb_N A by rw [show v = aV_ A by omega]; rfl]
    exact h
  | succ r ih =>
    intro v hv
    refine tMX12_fits_9 ⟨fun c => ?_, fun _ => ⟨la_vp (by omega) (by omega), ?_⟩⟩
    · simp (disch := omega) only [r2, ↓nn_m3, nn_p0, nn_p1, nn_p2, nn_p3, nn_p4, nn_p5, nn_p6, nn_p7, nn_p8, nn_p9, nn_p10, nn_p20, nn_p21, nn_le, nn_lt, nn_eq, nn_cl, nn_in, nn_add, nn_mul, nn_en, nn_ne, nn_mn, nn_64] at c
      omega
    · rw [nn_cl (by omega), (hM.2.2.2.1 v (by omega)).1, nn_add, la_nx]
      exact ih (v + 1) (by omega)
/-- the model's fits -/
theorem md_fits {A : mA_} (hW : mt_W A) (hp : 0 < aV_ A) (hN : fb_N A ≤ 6) (hM : mt_M A (ab_u i 205 0 0) l) {Q : ab_Qt} (h0 : (cf_ A ((aT_ A + 1) ^ fb_N A)).1 = 0 → ∀ i2 l2, mf_P (ab_u i 205 0 0) l i2 l2 → i2 247 = i 247 → Q (some (some (.int (Int32.ofNat (cf_ A ((aT_ A + 1) ^ fb_N A)).1)))) (i2, l2, dd, x) (ab_E0 sc)) (h1 : 0 < (cf_ A ((aT_ A + 1) ^ fb_N A)).1 → ∀ i2 l2, mf_Q A (cf_ A ((aT_ A + 1) ^ fb_N A)).2 (ab_u i 205 0 0) l i2 l2 → Q (some (some (.int (Int32.ofNat (cf_ A ((aT_ A + 1) ^ fb_N A)).1)))) (i2, l2, dd, x) (ab_E0 sc)) :
    ab_Fr MX12_fits (d + 5) Q 0 [some (.ref 205), none, none, none, none, none, none, none, none, none, none] [] (0, 0) (i, l, dd, x) (ab_E0 sc) := by
  have w1 := hW.1
  have w2 := hW.2.1
  have hT := fb_TN hW hN
  have hcl := cf_le (A := A) ((aT_ A + 1) ^ fb_N A)
  refine tMX12_fits_0 (d := d + 4) ?_
  rintro i1 rfl
  refine mf_9 (d := d + 4) hW hM (fun v hv => ?_) _ 0 (Nat.zero_add _).symm
  refine tMX12_fits_9 (d := d + 4) ⟨fun _ => ⟨fun c => ?_, fun _ => ⟨fun _ => ?_, fun c => ?_⟩⟩, fun c => ?_⟩
  · rw [hM.1.2.1, nn_p0, nn_eq (by omega) (by omega)] at c
    omega
  · refine mf_51 (d := d + 4) hW hM hN ?_ _ 0 (Nat.zero_add _).symm
    have h81 := mf_81 (d := d) (sc := sc) (dd := dd) (x := x) (i0 := ab_u i 205 0 0) (l0 := l) (Q := Q) hW hp hN hM (fun i2 l2 z P2 k2 => ?_) ((aT_ A + 1) ^ fb_N A) 0 _ l (Nat.zero_add _).symm mf_r ⟨fun h => absurd h (Nat.lt_irrefl 0), fun _ => rfl⟩
    · exact h81
    · have hM2 := mf_M hW hM P2
      refine tMX12_fits_81 (d := d + 4) ⟨fun _ => ⟨fun c => ?_, fun c => ?_⟩, fun c => ?_⟩
      · rw [nn_p0, nn_le (by omega) (by omega)] at c
        exact h0 (by omega) i2 l2 P2 ((k2.2 (by omega)).trans (uu_f (by decide)))
      · rw [nn_p0, nn_le (by omega) (by omega)] at c
        rintro i3 rfl
        have hM3 : mt_M A (ab_u i2 205 68 (i2 205 30)) l2 := mt_M_fr hM2 (fun j _ _ => by rw [uu_j (by omega)]) (fun k _ _ => by rw [uu_f (by omega)]) (fun j _ => by rw [uu_k (by omega)]) rfl hW
        refine mf_275 (d := d + 4) hW hM3 (fun i4 f4 z4 => ?_) _ 0 _ (Nat.zero_add _).symm fr_r (fun u hu => absurd hu (Nat.not_lt_zero u))
        refine h1 (by omega) i4 l2 ⟨fun k j a b e f g h => ?_, fun j hj => ?_, fun v s hv hs => ?_, z4, ?_, P2.2.2⟩
        · rw [f4 k (by omega)]
          refine Eq.trans (if_neg h) ?_
          rw [P2.1 k a b e f]
        · rw [f4 225 (by omega), uu_k (by omega)]
          exact P2.2.1 j hj
        · rw [f4 247 (by omega), uu_k (by omega)]
          exact k2.1 (by omega) v s hv hs
        · rw [f4 205 (by omega), uu_e]
          exact hM2.1.2.1
      · exact absurd (show Int32.ofNat ((aT_ A + 1) ^ fb_N A) ≤ Int32.ofNat ((aT_ A + 1) ^ fb_N A) by rw [nn_le (by omega) (by omega)]; exact Nat.le_refl _) c
  · refine absurd (show Int32.ofNat (fb_N A) ≤ 6 from ?_) c
    rw [nn_p6, nn_le (by omega) (by omega)]
    exact hN
  · rw [hM.1.2.1, nn_le (by omega) (by omega)] at c
    omega
/-- stores that differ where fits keeps its table alone -/
def ft_E (τ τ2 : ab_S) : Prop := (∀ k j, k ≠ 175 → k ≠ 247 → k ≠ 248 → ¬ (k = 205 ∧ j = 68) → τ2.1 k j = τ.1 k j) ∧ τ2.2.1 = τ.2.1 ∧ τ2.2.2.1 = τ.2.2.1
theorem cf_kp {i2 : Nat → Nat → Int32} (h : cf_o i i2) (h5 : i2 175 = i 175) : kp_i i i2 := by
  refine ⟨fun k j hk => ?_, h.1 5 (by decide) (by decide) (by decide) (by decide) (by decide) (by decide) (by decide), h.1 206 (by decide) (by decide) (by decide) (by decide) (by decide) (by decide) (by decide), by rw [h.1 4 (by decide) (by decide) (by decide) (by decide) (by decide) (by decide) (by decide)], by rw [h.1 205 (by decide) (by decide) (by decide) (by decide) (by decide) (by decide) (by decide)]⟩
  have nq : ∀ q, kp_s q = true → k ≠ q := fun q hq z => by
    rw [z, kp_sw hq] at hk
    cases hk
  by_cases c9 : k = 169
  · subst c9
    refine h.2 j (fun z => ?_)
    rw [z] at hk
    cases hk
  · by_cases c5 : k = 175
    · rw [c5, h5]
    · rw [h.1 k (fun q => nq k (kp_c18 k q.1 q.2) rfl) c9 (nq 173 rfl) c5 (nq 176 rfl) (nq 177 rfl) (nq 178 rfl)]
theorem mf_kp {i2 : Nat → Nat → Int32} {l2 : Nat → Nat → Int64} (h : mf_P i l i2 l2) (h7 : i2 247 = i 247) : kp_i i i2 ∧ kp_l l l2 := by
  refine ⟨⟨fun k j hk => ?_, h.1 5 (by decide) (by decide) (by decide) (by decide), h.1 206 (by decide) (by decide) (by decide) (by decide), by rw [h.1 4 (by decide) (by decide) (by decide) (by decide)], by rw [h.1 205 (by decide) (by decide) (by decide) (by decide)]⟩, kp_lo h.2.2 kp_c8⟩
  have nq : ∀ q, kp_s q = true → k ≠ q := fun q hq z => by
    rw [z, kp_sw hq] at hk
    cases hk
  by_cases c5 : k = 225
  · subst c5
    refine h.2.1 j ?_
    rcases Nat.lt_or_ge j 21 with c | c
    · exact c
    · exfalso
      simp [la_ws, c] at hk
  · by_cases c7 : k = 247
    · rw [c7, h7]
    · rw [h.1 k c5 (nq 226 rfl) (nq 227 rfl) c7]
theorem cf_hk {l2 : Nat → Nat → Int64} (h : cf_h l l2) : kp_l l l2 := kp_lc (fun k hk => h k (kp_ne hk 165 rfl) (kp_ne hk 170 rfl) (kp_ne hk 172 rfl))
theorem op_fits {R : ab_S → Prop} {A : mA_} (hA : op_A R A) (hC : ∀ τ τ2, R τ → ft_E τ τ2 → la_tab τ2.1 68 248 247 175 → R τ2) : la_c35 1310 sc (la_I R) := by
  rintro ⟨i, l, dd, x⟩ hI
  obtain ⟨hW, hA2⟩ := hA
  have w2 := hW.2.1
  have w7 := hW.2.2.2.2.2.2.1
  have hPB := fb_PB hW (aV_ A) (Nat.le_refl _)
  obtain ⟨m, e0, hm, hK, hM⟩ := hA2 _ _ _ _ hI
  have hz := mt_z30 hW hK
  by_cases c : 0 < aV_ A ∧ fb_N A ≤ 6
  · obtain ⟨hp, hN⟩ := c
    have hcl := cf_le (A := A) ((aT_ A + 1) ^ fb_N A)
    have hT := fb_TN hW hN
    refine ⟨Int32.ofNat (cf_ A ((aT_ A + 1) ^ fb_N A)).1, fun σ => ∃ i2 l2 d2 x2, σ = (i2, l2, d2, x2) ∧ cf_o i i2 ∧ cf_h l l2 ∧ kp_d dd d2 ∧ cf_k A i i2 ((aT_ A + 1) ^ fb_N A), ?_, ?_⟩
    · refine ab_ent (n := 0) okMX11_fits.1 (fun G => Nat.le_of_ble_eq_true rfl) (fun Q hQ => ?_)
      refine tMX11_fits_0 (d := 1310) ⟨m, e0, hm, _, _, mt_empty (d := 1309) hm, ?_⟩
      rintro i5 l6 dd7 x8 ⟨⟩
      rw [if_neg (fun z => by rw [hz] at z; omega)]
      refine ⟨fun z => absurd rfl z, fun _ => ⟨m, e0, hm, _, _, mt_signsA (d := 1309) hW hm hK, ?_⟩⟩
      rintro i5 l6 dd7 x8 ⟨⟩
      refine ⟨fun _ => ⟨m, e0, hm, _, _, mt_countF (d := 1304) hW hp hm hK hN, ?_⟩, fun z => ?_⟩
      · rintro i5 l6 dd7 x8 ⟨i2, l2, d2, ⟨⟩, h⟩
        exact hQ _ ⟨_, _, _, _, rfl, h⟩
      · rw [nn_p6, nn_le (by omega) (by omega)] at z
        omega
    · rintro σ1 ⟨i1, l1, d1, x1, rfl, o1, g1, k1, c1⟩
      have hM1 : mt_M A (ab_u i1 205 0 0) l1 := mt_M_fr hM (fun j h1 h2 => by rw [uu_j (by omega), o1.1 205 (by omega) (by omega) (by omega) (by omega) (by omega) (by omega) (by omega)]) (fun k h1 h2 => by rw [uu_f (by omega), o1.1 k (by omega) (by omega) (by omega) (by omega) (by omega) (by omega) (by omega)]) (fun j hj => by rw [uu_k (by omega), o1.1 225 (by omega) (by omega) (by omega) (by omega) (by omega) (by omega) (by omega)]) (g1 224 (by omega) (by omega) (by omega)) hW
      refine ab_ent (n := 0) okMX12_fits.1 (fun G => Nat.le_of_ble_eq_true rfl) (fun Q hQ => ?_)
      refine md_fits (d := 1306) hW hp hN hM1 (fun n0 i2 l2 P2 e2 => ?_) (fun n0 i2 l2 P2 => ?_)
      · have kk1 := cf_kp o1 (c1.2 n0)
        have hJ := la_thr (v := 0) (x2 := x1) (kp_I hI kk1 (cf_hk g1) k1 (x2 := x1))
        obtain ⟨a1, a2⟩ := mf_kp P2 (e2.trans (uu_f (by decide)).symm)
        exact hQ _ (kp_I hJ a1 a2 kp_dr)
      · obtain ⟨g2, g3, g4, g5, g6, g7⟩ := P2
        have hi : ∀ k j, ¬ (161 ≤ k ∧ k ≤ 168) → k ≠ 173 → k ≠ 175 → k ≠ 176 → k ≠ 177 → k ≠ 178 → k ≠ 225 → k ≠ 226 → k ≠ 227 → k ≠ 247 → k ≠ 248 → ¬ (k = 169 ∧ j = 12) → ¬ (k = 205 ∧ (j = 0 ∨ j = 68)) → i2 k j = i k j := fun k j b1 b2 b3 b4 b5 b6 b7 b8 b9 b10 b11 b12 b13 => by
          rw [g2 k j b7 b8 b9 b10 b11 (fun q => b13 ⟨q.1, Or.inr q.2⟩)]
          refine Eq.trans (if_neg (fun q => b13 ⟨q.1, Or.inl q.2⟩)) ?_
          by_cases c9 : k = 169
          · subst c9
            exact o1.2 j (fun q => b12 ⟨rfl, q⟩)
          · rw [o1.1 k b1 c9 b2 b3 b4 b5 b6]
        have h225 : ∀ j, j < 21 → i2 225 j = i 225 j := fun j hj => by
          rw [g3 j hj, uu_k (by omega), o1.1 225 (by omega) (by omega) (by omega) (by omega) (by omega) (by omega) (by omega)]
        have h175 : ∀ u w, u < 7 → w < 3 → i2 175 (3 * u + w) = kv_t A (fb_v A (cf_ A ((aT_ A + 1) ^ fb_N A)).2) u w := fun u w hu hw => by
          rw [g2 175 _ (by omega) (by omega) (by omega) (by omega) (by omega) (by omega), uu_k (by omega)]
          exact c1.1 n0 u w hu hw
        have hl : ∀ k j, k ≠ 165 → k ≠ 170 → k ≠ 172 → k ≠ 228 → l2 k j = l k j := fun k j b1 b2 b3 b4 => by
          rw [g7 k (by omega), g1 k b1 b2 b3]
        refine hQ _ ⟨?_, k1.2 hI.2.1, hC _ _ hI.2.2 ⟨fun k j a1 a2 a3 a4 => ?_, ?_, ?_⟩ ⟨?_, fun v hv hv2 => ?_, fun v s hv hs => ?_⟩⟩
        · have ht := hI.1
          unfold la_It at ht ⊢
          dsimp only at ht ⊢
          rw [show i2 5 = i 5 from funext fun j => hi 5 j (by omega) (by omega) (by omega) (by omega) (by omega) (by omega) (by omega) (by omega) (by omega) (by omega) (by omega) (by omega) (by omega), show i2 206 = i 206 from funext fun j => hi 206 j (by omega) (by omega) (by omega) (by omega) (by omega) (by omega) (by omega) (by omega) (by omega) (by omega) (by omega) (by omega) (by omega), hi 4 1 (by omega) (by omega) (by omega) (by omega) (by omega) (by omega) (by omega) (by omega) (by omega) (by omega) (by omega) (by omega) (by omega), hi 205 2 (by omega) (by omega) (by omega) (by omega) (by omega) (by omega) (by omega) (by omega) (by omega) (by omega) (by omega) (by omega) (by omega)]
          exact ht
        · show (if la_ws k j then 0 else i2 k j) = (if la_ws k j then 0 else i k j)
          cases e : la_ws k j with
          | true => rfl
          | false =>
            have nq : ∀ q, kp_s q = true → k ≠ q := fun q hq z => by
              rw [z, kp_sw hq] at e
              cases e
            rw [if_neg (by decide), if_neg (by decide)]
            by_cases c225 : k = 225
            · subst c225
              refine h225 j ?_
              rcases Nat.lt_or_ge j 21 with c | c
              · exact c
              · exfalso
                simp [la_ws, c] at e
            · refine hi k j (fun q => nq k (kp_c18 k q.1 q.2) rfl) (nq 173 rfl) a1 (nq 176 rfl) (nq 177 rfl) (nq 178 rfl) c225 (nq 226 rfl) (nq 227 rfl) a2 a3 (fun q => ?_) (fun q => ?_)
              · rw [q.1, q.2] at e
                cases e
              · rcases q.2 with q2 | q2
                · rw [q.1, q2] at e
                  cases e
                · exact a4 ⟨q.1, q2⟩
        · show (fun k j => if la_ws k j then (0 : Int64) else l2 k j) = fun k j => if la_ws k j then (0 : Int64) else l k j
          funext k j
          cases e : la_ws k j with
          | true => rfl
          | false =>
            have nq : ∀ q, kp_s q = true → k ≠ q := fun q hq z => by
              rw [z, kp_sw hq] at e
              cases e
            rw [if_neg (by decide), if_neg (by decide)]
            exact hl k j (nq 165 rfl) (nq 170 rfl) (nq 172 rfl) (nq 228 rfl)
        · show (fun k j => if la_ws k j then Value.null else d1 k j) = fun k j => if la_ws k j then Value.null else dd k j
          funext k j
          cases e : la_ws k j with
          | true => rfl
          | false => rw [if_neg (by decide), if_neg (by decide), k1.1 k j e]
        · show (i2 205 68).toInt ≤ 7
          rw [g6, la_nat (by omega)]
          omega
        · show (i2 248 v).toInt ≤ 3
          have hv2 : (v : Int) < (i2 205 68).toInt := hv2
          rw [g6, la_nat (by omega)] at hv2
          have := w7 v (by omega)
          rw [g5 v (by omega), la_nat (by omega)]
          omega
        · show i2 175 (3 * v + s) = if (v : Int) < (i2 205 68).toInt ∧ (s : Int) < (i2 248 v).toInt then i2 247 (3 * v + s) else -1
          rw [h175 v s hv hs, g6, la_nat (by omega)]
          unfold kv_t
          by_cases cv : v < aV_ A
          · have := w7 v cv
            rw [g5 v cv, la_nat (by omega)]
            by_cases cs : s < aS_ A v
            · rw [if_pos ⟨cv, cs⟩, if_pos ⟨by omega, by omega⟩, g4 v s cv cs]
            · rw [if_neg (fun q => cs q.2), if_neg (fun q => cs (by omega))]
          · rw [if_neg (fun q => cv q.1), if_neg (fun q => cv (by omega))]
  · refine ⟨-1, la_I R, ?_, ?_⟩
    · refine ab_ent (n := 0) okMX11_fits.1 (fun G => Nat.le_of_ble_eq_true rfl) (fun Q hQ => ?_)
      refine tMX11_fits_0 (d := 1310) ⟨m, e0, hm, _, _, mt_empty (d := 1309) hm, ?_⟩
      rintro i5 l6 dd7 x8 ⟨⟩
      refine ⟨fun _ => hQ _ hI, fun g => ⟨m, e0, hm, _, _, mt_signsA (d := 1309) hW hm hK, ?_⟩⟩
      rintro i5 l6 dd7 x8 ⟨⟩
      refine ⟨fun z => ?_, fun _ => hQ _ hI⟩
      have hNV : fb_N A ≤ 3 * aV_ A := hPB
      rw [nn_p6, nn_le (by omega) (by omega)] at z
      rcases Nat.eq_zero_or_pos (aV_ A) with y | y
      · rw [if_pos (hz.mpr y)] at g
        exact absurd g (by decide)
      · exact absurd ⟨y, z⟩ c
    · rintro ⟨i, l, dd, x⟩ hI
      refine ab_ent (n := 0) okMX12_fits.1 (fun G => Nat.le_of_ble_eq_true rfl) (fun Q hQ => ?_)
      refine tMX12_fits_0 (d := 1310) ?_
      rintro i1 rfl
      have hI2 := la_thr (v := 0) (x2 := x) hI
      obtain ⟨m, e0, hm, hK, hM⟩ := hA2 _ _ _ _ hI2
      have hNV : fb_N A ≤ 3 * aV_ A := hPB
      refine mf_9 (d := 1310) hW hM (fun v hv => ?_) _ 0 (Nat.zero_add _).symm
      refine tMX12_fits_9 (d := 1310) ⟨fun _ => ⟨fun _ => hQ _ hI2, fun g => ⟨fun g2 => ?_, fun _ => hQ _ hI2⟩⟩, fun g => ?_⟩
      · rw [hM.1.2.1, nn_p0, nn_eq (by omega) (by omega)] at g
        rw [nn_p6, nn_le (by omega) (by omega)] at g2
        exact absurd ⟨by omega, g2⟩ c
      · rw [hM.1.2.1, nn_le (by omega) (by omega)] at g
        omega
end TQY2
