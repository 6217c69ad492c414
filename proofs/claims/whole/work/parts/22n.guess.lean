/-! guess -/
section TQN2
variable {d : Nat} {sc : Nat × (Nat → Int32)} {i : Nat → Nat → Int32} {l : Nat → Nat → Int64} {dd : Nat → Nat → Value} {x : Nat}
def gu_t (A : mA_) (p : Nat → Nat) (t : Nat) : Nat := pu_n (aS_ A) (aV_ A) (fun b => va_m A (aO_ A) p b * mt_pa A b t)
theorem gu_p {A : mA_} {p : Nat → Nat} {t : Nat} : rw_p A (va_cv A (aO_ A) p) (fun _ => 0) (aV_ A) t = gu_t A p t := by
  have h := gr_eq (z := aC_ A t) (aV_ A) (fun _ => 1) (fun _ _ _ => rfl) (va_gr (A := A) (vt := aO_ A) (p := p) (t := t))
  rw [pu_n1 (N := rw_N (va_cv A (aO_ A) p)) (fun v hv => (va_cs (A := A) (vt := aO_ A) (p := p) (v := v) (aS_ A v)).1)] at h
  rw [Nat.one_mul] at h
  unfold rw_p
  rw [h]
  unfold gu_t
  refine pu_nc (fun b _ => ?_)
  rw [Nat.one_mul]
  have e : pu_p (aC_ A t) (fun v => if aO_ A v (b v) = p v then aL_ A v (b v) t else 0) (aV_ A) = pu_p (aC_ A t) (fun v => if (decide (aO_ A v (b v) = p v)) = true then aL_ A v (b v) t else 0) (aV_ A) := pu_pc _ (fun v hv => by
    by_cases c : aO_ A v (b v) = p v
    · simp [c]
    · simp [c])
  rw [e, pu_pi (f := fun v => aL_ A v (b v) t) (P := fun v => decide (aO_ A v (b v) = p v))]
  unfold va_m
  by_cases c : ∀ w, w < aV_ A → aO_ A w (b w) = p w
  · rw [if_pos c, if_pos (fun w hw => decide_eq_true (c w hw)), Nat.one_mul]
    rfl
  · rw [if_neg c, if_neg (fun q => c (fun w hw => of_decide_eq_true (q w hw))), Nat.zero_mul]
/-- all cases of a truth together -/
theorem cs_tot {A : mA_} {t c : Nat} (hW : mt_W A) (ht : t < aT_ A) : ∀ k, k ≤ aV_ A → pu_n (aS_ A) k (fun b => pu_p c (fun v => aL_ A v (b v) t) k) = c * 20 ^ k := by
  intro k
  induction k with
  | zero => intro _; exact (Nat.mul_one c).symm
  | succ k ih =>
    intro hk
    show pu_s (fun a => pu_n (aS_ A) k (fun b => pu_p c (fun v => aL_ A v (pu_u b k a v) t) k * aL_ A k (pu_u b k a k) t)) (aS_ A k) = _
    rw [pu_sc (g := fun a => c * 20 ^ k * aL_ A k a t) (fun a _ => by
      rw [← ih (by omega), ← pu_nr]
      refine pu_nc (fun b _ => ?_)
      rw [pu_ue, pu_pc (f := fun v => aL_ A v (pu_u b k a v) t) (g := fun v => aL_ A v (b v) t) k (fun v hv => by rw [pu_un (by omega)])]), pu_sm, gr_L3 hW (by omega) ht, Nat.pow_succ, Nat.mul_assoc]
theorem cs_paB {A : mA_} {t : Nat} (hW : mt_W A) : pu_n (aS_ A) (aV_ A) (fun b => mt_pa A b t) ≤ 25600000000 := by
  by_cases ht : t < aT_ A
  · have h := cs_tot (c := aC_ A t) hW ht (aV_ A) (Nat.le_refl _)
    have hc := (hW.2.2.2.2.1 t).1
    have h7 : (20 : Nat) ^ aV_ A ≤ 20 ^ 7 := Nat.pow_le_pow_right (by omega) hW.2.1
    have e7 : (20 : Nat) ^ 7 = 1280000000 := rfl
    have h8 : aC_ A t * 20 ^ aV_ A ≤ 20 * 1280000000 := Nat.mul_le_mul hc (by omega)
    have h9 : pu_n (aS_ A) (aV_ A) (fun b => mt_pa A b t) = aC_ A t * 20 ^ aV_ A := h
    omega
  · rw [pu_nz (fun b _ => mt_pa0 hW (by omega))]
    omega
theorem gu_B {A : mA_} {p : Nat → Nat} {t : Nat} (hW : mt_W A) : gu_t A p t < 2 ^ 62 := by
  have h1 := cs_paB (t := t) hW
  have h2 : gu_t A p t ≤ pu_n (aS_ A) (aV_ A) (fun b => mt_pa A b t) := pu_nle (fun b _ => by
    unfold va_m
    split
    · omega
    · omega)
  omega
theorem ng_lt {a b : Nat} (ha : a < 2 ^ 62) (hb : b < 2 ^ 62) : (-Int64.ofNat a < -Int64.ofNat b) = (b < a) := by
  have h : ∀ c : Nat, c < 2 ^ 62 → (-Int64.ofNat c).toInt = -(c : Int) := fun c hc => by
    rw [Int64.toInt_neg, nl_nat (by omega), Int.bmod_eq_of_le (by omega) (by omega)]
  rw [Int64.lt_iff_toInt_lt, h a ha, h b hb]
  refine propext ⟨fun z => by omega, fun z => by omega⟩
theorem ng_0 {a : Nat} (ha : a < 2 ^ 62) : (-Int64.ofNat a = 0) = (a = 0) := by
  have h : ∀ c : Nat, c < 2 ^ 62 → (-Int64.ofNat c).toInt = -(c : Int) := fun c hc => by
    rw [Int64.toInt_neg, nl_nat (by omega), Int.bmod_eq_of_le (by omega) (by omega)]
  refine propext ⟨fun z => ?_, fun z => by rw [z]; rfl⟩
  have h2 := congrArg Int64.toInt z
  rw [h a ha] at h2
  have h3 : ((0 : Int64).toInt) = 0 := rfl
  omega
theorem ng_s {a b : Nat} : -Int64.ofNat a - Int64.ofNat b = -Int64.ofNat (a + b) := by
  rw [Int64.ofNat_add, Int64.neg_add]
/-- the guess: who, 7 for none; of the truths before k -/
def gu_c (f : Nat → Nat) : Nat → Nat × Nat
  | 0 => (7, 0)
  | k + 1 => if (gu_c f k).2 < f k then (k, f k) else gu_c f k
theorem gu_cs {f : Nat → Nat} : ∀ k, (gu_c f (k + 1)).2 = f (mt_am f k) ∧ (gu_c f (k + 1)).1 = if f (mt_am f k) = 0 then 7 else mt_am f k := by
  intro k
  induction k with
  | zero =>
    show ((if (0 : Nat) < f 0 then (0, f 0) else (7, 0)) : Nat × Nat).2 = f 0 ∧ ((if (0 : Nat) < f 0 then (0, f 0) else (7, 0)) : Nat × Nat).1 = if f 0 = 0 then 7 else 0
    by_cases c : 0 < f 0
    · rw [if_pos c, if_neg (by omega)]
      exact ⟨rfl, rfl⟩
    · rw [if_neg c, if_pos (by omega)]
      exact ⟨by show 0 = f 0; omega, rfl⟩
  | succ k ih =>
    obtain ⟨h1, h2⟩ := ih
    have eg : gu_c f (k + 1 + 1) = if (gu_c f (k + 1)).2 < f (k + 1) then (k + 1, f (k + 1)) else gu_c f (k + 1) := rfl
    have ea : mt_am f (k + 1) = if f (mt_am f k) < f (k + 1) then k + 1 else mt_am f k := rfl
    rw [eg, ea, h1]
    by_cases c : f (mt_am f k) < f (k + 1)
    · rw [if_pos c, if_pos c, if_neg (by omega)]
      exact ⟨rfl, rfl⟩
    · rw [if_neg c, if_neg c]
      exact ⟨h1, h2⟩
theorem mt_li_am {f : Nat → Nat} (h : ∀ t, f t < 2 ^ 62) : ∀ k, mt_li (fun t => -Int64.ofNat (f t)) k = mt_am f k := by
  intro k
  induction k with
  | zero => rfl
  | succ k ih =>
    show (if -Int64.ofNat (f (k + 1)) < -Int64.ofNat (f (mt_li (fun t => -Int64.ofNat (f t)) k)) then k + 1 else mt_li (fun t => -Int64.ofNat (f t)) k) = (if f (mt_am f k) < f (k + 1) then k + 1 else mt_am f k)
    rw [ih]
    by_cases c : f (mt_am f k) < f (k + 1)
    · rw [if_pos c, if_pos (by rw [ng_lt (h _) (h _)]; exact c)]
    · rw [if_neg c, if_neg (by rw [ng_lt (h _) (h _)]; exact c)]
theorem gu_12 {A : mA_} {m : Nat} {cv : Nat → mC_} {b : Nat → Nat} {f : Nat → Nat} (hW : mt_W A) (hm : ab_isM m) (hd : dd 160 0 = .ref m) (hK : mt_K A m i) (hs : rw_s A cv b i l) (hf : ∀ t, t < aT_ A → rw_p A cv b (aV_ A) t = f t) (hB : ∀ t, f t < 2 ^ 62) {Q : ab_Qt} (hQ : Q (some (some (.int (mt_h (gu_c f (aT_ A)).1)))) (i, l, dd, x) (ab_E0 sc)) :
    ∀ n k : Nat, aT_ A = k + n → ab_Fr MX4_likeliest (d + 2) Q 12 [some (.ref 160), some (.int (mt_h (gu_c f k).1)), some (.long (Int64.ofNat (gu_c f k).2)), none, some (.int (Int32.ofNat k))] [] (0, 0) (i, l, dd, x) (ab_E0 sc) := by
  intro n
  have w1 := hW.1
  have hcB : ∀ k, (gu_c f k).2 < 2 ^ 62 := fun k => by
    cases k with
    | zero => show (0 : Nat) < 2 ^ 62; omega
    | succ k => rw [(gu_cs k).1]; exact hB _
  induction n with
  | zero =>
    intro k hk
    refine tMX4_likeliest_12 (d := d + 1) ⟨m, hd, hm, fun _ => by rw [show k = aT_ A by omega]; exact hQ, fun c => ?_⟩
    simp (disch := omega) only [hK.1.1, ↓nn_m3, nn_p0, nn_p1, nn_p2, nn_p3, nn_p4, nn_p5, nn_p6, nn_p7, nn_p8, nn_p9, nn_p10, nn_p20, nn_p21, nn_le, nn_lt, nn_eq, nn_cl, nn_in, nn_add, nn_mul, nn_en, nn_ne, nn_mn, nn_64] at c
    omega
  | succ n ih =>
    intro k hk
    have ih2 := ih (k + 1) (by omega)
    unfold gu_c at ih2
    have h1 := hcB k
    have h2 := hB k
    refine tMX4_likeliest_12 (d := d + 1) ⟨m, hd, hm, fun c => ?_, fun _ => ⟨_, _, rw_partsNow (d := d) (t := k) hW hm hd hK hs (by omega), ?_⟩⟩
    · simp (disch := omega) only [hK.1.1, ↓nn_m3, nn_p0, nn_p1, nn_p2, nn_p3, nn_p4, nn_p5, nn_p6, nn_p7, nn_p8, nn_p9, nn_p10, nn_p20, nn_p21, nn_le, nn_lt, nn_eq, nn_cl, nn_in, nn_add, nn_mul, nn_en, nn_ne, nn_mn, nn_64] at c
      omega
    · rintro i6 l7 dd8 x9 ⟨⟩
      rw [hf k (by omega), nl_lt (by omega) (by omega), la_nx]
      refine ⟨fun c => ?_, fun c => ⟨_, _, rw_partsNow (d := d) (t := k) hW hm hd hK hs (by omega), ?_⟩⟩
      · rw [if_neg c] at ih2
        exact ih2
      · rintro i6 l7 dd8 x9 ⟨⟩
        rw [if_pos c] at ih2
        rw [hf k (by omega)]
        dsimp only at ih2
        rw [mt_hn (by omega)] at ih2
        exact ih2
theorem md_gu61 {A : mA_} {r : Nat} {F : Nat → Nat} (hW : mt_W A) (hr : r < mt_rad (aS_ A) (aV_ A)) {l0 : Nat → Nat → Int64} (hM : mt_M A i l0) (hF : ∀ z, z < aT_ A → l0 228 z = -Int64.ofNat (F z)) {Q : ab_Qt} (hQ : ∀ l2, fr_o 228 228 l0 l2 → (∀ z, z < aT_ A → l2 228 z = -Int64.ofNat (F z + mt_pa A (pu_g (aS_ A) (aV_ A) r) z)) → (∀ z, aT_ A ≤ z → l2 228 z = l0 228 z) → ab_Fr MX12_guess (d + 1) Q 43 [some (.ref 205), none, some (.int (Int32.ofNat (r + 1))), none] [] (0, 0) (i, l2, dd, x) (ab_E0 sc)) :
    ∀ (n t : Nat) (l2 : Nat → Nat → Int64), aT_ A = t + n → fr_o 228 228 l0 l2 → (∀ z, z < t → l2 228 z = -Int64.ofNat (F z + mt_pa A (pu_g (aS_ A) (aV_ A) r) z)) → (∀ z, t ≤ z → l2 228 z = l0 228 z) → ab_Fr MX12_guess (d + 1) Q 61 [some (.ref 205), none, some (.int (Int32.ofNat r)), some (.int (Int32.ofNat t))] [] (0, 0) (i, l2, dd, x) (ab_E0 sc) := by
  intro n
  have hR := (mt_rows hW).1
  have w1 := hW.1
  have r1 := hM.1.1
  induction n with
  | zero =>
    intro t l2 ht f2 z2 y2
    refine tMX12_guess_61 ⟨fun _ => ?_, fun c => ?_⟩
    · rw [la_nx]
      exact hQ l2 f2 (fun z hz => z2 z (by omega)) (fun z hz => y2 z (by omega))
    · simp (disch := omega) only [r1, ↓nn_m3, nn_p0, nn_p1, nn_p2, nn_p3, nn_p4, nn_p5, nn_p6, nn_p7, nn_p8, nn_p9, nn_p10, nn_p20, nn_p21, nn_le, nn_lt, nn_eq, nn_cl, nn_in, nn_add, nn_mul, nn_en, nn_ne, nn_mn, nn_64] at c
      omega
  | succ n ih =>
    intro t l2 ht f2 z2 y2
    have e12 := (mt_M_2 hW hM fr_r f2).2.2.2.2.2.2.2 r t hr (by omega)
    have e0 : l2 228 t = -Int64.ofNat (F t) := (y2 t (Nat.le_refl t)).trans (hF t (by omega))
    refine tMX12_guess_61 ⟨fun c => ?_, fun _ => ?_⟩
    · simp (disch := omega) only [r1, ↓nn_m3, nn_p0, nn_p1, nn_p2, nn_p3, nn_p4, nn_p5, nn_p6, nn_p7, nn_p8, nn_p9, nn_p10, nn_p20, nn_p21, nn_le, nn_lt, nn_eq, nn_cl, nn_in, nn_add, nn_mul, nn_en, nn_ne, nn_mn, nn_64] at c
      omega
    · rw [nn_p3, nn_mul, nn_add, nn_cl (by omega), nn_cl (by omega), e12, e0, ng_s, la_nx]
      refine ⟨la_vp (by omega) (by omega), la_vp (by omega) (by omega), la_vp (by omega) (by omega), ?_⟩
      rintro l3 rfl
      refine ih (t + 1) _ (by omega) (fr_u f2 (by omega)) (fun z hz => ?_) (fun z hz => ?_)
      · by_cases e : z = t
        · rw [e]
          exact uu_e
        · rw [uu_j e]
          exact z2 z (by omega)
      · rw [uu_j (by omega)]
        exact y2 z (by omega)
theorem md_gu43 {A : mA_} {p : Nat → Nat} (hW : mt_W A) (hp : 0 < aV_ A) {l0 : Nat → Nat → Int64} (hM : mt_M A i l0) (hb : ∀ v, v < aV_ A → i 206 v = Int32.ofNat (p v) ∧ p v ≤ 255) (h2 : aT_ A = 2 → l0 228 2 = 0) {Q : ab_Qt} (hQ : ∀ l2, fr_o 228 228 l0 l2 → Q (some (some (.int (mt_h (gu_c (gu_t A p) (aT_ A)).1)))) (i, l2, dd, x) (ab_E0 sc)) :
    ∀ (n r : Nat) (l2 : Nat → Nat → Int64), mt_rad (aS_ A) (aV_ A) = r + n → fr_o 228 228 l0 l2 → (∀ z, z < aT_ A → l2 228 z = -Int64.ofNat (pu_s (fun r => va_m A (aO_ A) p (pu_g (aS_ A) (aV_ A) r) * mt_pa A (pu_g (aS_ A) (aV_ A) r) z) r)) → (∀ z, aT_ A ≤ z → l2 228 z = l0 228 z) → ab_Fr MX12_guess (d + 3) Q 43 [some (.ref 205), none, some (.int (Int32.ofNat r)), none] [] (0, 0) (i, l2, dd, x) (ab_E0 sc) := by
  intro n
  have hR := (mt_rows hW).1
  have w1 := hW.1
  have w4 := hW.2.2.2.1 hp
  have r3 := hM.1.2.2 (by omega)
  induction n with
  | zero =>
    intro r l2 hr f2 z2 y2
    have z3 : ∀ z, z < aT_ A → l2 228 z = -Int64.ofNat (gu_t A p z) := fun z hz => by
      rw [z2 z hz, show r = mt_rad (aS_ A) (aV_ A) by omega, cs_rows (G := fun b => va_m A (aO_ A) p b * mt_pa A b z) hW]
      rfl
    have hBd : ∀ t, gu_t A p t < 2 ^ 62 := fun t => gu_B hW
    obtain ⟨g1, g2⟩ := gu_cs (f := gu_t A p) (aT_ A - 1)
    rw [show aT_ A - 1 + 1 = aT_ A by omega] at g1 g2
    have hle := mt_am_le (f := gu_t A p) (aT_ A - 1)
    have hM2 := mt_M_2 hW hM fr_r f2
    refine tMX12_guess_43 (d := d + 2) ⟨fun _ => ⟨_, _, md_least (d := d + 1) (f := fun t => -Int64.ofNat (gu_t A p t)) hW hp hM2 (z3 0 (by omega)).symm (z3 1 (by omega)).symm (fun h3 => (z3 2 (by omega)).symm), ?_⟩, fun c => ?_⟩
    · rintro i6 l7 dd8 x9 ⟨⟩
      rw [mt_li_am hBd, nn_cl (by omega), z3 _ (by omega), ng_0 (hBd _)]
      have hq := hQ l2 f2
      rw [g2] at hq
      refine ⟨la_vp (by omega) (by omega), fun c => ?_, fun c => ?_⟩
      · rw [if_neg c, mt_hn (by omega)] at hq
        exact hq
      · rw [if_pos c] at hq
        exact hq
    · simp (disch := omega) only [r3, ↓nn_m3, nn_p0, nn_p1, nn_p2, nn_p3, nn_p4, nn_p5, nn_p6, nn_p7, nn_p8, nn_p9, nn_p10, nn_p20, nn_p21, nn_le, nn_lt, nn_eq, nn_cl, nn_in, nn_add, nn_mul, nn_en, nn_ne, nn_mn, nn_64] at c
      omega
  | succ n ih =>
    intro r l2 hr f2 z2 y2
    have hM2 := mt_M_2 hW hM fr_r f2
    have ess : ∀ z y, va_m A (aO_ A) p (pu_g (aS_ A) (aV_ A) r) * mt_pa A (pu_g (aS_ A) (aV_ A) r) z = y → pu_s (fun r => va_m A (aO_ A) p (pu_g (aS_ A) (aV_ A) r) * mt_pa A (pu_g (aS_ A) (aV_ A) r) z) (r + 1) = pu_s (fun r => va_m A (aO_ A) p (pu_g (aS_ A) (aV_ A) r) * mt_pa A (pu_g (aS_ A) (aV_ A) r) z) r + y := fun z y hz => by rw [← hz]; rfl
    refine tMX12_guess_43 (d := d + 2) ⟨fun c => ?_, fun _ => ⟨_, _, tm_va (d := d) hW hW.2.2.2.2.2.2.2.2.2.2.1 hM2 (mt_MV hM2) (by omega) hb, ?_⟩⟩
    · simp (disch := omega) only [r3, ↓nn_m3, nn_p0, nn_p1, nn_p2, nn_p3, nn_p4, nn_p5, nn_p6, nn_p7, nn_p8, nn_p9, nn_p10, nn_p20, nn_p21, nn_le, nn_lt, nn_eq, nn_cl, nn_in, nn_add, nn_mul, nn_en, nn_ne, nn_mn, nn_64] at c
      omega
    · rintro i6 l7 dd8 x9 ⟨⟩
      rcases (show va_m A (aO_ A) p (pu_g (aS_ A) (aV_ A) r) = 0 ∨ va_m A (aO_ A) p (pu_g (aS_ A) (aV_ A) r) = 1 from by
        unfold va_m
        split
        · exact Or.inr rfl
        · exact Or.inl rfl) with c2 | c2
      · rw [c2, la_nx]
        refine ⟨fun _ => ih (r + 1) l2 (by omega) f2 (fun z hz => ?_) y2, fun z => absurd rfl z⟩
        rw [ess z 0 (by rw [c2, Nat.zero_mul]), Nat.add_zero]
        exact z2 z hz
      · rw [c2]
        refine ⟨fun z => absurd z (by decide), fun _ => ?_⟩
        refine md_gu61 (d := d + 2) (l0 := l2) hW (show r < mt_rad (aS_ A) (aV_ A) by omega) hM2 z2 ?_ (aT_ A) 0 l2 (by omega) fr_r (fun z hz => absurd hz (Nat.not_lt_zero z)) (fun _ _ => rfl)
        intro l4 f4 z4 y4
        refine ih (r + 1) l4 (by omega) (fr_t f2 f4) (fun z hz => ?_) (fun z hz => (y4 z hz).trans (y2 z hz))
        rw [ess z (mt_pa A (pu_g (aS_ A) (aV_ A) r) z) (by rw [c2, Nat.one_mul])]
        exact z4 z hz
theorem md_gu23 {l0 : Nat → Nat → Int64} {Q : ab_Qt} (hQ : ∀ l2, fr_o 228 228 l0 l2 → (∀ z, z < 3 → l2 228 z = 0) → ab_Fr MX12_guess (d + 1) Q 43 [some (.ref 205), none, some (.int (Int32.ofNat 0)), none] [] (0, 0) (i, l2, dd, x) (ab_E0 sc)) :
    ∀ (n k : Nat) (l2 : Nat → Nat → Int64), 3 = k + n → fr_o 228 228 l0 l2 → (∀ z, z < k → l2 228 z = 0) → ab_Fr MX12_guess (d + 1) Q 23 [some (.ref 205), none, some (.int (Int32.ofNat k)), none] [] (0, 0) (i, l2, dd, x) (ab_E0 sc) := by
  intro n
  induction n with
  | zero =>
    intro k l2 hk g2 z2
    refine tMX12_guess_23 ⟨fun _ => hQ l2 g2 (fun z hz => z2 z (by omega)), fun c => ?_⟩
    simp (disch := omega) only [↓nn_m3, nn_p0, nn_p1, nn_p2, nn_p3, nn_p4, nn_p5, nn_p6, nn_p7, nn_p8, nn_p9, nn_p10, nn_p20, nn_p21, nn_le, nn_lt, nn_eq, nn_cl, nn_in, nn_add, nn_mul, nn_en, nn_ne, nn_mn, nn_64] at c
    omega
  | succ n ih =>
    intro k l2 hk g2 z2
    refine tMX12_guess_23 ⟨fun c => ?_, fun _ => ⟨la_vp (by omega) (by omega), ?_⟩⟩
    · simp (disch := omega) only [↓nn_m3, nn_p0, nn_p1, nn_p2, nn_p3, nn_p4, nn_p5, nn_p6, nn_p7, nn_p8, nn_p9, nn_p10, nn_p20, nn_p21, nn_le, nn_lt, nn_eq, nn_cl, nn_in, nn_add, nn_mul, nn_en, nn_ne, nn_mn, nn_64] at c
      omega
    · rintro l3 rfl
      rw [nn_cl (by omega), la_nx]
      refine ih (k + 1) _ (by omega) (fr_u g2 (by omega)) (fun z hz => ?_)
      by_cases e : z = k
      · rw [e]
        exact uu_e
      · rw [uu_j e]
        exact z2 z (by omega)
theorem op_guess {R : ab_S → Prop} {A : mA_} (hA : op_A R A) : la_c39 1310 sc (la_I R) := by
  rintro ⟨i, l, dd, x⟩ hI
  obtain ⟨hW, hA2⟩ := hA
  have w2 := hW.2.1
  obtain ⟨m, e0, hm, hK, -⟩ := hA2 _ _ _ _ hI
  obtain ⟨r, hr, hV⟩ := tv_cls (sc := sc) hW hI hm hK
  rcases hr with ⟨rfl, hb0⟩ | ⟨rfl, hb0⟩
  · have hp := hb0.1
    have hb : ∀ v, v < aV_ A → i 5 v = Int32.ofNat (tp_p i v) ∧ tp_p i v ≤ 9 := fun v hv => ⟨(tp_pe hI (by omega)).1, by have := hb0.2.2 v hv; have := hW.1; omega⟩
    refine ⟨mt_h (gu_c (gu_t A (tp_p i)) (aT_ A)).1, tp_mid R i, ?_, ?_⟩
    · refine ab_ent (n := 0) okMX11_guess.1 (fun G => Nat.le_of_ble_eq_true rfl) (fun Q hQ => ?_)
      refine tMX11_guess_0 (d := 1310) ⟨m, e0, hm, _, _, hV 1307, ?_⟩
      rintro i5 l6 dd7 x8 ⟨⟩
      refine ⟨fun z => absurd z (by decide), fun _ => ⟨m, e0, hm, _, mt_votedAs (d := 1307) (p := tp_p i) hW hm hK hb, ?_⟩⟩
      rintro i5 l6 dd7 x8 ⟨i2, ⟨⟩, f2, R2⟩
      have k2 := kp_fo f2 kp_c14
      have hcb := va_cb (A := A) (vt := aO_ A) (p := tp_p i) hW (fun v hv => (hb v hv).2)
      have hK2 := mt_K_kp hW hm hK k2
      have hlik : ab_Sp MX4_likeliest (1307 + 3) [.ref 160] (i5, l, ab_u dd 160 0 (.ref m), x) (ab_E0 sc) (some (.int (mt_h (gu_c (gu_t A (tp_p i)) (aT_ A)).1))) (fun σ => ∃ i2 l2, σ = (i2, l2, ab_u dd 160 0 (.ref m), x) ∧ rw_f i5 i2 ∧ fr_o 165 165 l l2) := by
        refine ab_ent (n := 0) okMX4_likeliest.1 (fun G => Nat.le_of_ble_eq_true rfl) (fun Q hQ => ?_)
        refine tMX4_likeliest_0 (d := 1309) ⟨_, _, rw_first (d := 1307) (cv := va_cv A (aO_ A) (tp_p i)) hW hm uu_e hK2 R2 hcb, ?_⟩
        rintro i6 l7 dd8 x9 ⟨i3, l3, ⟨⟩, f3, g3, s3⟩
        refine gu_12 (d := 1308) (cv := va_cv A (aO_ A) (tp_p i)) (b := fun _ => 0) (f := gu_t A (tp_p i)) hW hm uu_e (mt_K_o hm hK2 (rw_f_w f3) (by omega) hW) s3 (fun t _ => gu_p) (fun t => gu_B hW) (hQ _ ⟨_, _, rfl, f3, g3⟩) (aT_ A) 0 (by omega)
      refine ⟨_, _, hlik, ?_⟩
      rintro i6 l7 dd8 x9 ⟨i3, l3, ⟨⟩, f3, g3⟩
      refine tMX11_guess_42 (d := 1310) ⟨_, mt_clear (d := 1309), ?_⟩
      rintro i7 l8 dd9 x10 ⟨⟩
      have k5 := kp_it k2 (kp_g (rw_g_f f3))
      exact hQ _ ⟨_, _, _, _, rfl, kp_I hI k5 (kp_lo g3 (fun k h1 h2 => by rw [show k = 165 by omega]; rfl)) (kp_160 hm) (x2 := x), k5.2.1, k5.2.2.2.1⟩
    · rintro σ1 ⟨i0, l0, d0, x0, rfl, hI0, h5, h4⟩
      obtain ⟨m, e0, hm, hK, hM⟩ := hA2 _ _ _ _ hI0
      have hM1 : mt_M A (ab_u (ab_u i0 4 1 0) 205 0 0) l0 := mt_M_fr hM (fun j _ _ => by rw [uu_j (by omega), uu_k (by omega)]) (fun k _ _ => by rw [uu_f (by omega), uu_f (by omega)]) (fun j _ => by rw [uu_k (by omega), uu_k (by omega)]) rfl hW
      refine ab_ent (n := 0) okMX12_guess.1 (fun G => Nat.le_of_ble_eq_true rfl) (fun Q hQ => ?_)
      refine tMX12_guess_0 (d := 1310) ?_
      rintro i1 rfl
      obtain ⟨r, hr, hV⟩ := tv_mod (sc := sc) (j := ab_u (ab_u i0 4 1 0) 205 0 0) (l2 := l0) hW hI0 hM1 (by rw [uu_j (by decide), uu_k (by decide)]) (by rw [uu_f (by decide), uu_f (by decide)])
      refine ⟨_, _, hV 1309 _ _, ?_⟩
      rintro i5 l6 dd7 x8 ⟨⟩
      rintro i2 rfl
      rcases hr with ⟨rfl, -⟩ | ⟨-, h⟩
      case inr => exact absurd ((tp_vt_c h5 h4).mpr hb0) h
      refine ⟨fun _ => ?_, fun z => absurd z (by decide)⟩
      have hJ := la_cut0 (v0 := 0) (l2 := l0) (x2 := x0) hI0 (fun _ _ => rfl)
      obtain ⟨m, -, -, -, hM⟩ := hA2 _ _ _ _ hJ
      have hpe : ∀ v, v < aV_ A → (ab_u (ab_u (ab_u i0 4 1 0) 205 0 0) 205 2 0) 206 v = Int32.ofNat (tp_p i v) ∧ tp_p i v ≤ 255 := fun v hv => by
        have h1 := tp_pe hI0 (v := v) (by omega)
        have e : tp_p i0 v = tp_p i v := by
          unfold tp_p
          rw [h5]
        rw [e] at h1
        rw [uu_k (by omega), uu_k (by omega), uu_k (by omega)]
        exact ⟨h1.2.2, h1.2.1⟩
      refine md_gu23 (d := 1310) (l0 := l0) (fun l2 g2 z2 => ?_) 3 0 l0 (by omega) fr_r (fun z hz => absurd hz (Nat.not_lt_zero z))
      refine md_gu43 (d := 1308) (l0 := l2) hW hp (mt_M_2 hW hM fr_r g2) hpe (fun _ => z2 2 (by omega)) (fun l3 g3 => ?_) _ 0 l2 (Nat.zero_add _).symm fr_r (fun z hz => by have := hW.1; rw [z2 z (by omega)]; exact (by decide : (0 : Int64) = -Int64.ofNat 0)) (fun _ _ => rfl)
      exact hQ _ (kp_I hJ kp_ir (kp_lo (fr_t g2 g3) kp_c8) kp_dr)
  · refine ⟨-1, tp_mid R i, ?_, ?_⟩
    · refine ab_ent (n := 0) okMX11_guess.1 (fun G => Nat.le_of_ble_eq_true rfl) (fun Q hQ => ?_)
      refine tMX11_guess_0 (d := 1310) ⟨m, e0, hm, _, _, hV 1307, ?_⟩
      rintro i5 l6 dd7 x8 ⟨⟩
      refine ⟨fun _ => tMX11_guess_42 (d := 1310) ⟨_, mt_clear (d := 1309), ?_⟩, fun z => absurd rfl z⟩
      rintro i7 l8 dd9 x10 ⟨⟩
      exact hQ _ ⟨i, l, dd, x, rfl, hI, rfl, rfl⟩
    · rintro σ1 ⟨i0, l0, d0, x0, rfl, hI0, h5, h4⟩
      obtain ⟨m, e0, hm, hK, hM⟩ := hA2 _ _ _ _ hI0
      have hM1 : mt_M A (ab_u (ab_u i0 4 1 0) 205 0 0) l0 := mt_M_fr hM (fun j _ _ => by rw [uu_j (by omega), uu_k (by omega)]) (fun k _ _ => by rw [uu_f (by omega), uu_f (by omega)]) (fun j _ => by rw [uu_k (by omega), uu_k (by omega)]) rfl hW
      refine ab_ent (n := 0) okMX12_guess.1 (fun G => Nat.le_of_ble_eq_true rfl) (fun Q hQ => ?_)
      refine tMX12_guess_0 (d := 1310) ?_
      rintro i1 rfl
      obtain ⟨r, hr, hV⟩ := tv_mod (sc := sc) (j := ab_u (ab_u i0 4 1 0) 205 0 0) (l2 := l0) hW hI0 hM1 (by rw [uu_j (by decide), uu_k (by decide)]) (by rw [uu_f (by decide), uu_f (by decide)])
      refine ⟨_, _, hV 1309 _ _, ?_⟩
      rintro i5 l6 dd7 x8 ⟨⟩
      rintro i2 rfl
      rcases hr with ⟨-, h⟩ | ⟨rfl, -⟩
      · exact absurd ((tp_vt_c h5 h4).mp h) hb0
      · exact ⟨fun z => absurd rfl z, fun _ => hQ _ (la_cut0 hI0 (fun _ _ => rfl))⟩
end TQN2
