/-! what all know: the model's least, commonly, knownAt; the class's partsOf, knownBy; decided with signs -/
section TQV
variable {d : Nat} {sc : Nat × (Nat → Int32)} {i : Nat → Nat → Int32} {l : Nat → Nat → Int64} {dd : Nat → Nat → Value} {x : Nat}
theorem md_least {A : mA_} {f : Nat → Int64} {a b c : Int64} (hW : mt_W A) (hp : 0 < aV_ A) (hM : mt_M A i l) (h0 : f 0 = a) (h1 : f 1 = b) (h2 : aT_ A = 3 → f 2 = c) : ab_Sp MX12_least (d + 1) [.ref 205, .long a, .long b, .long c] (i, l, dd, x) (ab_E0 sc) (some (.int (Int32.ofNat (mt_li f (aT_ A - 1))))) (fun σ => σ = (i, l, dd, x)) := by
  have w1 := hW.1
  have w4 := hW.2.2.2.1 hp
  have r1 := hM.1.1
  refine ab_ent (n := 3) okMX12_least.1 (fun G => Nat.le_of_ble_eq_true rfl) (fun Q hQ => ?_)
  have e1 : mt_li f 1 = if b < a then 1 else 0 := by
    show (if f 1 < f 0 then 1 else 0) = _
    rw [h0, h1]
  have go : ∀ s : Nat, mt_li f 1 = s → s < 2 → ab_Fr MX12_least (d + 1) Q 11 [some (.ref 205), some (.long a), none, some (.long b), none, some (.long c), none, none] [.int (Int32.ofNat s)] (0, 0) (i, l, dd, x) (ab_E0 sc) := by
    intro s hs hs2
    refine tMX12_least_11 ?_
    rw [r1, nn_p3, nn_p1, nn_eq (by omega) (by omega), nn_eq (by omega) (by omega)]
    refine ⟨fun g => ?_, fun g => ?_⟩
    · rw [show aT_ A - 1 = 1 by omega, hs] at hQ
      exact hQ _ rfl
    · rw [show aT_ A - 1 = 2 by omega] at hQ
      have e2 : mt_li f 2 = if c < f s then 2 else s := by
        show (if f 2 < f (mt_li f 1) then 2 else mt_li f 1) = _
        rw [hs, h2 g]
      rw [e2] at hQ
      refine ⟨fun g2 => tMX12_least_34 ?_, fun g2 => tMX12_least_34 ?_⟩
      · rw [show s = 0 by omega] at hQ ⊢
        rw [h0] at hQ
        refine ⟨fun g3 => ?_, fun g3 => ?_⟩
        · rw [if_neg g3] at hQ
          exact hQ _ rfl
        · rw [if_pos g3] at hQ
          exact hQ _ rfl
      · rw [g2] at hQ ⊢
        rw [h1] at hQ
        refine ⟨fun g3 => ?_, fun g3 => ?_⟩
        · rw [if_neg g3] at hQ
          exact hQ _ rfl
        · rw [if_pos g3] at hQ
          exact hQ _ rfl
  refine tMX12_least_0 ⟨fun g => go 0 ?_ (by omega), fun g => go 1 ?_ (by omega)⟩
  · rw [e1, if_neg g]
  · rw [e1, if_pos g]
theorem md_cy5 {A : mA_} {r e : Nat} (hW : mt_W A) (hM : mt_M A i l) (hr : r < mt_rad (aS_ A) (aV_ A)) (he : e < aT_ A) {Q : ab_Qt} (hQ : Q (some (some (.long (Int64.ofNat (cs_l A 7 (pu_g (aS_ A) (aV_ A) r) e (aT_ A)))))) (i, l, dd, x) (ab_E0 sc)) : ∀ n t : Nat, aT_ A = t + n → ab_Fr MX12_commonly (d + 2) Q 5 [some (.ref 205), some (.int (Int32.ofNat r)), some (.int (Int32.ofNat e)), some (.long (Int64.ofNat (cs_l A 7 (pu_g (aS_ A) (aV_ A) r) e t))), none, some (.int (Int32.ofNat t))] [] (0, 0) (i, l, dd, x) (ab_E0 sc) := by
  intro n
  have hR := (mt_rows hW).1
  have w1 := hW.1
  have r1 := hM.1.1
  induction n with
  | zero =>
    intro t ht
    refine tMX12_commonly_5 (d := d + 1) ⟨fun _ => by rw [show t = aT_ A by omega]; exact hQ, fun c => ?_⟩
    simp (disch := omega) only [r1, ↓nn_m3, nn_p0, nn_p1, nn_p2, nn_p3, nn_p4, nn_p5, nn_p6, nn_p7, nn_p8, nn_p9, nn_p10, nn_p20, nn_p21, nn_le, nn_lt, nn_eq, nn_cl, nn_in, nn_add, nn_mul, nn_en, nn_ne, nn_mn, nn_64] at c
    omega
  | succ n ih =>
    intro t ht
    have e12 := hM.2.2.2.2.2.2.2 r t hr (by omega)
    have hK5 := hW.2.2.2.2.2.2.2.2.2.1 7 t e
    refine tMX12_commonly_5 (d := d + 1) ⟨fun c => ?_, fun _ => ?_⟩
    · simp (disch := omega) only [r1, ↓nn_m3, nn_p0, nn_p1, nn_p2, nn_p3, nn_p4, nn_p5, nn_p6, nn_p7, nn_p8, nn_p9, nn_p10, nn_p20, nn_p21, nn_le, nn_lt, nn_eq, nn_cl, nn_in, nn_add, nn_mul, nn_en, nn_ne, nn_mn, nn_64] at c
      omega
    · rw [nn_p3, nn_mul, nn_add]
      refine ⟨la_vp (by omega) (by omega), _, _, mt_loss (d := d) (w := 7) hW hM (Or.inr rfl) (by omega) he, ?_⟩
      rintro i6 l7 dd8 x9 ⟨⟩
      rw [nn_cl (by omega), e12, nn_64 (by omega), nl_mul, nl_add, la_nx]
      exact ih (t + 1) (by omega)
theorem md_commonly {A : mA_} {r e : Nat} (hW : mt_W A) (hM : mt_M A i l) (hr : r < mt_rad (aS_ A) (aV_ A)) (he : e < aT_ A) : ab_Sp MX12_commonly (d + 2) [.ref 205, .int (Int32.ofNat r), .int (Int32.ofNat e)] (i, l, dd, x) (ab_E0 sc) (some (.long (Int64.ofNat (cs_l A 7 (pu_g (aS_ A) (aV_ A) r) e (aT_ A))))) (fun σ => σ = (i, l, dd, x)) := by
  refine ab_ent (n := 2) okMX12_commonly.1 (fun G => Nat.le_of_ble_eq_true rfl) (fun Q hQ => ?_)
  exact tMX12_commonly_0 (d := d + 1) (md_cy5 hW hM hr he (hQ _ rfl) (aT_ A) 0 (by omega))
/-- what all know of a row -/
def cs_kn (A : mA_) (b : Nat → Nat) : Nat := mt_li (fun e => Int64.ofNat (cs_l A 7 b e (aT_ A))) (aT_ A - 1)
theorem md_knownAt {A : mA_} {r : Nat} (hW : mt_W A) (hp : 0 < aV_ A) (hM : mt_M A i l) (hr : r < mt_rad (aS_ A) (aV_ A)) : ab_Sp MX12_knownAt (d + 3) [.ref 205, .int (Int32.ofNat r)] (i, l, dd, x) (ab_E0 sc) (some (.int (Int32.ofNat (cs_kn A (pu_g (aS_ A) (aV_ A) r))))) (fun σ => σ = (i, l, dd, x)) := by
  have w1 := hW.1
  have w4 := hW.2.2.2.1 hp
  have r1 := hM.1.1
  refine ab_ent (n := 1) okMX12_knownAt.1 (fun G => Nat.le_of_ble_eq_true rfl) (fun Q hQ => ?_)
  refine tMX12_knownAt_0 (d := d + 2) ⟨_, _, md_commonly (d := d) (e := 0) hW hM hr (by omega), ?_⟩
  rintro i5 l6 dd7 x8 ⟨⟩
  refine ⟨_, _, md_commonly (d := d) (e := 1) hW hM hr (by omega), ?_⟩
  rintro i5 l6 dd7 x8 ⟨⟩
  rw [r1, nn_p3, nn_eq (by omega) (by omega)]
  refine ⟨fun g => ?_, fun g => ⟨_, _, md_commonly (d := d) (e := 2) hW hM hr (by omega), ?_⟩⟩
  · refine tMX12_knownAt_31 (d := d + 2) ⟨_, _, md_least (d := d + 1) (f := fun e => Int64.ofNat (cs_l A 7 (pu_g (aS_ A) (aV_ A) r) e (aT_ A))) hW hp hM rfl rfl (fun z => absurd z g), ?_⟩
    rintro i5 l6 dd7 x8 ⟨⟩
    exact hQ _ rfl
  · rintro i5 l6 dd7 x8 ⟨⟩
    refine tMX12_knownAt_31 (d := d + 2) ⟨_, _, md_least (d := d + 1) (f := fun e => Int64.ofNat (cs_l A 7 (pu_g (aS_ A) (aV_ A) r) e (aT_ A))) hW hp hM rfl rfl (fun _ => rfl), ?_⟩
    rintro i5 l6 dd7 x8 ⟨⟩
    exact hQ _ rfl
/-- the class's parts of a case -/
theorem mt_po11 {A : mA_} {m a n t : Nat} {b : Nat → Nat} (hW : mt_W A) (hm : ab_isM m) (hK : mt_K A m i) (hk : (ab_E0 sc).1 a = .inr (0, n)) (hn : 7 ≤ n ∧ n < 2 ^ 31) (ht : t < 3) (hb : ∀ v, v < aV_ A → i a v = Int32.ofNat (b v) ∧ b v < aS_ A v) {Q : ab_Qt} (hQ : Q (some (some (.long (Int64.ofNat (mt_pa A b t))))) (i, l, dd, x) (ab_E0 sc)) : ∀ r v : Nat, aV_ A = v + r → ab_Fr MX1_partsOf (d + 1) Q 11 [some (.ref m), some (.int (Int32.ofNat t)), some (.ref a), some (.long (Int64.ofNat (pu_p (aC_ A t) (fun v => aL_ A v (b v) t) v))), none, some (.int (Int32.ofNat v))] [] (0, 0) (i, l, dd, x) (ab_E0 sc) := by
  intro r
  have w2 := hW.2.1
  have q2 := hK.1.2
  induction r with
  | zero =>
    intro v hv
    refine tMX1_partsOf_11 hm hk ⟨fun _ => by rw [show v = aV_ A by omega]; exact hQ, fun c => ?_⟩
    simp (disch := omega) only [q2, ↓nn_m3, nn_p0, nn_p1, nn_p2, nn_p3, nn_p4, nn_p5, nn_p6, nn_p7, nn_p8, nn_p9, nn_p10, nn_p20, nn_p21, nn_le, nn_lt, nn_eq, nn_cl, nn_in, nn_add, nn_mul, nn_en, nn_ne, nn_mn, nn_64] at c
    omega
  | succ r ih =>
    intro v hv
    obtain ⟨e1, e2⟩ := hb v (by omega)
    have hS := hW.2.2.2.2.2.2.1 v (by omega)
    have eL := hK.2.2.2.2.2.1 v (b v) t (by omega) e2 ht
    have hL := (hW.2.2.2.2.2.2.2.1 v (b v) t).1
    refine tMX1_partsOf_11 hm hk ⟨fun c => ?_, fun _ => ?_⟩
    · simp (disch := omega) only [q2, ↓nn_m3, nn_p0, nn_p1, nn_p2, nn_p3, nn_p4, nn_p5, nn_p6, nn_p7, nn_p8, nn_p9, nn_p10, nn_p20, nn_p21, nn_le, nn_lt, nn_eq, nn_cl, nn_in, nn_add, nn_mul, nn_en, nn_ne, nn_mn, nn_64] at c
      omega
    · simp (disch := omega) only [e1, eL, ↓nn_m3, nn_p0, nn_p1, nn_p2, nn_p3, nn_p4, nn_p5, nn_p6, nn_p7, nn_p8, nn_p9, nn_p10, nn_p20, nn_p21, nn_le, nn_lt, nn_eq, nn_cl, nn_in, nn_add, nn_mul, nn_en, nn_ne, nn_mn, nn_64, nl_p0, nl_p1, nl_p20, nl_add, nl_mul]
      exact ⟨trivial, trivial, trivial, ih (v + 1) (by omega)⟩
theorem mt_parts1 {A : mA_} {m a n t : Nat} {b : Nat → Nat} (hW : mt_W A) (hm : ab_isM m) (hK : mt_K A m i) (hk : (ab_E0 sc).1 a = .inr (0, n)) (hn : 7 ≤ n ∧ n < 2 ^ 31) (ht : t < 3) (hb : ∀ v, v < aV_ A → i a v = Int32.ofNat (b v) ∧ b v < aS_ A v) : ab_Sp MX1_partsOf (d + 1) [.ref m, .int (Int32.ofNat t), .ref a] (i, l, dd, x) (ab_E0 sc) (some (.long (Int64.ofNat (mt_pa A b t)))) (fun σ => σ = (i, l, dd, x)) := by
  have e1 := hK.2.2.1 t ht
  have hC := (hW.2.2.2.2.1 t).1
  refine ab_ent (n := 2) okMX1_partsOf.1 (fun G => Nat.le_of_ble_eq_true rfl) (fun Q hQ => ?_)
  refine tMX1_partsOf_0 hm hk ?_
  simp (disch := omega) only [e1, ↓nn_m3, nn_p0, nn_p1, nn_p2, nn_p3, nn_p4, nn_p5, nn_p6, nn_p7, nn_p8, nn_p9, nn_p10, nn_p20, nn_p21, nn_le, nn_lt, nn_eq, nn_cl, nn_in, nn_add, nn_mul, nn_en, nn_ne, nn_mn, nn_64]
  exact ⟨trivial, mt_po11 hW hm hK hk hn ht hb (hQ _ rfl) (aV_ A) 0 (by omega)⟩
theorem kd_49 {m : Nat} (hm : ab_isM m) : (ab_E0 sc).1 (m + 49) = .inr (1, 3) := by
  rcases hm with rfl | rfl | rfl <;> rfl
theorem kd_48 {m : Nat} (hm : ab_isM m) : (ab_E0 sc).1 (m + 48) = .inr (0, 3) := by
  rcases hm with rfl | rfl | rfl <;> rfl
theorem mt_kb2 {A : mA_} {m a n : Nat} {b : Nat → Nat} (hW : mt_W A) (hp : 0 < aV_ A) (hm : ab_isM m) (hK : mt_K A m i) (hk : (ab_E0 sc).1 a = .inr (0, n)) (hn : 7 ≤ n ∧ n < 2 ^ 31) (hb : ∀ v, v < aV_ A → i a v = Int32.ofNat (b v) ∧ b v < aS_ A v) {l0 : Nat → Nat → Int64} {Q : ab_Qt} (hQ : ∀ l2, fr_o (m + 49) (m + 49) l0 l2 → Q (some (some (.int (Int32.ofNat (cs_kn A b))))) (i, l2, dd, x) (ab_E0 sc)) : ∀ (r t : Nat) (l2 : Nat → Nat → Int64), 3 = t + r → fr_o (m + 49) (m + 49) l0 l2 → (∀ u, u < t → l2 (m + 49) u = Int64.ofNat (mt_pa A b u)) → ab_Fr MX1_knownBy (d + 3) Q 2 [some (.ref m), some (.ref a), some (.int (Int32.ofNat t))] [] (0, 0) (i, l2, dd, x) (ab_E0 sc) := by
  intro r
  have w1 := hW.1
  have w4 := hW.2.2.2.1 hp
  induction r with
  | zero =>
    intro t l2 ht f2 z2
    refine tMX1_knownBy_2 (d := d + 2) hm hk ⟨fun _ => ?_, fun c => ?_⟩
    · rw [hK.1.1]
      refine ⟨_, _, mt_leastOf (d := d) (fr := 0) (P := fun t => mt_pa A b t) (K := aK_ A 7) (Or.inl ⟨m, hm, rfl⟩) (kd_49 hm) (mt_KLo hW hK) (fun t ht => by rw [Nat.zero_add]; exact z2 t (by omega)) (by omega) (by omega), ?_⟩
      rintro i6 l7 dd8 x9 ⟨⟩
      rw [show mt_li (mt_f (fun t => mt_pa A b t) (aK_ A 7)) (aT_ A - 1) = cs_kn A b from mt_li_c _ (fun e _ => congrArg Int64.ofNat (pu_s3 w1 (fun t ht => by dsimp only; rw [mt_pa0 hW ht, Nat.zero_mul])))]
      exact hQ l2 f2
    · simp (disch := omega) only [↓nn_m3, nn_p0, nn_p1, nn_p2, nn_p3, nn_p4, nn_p5, nn_p6, nn_p7, nn_p8, nn_p9, nn_p10, nn_p20, nn_p21, nn_le, nn_lt, nn_eq, nn_cl, nn_in, nn_add, nn_mul, nn_en, nn_ne, nn_mn, nn_64] at c
      omega
  | succ r ih =>
    intro t l2 ht f2 z2
    refine tMX1_knownBy_2 (d := d + 2) hm hk ⟨fun c => ?_, fun _ => ⟨_, _, mt_parts1 (d := d + 1) hW hm hK hk hn (by omega) hb, ?_⟩⟩
    · simp (disch := omega) only [↓nn_m3, nn_p0, nn_p1, nn_p2, nn_p3, nn_p4, nn_p5, nn_p6, nn_p7, nn_p8, nn_p9, nn_p10, nn_p20, nn_p21, nn_le, nn_lt, nn_eq, nn_cl, nn_in, nn_add, nn_mul, nn_en, nn_ne, nn_mn, nn_64] at c
      omega
    · rintro i6 l7 dd8 x9 ⟨⟩
      refine ⟨la_vp (by omega) (by omega), ?_⟩
      rintro l3 rfl
      rw [nn_cl (by omega), la_nx]
      refine ih (t + 1) _ (by omega) (fr_u f2 (by omega)) (fun u hu => ?_)
      by_cases e : u = t
      · rw [e]
        exact uu_e
      · rw [uu_j e]
        exact z2 u (by omega)
theorem mt_knownBy {A : mA_} {m a n : Nat} {b : Nat → Nat} (hW : mt_W A) (hp : 0 < aV_ A) (hm : ab_isM m) (hK : mt_K A m i) (hk : (ab_E0 sc).1 a = .inr (0, n)) (hn : 7 ≤ n ∧ n < 2 ^ 31) (hb : ∀ v, v < aV_ A → i a v = Int32.ofNat (b v) ∧ b v < aS_ A v) : ab_Sp MX1_knownBy (d + 3) [.ref m, .ref a] (i, l, dd, x) (ab_E0 sc) (some (.int (Int32.ofNat (cs_kn A b)))) (fun σ => ∃ l2, σ = (i, l2, dd, x) ∧ fr_o (m + 49) (m + 49) l l2) := by
  refine ab_ent (n := 1) okMX1_knownBy.1 (fun G => Nat.le_of_ble_eq_true rfl) (fun Q hQ => ?_)
  refine tMX1_knownBy_0 (d := d + 2) hm hk (mt_kb2 (l0 := l) hW hp hm hK hk hn hb ?_ 3 0 l (by omega) fr_r (fun u hu => absurd hu (Nat.not_lt_zero u)))
  intro l2 f2
  exact hQ _ ⟨l2, rfl, f2⟩
/-- decided with signs: the class -/
theorem mt_ds6 {A : mA_} {m a n : Nat} {b : Nat → Nat} (hW : mt_W A) (hp : 0 < aV_ A) (hm : ab_isM m) {i0 : Nat → Nat → Int32} (hK : mt_K A m i0) (hk : (ab_E0 sc).1 a = .inr (0, n)) (hn : 7 ≤ n ∧ n < 2 ^ 31) (ha : a ≠ m + 48) (hb : ∀ v, v < aV_ A → i0 a v = Int32.ofNat (b v) ∧ b v < aS_ A v) {Q : ab_Qt} (hQ : ∀ i2, fr_o (m + 48) (m + 48) i0 i2 → Q (some (some (.int (Int32.ofNat (cs_d A (aO_ A) b))))) (i2, l, dd, x) (ab_E0 sc)) : ∀ (r v : Nat) (i2 : Nat → Nat → Int32), aV_ A = v + r → fr_o (m + 48) (m + 48) i0 i2 → (∀ t, t < 3 → i2 (m + 48) t = Int32.ofNat (mt_tl (aW_ A) (fun v => aO_ A v (b v)) t v)) → ab_Fr MX1_decidesWithSigns (d + 2) Q 6 [some (.ref m), some (.ref a), some (.int (Int32.ofNat v))] [] (0, 0) (i2, l, dd, x) (ab_E0 sc) := by
  intro r
  have w2 := hW.2.1
  have hW2 := hW
  obtain ⟨w1, -, w3, w4, w5, w6, w7, w8, w9, w10, w11, w12, w13, w14, w15⟩ := hW2
  induction r with
  | zero =>
    intro v i2 hv f2 z2
    have hK2 : mt_K A m i2 := mt_K_f hm hK (fun k h1 h2 => f2 k (by omega)) hW
    have q2 := hK2.1.2
    have q5 := hK2.2.1.2.2
    have hbd : ∀ t, mt_tl (aW_ A) (fun v => aO_ A v (b v)) t (aV_ A) < 2 ^ 31 := fun t => by
      have := mt_tl_le (w := aW_ A) (b := fun v => aO_ A v (b v)) (t := t) w12 (aV_ A)
      omega
    have hv2 : v = aV_ A := by omega
    rw [hv2] at z2 ⊢
    have fin : ∀ z, z = (if aH_ A = 7 then 9 else aO_ A (aH_ A) (b (aH_ A))) → z < 2 ^ 31 → ab_Fr MX1_decidesWithSigns (d + 2) Q 72 [some (.ref m), none, none] [.int (Int32.ofNat z)] (0, 0) (i2, l, dd, x) (ab_E0 sc) := by
      rintro z hz hz2
      refine tMX1_decidesWithSigns_72 (d := d + 1) hm ⟨_, _, mt_decides (d := d) (f := fun t => mt_tl (aW_ A) (fun v => aO_ A v (b v)) t (aV_ A)) hW hp hm hK2 (kd_48 hm) (by omega) (fun t ht => z2 t (by omega)) hbd hz2, ?_⟩
      rintro i5 l6 dd7 x8 ⟨⟩
      rw [hz]
      exact hQ _ f2
    refine tMX1_decidesWithSigns_6 (d := d + 1) hm hk ⟨fun _ => ?_, fun c => ?_⟩
    · rw [q5]
      unfold mt_h
      by_cases c7 : aH_ A = 7
      · rw [if_pos c7]
        exact ⟨fun z => absurd rfl z, fun _ => fin 9 (by rw [if_pos c7]) (by omega)⟩
      · rw [if_neg c7]
        have hH : aH_ A < aV_ A := by omega
        obtain ⟨e1, e2⟩ := hb (aH_ A) hH
        have hS := w7 (aH_ A) hH
        have e3 : i2 a (aH_ A) = Int32.ofNat (b (aH_ A)) := by rw [f2 a (by omega)]; exact e1
        have e4 := mt_KV hK2 (aH_ A) (b (aH_ A)) hH e2
        have h9 := mt_O9 hW (aH_ A) (b (aH_ A)) hH e2
        simp (disch := omega) only [e3, e4, ↓nn_m3, nn_p0, nn_p1, nn_p2, nn_p3, nn_p4, nn_p5, nn_p6, nn_p7, nn_p8, nn_p9, nn_p10, nn_p20, nn_p21, nn_le, nn_lt, nn_eq, nn_cl, nn_in, nn_add, nn_mul, nn_en, nn_ne, nn_mn, nn_64]
        exact ⟨fun _ => ⟨trivial, trivial, fin _ (by rw [if_neg c7]) (by omega)⟩, fun z => z.elim⟩
    · simp (disch := omega) only [q2, ↓nn_m3, nn_p0, nn_p1, nn_p2, nn_p3, nn_p4, nn_p5, nn_p6, nn_p7, nn_p8, nn_p9, nn_p10, nn_p20, nn_p21, nn_le, nn_lt, nn_eq, nn_cl, nn_in, nn_add, nn_mul, nn_en, nn_ne, nn_mn, nn_64] at c
      omega
  | succ r ih =>
    intro v i2 hv f2 z2
    have hK2 : mt_K A m i2 := mt_K_f hm hK (fun k h1 h2 => f2 k (by omega)) hW
    have q2 := hK2.1.2
    obtain ⟨e1, e2⟩ := hb v (by omega)
    have hS := w7 v (by omega)
    have e3 : i2 a v = Int32.ofNat (b v) := by rw [f2 a (by omega)]; exact e1
    have e4 := mt_KV hK2 v (b v) (by omega) e2
    have h9 := w11 v (b v) (by omega) e2
    have e5 := (hK2.2.2.2.2.1 v (by omega)).2
    have eT := hK2.1.1
    refine tMX1_decidesWithSigns_6 (d := d + 1) hm hk ⟨fun c => ?_, fun _ => ?_⟩
    · simp (disch := omega) only [q2, ↓nn_m3, nn_p0, nn_p1, nn_p2, nn_p3, nn_p4, nn_p5, nn_p6, nn_p7, nn_p8, nn_p9, nn_p10, nn_p20, nn_p21, nn_le, nn_lt, nn_eq, nn_cl, nn_in, nn_add, nn_mul, nn_en, nn_ne, nn_mn, nn_64] at c
      omega
    · rw [nn_cl (by omega), e3, nn_m3, nn_mul, nn_add, nn_cl (by omega), e4]
      refine ⟨la_vp (by omega) (by omega), la_vp (by omega) (by omega), _, mt_addV (d := d) (n := 3) (v := v) hm (kd_48 hm) (by omega) (by omega) (by rw [eT, la_nat (by omega)]; omega), ?_⟩
      rintro i5 l6 dd7 x8 h
      rw [eT, la_nat (by omega), la_nat (by omega), e5] at h
      rw [la_nx]
      by_cases c : aO_ A v (b v) < aT_ A
      · rw [if_pos (by omega)] at h
        cases h
        refine ih (v + 1) _ (by omega) (fr_u f2 (by omega)) (fun t ht => ?_)
        show _ = Int32.ofNat (mt_tl (aW_ A) (fun v => aO_ A v (b v)) t v + (if aO_ A v (b v) = t then aW_ A v else 0))
        by_cases e : t = aO_ A v (b v)
        · rw [uu_a ⟨rfl, by omega⟩, show ((aO_ A v (b v) : Int)).toNat = aO_ A v (b v) by omega, z2 _ (by omega), nn_add, e, if_pos rfl]
        · rw [uu_j (by omega), z2 t ht, if_neg (fun q => e q.symm), Nat.add_zero]
      · rw [if_neg (by omega)] at h
        cases h
        refine ih (v + 1) _ (by omega) f2 (fun t ht => ?_)
        show _ = Int32.ofNat (mt_tl (aW_ A) (fun v => aO_ A v (b v)) t v + (if aO_ A v (b v) = t then aW_ A v else 0))
        rw [z2 t ht]
        by_cases e : t < aT_ A
        · rw [if_neg (by omega), Nat.add_zero]
        · rw [if_neg (by omega), Nat.add_zero]
theorem mt_decWS {A : mA_} {m a n : Nat} {b : Nat → Nat} (hW : mt_W A) (hp : 0 < aV_ A) (hm : ab_isM m) (hK : mt_K A m i) (hk : (ab_E0 sc).1 a = .inr (0, n)) (hn : 7 ≤ n ∧ n < 2 ^ 31) (ha : a ≠ m + 48) (hb : ∀ v, v < aV_ A → i a v = Int32.ofNat (b v) ∧ b v < aS_ A v) : ab_Sp MX1_decidesWithSigns (d + 2) [.ref m, .ref a] (i, l, dd, x) (ab_E0 sc) (some (.int (Int32.ofNat (cs_d A (aO_ A) b)))) (fun σ => ∃ i2, σ = (i2, l, dd, x) ∧ fr_o (m + 48) (m + 48) i i2) := by
  refine ab_ent (n := 1) okMX1_decidesWithSigns.1 (fun G => Nat.le_of_ble_eq_true rfl) (fun Q hQ => ?_)
  refine tMX1_decidesWithSigns_0 (d := d + 1) hm hk ⟨_, mt_clearT (d := d) hm, ?_⟩
  rintro i5 l6 dd7 x8 ⟨⟩
  refine mt_ds6 (i0 := i) hW hp hm hK hk hn ha hb ?_ (aV_ A) 0 _ (by omega) (fr_u (fr_u (fr_u fr_r (by omega)) (by omega)) (by omega)) (fun t ht => ?_)
  · intro i2 f2
    exact hQ _ ⟨i2, rfl, f2⟩
  · show _ = Int32.ofNat 0
    rcases (show t = 0 ∨ t = 1 ∨ t = 2 by omega) with rfl | rfl | rfl
    · rw [uu_j (by omega), uu_j (by omega)]
      exact uu_e
    · rw [uu_j (by omega)]
      exact uu_e
    · exact uu_e
end TQV
