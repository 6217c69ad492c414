/-! the class: choices added, opened; voting, seeing, pin, silence, leaveOut -/
section TQE
variable {d : Nat} {sc : Nat × (Nat → Int32)} {i : Nat → Nat → Int32} {l : Nat → Nat → Int64} {dd : Nat → Nat → Value} {x : Nat}
/-- what stays of the others' choices -/
def mt_co (v : Nat) (i i2 : Nat → Nat → Int32) : Prop := ∀ (c : mC_) (u : Nat), u ≠ v → c.1 ≤ 3 → mt_c1 c u i → mt_c1 c u i2
theorem mt_co_t {v : Nat} {i i2 i3 : Nat → Nat → Int32} (h1 : mt_co v i i2) (h2 : mt_co v i2 i3) : mt_co v i i3 := fun c u hu h3 h => h2 c u hu h3 (h1 c u hu h3 h)
theorem mt_co_r {v : Nat} : mt_co v i i := fun _ _ _ _ h => h
theorem mt_co_u {v k j : Nat} {i2 : Nat → Nat → Int32} {z : Int32} (h : mt_co v i i2) (hk : (k = 161 ∧ j = v) ∨ (k = 163 ∧ 3 * v ≤ j ∧ j < 3 * v + 3) ∨ (k = 164 ∧ 9 * v ≤ j ∧ j < 9 * v + 9)) : mt_co v i (ab_u i2 k j z) := by
  intro c u hu h3 hc
  obtain ⟨g1, g2⟩ := h c u hu h3 hc
  have e1 : ab_u i2 k j z 161 u = i2 161 u := if_neg (by omega)
  refine ⟨by rw [e1]; exact g1, fun a ha => ⟨?_, fun t ht => ?_⟩⟩
  · have e2 : ab_u i2 k j z 163 (3 * u + a) = i2 163 (3 * u + a) := if_neg (by omega)
    rw [e2]
    exact (g2 a ha).1
  · have e2 : ab_u i2 k j z 164 (3 * (3 * u + a) + t) = i2 164 (3 * (3 * u + a) + t) := if_neg (by omega)
    rw [e2]
    exact (g2 a ha).2 t ht
/-- a choice opened: its code, its likelihoods all alike -/
theorem mt_oc33 {v n : Nat} {c lk : Nat} (hv : v < 7) (hn : n < 3) {Q : ab_Qt} (h161 : i 161 v = Int32.ofNat n) (hQ : ∀ i2, fr_o 161 164 i i2 → mt_co v i i2 → i2 161 v = Int32.ofNat (n + 1) → (∀ j, i2 163 j = i 163 j) → (∀ j, j < 9 * v + 3 * n → i2 164 j = i 164 j) → (∀ t, t < 3 → i2 164 (3 * (3 * v + n) + t) = Int32.ofNat lk) → Q (some none) (i2, l, dd, x) (ab_E0 sc)) :
    ∀ (r t : Nat) (i2 : Nat → Nat → Int32), 3 = t + r → fr_o 161 164 i i2 → mt_co v i i2 → i2 161 v = Int32.ofNat n → (∀ j, i2 163 j = i 163 j) → (∀ j, j < 9 * v + 3 * n → i2 164 j = i 164 j) → (∀ u, u < t → i2 164 (3 * (3 * v + n) + u) = Int32.ofNat lk) → ab_Fr MX4_openChoice (d + 1) Q 33 [some (.ref 160), some (.int (Int32.ofNat v)), none, some (.int (Int32.ofNat lk)), some (.int (Int32.ofNat (3 * v + n))), some (.int (Int32.ofNat t))] [] (0, 0) (i2, l, dd, x) (ab_E0 sc) := by
  intro r
  induction r with
  | zero =>
    intro t i2 ht f2 o2 e1 e3 e4 e5
    refine tMX4_openChoice_33 ⟨fun _ => ?_, fun c => ?_⟩
    · simp (disch := omega) only [e1, ↓nn_m3, nn_p0, nn_p1, nn_p2, nn_p3, nn_p4, nn_p5, nn_p6, nn_p7, nn_p8, nn_p9, nn_p10, nn_p20, nn_p21, nn_le, nn_lt, nn_eq, nn_cl, nn_in, nn_add, nn_mul, nn_en, nn_ne, nn_mn, nn_64]
      refine ⟨trivial, trivial, ?_⟩
      rintro i3 rfl
      refine hQ _ (fr_u f2 (by omega)) (mt_co_u o2 (by omega)) uu_e (fun j => ?_) (fun j hj => ?_) (fun u hu => ?_)
      · rw [uu_k (by omega)]
        exact e3 j
      · rw [uu_k (by omega)]
        exact e4 j hj
      · rw [uu_k (by omega)]
        exact e5 u (by omega)
    · simp (disch := omega) only [↓nn_m3, nn_p0, nn_p1, nn_p2, nn_p3, nn_p4, nn_p5, nn_p6, nn_p7, nn_p8, nn_p9, nn_p10, nn_p20, nn_p21, nn_le, nn_lt, nn_eq, nn_cl, nn_in, nn_add, nn_mul, nn_en, nn_ne, nn_mn, nn_64] at c
      omega
  | succ r ih =>
    intro t i2 ht f2 o2 e1 e3 e4 e5
    refine tMX4_openChoice_33 ⟨fun c => ?_, fun _ => ?_⟩
    · simp (disch := omega) only [↓nn_m3, nn_p0, nn_p1, nn_p2, nn_p3, nn_p4, nn_p5, nn_p6, nn_p7, nn_p8, nn_p9, nn_p10, nn_p20, nn_p21, nn_le, nn_lt, nn_eq, nn_cl, nn_in, nn_add, nn_mul, nn_en, nn_ne, nn_mn, nn_64] at c
      omega
    · simp (disch := omega) only [↓nn_m3, nn_p0, nn_p1, nn_p2, nn_p3, nn_p4, nn_p5, nn_p6, nn_p7, nn_p8, nn_p9, nn_p10, nn_p20, nn_p21, nn_le, nn_lt, nn_eq, nn_cl, nn_in, nn_add, nn_mul, nn_en, nn_ne, nn_mn, nn_64]
      refine ⟨trivial, ?_⟩
      rintro i3 rfl
      refine ih (t + 1) _ (by omega) (fr_u f2 (by omega)) (mt_co_u o2 (by omega)) (by rw [uu_k (by omega)]; exact e1) (fun j => ?_) (fun j hj => ?_) (fun u hu => ?_)
      · rw [uu_k (by omega)]
        exact e3 j
      · rw [uu_j (by omega)]
        exact e4 j hj
      · by_cases e : u = t
        · rw [e]
          exact uu_e
        · rw [uu_j (by omega)]
          exact e5 u (by omega)
theorem mt_openC {v c lk : Nat} {ch : mC_} (hv : v < 7) (hc : mt_c1 ch v i) (hn : ch.1 < 3) : ab_Sp MX4_openChoice (d + 1) [.ref 160, .int (Int32.ofNat v), .int (Int32.ofNat c), .int (Int32.ofNat lk)] (i, l, dd, x) (ab_E0 sc) none (fun σ => ∃ i2, σ = (i2, l, dd, x) ∧ fr_o 161 164 i i2 ∧ mt_co v i i2 ∧ mt_c1 (ch.1 + 1, pu_u ch.2.1 ch.1 c, fun b t => if b = ch.1 then lk else ch.2.2 b t) v i2) := by
  obtain ⟨h1, h2⟩ := hc
  refine ab_ent (n := 3) okMX4_openChoice.1 (fun G => Nat.le_of_ble_eq_true rfl) (fun Q hQ => ?_)
  refine tMX4_openChoice_0 ?_
  simp (disch := omega) only [h1, ↓nn_m3, nn_p0, nn_p1, nn_p2, nn_p3, nn_p4, nn_p5, nn_p6, nn_p7, nn_p8, nn_p9, nn_p10, nn_p20, nn_p21, nn_le, nn_lt, nn_eq, nn_cl, nn_in, nn_add, nn_mul, nn_en, nn_ne, nn_mn, nn_64]
  refine ⟨trivial, fun z => by omega, fun _ => ⟨trivial, trivial, ?_⟩⟩
  rintro i2 rfl
  refine mt_oc33 (c := c) hv hn (by rw [uu_k (by omega)]; exact h1) ?_ 3 0 _ (by omega) fr_r mt_co_r (by rw [uu_k (by omega)]; exact h1) (fun j => rfl) (fun j _ => rfl) (fun u hu => absurd hu (by omega))
  intro i3 f3 o3 e1 e3 e4 e5
  refine (hQ _ ⟨_, rfl, fr_t (fr_u fr_r (by omega)) f3, mt_co_t (mt_co_u mt_co_r (by omega)) o3, e1, fun a ha => ⟨?_, fun t ht => ?_⟩⟩)
  · rw [e3]
    by_cases e : a = ch.1
    · rw [e]
      show _ = Int32.ofNat (pu_u ch.2.1 ch.1 c ch.1)
      rw [pu_ue]
      exact uu_e
    · show _ = Int32.ofNat (pu_u ch.2.1 ch.1 c a)
      rw [pu_un e, uu_j (by omega)]
      have ha : a < ch.1 + 1 := ha
      exact (h2 a (by omega)).1
  · show _ = Int32.ofNat (if a = ch.1 then lk else ch.2.2 a t)
    have ha : a < ch.1 + 1 := ha
    by_cases e : a = ch.1
    · rw [if_pos e, e]
      exact e5 t ht
    · rw [if_neg e, e4 _ (by omega), uu_k (by omega)]
      exact (h2 a (by omega)).2 t ht
/-- the likelihoods of a choice grow by those of a sign -/
theorem mt_ac56 {A : mA_} {m v s a : Nat} {f : Nat → Nat} (hW : mt_W A) (hm : ab_isM m) (hd : dd 160 0 = .ref m) (hK : mt_K A m i) (hv : v < aV_ A) (hs : s < aS_ A v) (ha : a < 3) (hf : ∀ t, t < 3 → i 164 (3 * (3 * v + a) + t) = Int32.ofNat (f t)) {Q : ab_Qt} (hQ : ∀ i2, fr_o 161 164 i i2 → mt_co v i i2 → (∀ j, i2 161 j = i 161 j) → (∀ j, i2 163 j = i 163 j) → (∀ j, (j < 3 * (3 * v + a) ∨ 3 * (3 * v + a) + 3 ≤ j) → i2 164 j = i 164 j) → (∀ t, t < 3 → i2 164 (3 * (3 * v + a) + t) = Int32.ofNat (f t + aL_ A v s t)) → Q (some none) (i2, l, dd, x) (ab_E0 sc)) :
    ∀ (r t : Nat) (i2 : Nat → Nat → Int32), 3 = t + r → fr_o 161 164 i i2 → mt_co v i i2 → (∀ j, i2 161 j = i 161 j) → (∀ j, i2 163 j = i 163 j) → (∀ j, (j < 3 * (3 * v + a) ∨ 3 * (3 * v + a) + 3 ≤ j) → i2 164 j = i 164 j) → (∀ u, u < t → i2 164 (3 * (3 * v + a) + u) = Int32.ofNat (f u + aL_ A v s u)) → (∀ u, t ≤ u → u < 3 → i2 164 (3 * (3 * v + a) + u) = Int32.ofNat (f u)) → ab_Fr MX4_addChoice (d + 1) Q 56 [some (.ref 160), some (.int (Int32.ofNat v)), some (.int (Int32.ofNat s)), none, some (.int (Int32.ofNat a)), some (.int (Int32.ofNat t))] [] (0, 0) (i2, l, dd, x) (ab_E0 sc) := by
  intro r
  have w2 := hW.2.1
  have hS := hW.2.2.2.2.2.2.1 v hv
  induction r with
  | zero =>
    intro t i2 ht f2 o2 e1 e3 e4 e5 e6
    refine tMX4_addChoice_56 ⟨fun _ => hQ i2 f2 o2 e1 e3 e4 (fun u hu => e5 u (by omega)), fun c => ?_⟩
    simp (disch := omega) only [↓nn_m3, nn_p0, nn_p1, nn_p2, nn_p3, nn_p4, nn_p5, nn_p6, nn_p7, nn_p8, nn_p9, nn_p10, nn_p20, nn_p21, nn_le, nn_lt, nn_eq, nn_cl, nn_in, nn_add, nn_mul, nn_en, nn_ne, nn_mn, nn_64] at c
    omega
  | succ r ih =>
    intro t i2 ht f2 o2 e1 e3 e4 e5 e6
    have eL : i2 (m + 5 + 6 * v + 1) (3 * t + s) = Int32.ofNat (aL_ A v s t) := (mt_K_o hm hK f2 (by omega) hW).2.2.2.2.2.1 v s t hv hs (by omega)
    refine tMX4_addChoice_56 ⟨fun c => ?_, fun _ => ?_⟩
    · simp (disch := omega) only [↓nn_m3, nn_p0, nn_p1, nn_p2, nn_p3, nn_p4, nn_p5, nn_p6, nn_p7, nn_p8, nn_p9, nn_p10, nn_p20, nn_p21, nn_le, nn_lt, nn_eq, nn_cl, nn_in, nn_add, nn_mul, nn_en, nn_ne, nn_mn, nn_64] at c
      omega
    · simp (disch := omega) only [↓nn_m3, nn_p0, nn_p1, nn_p2, nn_p3, nn_p4, nn_p5, nn_p6, nn_p7, nn_p8, nn_p9, nn_p10, nn_p20, nn_p21, nn_le, nn_lt, nn_eq, nn_cl, nn_in, nn_add, nn_mul, nn_en, nn_ne, nn_mn, nn_64]
      refine ⟨trivial, m, hd, hm, trivial, trivial, trivial, ?_⟩
      rintro i3 rfl
      simp (disch := omega) only [eL, e6, nn_add]
      refine ih (t + 1) _ (by omega) (fr_u f2 (by omega)) (mt_co_u o2 (by omega)) (fun j => ?_) (fun j => ?_) (fun j hj => ?_) (fun u hu => ?_) (fun u hu hu3 => ?_)
      · rw [uu_k (by omega)]
        exact e1 j
      · rw [uu_k (by omega)]
        exact e3 j
      · rw [uu_j (by omega)]
        exact e4 j hj
      · by_cases e : u = t
        · rw [e]
          exact uu_e
        · rw [uu_j (by omega)]
          exact e5 u (by omega)
      · rw [uu_j (by omega)]
        exact e6 u (by omega) hu3
end TQE
section TQF
variable {d : Nat} {sc : Nat × (Nat → Int32)} {i : Nat → Nat → Int32} {l : Nat → Nat → Int64} {dd : Nat → Nat → Value} {x : Nat}
theorem mt_ac3 {v s vote : Nat} {c : mC_} (hv : v < 7) (hc : mt_c1 c v i) (h3 : c.1 ≤ 3) (hb : ∀ a, a < c.1 → c.2.1 a ≤ 9) (hv9 : vote ≤ 9) {Q : ab_Qt} (hQ : ab_Fr MX4_addChoice (d + 1) Q 35 [some (.ref 160), some (.int (Int32.ofNat v)), some (.int (Int32.ofNat s)), some (.int (Int32.ofNat vote)), some (.int (Int32.ofNat (mt_fi c.2.1 vote c.1 0))), none] [] (0, 0) (i, l, dd, x) (ab_E0 sc)) :
    ∀ (r k : Nat), c.1 = k + r → mt_fi c.2.1 vote c.1 0 = mt_fi c.2.1 vote r k → ab_Fr MX4_addChoice (d + 1) Q 3 [some (.ref 160), some (.int (Int32.ofNat v)), some (.int (Int32.ofNat s)), some (.int (Int32.ofNat vote)), some (.int (Int32.ofNat k)), none] [] (0, 0) (i, l, dd, x) (ab_E0 sc) := by
  intro r
  obtain ⟨h1, h2⟩ := hc
  induction r with
  | zero =>
    intro k hk he
    rw [he] at hQ
    refine tMX4_addChoice_3 ⟨la_vp (by omega) (by omega), fun _ => hQ, fun c => ?_⟩
    simp (disch := omega) only [h1, ↓nn_m3, nn_p0, nn_p1, nn_p2, nn_p3, nn_p4, nn_p5, nn_p6, nn_p7, nn_p8, nn_p9, nn_p10, nn_p20, nn_p21, nn_le, nn_lt, nn_eq, nn_cl, nn_in, nn_add, nn_mul, nn_en, nn_ne, nn_mn, nn_64] at c
    omega
  | succ r ih =>
    intro k hk he
    have hb1 := hb k (by omega)
    have e1 := (h2 k (by omega)).1
    refine tMX4_addChoice_3 ⟨la_vp (by omega) (by omega), fun c => ?_, fun _ => ?_⟩
    · simp (disch := omega) only [h1, ↓nn_m3, nn_p0, nn_p1, nn_p2, nn_p3, nn_p4, nn_p5, nn_p6, nn_p7, nn_p8, nn_p9, nn_p10, nn_p20, nn_p21, nn_le, nn_lt, nn_eq, nn_cl, nn_in, nn_add, nn_mul, nn_en, nn_ne, nn_mn, nn_64] at c
      omega
    · simp (disch := omega) only [e1, ↓nn_m3, nn_p0, nn_p1, nn_p2, nn_p3, nn_p4, nn_p5, nn_p6, nn_p7, nn_p8, nn_p9, nn_p10, nn_p20, nn_p21, nn_le, nn_lt, nn_eq, nn_cl, nn_in, nn_add, nn_mul, nn_en, nn_ne, nn_mn, nn_64]
      refine ⟨trivial, fun c9 => ?_, fun c9 => ih (k + 1) (by omega) ?_⟩
      · rw [he, show mt_fi c.2.1 vote (r + 1) k = k from if_pos (by omega)] at hQ
        exact hQ
      · rw [he]
        exact if_neg (by omega)
theorem mt_addC {A : mA_} {m v s vote : Nat} {c : mC_} (hW : mt_W A) (hm : ab_isM m) (hd : dd 160 0 = .ref m) (hK : mt_K A m i) (hv : v < aV_ A) (hs : s < aS_ A v) (hc : mt_c1 c v i) (hb : mt_cb 2 c) (hv9 : vote ≤ 9) : ab_Sp MX4_addChoice (d + 2) [.ref 160, .int (Int32.ofNat v), .int (Int32.ofNat s), .int (Int32.ofNat vote)] (i, l, dd, x) (ab_E0 sc) none (fun σ => ∃ i2, σ = (i2, l, dd, x) ∧ fr_o 161 164 i i2 ∧ mt_co v i i2 ∧ mt_c1 (mt_ad c vote (aL_ A v s)) v i2) := by
  have w2 := hW.2.1
  have hb1 := hb.1
  obtain ⟨f1, f2, f3, f4⟩ := mt_fi_s (code := c.2.1) (vote := vote) c.1 0
  refine ab_ent (n := 3) okMX4_addChoice.1 (fun G => Nat.le_of_ble_eq_true rfl) (fun Q hQ => ?_)
  refine tMX4_addChoice_0 (d := d + 1) (mt_ac3 (d := d + 1) (by omega) hc (by omega) (fun a ha => (hb.2 a ha).1) hv9 ?_ c.1 0 (by omega) rfl)
  have key : ∀ (c2 : mC_) (i2 : Nat → Nat → Int32), mt_c1 c2 v i2 → fr_o 161 164 i i2 → mt_co v i i2 → mt_fi c.2.1 vote c.1 0 < c2.1 → c2.1 = (mt_ad c vote (aL_ A v s)).1 → c2.2.1 = (mt_ad c vote (aL_ A v s)).2.1 → (∀ b t, b < c2.1 → (mt_ad c vote (aL_ A v s)).2.2 b t = if b = mt_fi c.2.1 vote c.1 0 then c2.2.2 b t + aL_ A v s t else c2.2.2 b t) → ab_Fr MX4_addChoice (d + 2) Q 53 [some (.ref 160), some (.int (Int32.ofNat v)), some (.int (Int32.ofNat s)), none, some (.int (Int32.ofNat (mt_fi c.2.1 vote c.1 0))), none] [] (0, 0) (i2, l, dd, x) (ab_E0 sc) := by
    intro c2 i2 hc2 fr2 o2 hlt hn hcd hlk
    obtain ⟨g1, g2⟩ := hc2
    refine tMX4_addChoice_53 (d := d + 1) (mt_ac56 (d := d + 1) (f := fun t => c2.2.2 (mt_fi c.2.1 vote c.1 0) t) hW hm hd (mt_K_o hm hK fr2 (by omega) hW) hv hs (by omega) (fun t ht => (g2 _ hlt).2 t ht) ?_ 3 0 i2 (by omega) fr_r mt_co_r (fun _ => rfl) (fun _ => rfl) (fun _ _ => rfl) (fun u hu => absurd hu (by omega)) (fun u _ hu => (g2 _ hlt).2 u hu))
    intro i3 fr3 o3 e1 e3 e4 e5
    refine (hQ _ ⟨_, rfl, fr_t fr2 fr3, mt_co_t o2 o3, by rw [e1, ← hn]; exact g1, fun b hb => ?_⟩)
    rw [← hn] at hb
    refine ⟨by rw [e3, ← hcd]; exact (g2 b hb).1, fun t ht => ?_⟩
    rw [hlk b t hb]
    by_cases e : b = mt_fi c.2.1 vote c.1 0
    · rw [if_pos e, e]
      exact e5 t ht
    · rw [if_neg e, e4 _ (by omega)]
      exact (g2 b hb).2 t ht
  obtain ⟨h1, h2⟩ := hc
  refine tMX4_addChoice_35 (d := d + 1) ?_
  simp (disch := omega) only [h1, ↓nn_m3, nn_p0, nn_p1, nn_p2, nn_p3, nn_p4, nn_p5, nn_p6, nn_p7, nn_p8, nn_p9, nn_p10, nn_p20, nn_p21, nn_le, nn_lt, nn_eq, nn_cl, nn_in, nn_add, nn_mul, nn_en, nn_ne, nn_mn, nn_64]
  refine ⟨trivial, fun e => ?_, fun e => ⟨_, mt_openC (d := d) (c := vote) (lk := 0) (ch := c) (by omega) ⟨h1, h2⟩ (by omega), ?_⟩⟩
  · refine key c i ⟨h1, h2⟩ fr_r mt_co_r (by omega) ?_ ?_ (fun b t hb => ?_)
    · show c.1 = (if mt_fi c.2.1 vote c.1 0 = c.1 then c.1 + 1 else c.1)
      rw [if_neg e]
    · show c.2.1 = pu_u c.2.1 (mt_fi c.2.1 vote c.1 0) vote
      funext b
      unfold pu_u
      by_cases e2 : b = mt_fi c.2.1 vote c.1 0
      · rw [if_pos e2, e2]
        exact f3 (by omega)
      · rw [if_neg e2]
    · show (if b = mt_fi c.2.1 vote c.1 0 then (if mt_fi c.2.1 vote c.1 0 = c.1 then 0 else c.2.2 b t) + aL_ A v s t else c.2.2 b t) = _
      rw [if_neg e]
  · rintro i5 l6 dd7 x8 ⟨i2, ⟨⟩, fr2, o2, hc2⟩
    refine key _ _ hc2 fr2 o2 (show mt_fi c.2.1 vote c.1 0 < c.1 + 1 by omega) ?_ ?_ (fun b t hb => ?_)
    · show c.1 + 1 = (if mt_fi c.2.1 vote c.1 0 = c.1 then c.1 + 1 else c.1)
      rw [if_pos e]
    · show pu_u c.2.1 c.1 vote = pu_u c.2.1 (mt_fi c.2.1 vote c.1 0) vote
      rw [e]
    · show (if b = mt_fi c.2.1 vote c.1 0 then (if mt_fi c.2.1 vote c.1 0 = c.1 then 0 else c.2.2 b t) + aL_ A v s t else c.2.2 b t) = (if b = mt_fi c.2.1 vote c.1 0 then (if b = c.1 then 0 else c.2.2 b t) + aL_ A v s t else (if b = c.1 then 0 else c.2.2 b t))
      by_cases e2 : b = mt_fi c.2.1 vote c.1 0
      · rw [if_pos e2, if_pos e2, if_pos e, if_pos (by omega)]
      · rw [if_neg e2, if_neg e2, if_neg (by omega)]
/-- all choices of the voters before V -/
def rw_R (V : Nat) (cv : Nat → mC_) (i : Nat → Nat → Int32) : Prop := ∀ v, v < V → mt_c1 (cv v) v i
/-- the choices by a table of votes, signs before s -/
def mt_vc (A : mA_) (vt : Nat → Nat → Nat) (v : Nat) : Nat → mC_
  | 0 => mt_c0
  | s + 1 => mt_ad (mt_vc A vt v s) (vt v s) (aL_ A v s)
theorem mt_vc_b {A : mA_} {vt : Nat → Nat → Nat} {v : Nat} (hW : mt_W A) (h9 : ∀ s, s < aS_ A v → vt v s ≤ 9) : ∀ s, s ≤ aS_ A v → mt_cb s (mt_vc A vt v s) := by
  intro s
  induction s with
  | zero => intro _; exact ⟨Nat.le_refl 0, fun a ha => absurd ha (Nat.not_lt_zero a)⟩
  | succ s ih =>
    intro hs
    exact (mt_ad_b (ih (by omega)) (h9 s (by omega)) (fun t => (hW.2.2.2.2.2.2.2.1 v s t).1)).1
theorem mt_vt9 {A : mA_} {vt : Nat → Nat → Nat} (hW : mt_W A) (h : mt_vt A vt) {v s : Nat} (hv : v < aV_ A) (hs : s < aS_ A v) : vt v s ≤ 9 := by
  have := h v s hv hs
  have := hW.1
  omega
/-- a table of votes in a cell of the class -/
def mt_Vc (A : mA_) (i : Nat → Nat → Int32) (a : Nat) (vt : Nat → Nat → Nat) : Prop := ∀ v s, v < aV_ A → s < aS_ A v → i a (3 * v + s) = Int32.ofNat (vt v s)
theorem mt_vo28 {A : mA_} {m a n v : Nat} {vt : Nat → Nat → Nat} (hW : mt_W A) (hm : ab_isM m) (hd : dd 160 0 = .ref m) (hK : mt_K A m i) (hk : (ab_E0 sc).1 a = .inr (0, n)) (hn : 21 ≤ n ∧ n < 2 ^ 31) (ha : a < 161 ∨ 164 < a) (hV : mt_Vc A i a vt) (h9 : ∀ v s, v < aV_ A → s < aS_ A v → vt v s ≤ 9) (hv : v < aV_ A) {Q : ab_Qt} (hQ : ∀ i2, fr_o 161 164 i i2 → mt_co v i i2 → mt_c1 (mt_vc A vt v (aS_ A v)) v i2 → ab_Fr MX4_voting (d + 3) Q 7 [some (.ref 160), none, some (.ref a), some (.int (Int32.ofNat (v + 1))), none] [] (0, 0) (i2, l, dd, x) (ab_E0 sc)) :
    ∀ (r s : Nat) (i2 : Nat → Nat → Int32), aS_ A v = s + r → fr_o 161 164 i i2 → mt_co v i i2 → mt_c1 (mt_vc A vt v s) v i2 → ab_Fr MX4_voting (d + 3) Q 28 [some (.ref 160), none, some (.ref a), some (.int (Int32.ofNat v)), some (.int (Int32.ofNat s))] [] (0, 0) (i2, l, dd, x) (ab_E0 sc) := by
  intro r
  have w2 := hW.2.1
  have hS := hW.2.2.2.2.2.2.1 v hv
  induction r with
  | zero =>
    intro s i2 hs f2 o2 c2
    have e0 : i2 (m + 5 + 6 * v) 0 = Int32.ofNat (aS_ A v) := ((mt_K_o hm hK f2 (by omega) hW).2.2.2.2.1 v hv).1
    have hs2 : s = aS_ A v := by omega
    refine tMX4_voting_28 (d := d + 2) hk ⟨m, hd, hm, la_vp (by omega) (by omega), fun _ => ?_, fun c => ?_⟩
    · simp (disch := omega) only [↓nn_m3, nn_p0, nn_p1, nn_p2, nn_p3, nn_p4, nn_p5, nn_p6, nn_p7, nn_p8, nn_p9, nn_p10, nn_p20, nn_p21, nn_le, nn_lt, nn_eq, nn_cl, nn_in, nn_add, nn_mul, nn_en, nn_ne, nn_mn, nn_64]
      rw [hs2] at c2
      exact hQ i2 f2 o2 c2
    · simp (disch := omega) only [e0, ↓nn_m3, nn_p0, nn_p1, nn_p2, nn_p3, nn_p4, nn_p5, nn_p6, nn_p7, nn_p8, nn_p9, nn_p10, nn_p20, nn_p21, nn_le, nn_lt, nn_eq, nn_cl, nn_in, nn_add, nn_mul, nn_en, nn_ne, nn_mn, nn_64] at c
      omega
  | succ r ih =>
    intro s i2 hs f2 o2 c2
    have hK2 := mt_K_o hm hK f2 (by omega) hW
    have e0 : i2 (m + 5 + 6 * v) 0 = Int32.ofNat (aS_ A v) := (hK2.2.2.2.2.1 v hv).1
    have eV : i2 a (3 * v + s) = Int32.ofNat (vt v s) := by rw [f2 a (by omega)]; exact hV v s hv (by omega)
    have hcb := mt_vc_b hW (fun s hs => h9 v s hv hs) s (by omega)
    refine tMX4_voting_28 (d := d + 2) hk ⟨m, hd, hm, la_vp (by omega) (by omega), fun c => ?_, fun _ => ?_⟩
    · simp (disch := omega) only [e0, ↓nn_m3, nn_p0, nn_p1, nn_p2, nn_p3, nn_p4, nn_p5, nn_p6, nn_p7, nn_p8, nn_p9, nn_p10, nn_p20, nn_p21, nn_le, nn_lt, nn_eq, nn_cl, nn_in, nn_add, nn_mul, nn_en, nn_ne, nn_mn, nn_64] at c
      omega
    · simp (disch := omega) only [eV, ↓nn_m3, nn_p0, nn_p1, nn_p2, nn_p3, nn_p4, nn_p5, nn_p6, nn_p7, nn_p8, nn_p9, nn_p10, nn_p20, nn_p21, nn_le, nn_lt, nn_eq, nn_cl, nn_in, nn_add, nn_mul, nn_en, nn_ne, nn_mn, nn_64]
      refine ⟨trivial, _, mt_addC (d := d) hW hm hd hK2 hv (by omega) c2 ⟨by have := hcb.1; omega, fun b hb => ⟨(hcb.2 b hb).1, fun t => by have := (hcb.2 b hb).2 t; omega⟩⟩ (h9 v s hv (by omega)), ?_⟩
      rintro i8 l9 dd10 x11 ⟨i3, ⟨⟩, f3, o3, c3⟩
      exact ih (s + 1) _ (by omega) (fr_t f2 f3) (mt_co_t o2 o3) c3
end TQF
section TQG
variable {d : Nat} {sc : Nat × (Nat → Int32)} {i : Nat → Nat → Int32} {l : Nat → Nat → Int64} {dd : Nat → Nat → Value} {x : Nat}
theorem mt_Vc_o {A : mA_} {a lo hi : Nat} {vt : Nat → Nat → Nat} {i2 : Nat → Nat → Int32} (h : mt_Vc A i a vt) (hf : fr_o lo hi i i2) (ha : a < lo ∨ hi < a) : mt_Vc A i2 a vt := fun v s hv hs => by
  rw [hf a (by omega)]
  exact h v s hv hs
theorem mt_vo7 {A : mA_} {m a n : Nat} {vt : Nat → Nat → Nat} (hW : mt_W A) (hm : ab_isM m) (hd : dd 160 0 = .ref m) (hk : (ab_E0 sc).1 a = .inr (0, n)) (hn : 21 ≤ n ∧ n < 2 ^ 31) (ha : a < 161 ∨ 164 < a) (h9 : ∀ v s, v < aV_ A → s < aS_ A v → vt v s ≤ 9) {i0 : Nat → Nat → Int32} (hK : mt_K A m i0) (hV : mt_Vc A i0 a vt) {Q : ab_Qt} (hQ : ∀ i2, fr_o 161 164 i0 i2 → rw_R (aV_ A) (fun v => mt_vc A vt v (aS_ A v)) i2 → Q (some none) (i2, l, dd, x) (ab_E0 sc)) :
    ∀ (r v : Nat) (i2 : Nat → Nat → Int32), aV_ A = v + r → fr_o 161 164 i0 i2 → rw_R v (fun v => mt_vc A vt v (aS_ A v)) i2 → ab_Fr MX4_voting (d + 3) Q 7 [some (.ref 160), none, some (.ref a), some (.int (Int32.ofNat v)), none] [] (0, 0) (i2, l, dd, x) (ab_E0 sc) := by
  intro r
  have w2 := hW.2.1
  induction r with
  | zero =>
    intro v i2 hv f2 R2
    have q2 := (mt_K_o hm hK f2 (by omega) hW).1.2
    have hv2 : v = aV_ A := by omega
    refine tMX4_voting_7 (d := d + 2) hk ⟨m, hd, hm, fun _ => ?_, fun c => ?_⟩
    · rw [hv2] at R2
      exact hQ i2 f2 R2
    · simp (disch := omega) only [q2, ↓nn_m3, nn_p0, nn_p1, nn_p2, nn_p3, nn_p4, nn_p5, nn_p6, nn_p7, nn_p8, nn_p9, nn_p10, nn_p20, nn_p21, nn_le, nn_lt, nn_eq, nn_cl, nn_in, nn_add, nn_mul, nn_en, nn_ne, nn_mn, nn_64] at c
      omega
  | succ r ih =>
    intro v i2 hv f2 R2
    have hK2 := mt_K_o hm hK f2 (by omega) hW
    have q2 := hK2.1.2
    have hS := hW.2.2.2.2.2.2.1
    refine tMX4_voting_7 (d := d + 2) hk ⟨m, hd, hm, fun c => ?_, fun _ => ?_⟩
    · simp (disch := omega) only [q2, ↓nn_m3, nn_p0, nn_p1, nn_p2, nn_p3, nn_p4, nn_p5, nn_p6, nn_p7, nn_p8, nn_p9, nn_p10, nn_p20, nn_p21, nn_le, nn_lt, nn_eq, nn_cl, nn_in, nn_add, nn_mul, nn_en, nn_ne, nn_mn, nn_64] at c
      omega
    · simp (disch := omega) only [↓nn_m3, nn_p0, nn_p1, nn_p2, nn_p3, nn_p4, nn_p5, nn_p6, nn_p7, nn_p8, nn_p9, nn_p10, nn_p20, nn_p21, nn_le, nn_lt, nn_eq, nn_cl, nn_in, nn_add, nn_mul, nn_en, nn_ne, nn_mn, nn_64]
      refine ⟨trivial, ?_⟩
      rintro i4 rfl
      have fr1 : fr_o 161 164 i0 (ab_u i2 161 v (Int32.ofNat 0)) := fr_u f2 (by omega)
      refine mt_vo28 hW hm hd (mt_K_o hm hK fr1 (by omega) hW) hk hn ha (mt_Vc_o hV fr1 (by omega)) h9 (by omega) ?_ (aS_ A v) 0 _ (by omega) fr_r mt_co_r ⟨uu_e, fun b hb => absurd hb (Nat.not_lt_zero b)⟩
      intro i3 f3 o3 c3
      refine ih (v + 1) i3 (by omega) (fr_t fr1 f3) (fun u hu => ?_)
      by_cases e : u = v
      · rw [e]
        exact c3
      · have hb := mt_vc_b hW (fun s hs => h9 u s (by omega) hs) (aS_ A u) (Nat.le_refl _)
        have h3 : (mt_vc A vt u (aS_ A u)).1 ≤ 3 := Nat.le_trans hb.1 (hS u (by omega)).2
        exact o3 _ u e h3 (mt_co_u (i := i2) mt_co_r (by omega) _ u e h3 (R2 u (by omega)))
theorem mt_voting {A : mA_} {m a n : Nat} {vt : Nat → Nat → Nat} (hW : mt_W A) (hm : ab_isM m) (hK : mt_K A m i) (hk : (ab_E0 sc).1 a = .inr (0, n)) (hn : 21 ≤ n ∧ n < 2 ^ 31) (ha : a < 161 ∨ 164 < a) (hV : mt_Vc A i a vt) (h9 : ∀ v s, v < aV_ A → s < aS_ A v → vt v s ≤ 9) : ab_Sp MX4_voting (d + 3) [.ref 160, .ref m, .ref a] (i, l, dd, x) (ab_E0 sc) none (fun σ => ∃ i2, σ = (i2, l, ab_u dd 160 0 (.ref m), x) ∧ fr_o 161 164 i i2 ∧ rw_R (aV_ A) (fun v => mt_vc A vt v (aS_ A v)) i2) := by
  refine ab_ent (n := 2) okMX4_voting.1 (fun G => Nat.le_of_ble_eq_true rfl) (fun Q hQ => ?_)
  refine tMX4_voting_0 (d := d + 2) hm hk ?_
  rintro dd1 rfl
  refine mt_vo7 (i0 := i) hW hm uu_e hk hn ha h9 hK hV ?_ (aV_ A) 0 i (by omega) fr_r (fun u hu => absurd hu (Nat.not_lt_zero u))
  intro i2 f2 R2
  exact (hQ _ ⟨_, rfl, f2, R2⟩)
/-- one voter's choices made anew -/
theorem mt_pin {A : mA_} {m v s vote : Nat} {cv : Nat → mC_} (hW : mt_W A) (hm : ab_isM m) (hd : dd 160 0 = .ref m) (hK : mt_K A m i) (hv : v < aV_ A) (hs : s < aS_ A v) (h9 : vote ≤ 9) (hR : rw_R (aV_ A) cv i) (h3 : ∀ u, u < aV_ A → (cv u).1 ≤ 3) : ab_Sp MX4_pin (d + 3) [.ref 160, .int (Int32.ofNat v), .int (Int32.ofNat s), .int (Int32.ofNat vote)] (i, l, dd, x) (ab_E0 sc) none (fun σ => ∃ i2, σ = (i2, l, dd, x) ∧ fr_o 161 164 i i2 ∧ rw_R (aV_ A) (fun u => if u = v then mt_ad mt_c0 vote (aL_ A v s) else cv u) i2) := by
  have w2 := hW.2.1
  refine ab_ent (n := 3) okMX4_pin.1 (fun G => Nat.le_of_ble_eq_true rfl) (fun Q hQ => ?_)
  refine tMX4_pin_0 (d := d + 2) ?_
  simp (disch := omega) only [↓nn_m3, nn_p0, nn_p1, nn_p2, nn_p3, nn_p4, nn_p5, nn_p6, nn_p7, nn_p8, nn_p9, nn_p10, nn_p20, nn_p21, nn_le, nn_lt, nn_eq, nn_cl, nn_in, nn_add, nn_mul, nn_en, nn_ne, nn_mn, nn_64]
  refine ⟨trivial, ?_⟩
  rintro i1 rfl
  have fr1 : fr_o 161 164 i (ab_u i 161 v (Int32.ofNat 0)) := fr_u fr_r (by omega)
  refine ⟨_, mt_addC (d := d) hW hm hd (mt_K_o hm hK fr1 (by omega) hW) hv hs ⟨uu_e, fun b hb => absurd hb (Nat.not_lt_zero b)⟩ ⟨Nat.zero_le 2, fun b hb => absurd hb (Nat.not_lt_zero b)⟩ h9 (c := mt_c0), ?_⟩
  rintro i7 l8 dd9 x10 ⟨i3, ⟨⟩, f3, o3, c3⟩
  refine (hQ _ ⟨_, rfl, fr_t fr1 f3, fun u hu => ?_⟩)
  by_cases e : u = v
  · rw [e]
    show mt_c1 (if v = v then _ else _) v _
    rw [if_pos rfl]
    exact c3
  · show mt_c1 (if u = v then _ else _) u _
    rw [if_neg e]
    exact o3 _ u e (h3 u hu) (mt_co_u (i := i) mt_co_r (by omega) _ u e (h3 u hu) (hR u hu))
theorem mt_silence {A : mA_} {v : Nat} {cv : Nat → mC_} (hW : mt_W A) (hv : v < aV_ A) (hR : rw_R (aV_ A) cv i) (h3 : ∀ u, u < aV_ A → (cv u).1 ≤ 3) : ab_Sp MX4_silence (d + 2) [.ref 160, .int (Int32.ofNat v)] (i, l, dd, x) (ab_E0 sc) none (fun σ => ∃ i2, σ = (i2, l, dd, x) ∧ fr_o 161 164 i i2 ∧ rw_R (aV_ A) (fun u => if u = v then (1, fun _ => 9, fun _ _ => 20) else cv u) i2) := by
  have w2 := hW.2.1
  refine ab_ent (n := 1) okMX4_silence.1 (fun G => Nat.le_of_ble_eq_true rfl) (fun Q hQ => ?_)
  refine tMX4_silence_0 (d := d + 1) ?_
  simp (disch := omega) only [↓nn_m3, nn_p0, nn_p1, nn_p2, nn_p3, nn_p4, nn_p5, nn_p6, nn_p7, nn_p8, nn_p9, nn_p10, nn_p20, nn_p21, nn_le, nn_lt, nn_eq, nn_cl, nn_in, nn_add, nn_mul, nn_en, nn_ne, nn_mn, nn_64]
  refine ⟨trivial, ?_⟩
  rintro i1 rfl
  have fr1 : fr_o 161 164 i (ab_u i 161 v (Int32.ofNat 0)) := fr_u fr_r (by omega)
  refine ⟨_, mt_openC (d := d) (c := 9) (lk := 20) (ch := mt_c0) (by omega) ⟨uu_e, fun b hb => absurd hb (Nat.not_lt_zero b)⟩ (by decide), ?_⟩
  rintro i7 l8 dd9 x10 ⟨i3, ⟨⟩, f3, o3, c3⟩
  refine (hQ _ ⟨_, rfl, fr_t fr1 f3, fun u hu => ?_⟩)
  by_cases e : u = v
  · rw [e]
    show mt_c1 (if v = v then _ else _) v _
    rw [if_pos rfl]
    refine ⟨c3.1, fun a ha => ?_⟩
    have ha0 : a = 0 := by
      have ha : a < 1 := ha
      omega
    subst ha0
    exact c3.2 0 Nat.zero_lt_one
  · show mt_c1 (if u = v then _ else _) u _
    rw [if_neg e]
    exact o3 _ u e (h3 u hu) (mt_co_u (i := i) mt_co_r (by omega) _ u e (h3 u hu) (hR u hu))
theorem mt_leaveOut {A : mA_} {v : Nat} {cv : Nat → mC_} (hW : mt_W A) (hv : v < aV_ A) (hR : rw_R (aV_ A) cv i) (h3 : ∀ u, u < aV_ A → (cv u).1 ≤ 3) : ab_Sp MX4_leaveOut (d + 2) [.ref 160, .int (Int32.ofNat v)] (i, l, dd, x) (ab_E0 sc) none (fun σ => ∃ i2, σ = (i2, l, dd, x) ∧ fr_o 161 164 i i2 ∧ rw_R (aV_ A) (fun u => if u = v then (1, fun _ => 9, fun _ _ => 1) else cv u) i2) := by
  have w2 := hW.2.1
  refine ab_ent (n := 1) okMX4_leaveOut.1 (fun G => Nat.le_of_ble_eq_true rfl) (fun Q hQ => ?_)
  refine tMX4_leaveOut_0 (d := d + 1) ?_
  simp (disch := omega) only [↓nn_m3, nn_p0, nn_p1, nn_p2, nn_p3, nn_p4, nn_p5, nn_p6, nn_p7, nn_p8, nn_p9, nn_p10, nn_p20, nn_p21, nn_le, nn_lt, nn_eq, nn_cl, nn_in, nn_add, nn_mul, nn_en, nn_ne, nn_mn, nn_64]
  refine ⟨trivial, ?_⟩
  rintro i1 rfl
  have fr1 : fr_o 161 164 i (ab_u i 161 v (Int32.ofNat 0)) := fr_u fr_r (by omega)
  refine ⟨_, mt_openC (d := d) (c := 9) (lk := 1) (ch := mt_c0) (by omega) ⟨uu_e, fun b hb => absurd hb (Nat.not_lt_zero b)⟩ (by decide), ?_⟩
  rintro i7 l8 dd9 x10 ⟨i3, ⟨⟩, f3, o3, c3⟩
  refine (hQ _ ⟨_, rfl, fr_t fr1 f3, fun u hu => ?_⟩)
  by_cases e : u = v
  · rw [e]
    show mt_c1 (if v = v then _ else _) v _
    rw [if_pos rfl]
    refine ⟨c3.1, fun a ha => ?_⟩
    have ha0 : a = 0 := by
      have ha : a < 1 := ha
      omega
    subst ha0
    exact c3.2 0 Nat.zero_lt_one
  · show mt_c1 (if u = v then _ else _) u _
    rw [if_neg e]
    exact o3 _ u e (h3 u hu) (mt_co_u (i := i) mt_co_r (by omega) _ u e (h3 u hu) (hR u hu))
end TQG
