/-! what is decided: the class's decides, decidesWithSigns; the model's decide, decideRow -/
section TQA
variable {d : Nat} {sc : Nat × (Nat → Int32)} {i : Nat → Nat → Int32} {l : Nat → Nat → Int64} {dd : Nat → Nat → Value} {x : Nat}
theorem mt_dec37 {A : mA_} {m a n : Nat} (hW : mt_W A) (hp : 0 < aV_ A) (hm : ab_isM m) (hK : mt_K A m i) (hk : (ab_E0 sc).1 a = .inr (0, n)) (hn : 3 ≤ n ∧ n < 2 ^ 31) {f : Nat → Nat} (hf : ∀ t, t < aT_ A → i a t = Int32.ofNat (f t)) (hb : ∀ t, f t < 2 ^ 31) {ch : Nat} (hch : ch < 2 ^ 31) (hN : ¬ 0 < aN_ A) {Q : ab_Qt} (hQ : Q (some (some (.int (Int32.ofNat (mt_dt A f ch))))) (i, l, dd, x) (ab_E0 sc)) :
    ∀ r t : Nat, aT_ A = t + 1 + r → ab_Fr MX1_decides (d + 1) Q 37 [some (.ref m), some (.ref a), some (.int (Int32.ofNat ch)), some (.int (Int32.ofNat (mt_am f t))), some (.int (Int32.ofNat (t + 1)))] [] (0, 0) (i, l, dd, x) (ab_E0 sc) := by
  intro r
  obtain ⟨⟨q1, q2⟩, ⟨q3, q4, q5⟩, q6, q7, q8, q9, q10, q11⟩ := hK
  have w1 := hW.1
  induction r with
  | zero =>
    intro t ht
    have hle := mt_am_le (f := f) t
    have hbt := hb (mt_am f t)
    have hbc := hb ch
    have et : t = aT_ A - 1 := by omega
    have hQ2 : ∀ z, z = mt_dt A f ch → Q (some (some (.int (Int32.ofNat z)))) (i, l, dd, x) (ab_E0 sc) := fun z hz => by rw [hz]; exact hQ
    refine tMX1_decides_37 hm hk ⟨fun _ => ⟨fun z => ?_, fun _ => ⟨fun c => ?_, fun c => ?_⟩⟩, fun c => ?_⟩
    · simp (disch := omega) only [↓nn_m3, nn_p0, nn_p1, nn_p2, nn_p3, nn_p4, nn_p5, nn_p6, nn_p7, nn_p8, nn_p9, nn_p10, nn_p20, nn_p21, nn_le, nn_lt, nn_eq, nn_cl, nn_in, nn_add, nn_mul, nn_en, nn_ne, nn_mn, nn_64] at z
      omega
    · simp (disch := omega) only [q1, ↓nn_m3, nn_p0, nn_p1, nn_p2, nn_p3, nn_p4, nn_p5, nn_p6, nn_p7, nn_p8, nn_p9, nn_p10, nn_p20, nn_p21, nn_le, nn_lt, nn_eq, nn_cl, nn_in, nn_add, nn_mul, nn_en, nn_ne, nn_mn, nn_64] at c
      refine tMX1_decides_81 hk (tMX1_decides_82 hk ⟨fun _ => hQ2 _ ?_, fun z => absurd rfl z⟩)
      unfold mt_dt
      rw [if_neg hN, if_neg (by omega), et]
    · simp (disch := omega) only [q1, ↓nn_m3, nn_p0, nn_p1, nn_p2, nn_p3, nn_p4, nn_p5, nn_p6, nn_p7, nn_p8, nn_p9, nn_p10, nn_p20, nn_p21, nn_le, nn_lt, nn_eq, nn_cl, nn_in, nn_add, nn_mul, nn_en, nn_ne, nn_mn, nn_64] at c
      refine tMX1_decides_82 hk ⟨fun z => absurd z (by decide), fun _ => ?_⟩
      simp (disch := omega) only [hf, ↓nn_m3, nn_p0, nn_p1, nn_p2, nn_p3, nn_p4, nn_p5, nn_p6, nn_p7, nn_p8, nn_p9, nn_p10, nn_p20, nn_p21, nn_le, nn_lt, nn_eq, nn_cl, nn_in, nn_add, nn_mul, nn_en, nn_ne, nn_mn, nn_64]
      refine ⟨trivial, trivial, fun c2 => hQ2 _ ?_, fun c2 => hQ2 _ ?_⟩
      · unfold mt_dt
        rw [if_neg hN, if_neg (fun q => c2 (by rw [q.2, ← et])), et]
      · unfold mt_dt
        rw [if_neg hN, if_pos ⟨by omega, by rw [c2, ← et]⟩]
    · simp (disch := omega) only [q1, ↓nn_m3, nn_p0, nn_p1, nn_p2, nn_p3, nn_p4, nn_p5, nn_p6, nn_p7, nn_p8, nn_p9, nn_p10, nn_p20, nn_p21, nn_le, nn_lt, nn_eq, nn_cl, nn_in, nn_add, nn_mul, nn_en, nn_ne, nn_mn, nn_64] at c
      omega
  | succ r ih =>
    intro t ht
    have hle := mt_am_le (f := f) t
    have hb1 := hb (mt_am f t)
    have hb2 := hb (t + 1)
    have ih2 := ih (t + 1) (by omega)
    refine tMX1_decides_37 hm hk ⟨fun c => ?_, fun _ => ?_⟩
    · simp (disch := omega) only [q1, ↓nn_m3, nn_p0, nn_p1, nn_p2, nn_p3, nn_p4, nn_p5, nn_p6, nn_p7, nn_p8, nn_p9, nn_p10, nn_p20, nn_p21, nn_le, nn_lt, nn_eq, nn_cl, nn_in, nn_add, nn_mul, nn_en, nn_ne, nn_mn, nn_64] at c
      omega
    · simp (disch := omega) only [hf, ↓nn_m3, nn_p0, nn_p1, nn_p2, nn_p3, nn_p4, nn_p5, nn_p6, nn_p7, nn_p8, nn_p9, nn_p10, nn_p20, nn_p21, nn_le, nn_lt, nn_eq, nn_cl, nn_in, nn_add, nn_mul, nn_en, nn_ne, nn_mn, nn_64]
      refine ⟨trivial, trivial, fun c => ?_, fun c => ?_⟩
      · rw [show mt_am f (t + 1) = mt_am f t from if_neg (by omega)] at ih2
        exact ih2
      · rw [show mt_am f (t + 1) = t + 1 from if_pos (by omega)] at ih2
        exact ih2
theorem mt_decides {A : mA_} {m a n : Nat} (hW : mt_W A) (hp : 0 < aV_ A) (hm : ab_isM m) (hK : mt_K A m i) (hk : (ab_E0 sc).1 a = .inr (0, n)) (hn : 3 ≤ n ∧ n < 2 ^ 31) {f : Nat → Nat} (hf : ∀ t, t < aT_ A → i a t = Int32.ofNat (f t)) (hb : ∀ t, f t < 2 ^ 31) {ch : Nat} (hch : ch < 2 ^ 31) : ab_Sp MX1_decides (d + 1) [.ref m, .ref a, .int (Int32.ofNat ch)] (i, l, dd, x) (ab_E0 sc) (some (.int (Int32.ofNat (mt_dt A f ch)))) (fun σ => σ = (i, l, dd, x)) := by
  have hK2 := hK
  obtain ⟨⟨q1, q2⟩, ⟨q3, q4, q5⟩, q6, q7, q8, q9, q10, q11⟩ := hK2
  have hW2 := hW
  obtain ⟨w1, w2, w3, w4, w5, w6, w7, w8, w9, w10, w11, w12, w13, w14, w15⟩ := hW2
  refine ab_ent (n := 2) okMX1_decides.1 (fun G => Nat.le_of_ble_eq_true rfl) (fun Q hQ => ?_)
  refine tMX1_decides_0 hm hk ⟨fun c => ?_, fun c => ?_⟩
  · simp (disch := omega) only [q3, ↓nn_m3, nn_p0, nn_p1, nn_p2, nn_p3, nn_p4, nn_p5, nn_p6, nn_p7, nn_p8, nn_p9, nn_p10, nn_p20, nn_p21, nn_le, nn_lt, nn_eq, nn_cl, nn_in, nn_add, nn_mul, nn_en, nn_ne, nn_mn, nn_64] at c
    have h4 := w4 hp
    exact mt_dec37 (d := d) hW hp hm hK hk hn hf hb hch (by omega) (hQ _ rfl) (aT_ A - 1 - 0) 0 (by omega)
  · simp (disch := omega) only [q3, ↓nn_m3, nn_p0, nn_p1, nn_p2, nn_p3, nn_p4, nn_p5, nn_p6, nn_p7, nn_p8, nn_p9, nn_p10, nn_p20, nn_p21, nn_le, nn_lt, nn_eq, nn_cl, nn_in, nn_add, nn_mul, nn_en, nn_ne, nn_mn, nn_64] at c
    have c2 : 0 < aN_ A := by omega
    have h5 := w14 c2
    have h6 := q4 c2
    have hb1 := hb (aF_ A)
    have hQ2 := hQ _ rfl
    unfold mt_dt at hQ2
    rw [if_pos c2] at hQ2
    simp (disch := omega) only [q3, h6.1, h6.2, hf, ↓nn_m3, nn_p0, nn_p1, nn_p2, nn_p3, nn_p4, nn_p5, nn_p6, nn_p7, nn_p8, nn_p9, nn_p10, nn_p20, nn_p21, nn_le, nn_lt, nn_eq, nn_cl, nn_in, nn_add, nn_mul, nn_en, nn_ne, nn_mn, nn_64]
    refine ⟨trivial, fun c3 => ?_, fun c3 => ?_⟩
    · rw [if_neg (by omega)] at hQ2
      exact hQ2
    · rw [if_pos (by omega)] at hQ2
      exact hQ2
end TQA
section TQB
variable {d : Nat} {sc : Nat × (Nat → Int32)} {i : Nat → Nat → Int32} {l : Nat → Nat → Int64} {dd : Nat → Nat → Value} {x : Nat}
theorem mt_tl_le {w b : Nat → Nat} {t : Nat} (h : ∀ v, w v ≤ 9) : ∀ k, mt_tl w b t k ≤ 9 * k := by
  intro k
  induction k with
  | zero => exact Nat.le_refl 0
  | succ k ih =>
    show mt_tl w b t k + (if b k = t then w k else 0) ≤ 9 * (k + 1)
    have h1 := h k
    split <;> omega
/-- a table of votes in the model: 0 as told, 1 on trial -/
def mt_Vo (A : mA_) (i : Nat → Nat → Int32) (o : Nat) (vt : Nat → Nat → Nat) : Prop := ∀ v s, v < aV_ A → s < aS_ A v → i 225 (21 * o + 3 * v + s) = Int32.ofNat (vt v s)
def mt_ba (A : mA_) (i : Nat → Nat → Int32) (bal : Nat → Nat) : Prop := ∀ v, v < aV_ A → i 226 v = Int32.ofNat (bal v)
def mt_bk (A : mA_) (bal : Nat → Nat) : Prop := ∀ v, v < aV_ A → bal v < aT_ A ∨ bal v = 9
theorem mt_M_fr {A : mA_} {i2 : Nat → Nat → Int32} {l2 : Nat → Nat → Int64} (hM : mt_M A i l) (h1 : ∀ j, 29 ≤ j → j ≤ 31 → i2 205 j = i 205 j) (h2 : ∀ k, 211 ≤ k → k ≤ 223 → i2 k = i k) (h3 : ∀ j, j < 21 → i2 225 j = i 225 j) (h4 : l2 224 = l 224) (hW : mt_W A) : mt_M A i2 l2 := by
  obtain ⟨w1, w2, w3, w4, w5, w6, w7, w8, w9, w10, w11, w12, w13, w14, w15⟩ := hW
  obtain ⟨⟨r1, r2, r3⟩, ⟨r4, r5, r6⟩, r7, r8, r9, r10, r11, r12⟩ := hM
  unfold mt_M mt_lo
  rw [h1 29 (by omega) (by omega), h1 30 (by omega) (by omega), h1 31 (by omega) (by omega), h2 211 (by omega) (by omega), h2 212 (by omega) (by omega), h2 213 (by omega) (by omega), h2 214 (by omega) (by omega), h2 218 (by omega) (by omega), h2 219 (by omega) (by omega), h2 220 (by omega) (by omega), h2 221 (by omega) (by omega), h2 222 (by omega) (by omega), h2 223 (by omega) (by omega), h4]
  refine ⟨⟨r1, r2, r3⟩, ⟨r4, r5, r6⟩, r7, r8, r9, r10, fun v s hv hs => ?_, r12⟩
  have h8 := (w7 v hv).2
  rw [h3 _ (by omega)]
  exact r11 v s hv hs
theorem mt_M_f {A : mA_} {i2 : Nat → Nat → Int32} {lo hi : Nat} (hM : mt_M A i l) (hf : fr_o lo hi i i2) (h : 226 ≤ lo) (hW : mt_W A) : mt_M A i2 l :=
  mt_M_fr hM (fun j _ _ => by rw [hf 205 (by omega)]) (fun k _ _ => hf k (by omega)) (fun j _ => by rw [hf 225 (by omega)]) rfl hW
theorem mt_dm2 {A : mA_} (hW : mt_W A) (hM : mt_M A i l) {Q : ab_Qt} (hQ : ∀ i2, fr_o 227 227 i i2 → (∀ t, t < aT_ A → i2 227 t = Int32.ofNat 0) → ab_Fr MX12_decide (d + 1) Q 25 [some (.ref 205), some (.int 0), none] [] (0, 0) (i2, l, dd, x) (ab_E0 sc)) :
    ∀ (r t : Nat) (i2 : Nat → Nat → Int32), aT_ A = t + r → fr_o 227 227 i i2 → (∀ u, u < t → i2 227 u = Int32.ofNat 0) → ab_Fr MX12_decide (d + 1) Q 2 [some (.ref 205), some (.int (Int32.ofNat t)), none] [] (0, 0) (i2, l, dd, x) (ab_E0 sc) := by
  intro r
  have w1 := hW.1
  induction r with
  | zero =>
    intro t i2 ht hf h
    have r1 := (mt_M_f hM hf (by omega) hW).1.1
    refine tMX12_decide_2 ⟨fun _ => hQ i2 hf (fun u hu => h u (by omega)), fun c => ?_⟩
    simp (disch := omega) only [r1, ↓nn_m3, nn_p0, nn_p1, nn_p2, nn_p3, nn_p4, nn_p5, nn_p6, nn_p7, nn_p8, nn_p9, nn_p10, nn_p20, nn_p21, nn_le, nn_lt, nn_eq, nn_cl, nn_in, nn_add, nn_mul, nn_en, nn_ne, nn_mn, nn_64] at c
    omega
  | succ r ih =>
    intro t i2 ht hf h
    have r1 := (mt_M_f hM hf (by omega) hW).1.1
    refine tMX12_decide_2 ⟨fun c => ?_, fun c => ?_⟩
    · simp (disch := omega) only [r1, ↓nn_m3, nn_p0, nn_p1, nn_p2, nn_p3, nn_p4, nn_p5, nn_p6, nn_p7, nn_p8, nn_p9, nn_p10, nn_p20, nn_p21, nn_le, nn_lt, nn_eq, nn_cl, nn_in, nn_add, nn_mul, nn_en, nn_ne, nn_mn, nn_64] at c
      omega
    · simp (disch := omega) only [↓nn_m3, nn_p0, nn_p1, nn_p2, nn_p3, nn_p4, nn_p5, nn_p6, nn_p7, nn_p8, nn_p9, nn_p10, nn_p20, nn_p21, nn_le, nn_lt, nn_eq, nn_cl, nn_in, nn_add, nn_mul, nn_en, nn_ne, nn_mn, nn_64]
      refine ⟨trivial, ?_⟩
      rintro i3 rfl
      refine ih (t + 1) _ (by omega) (fr_u hf (by omega)) (fun u hu => ?_)
      by_cases e : u = t
      · exact uu_a ⟨rfl, e⟩
      · rw [uu_j e]
        exact h u (by omega)
theorem mt_dm25 {A : mA_} {bal : Nat → Nat} (hW : mt_W A) (hM : mt_M A i l) (hB : mt_ba A i bal) (hb : mt_bk A bal) {Q : ab_Qt} (hQ : ∀ i2, fr_o 227 227 i i2 → (∀ t, t < aT_ A → i2 227 t = Int32.ofNat (mt_tl (aW_ A) bal t (aV_ A))) → (¬ 0 < aN_ A → ab_Fr MX12_decide (d + 1) Q 119 [some (.ref 205), some (.int 0), some (.int 1)] [] (0, 0) (i2, l, dd, x) (ab_E0 sc)) ∧ (0 < aN_ A → Q (some (some (.int (Int32.ofNat (mt_db A bal))))) (i2, l, dd, x) (ab_E0 sc))) :
    ∀ (r v : Nat) (i2 : Nat → Nat → Int32), aV_ A = v + r → fr_o 227 227 i i2 → (∀ t, t < aT_ A → i2 227 t = Int32.ofNat (mt_tl (aW_ A) bal t v)) → ab_Fr MX12_decide (d + 1) Q 25 [some (.ref 205), some (.int (Int32.ofNat v)), none] [] (0, 0) (i2, l, dd, x) (ab_E0 sc) := by
  intro r
  have hW2 := hW
  obtain ⟨w1, w2, w3, w4, w5, w6, w7, w8, w9, w10, w11, w12, w13, w14, w15⟩ := hW2
  induction r with
  | zero =>
    intro v i2 hv hf h
    obtain ⟨⟨r1, r2, r3⟩, ⟨r4, r5, r6⟩, r7, r8, r9, r10, r11, r12⟩ := mt_M_f hM hf (by omega) hW
    have hv2 : v = aV_ A := by omega
    rw [hv2] at h ⊢
    obtain ⟨g1, g2⟩ := hQ i2 hf h
    refine tMX12_decide_25 ⟨fun _ => ⟨fun c => ?_, fun c => ?_⟩, fun c => ?_⟩
    · simp (disch := omega) only [r4, ↓nn_m3, nn_p0, nn_p1, nn_p2, nn_p3, nn_p4, nn_p5, nn_p6, nn_p7, nn_p8, nn_p9, nn_p10, nn_p20, nn_p21, nn_le, nn_lt, nn_eq, nn_cl, nn_in, nn_add, nn_mul, nn_en, nn_ne, nn_mn, nn_64] at c
      exact g1 (by omega)
    · simp (disch := omega) only [r4, ↓nn_m3, nn_p0, nn_p1, nn_p2, nn_p3, nn_p4, nn_p5, nn_p6, nn_p7, nn_p8, nn_p9, nn_p10, nn_p20, nn_p21, nn_le, nn_lt, nn_eq, nn_cl, nn_in, nn_add, nn_mul, nn_en, nn_ne, nn_mn, nn_64] at c
      have c2 : 0 < aN_ A := by omega
      have h5 := w14 c2
      have h6 := r5 c2
      have g3 := g2 c2
      have hle := mt_tl_le (w := aW_ A) (b := bal) (t := aF_ A) w12 (aV_ A)
      simp (disch := omega) only [r4, h6.1, h6.2, h, ↓nn_m3, nn_p0, nn_p1, nn_p2, nn_p3, nn_p4, nn_p5, nn_p6, nn_p7, nn_p8, nn_p9, nn_p10, nn_p20, nn_p21, nn_le, nn_lt, nn_eq, nn_cl, nn_in, nn_add, nn_mul, nn_en, nn_ne, nn_mn, nn_64]
      refine ⟨trivial, fun c3 => ?_, fun c3 => ?_⟩
      · unfold mt_db mt_dt at g3
        dsimp only at g3
        rw [if_pos c2, if_neg (by omega)] at g3
        exact g3
      · unfold mt_db mt_dt at g3
        dsimp only at g3
        rw [if_pos c2, if_pos (by omega)] at g3
        exact g3
    · simp (disch := omega) only [r2, ↓nn_m3, nn_p0, nn_p1, nn_p2, nn_p3, nn_p4, nn_p5, nn_p6, nn_p7, nn_p8, nn_p9, nn_p10, nn_p20, nn_p21, nn_le, nn_lt, nn_eq, nn_cl, nn_in, nn_add, nn_mul, nn_en, nn_ne, nn_mn, nn_64] at c
      omega
  | succ r ih =>
    intro v i2 hv hf h
    obtain ⟨⟨r1, r2, r3⟩, ⟨r4, r5, r6⟩, r7, r8, r9, r10, r11, r12⟩ := mt_M_f hM hf (by omega) hW
    have e226 : i2 226 v = Int32.ofNat (bal v) := by rw [hf 226 (by omega)]; exact hB v (by omega)
    have hbv := hb v (by omega)
    have e218 := (r8 v (by omega)).2.1
    refine tMX12_decide_25 ⟨fun c => ?_, fun _ => ?_⟩
    · simp (disch := omega) only [r2, ↓nn_m3, nn_p0, nn_p1, nn_p2, nn_p3, nn_p4, nn_p5, nn_p6, nn_p7, nn_p8, nn_p9, nn_p10, nn_p20, nn_p21, nn_le, nn_lt, nn_eq, nn_cl, nn_in, nn_add, nn_mul, nn_en, nn_ne, nn_mn, nn_64] at c
      omega
    · simp (disch := omega) only [e226, e218, h, ↓nn_m3, nn_p0, nn_p1, nn_p2, nn_p3, nn_p4, nn_p5, nn_p6, nn_p7, nn_p8, nn_p9, nn_p10, nn_p20, nn_p21, nn_le, nn_lt, nn_eq, nn_cl, nn_in, nn_add, nn_mul, nn_en, nn_ne, nn_mn, nn_64]
      refine ⟨trivial, fun c => ih (v + 1) i2 (by omega) hf (fun t ht => ?_), fun c => ?_⟩
      · show i2 227 t = Int32.ofNat (mt_tl (aW_ A) bal t v + (if bal v = t then aW_ A v else 0))
        rw [if_neg (by omega), Nat.add_zero]
        exact h t ht
      · refine ⟨trivial, by simp (disch := omega) only [↓nn_m3, nn_p0, nn_p1, nn_p2, nn_p3, nn_p4, nn_p5, nn_p6, nn_p7, nn_p8, nn_p9, nn_p10, nn_p20, nn_p21, nn_le, nn_lt, nn_eq, nn_cl, nn_in, nn_add, nn_mul, nn_en, nn_ne, nn_mn, nn_64], trivial, by simp (disch := omega) only [↓nn_m3, nn_p0, nn_p1, nn_p2, nn_p3, nn_p4, nn_p5, nn_p6, nn_p7, nn_p8, nn_p9, nn_p10, nn_p20, nn_p21, nn_le, nn_lt, nn_eq, nn_cl, nn_in, nn_add, nn_mul, nn_en, nn_ne, nn_mn, nn_64], ?_⟩
        rintro i3 rfl
        refine ih (v + 1) _ (by omega) (fr_u hf (by omega)) (fun t ht => ?_)
        show _ = Int32.ofNat (mt_tl (aW_ A) bal t v + (if bal v = t then aW_ A v else 0))
        by_cases e : t = bal v
        · rw [uu_a ⟨rfl, e⟩, if_pos e.symm, e, h _ (by omega), nn_add]
        · rw [uu_j e, if_neg (fun q => e q.symm), Nat.add_zero]
          exact h t ht
end TQB
section TQC
variable {d : Nat} {sc : Nat × (Nat → Int32)} {i : Nat → Nat → Int32} {l : Nat → Nat → Int64} {dd : Nat → Nat → Value} {x : Nat}
theorem mt_dm119 {A : mA_} {bal : Nat → Nat} (hW : mt_W A) (hp : 0 < aV_ A) (hM : mt_M A i l) (hB : mt_ba A i bal) (hb : mt_bk A bal) (hN : ¬ 0 < aN_ A) (h : ∀ t, t < aT_ A → i 227 t = Int32.ofNat (mt_tl (aW_ A) bal t (aV_ A))) {Q : ab_Qt} (hQ : Q (some (some (.int (Int32.ofNat (mt_db A bal))))) (i, l, dd, x) (ab_E0 sc)) :
    ∀ r t : Nat, aT_ A = t + 1 + r → ab_Fr MX12_decide (d + 1) Q 119 [some (.ref 205), some (.int (Int32.ofNat (mt_am (fun t => mt_tl (aW_ A) bal t (aV_ A)) t))), some (.int (Int32.ofNat (t + 1)))] [] (0, 0) (i, l, dd, x) (ab_E0 sc) := by
  intro r
  obtain ⟨⟨r1, r2, r3⟩, ⟨r4, r5, r6⟩, r7, r8, r9, r10, r11, r12⟩ := hM
  have hW2 := hW
  obtain ⟨w1, w2, w3, w4, w5, w6, w7, w8, w9, w10, w11, w12, w13, w14, w15⟩ := hW2
  have hle : ∀ u, mt_tl (aW_ A) bal u (aV_ A) ≤ 63 := fun u => by
    have := mt_tl_le (w := aW_ A) (b := bal) (t := u) w12 (aV_ A)
    omega
  generalize hf : (fun t => mt_tl (aW_ A) bal t (aV_ A)) = f at h ⊢
  have hbf : ∀ t, f t ≤ 63 := fun t => by rw [← hf]; exact hle t
  have h2 : ∀ t, t < aT_ A → i 227 t = Int32.ofNat (f t) := fun t ht => by rw [← hf]; exact h t ht
  have hQ2 : ∀ z, z = mt_dt A f (if aH_ A = 7 then 9 else bal (aH_ A)) → Q (some (some (.int (Int32.ofNat z)))) (i, l, dd, x) (ab_E0 sc) := fun z hz => by
    rw [hz, ← hf]
    exact hQ
  induction r with
  | zero =>
    intro t ht
    have hl := mt_am_le (f := f) t
    have hb1 := hbf (mt_am f t)
    have et : aT_ A - 1 = t := by omega
    refine tMX12_decide_119 ⟨fun _ => ?_, fun c => ?_⟩
    · by_cases c7 : aH_ A = 7
      · rw [r6 hp]
        unfold mt_h
        rw [if_pos c7]
        refine ⟨fun _ => hQ2 _ ?_, fun c => absurd rfl c⟩
        unfold mt_dt
        rw [if_neg hN, if_pos c7, if_neg (by omega), et]
      · have h7 : aH_ A < aV_ A := by omega
        have e222 : i 222 0 = Int32.ofNat (aH_ A) := by
          rw [r6 hp]
          exact if_neg c7
        have e226 := hB (aH_ A) h7
        have hbH := hb (aH_ A) h7
        have hbz := hbf (bal (aH_ A))
        simp (disch := omega) only [e222, e226, h2, ↓nn_m3, nn_p0, nn_p1, nn_p2, nn_p3, nn_p4, nn_p5, nn_p6, nn_p7, nn_p8, nn_p9, nn_p10, nn_p20, nn_p21, nn_le, nn_lt, nn_eq, nn_cl, nn_in, nn_add, nn_mul, nn_en, nn_ne, nn_mn, nn_64]
        refine ⟨fun z => z.elim, fun _ => ⟨trivial, fun c9 => hQ2 _ ?_, fun c9 => ⟨by simp (disch := omega) only [↓nn_m3, nn_p0, nn_p1, nn_p2, nn_p3, nn_p4, nn_p5, nn_p6, nn_p7, nn_p8, nn_p9, nn_p10, nn_p20, nn_p21, nn_le, nn_lt, nn_eq, nn_cl, nn_in, nn_add, nn_mul, nn_en, nn_ne, nn_mn, nn_64], trivial, ?_⟩⟩⟩
        · unfold mt_dt
          rw [if_neg hN, if_neg c7, if_neg (by omega), et]
        · have ht3 : bal (aH_ A) < aT_ A := by omega
          simp (disch := omega) only [h2, ↓nn_m3, nn_p0, nn_p1, nn_p2, nn_p3, nn_p4, nn_p5, nn_p6, nn_p7, nn_p8, nn_p9, nn_p10, nn_p20, nn_p21, nn_le, nn_lt, nn_eq, nn_cl, nn_in, nn_add, nn_mul, nn_en, nn_ne, nn_mn, nn_64]
          refine ⟨fun c2 => hQ2 _ ?_, fun c2 => hQ2 _ ?_⟩
          · unfold mt_dt
            rw [if_neg hN, if_neg c7, et, if_neg (fun q => c2 q.2)]
          · unfold mt_dt
            rw [if_neg hN, if_neg c7, et, if_pos ⟨ht3, c2⟩]
    · simp (disch := omega) only [r1, ↓nn_m3, nn_p0, nn_p1, nn_p2, nn_p3, nn_p4, nn_p5, nn_p6, nn_p7, nn_p8, nn_p9, nn_p10, nn_p20, nn_p21, nn_le, nn_lt, nn_eq, nn_cl, nn_in, nn_add, nn_mul, nn_en, nn_ne, nn_mn, nn_64] at c
      omega
  | succ r ih =>
    intro t ht
    have hl := mt_am_le (f := f) t
    have hb1 := hbf (mt_am f t)
    have hb2 := hbf (t + 1)
    have ih2 := ih (t + 1) (by omega)
    refine tMX12_decide_119 ⟨fun c => ?_, fun _ => ?_⟩
    · simp (disch := omega) only [r1, ↓nn_m3, nn_p0, nn_p1, nn_p2, nn_p3, nn_p4, nn_p5, nn_p6, nn_p7, nn_p8, nn_p9, nn_p10, nn_p20, nn_p21, nn_le, nn_lt, nn_eq, nn_cl, nn_in, nn_add, nn_mul, nn_en, nn_ne, nn_mn, nn_64] at c
      omega
    · simp (disch := omega) only [h2, ↓nn_m3, nn_p0, nn_p1, nn_p2, nn_p3, nn_p4, nn_p5, nn_p6, nn_p7, nn_p8, nn_p9, nn_p10, nn_p20, nn_p21, nn_le, nn_lt, nn_eq, nn_cl, nn_in, nn_add, nn_mul, nn_en, nn_ne, nn_mn, nn_64]
      refine ⟨trivial, trivial, fun c => ?_, fun c => ?_⟩
      · rw [show mt_am f (t + 1) = mt_am f t from if_neg (by omega)] at ih2
        exact ih2
      · rw [show mt_am f (t + 1) = t + 1 from if_pos (by omega)] at ih2
        exact ih2
theorem mt_decide {A : mA_} {bal : Nat → Nat} (hW : mt_W A) (hp : 0 < aV_ A) (hM : mt_M A i l) (hB : mt_ba A i bal) (hb : mt_bk A bal) : ab_Sp MX12_decide (d + 1) [.ref 205] (i, l, dd, x) (ab_E0 sc) (some (.int (Int32.ofNat (mt_db A bal)))) (fun σ => ∃ i2, σ = (i2, l, dd, x) ∧ fr_o 227 227 i i2) := by
  refine ab_ent (n := 0) okMX12_decide.1 (fun G => Nat.le_of_ble_eq_true rfl) (fun Q hQ => ?_)
  refine tMX12_decide_0 ?_
  have h4 := hW.2.2.2.1 hp
  refine mt_dm2 hW hM ?_ (aT_ A) 0 i (by omega) fr_r (fun u hu => absurd hu (by omega))
  intro i2 f2 z2
  have hM2 := mt_M_f hM f2 (by omega) hW
  have hB2 : mt_ba A i2 bal := fun v hv => by rw [f2 226 (by omega)]; exact hB v hv
  refine mt_dm25 hW hM2 hB2 hb ?_ (aV_ A) 0 i2 (by omega) fr_r z2
  intro i3 f3 z3
  refine ⟨fun hN => ?_, fun hN => hQ _ ⟨_, rfl, fr_t f2 f3⟩⟩
  have hM3 := mt_M_f hM2 f3 (by omega) hW
  have hB3 : mt_ba A i3 bal := fun v hv => by rw [f3 226 (by omega)]; exact hB2 v hv
  exact mt_dm119 hW hp hM3 hB3 hb hN z3 (hQ _ ⟨_, rfl, fr_t f2 f3⟩) (aT_ A - 1) 0 (by omega)
theorem mt_rows {A : mA_} (hW : mt_W A) : mt_rad (aS_ A) (aV_ A) ≤ 2187 ∧ ∀ v, v < aV_ A → 0 < mt_rad (aS_ A) v ∧ mt_rad (aS_ A) v ≤ 2187 := by
  obtain ⟨w1, w2, w3, w4, w5, w6, w7, w8, w9, w10, w11, w12, w13, w14, w15⟩ := hW
  have h3 : ∀ v, v ≤ aV_ A → mt_rad (aS_ A) v ≤ 2187 := fun v hv => by
    have h1 := mt_rad_le (S := aS_ A) v (fun u hu => (w7 u (by omega)).2)
    have h2 : (3 : Nat) ^ v ≤ 3 ^ 7 := Nat.pow_le_pow_right (by omega) (by omega)
    have h4 : (3 : Nat) ^ 7 = 2187 := rfl
    omega
  exact ⟨h3 _ (Nat.le_refl _), fun v hv => ⟨mt_rad_pos v (fun u hu => by have := (w7 u (by omega)).1; omega), h3 v (by omega)⟩⟩
theorem mt_sg {A : mA_} {r v : Nat} (hW : mt_W A) (hM : mt_M A i l) (hv : v < aV_ A) (hr : r < 2187) : ab_Sp MX12_sign (d + 1) [.ref 205, .int (Int32.ofNat r), .int (Int32.ofNat v)] (i, l, dd, x) (ab_E0 sc) (some (.int (Int32.ofNat (pu_g (aS_ A) (aV_ A) r v)))) (fun σ => σ = (i, l, dd, x)) := by
  obtain ⟨hR, hR2⟩ := mt_rows hW
  obtain ⟨hp, hq⟩ := hR2 v hv
  obtain ⟨w1, w2, w3, w4, w5, w6, w7, w8, w9, w10, w11, w12, w13, w14, w15⟩ := hW
  obtain ⟨⟨r1, r2, r3⟩, ⟨r4, r5, r6⟩, r7, r8, r9, r10, r11, r12⟩ := hM
  have hS := w7 v hv
  obtain ⟨e212, -, e223⟩ := r8 v hv
  refine ab_ent (n := 2) okMX12_sign.1 (fun G => Nat.le_of_ble_eq_true rfl) (fun Q hQ => ?_)
  refine tMX12_sign_0 ?_
  simp (disch := omega) only [e212, e223, ↓nn_m3, nn_p0, nn_p1, nn_p2, nn_p3, nn_p4, nn_p5, nn_p6, nn_p7, nn_p8, nn_p9, nn_p10, nn_p20, nn_p21, nn_le, nn_lt, nn_eq, nn_cl, nn_in, nn_add, nn_mul, nn_en, nn_ne, nn_mn, nn_64]
  refine ⟨trivial, by omega, trivial, by omega, ?_⟩
  have hdl : r / mt_rad (aS_ A) v ≤ r := Nat.div_le_self _ _
  rw [la_div (by omega) (by omega), la_mod (by omega) (by omega)]
  have hQ2 := hQ _ rfl
  unfold pu_g at hQ2
  rw [if_pos hv] at hQ2
  exact hQ2
end TQC
