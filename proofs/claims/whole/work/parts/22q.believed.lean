/-! believed: the words; the class -/
def bl_w (S q s : Nat) : Nat := if q = 0 then 0 else if S = 2 ∨ q = 4 then s else if q = 1 then (if s = 2 then 1 else 0) else if q = 2 then (if s = 1 then 1 else 0) else (if s = 0 then 0 else 1)
def bl_p (S q : Nat) : Nat := if S = 2 then 12 * q else 3 * q
def bl_q (S q : Nat) : Prop := (S = 2 ∧ q ≤ 1) ∨ (S = 3 ∧ q ≤ 4)
theorem bl_wo {S q s : Nat} (h : bl_q S q) (hs : s < S) : ab_wo (bl_p S q + s) = Int32.ofNat (bl_w S q s) := by
  rcases h with ⟨rfl, hq⟩ | ⟨rfl, hq⟩
  · rcases (show q = 0 ∨ q = 1 by omega) with rfl | rfl <;> rcases (show s = 0 ∨ s = 1 by omega) with rfl | rfl <;> decide
  · rcases (show q = 0 ∨ q = 1 ∨ q = 2 ∨ q = 3 ∨ q = 4 by omega) with rfl | rfl | rfl | rfl | rfl <;> rcases (show s = 0 ∨ s = 1 ∨ s = 2 by omega) with rfl | rfl | rfl <;> decide
theorem bl_wl {S q s : Nat} (hs : s < 3) : bl_w S q s ≤ 2 := by
  unfold bl_w
  split
  · omega
  · split
    · omega
    · split
      · split <;> omega
      · split
        · split <;> omega
        · split <;> omega
theorem bl_pl {S q : Nat} (h : bl_q S q) : bl_p S q ≤ 12 := by
  unfold bl_p
  rcases h with ⟨rfl, hq⟩ | ⟨rfl, hq⟩
  · rw [if_pos rfl]
    omega
  · rw [if_neg (by omega)]
    omega
/-- how many words, signs before s -/
def bl_n (S q : Nat) : Nat → Nat
  | 0 => 0
  | s + 1 => if bl_n S q s < bl_w S q s + 1 then bl_w S q s + 1 else bl_n S q s
theorem bl_nl {S q : Nat} : ∀ s, s ≤ 3 → bl_n S q s ≤ 3 := by
  intro s
  induction s with
  | zero => intro _; exact Nat.zero_le 3
  | succ s ih =>
    intro hs
    have h1 := ih (by omega)
    have h2 := bl_wl (S := S) (q := q) (s := s) (by omega)
    unfold bl_n
    split <;> omega
theorem bl_nw {S q : Nat} : ∀ k s, s < k → bl_w S q s < bl_n S q k := by
  intro k
  induction k with
  | zero => intro s hs; exact absurd hs (Nat.not_lt_zero s)
  | succ k ih =>
    intro s hs
    unfold bl_n
    by_cases e : s = k
    · subst e
      split <;> omega
    · have := ih s (by omega)
      split <;> omega
/-- how likely a word is, signs before s -/
def bl_l (A : mA_) (v q k t s : Nat) : Nat := pu_s (fun s => if bl_w (aS_ A v) q s = k then aL_ A v s t else 0) s
def bl_P (A : mA_) (v w q k own t : Nat) : Nat := aC_ A t * bl_l A v q k t (aS_ A v) * aL_ A w own t
/-- what the hearer decides -/
def bl_d (A : mA_) (v w q k own : Nat) : Nat := mt_li (mt_f (bl_P A v w q k own) (aK_ A w)) (aT_ A - 1)
/-- what the speaker loses by a word -/
def bl_c (A : mA_) (v w q s k own t : Nat) : Nat := aC_ A t * (aL_ A v s t * aL_ A w own t) * aK_ A v t (bl_d A v w q k own)
def bl_L (A : mA_) (v w q s k : Nat) : Nat := pu_s (fun own => pu_s (fun t => bl_c A v w q s k own t) (aT_ A)) (aS_ A w)
def bl_r (A : mA_) (v w q : Nat) : Nat := if (∀ s, s < aS_ A v → ∀ k, k < bl_n (aS_ A v) q (aS_ A v) → ¬ Int64.ofNat (bl_L A v w q s k) < Int64.ofNat (bl_L A v w q s (bl_w (aS_ A v) q s))) then 1 else 0
section TQQ2
variable {d : Nat} {sc : Nat × (Nat → Int32)} {i : Nat → Nat → Int32} {l : Nat → Nat → Int64} {dd : Nat → Nat → Value} {x : Nat}
theorem mt_KvLo {A : mA_} {m v : Nat} (hW : mt_W A) (hK : mt_K A m i) (hv : v < aV_ A) : mt_Lo i (m + 5 + 6 * v + 3) (aK_ A v) := fun t e ht he => ⟨hK.2.2.2.2.2.2.1 v t e hv ht he, hW.2.2.2.2.2.2.2.2.2.1 v t e⟩
theorem isLo_v {m v : Nat} (hm : ab_isM m) (hv : v < 7) : ab_isLo (m + 5 + 6 * v + 3) := Or.inr ⟨m + 5 + 6 * v, ⟨m, v, hm, hv, rfl⟩, rfl⟩
/-- what the class's words stand at -/
def bl_D (m v w : Nat) (dd : Nat → Nat → Value) : Prop := dd 199 0 = .ref m ∧ dd 199 1 = .ref (m + 5 + 6 * v) ∧ dd 199 2 = .ref (m + 5 + 6 * w)
theorem bw_5 {A : mA_} {m v w q k t : Nat} (hW : mt_W A) (hm : ab_isM m) (hD : bl_D m v w dd) (hK : mt_K A m i) (hv : v < aV_ A) (hq : bl_q (aS_ A v) q) (h3 : i 199 3 = Int32.ofNat (bl_p (aS_ A v) q)) (hk : k < 3) (ht : t < 3) {Q : ab_Qt} (hQ : Q (some (some (.int (Int32.ofNat (bl_l A v q k t (aS_ A v)))))) (i, l, dd, x) (ab_E0 sc)) :
    ∀ r s : Nat, aS_ A v = s + r → ab_Fr MX10_likelyWord (d + 1) Q 5 [some (.ref 199), some (.int (Int32.ofNat k)), some (.int (Int32.ofNat t)), some (.int (Int32.ofNat (bl_l A v q k t s))), some (.int (Int32.ofNat s))] [] (0, 0) (i, l, dd, x) (ab_E0 sc) := by
  intro r
  have w2 := hW.2.1
  have hS := hW.2.2.2.2.2.2.1 v hv
  have e0 := (hK.2.2.2.2.1 v hv).1
  have hpl := bl_pl hq
  induction r with
  | zero =>
    intro s hs
    refine tMX10_likelyWord_5 ⟨_, hD.2.1, ⟨m, v, hm, by omega, rfl⟩, fun _ => by rw [show s = aS_ A v by omega]; exact hQ, fun c => ?_⟩
    simp (disch := omega) only [e0, ↓nn_m3, nn_p0, nn_p1, nn_p2, nn_p3, nn_p4, nn_p5, nn_p6, nn_p7, nn_p8, nn_p9, nn_p10, nn_p20, nn_p21, nn_le, nn_lt, nn_eq, nn_cl, nn_in, nn_add, nn_mul, nn_en, nn_ne, nn_mn, nn_64] at c
    omega
  | succ r ih =>
    intro s hs
    have ih2 := ih (s + 1) (by omega)
    have el : bl_l A v q k t (s + 1) = bl_l A v q k t s + (if bl_w (aS_ A v) q s = k then aL_ A v s t else 0) := rfl
    have ew := bl_wo hq (show s < aS_ A v by omega)
    have hwl := bl_wl (S := aS_ A v) (q := q) (s := s) (by omega)
    have eL := hK.2.2.2.2.2.1 v s t hv (by omega) ht
    refine tMX10_likelyWord_5 ⟨_, hD.2.1, ⟨m, v, hm, by omega, rfl⟩, fun c => ?_, fun _ => ?_⟩
    · simp (disch := omega) only [e0, ↓nn_m3, nn_p0, nn_p1, nn_p2, nn_p3, nn_p4, nn_p5, nn_p6, nn_p7, nn_p8, nn_p9, nn_p10, nn_p20, nn_p21, nn_le, nn_lt, nn_eq, nn_cl, nn_in, nn_add, nn_mul, nn_en, nn_ne, nn_mn, nn_64] at c
      omega
    · rw [h3, nn_add, nn_cl (by omega), ew, nn_eq (by omega) (by omega), la_nx]
      refine ⟨la_vp (by omega) (by omega), fun c => ?_, fun c => ?_⟩
      · rw [nn_p0, nn_add]
        rw [el, if_neg c] at ih2
        exact ih2
      · rw [nn_m3, nn_mul, nn_add, nn_cl (by omega), eL, nn_add]
        rw [el, if_pos c] at ih2
        exact ⟨la_vp (by omega) (by omega), ih2⟩
theorem bw_likely {A : mA_} {m v w q k t : Nat} (hW : mt_W A) (hm : ab_isM m) (hD : bl_D m v w dd) (hK : mt_K A m i) (hv : v < aV_ A) (hq : bl_q (aS_ A v) q) (h3 : i 199 3 = Int32.ofNat (bl_p (aS_ A v) q)) (hk : k < 3) (ht : t < 3) : ab_Sp MX10_likelyWord (d + 1) [.ref 199, .int (Int32.ofNat k), .int (Int32.ofNat t)] (i, l, dd, x) (ab_E0 sc) (some (.int (Int32.ofNat (bl_l A v q k t (aS_ A v))))) (fun σ => σ = (i, l, dd, x)) := by
  refine ab_ent (n := 2) okMX10_likelyWord.1 (fun G => Nat.le_of_ble_eq_true rfl) (fun Q hQ => ?_)
  exact tMX10_likelyWord_0 (bw_5 hW hm hD hK hv hq h3 hk ht (hQ _ rfl) (aS_ A v) 0 (by omega))
theorem bl_ll {A : mA_} {v q k t : Nat} (hW : mt_W A) : ∀ s, bl_l A v q k t s ≤ 20 * s := by
  intro s
  induction s with
  | zero => exact Nat.le_refl 0
  | succ s ih =>
    show bl_l A v q k t s + (if _ then aL_ A v s t else 0) ≤ 20 * (s + 1)
    have := (hW.2.2.2.2.2.2.2.1 v s t).1
    split <;> omega
theorem bh_15 {A : mA_} {m v w q k own : Nat} (hW : mt_W A) (hp : 0 < aV_ A) (hm : ab_isM m) (hD : bl_D m v w dd) (hK : mt_K A m i) (hv : v < aV_ A) (hw : w < aV_ A) (hq : bl_q (aS_ A v) q) (h3 : i 199 3 = Int32.ofNat (bl_p (aS_ A v) q)) (hk : k < 3) (ho : own < aS_ A w) {l0 : Nat → Nat → Int64} {Q : ab_Qt} (hQ : ∀ l2, fr_o 200 200 l0 l2 → ab_Fr MX10_hearWord (d + 3) Q 2 [some (.ref 199), some (.int (Int32.ofNat k)), some (.int (Int32.ofNat (own + 1))), none] [] (0, 0) (ab_u i 201 (3 * k + own) (Int32.ofNat (bl_d A v w q k own)), l2, dd, x) (ab_E0 sc)) :
    ∀ (r t : Nat) (l2 : Nat → Nat → Int64), 3 = t + r → fr_o 200 200 l0 l2 → (∀ u, u < t → l2 200 u = Int64.ofNat (bl_P A v w q k own u)) → ab_Fr MX10_hearWord (d + 3) Q 15 [some (.ref 199), some (.int (Int32.ofNat k)), some (.int (Int32.ofNat own)), some (.int (Int32.ofNat t))] [] (0, 0) (i, l2, dd, x) (ab_E0 sc) := by
  intro r
  have w1 := hW.1
  have w2 := hW.2.1
  have w4 := hW.2.2.2.1 hp
  have hSw := hW.2.2.2.2.2.2.1 w hw
  have hSv := hW.2.2.2.2.2.2.1 v hv
  induction r with
  | zero =>
    intro t l2 ht f2 z2
    refine tMX10_hearWord_15 (d := d + 2) ⟨fun _ => ⟨_, hD.2.2, ⟨m, w, hm, by omega, rfl⟩, m, hD.1, hm, ?_⟩, fun c => ?_⟩
    · rw [hK.1.1]
      refine ⟨_, _, mt_leastOf (d := d) (fr := 0) (n := 3) (P := bl_P A v w q k own) (K := aK_ A w) (isLo_v hm (by omega)) rfl (mt_KvLo hW hK hw) (fun t ht => by rw [Nat.zero_add]; exact z2 t (by omega)) (by omega) (by omega), ?_⟩
      rintro i6 l7 dd8 x9 ⟨⟩
      rw [nn_m3, nn_mul, nn_add, nn_cl (by omega)]
      refine ⟨la_vp (by omega) (by omega), ?_⟩
      rintro i8 rfl
      rw [la_nx]
      exact hQ l2 f2
    · simp (disch := omega) only [↓nn_m3, nn_p0, nn_p1, nn_p2, nn_p3, nn_p4, nn_p5, nn_p6, nn_p7, nn_p8, nn_p9, nn_p10, nn_p20, nn_p21, nn_le, nn_lt, nn_eq, nn_cl, nn_in, nn_add, nn_mul, nn_en, nn_ne, nn_mn, nn_64] at c
      omega
  | succ r ih =>
    intro t l2 ht f2 z2
    have eC := hK.2.2.1 t (by omega)
    have hC := (hW.2.2.2.2.1 t).1
    have eL := hK.2.2.2.2.2.1 w own t hw ho (by omega)
    have hL := (hW.2.2.2.2.2.2.2.1 w own t).1
    have hll := bl_ll (v := v) (q := q) (k := k) (t := t) hW (aS_ A v)
    refine tMX10_hearWord_15 (d := d + 2) ⟨fun c => ?_, fun _ => ⟨m, hD.1, hm, la_vp (by omega) (by omega), _, _, bw_likely (d := d + 1) hW hm hD hK hv hq h3 hk (show t < 3 by omega), ?_⟩⟩
    · simp (disch := omega) only [↓nn_m3, nn_p0, nn_p1, nn_p2, nn_p3, nn_p4, nn_p5, nn_p6, nn_p7, nn_p8, nn_p9, nn_p10, nn_p20, nn_p21, nn_le, nn_lt, nn_eq, nn_cl, nn_in, nn_add, nn_mul, nn_en, nn_ne, nn_mn, nn_64] at c
      omega
    · rintro i6 l7 dd8 x9 ⟨⟩
      refine ⟨_, hD.2.2, ⟨m, w, hm, by omega, rfl⟩, ?_⟩
      rw [nn_cl (by omega), eC, nn_m3, nn_mul, nn_add, nn_cl (by omega), eL, nn_64 (by omega), nn_64 (by omega), nn_64 (by omega), nl_mul, nl_mul, la_nx]
      refine ⟨la_vp (by omega) (by omega), la_vp (by omega) (by omega), ?_⟩
      rintro l3 rfl
      refine ih (t + 1) _ (by omega) (fr_u f2 (by omega)) (fun u hu => ?_)
      by_cases e : u = t
      · rw [e]
        exact uu_e
      · rw [uu_j e]
        exact z2 u (by omega)
theorem bl_D_c {m v w : Nat} : True := trivial
theorem bh_2 {A : mA_} {m v w q k : Nat} (hW : mt_W A) (hp : 0 < aV_ A) (hm : ab_isM m) (hD : bl_D m v w dd) {i0 : Nat → Nat → Int32} {l0 : Nat → Nat → Int64} (hK : mt_K A m i0) (hv : v < aV_ A) (hw : w < aV_ A) (hq : bl_q (aS_ A v) q) (h3 : i0 199 3 = Int32.ofNat (bl_p (aS_ A v) q)) (hk : k < 3) {Q : ab_Qt} (hQ : ∀ i2 l2, fr_o 201 201 i0 i2 → fr_o 200 200 l0 l2 → (∀ own, own < aS_ A w → i2 201 (3 * k + own) = Int32.ofNat (bl_d A v w q k own)) → (∀ j, (j < 3 * k ∨ 3 * k + 3 ≤ j) → i2 201 j = i0 201 j) → Q (some none) (i2, l2, dd, x) (ab_E0 sc)) :
    ∀ (r own : Nat) (i2 : Nat → Nat → Int32) (l2 : Nat → Nat → Int64), aS_ A w = own + r → fr_o 201 201 i0 i2 → fr_o 200 200 l0 l2 → (∀ u, u < own → i2 201 (3 * k + u) = Int32.ofNat (bl_d A v w q k u)) → (∀ j, (j < 3 * k ∨ 3 * k + 3 ≤ j) → i2 201 j = i0 201 j) → ab_Fr MX10_hearWord (d + 3) Q 2 [some (.ref 199), some (.int (Int32.ofNat k)), some (.int (Int32.ofNat own)), none] [] (0, 0) (i2, l2, dd, x) (ab_E0 sc) := by
  intro r
  have w2 := hW.2.1
  have hSw := hW.2.2.2.2.2.2.1 w hw
  induction r with
  | zero =>
    intro own i2 l2 ho f2 g2 z2 y2
    have e0 := ((mt_K_o hm hK f2 (by omega) hW).2.2.2.2.1 w hw).1
    refine tMX10_hearWord_2 (d := d + 2) ⟨_, hD.2.2, ⟨m, w, hm, by omega, rfl⟩, fun _ => hQ i2 l2 f2 g2 (fun u hu => z2 u (by omega)) y2, fun c => ?_⟩
    simp (disch := omega) only [e0, ↓nn_m3, nn_p0, nn_p1, nn_p2, nn_p3, nn_p4, nn_p5, nn_p6, nn_p7, nn_p8, nn_p9, nn_p10, nn_p20, nn_p21, nn_le, nn_lt, nn_eq, nn_cl, nn_in, nn_add, nn_mul, nn_en, nn_ne, nn_mn, nn_64] at c
    omega
  | succ r ih =>
    intro own i2 l2 ho f2 g2 z2 y2
    have hK2 := mt_K_o hm hK f2 (by omega) hW
    have e0 := (hK2.2.2.2.2.1 w hw).1
    refine tMX10_hearWord_2 (d := d + 2) ⟨_, hD.2.2, ⟨m, w, hm, by omega, rfl⟩, fun c => ?_, fun _ => ?_⟩
    · simp (disch := omega) only [e0, ↓nn_m3, nn_p0, nn_p1, nn_p2, nn_p3, nn_p4, nn_p5, nn_p6, nn_p7, nn_p8, nn_p9, nn_p10, nn_p20, nn_p21, nn_le, nn_lt, nn_eq, nn_cl, nn_in, nn_add, nn_mul, nn_en, nn_ne, nn_mn, nn_64] at c
      omega
    · refine bh_15 (d := d) (l0 := l2) hW hp hm hD hK2 hv hw hq (by rw [f2 199 (by omega)]; exact h3) hk (by omega) ?_ 3 0 l2 (by omega) fr_r (fun u hu => absurd hu (Nat.not_lt_zero u))
      intro l4 g4
      refine ih (own + 1) _ l4 (by omega) (fr_u f2 (by omega)) (fr_t g2 g4) (fun u hu => ?_) (fun j hj => ?_)
      · by_cases e : u = own
        · rw [e]
          exact uu_e
        · rw [uu_j (by omega)]
          exact z2 u (by omega)
      · rw [uu_j (by omega)]
        exact y2 j hj
theorem bl_hear {A : mA_} {m v w q k : Nat} (hW : mt_W A) (hp : 0 < aV_ A) (hm : ab_isM m) (hD : bl_D m v w dd) (hK : mt_K A m i) (hv : v < aV_ A) (hw : w < aV_ A) (hq : bl_q (aS_ A v) q) (h3 : i 199 3 = Int32.ofNat (bl_p (aS_ A v) q)) (hk : k < 3) : ab_Sp MX10_hearWord (d + 3) [.ref 199, .int (Int32.ofNat k)] (i, l, dd, x) (ab_E0 sc) none (fun σ => ∃ i2 l2, σ = (i2, l2, dd, x) ∧ fr_o 201 201 i i2 ∧ fr_o 200 200 l l2 ∧ (∀ own, own < aS_ A w → i2 201 (3 * k + own) = Int32.ofNat (bl_d A v w q k own)) ∧ ∀ j, (j < 3 * k ∨ 3 * k + 3 ≤ j) → i2 201 j = i 201 j) := by
  refine ab_ent (n := 1) okMX10_hearWord.1 (fun G => Nat.le_of_ble_eq_true rfl) (fun Q hQ => ?_)
  refine tMX10_hearWord_0 (d := d + 2) (bh_2 (d := d) (i0 := i) (l0 := l) hW hp hm hD hK hv hw hq h3 hk (fun i2 l2 f2 g2 z2 y2 => hQ _ ⟨i2, l2, rfl, f2, g2, z2, y2⟩) (aS_ A w) 0 i l (by omega) fr_r fr_r (fun u hu => absurd hu (Nat.not_lt_zero u)) (fun _ _ => rfl))
theorem bl_dlt {A : mA_} {v w q k own : Nat} (hW : mt_W A) (hp : 0 < aV_ A) : bl_d A v w q k own < aT_ A := by
  have w4 := hW.2.2.2.1 hp
  have := mt_li_le (f := mt_f (bl_P A v w q k own) (aK_ A w)) (aT_ A - 1)
  unfold bl_d
  omega
/-- what is lost by a word: inside an own sign -/
theorem bc_20 {A : mA_} {m v w q s k own z : Nat} (hW : mt_W A) (hp : 0 < aV_ A) (hm : ab_isM m) (hD : bl_D m v w dd) (hK : mt_K A m i) (hv : v < aV_ A) (hw : w < aV_ A) (hs : s < aS_ A v) (hk : k < 3) (ho : own < aS_ A w) (h201 : i 201 (3 * k + own) = Int32.ofNat (bl_d A v w q k own)) {l0 : Nat → Nat → Int64} {Q : ab_Qt} (hQ : ∀ l2, fr_o 200 200 l0 l2 → ab_Fr MX10_lostBy (d + 2) Q 5 [some (.ref 199), some (.int (Int32.ofNat s)), some (.int (Int32.ofNat k)), some (.long (Int64.ofNat (z + pu_s (fun t => bl_c A v w q s k own t) (aT_ A)))), none, some (.int (Int32.ofNat (own + 1))), none, none] [] (0, 0) (i, l2, dd, x) (ab_E0 sc)) :
    ∀ (r t : Nat) (l2 : Nat → Nat → Int64), 3 = t + r → fr_o 200 200 l0 l2 → (∀ u, u < t → l2 200 u = Int64.ofNat (aC_ A u * (aL_ A v s u * aL_ A w own u))) → ab_Fr MX10_lostBy (d + 2) Q 20 [some (.ref 199), some (.int (Int32.ofNat s)), some (.int (Int32.ofNat k)), some (.long (Int64.ofNat z)), none, some (.int (Int32.ofNat own)), some (.int (Int32.ofNat t)), none] [] (0, 0) (i, l2, dd, x) (ab_E0 sc) := by
  intro r
  have w1 := hW.1
  have w2 := hW.2.1
  have hSw := hW.2.2.2.2.2.2.1 w hw
  have hSv := hW.2.2.2.2.2.2.1 v hv
  have hdl := bl_dlt (v := v) (w := w) (q := q) (k := k) (own := own) hW hp
  induction r with
  | zero =>
    intro t l2 ht f2 z2
    refine tMX10_lostBy_20 (d := d + 1) ⟨fun _ => ⟨_, hD.2.1, ⟨m, v, hm, by omega, rfl⟩, ?_⟩, fun c => ?_⟩
    · rw [nn_m3, nn_mul, nn_add, nn_cl (by omega), h201]
      refine ⟨la_vp (by omega) (by omega), _, _, mt_lostAt (d := d) (fr := 0) (n := 3) (e := bl_d A v w q k own) (P := fun u => aC_ A u * (aL_ A v s u * aL_ A w own u)) (K := aK_ A v) (isLo_v hm (by omega)) rfl (mt_KvLo hW hK hv) (fun t ht => by rw [Nat.zero_add]; exact z2 t (by omega)) (by omega) (by omega), ?_⟩
      rintro i6 l7 dd8 x9 ⟨⟩
      rw [nl_add, la_nx]
      have e : pu_s (fun t => aC_ A t * (aL_ A v s t * aL_ A w own t) * aK_ A v t (bl_d A v w q k own)) 3 = pu_s (fun t => bl_c A v w q s k own t) (aT_ A) := pu_s3 (f := fun t => bl_c A v w q s k own t) w1 (fun t ht => by
        unfold bl_c
        rw [(hW.2.2.2.2.1 t).2 ht, Nat.zero_mul, Nat.zero_mul])
      rw [e]
      exact hQ l2 f2
    · simp (disch := omega) only [↓nn_m3, nn_p0, nn_p1, nn_p2, nn_p3, nn_p4, nn_p5, nn_p6, nn_p7, nn_p8, nn_p9, nn_p10, nn_p20, nn_p21, nn_le, nn_lt, nn_eq, nn_cl, nn_in, nn_add, nn_mul, nn_en, nn_ne, nn_mn, nn_64] at c
      omega
  | succ r ih =>
    intro t l2 ht f2 z2
    have eC := hK.2.2.1 t (by omega)
    have hC := (hW.2.2.2.2.1 t).1
    have eLw := hK.2.2.2.2.2.1 w own t hw ho (by omega)
    have hLw := (hW.2.2.2.2.2.2.2.1 w own t).1
    have eLv := hK.2.2.2.2.2.1 v s t hv hs (by omega)
    have hLv := (hW.2.2.2.2.2.2.2.1 v s t).1
    have hmul : aL_ A v s t * aL_ A w own t ≤ 20 * 20 := Nat.mul_le_mul hLv hLw
    refine tMX10_lostBy_20 (d := d + 1) ⟨fun c => ?_, fun _ => ⟨_, hD.2.1, ⟨m, v, hm, by omega, rfl⟩, ?_⟩⟩
    · simp (disch := omega) only [↓nn_m3, nn_p0, nn_p1, nn_p2, nn_p3, nn_p4, nn_p5, nn_p6, nn_p7, nn_p8, nn_p9, nn_p10, nn_p20, nn_p21, nn_le, nn_lt, nn_eq, nn_cl, nn_in, nn_add, nn_mul, nn_en, nn_ne, nn_mn, nn_64] at c
      omega
    · rw [nn_m3, nn_mul, nn_add, nn_add, nn_cl (by omega), nn_cl (by omega), nn_cl (by omega), eLv]
      refine ⟨la_vp (by omega) (by omega), _, hD.2.2, ⟨m, w, hm, by omega, rfl⟩, la_vp (by omega) (by omega), m, hD.1, hm, la_vp (by omega) (by omega), la_vp (by omega) (by omega), ?_⟩
      rintro l3 rfl
      rw [eC, eLw, nn_mul, nn_64 (by omega), nn_64 (by omega), nl_mul, la_nx]
      refine ih (t + 1) _ (by omega) (fr_u f2 (by omega)) (fun u hu => ?_)
      by_cases e : u = t
      · rw [e]
        exact uu_e
      · rw [uu_j e]
        exact z2 u (by omega)
theorem bc_5 {A : mA_} {m v w q s k : Nat} (hW : mt_W A) (hp : 0 < aV_ A) (hm : ab_isM m) (hD : bl_D m v w dd) (hK : mt_K A m i) (hv : v < aV_ A) (hw : w < aV_ A) (hs : s < aS_ A v) (hk : k < 3) (h201 : ∀ own, own < aS_ A w → i 201 (3 * k + own) = Int32.ofNat (bl_d A v w q k own)) {l0 : Nat → Nat → Int64} {Q : ab_Qt} (hQ : ∀ l2, fr_o 200 200 l0 l2 → Q (some (some (.long (Int64.ofNat (bl_L A v w q s k))))) (i, l2, dd, x) (ab_E0 sc)) :
    ∀ (r own : Nat) (l2 : Nat → Nat → Int64), aS_ A w = own + r → fr_o 200 200 l0 l2 → ab_Fr MX10_lostBy (d + 2) Q 5 [some (.ref 199), some (.int (Int32.ofNat s)), some (.int (Int32.ofNat k)), some (.long (Int64.ofNat (pu_s (fun own => pu_s (fun t => bl_c A v w q s k own t) (aT_ A)) own))), none, some (.int (Int32.ofNat own)), none, none] [] (0, 0) (i, l2, dd, x) (ab_E0 sc) := by
  intro r
  have w2 := hW.2.1
  have hSw := hW.2.2.2.2.2.2.1 w hw
  have e0 := (hK.2.2.2.2.1 w hw).1
  induction r with
  | zero =>
    intro own l2 ho g2
    refine tMX10_lostBy_5 (d := d + 1) ⟨_, hD.2.2, ⟨m, w, hm, by omega, rfl⟩, fun _ => by rw [show own = aS_ A w by omega]; exact hQ l2 g2, fun c => ?_⟩
    simp (disch := omega) only [e0, ↓nn_m3, nn_p0, nn_p1, nn_p2, nn_p3, nn_p4, nn_p5, nn_p6, nn_p7, nn_p8, nn_p9, nn_p10, nn_p20, nn_p21, nn_le, nn_lt, nn_eq, nn_cl, nn_in, nn_add, nn_mul, nn_en, nn_ne, nn_mn, nn_64] at c
    omega
  | succ r ih =>
    intro own l2 ho g2
    refine tMX10_lostBy_5 (d := d + 1) ⟨_, hD.2.2, ⟨m, w, hm, by omega, rfl⟩, fun c => ?_, fun _ => ?_⟩
    · simp (disch := omega) only [e0, ↓nn_m3, nn_p0, nn_p1, nn_p2, nn_p3, nn_p4, nn_p5, nn_p6, nn_p7, nn_p8, nn_p9, nn_p10, nn_p20, nn_p21, nn_le, nn_lt, nn_eq, nn_cl, nn_in, nn_add, nn_mul, nn_en, nn_ne, nn_mn, nn_64] at c
      omega
    · exact bc_20 (d := d) (q := q) (own := own) (l0 := l2) hW hp hm hD hK hv hw hs hk (by omega) (h201 own (by omega)) (fun l4 g4 => ih (own + 1) l4 (by omega) (fr_t g2 g4)) 3 0 l2 (by omega) fr_r (fun u hu => absurd hu (Nat.not_lt_zero u))
theorem bl_lost {A : mA_} {m v w q s k : Nat} (hW : mt_W A) (hp : 0 < aV_ A) (hm : ab_isM m) (hD : bl_D m v w dd) (hK : mt_K A m i) (hv : v < aV_ A) (hw : w < aV_ A) (hs : s < aS_ A v) (hk : k < 3) (h201 : ∀ own, own < aS_ A w → i 201 (3 * k + own) = Int32.ofNat (bl_d A v w q k own)) : ab_Sp MX10_lostBy (d + 2) [.ref 199, .int (Int32.ofNat s), .int (Int32.ofNat k)] (i, l, dd, x) (ab_E0 sc) (some (.long (Int64.ofNat (bl_L A v w q s k)))) (fun σ => ∃ l2, σ = (i, l2, dd, x) ∧ fr_o 200 200 l l2) := by
  refine ab_ent (n := 2) okMX10_lostBy.1 (fun G => Nat.le_of_ble_eq_true rfl) (fun Q hQ => ?_)
  exact tMX10_lostBy_0 (d := d + 1) (bc_5 (d := d) (q := q) (l0 := l) hW hp hm hD hK hv hw hs hk h201 (fun l2 g2 => hQ _ ⟨l2, rfl, g2⟩) (aS_ A w) 0 l (by omega) fr_r)
/-- a word by which less would be lost -/
def bl_lie (A : mA_) (v w q s n : Nat) : Nat := if (∀ k, k < n → ¬ Int64.ofNat (bl_L A v w q s k) < Int64.ofNat (bl_L A v w q s (bl_w (aS_ A v) q s))) then 0 else 1
theorem bz_19 {A : mA_} {m v w q s n : Nat} (hW : mt_W A) (hp : 0 < aV_ A) (hm : ab_isM m) (hD : bl_D m v w dd) (hK : mt_K A m i) (hv : v < aV_ A) (hw : w < aV_ A) (hs : s < aS_ A v) (hn : n ≤ 3) (h201 : ∀ k own, k < n → own < aS_ A w → i 201 (3 * k + own) = Int32.ofNat (bl_d A v w q k own)) {l0 : Nat → Nat → Int64} {Q : ab_Qt} (hQ : ∀ l2, fr_o 200 200 l0 l2 → Q (some (some (.int (Int32.ofNat (bl_lie A v w q s n))))) (i, l2, dd, x) (ab_E0 sc)) :
    ∀ (r k : Nat) (l2 : Nat → Nat → Int64), n = k + r → fr_o 200 200 l0 l2 → (∀ u, u < k → ¬ Int64.ofNat (bl_L A v w q s u) < Int64.ofNat (bl_L A v w q s (bl_w (aS_ A v) q s))) → ab_Fr MX10_liesWith (d + 3) Q 19 [some (.ref 199), some (.int (Int32.ofNat s)), some (.int (Int32.ofNat n)), some (.long (Int64.ofNat (bl_L A v w q s (bl_w (aS_ A v) q s)))), none, some (.int (Int32.ofNat k))] [] (0, 0) (i, l2, dd, x) (ab_E0 sc) := by
  intro r
  induction r with
  | zero =>
    intro k l2 hk g2 h
    refine tMX10_liesWith_19 (d := d + 2) ⟨fun _ => ?_, fun c => ?_⟩
    · have hq := hQ l2 g2
      unfold bl_lie at hq
      rw [if_pos (fun u hu => h u (by omega))] at hq
      exact hq
    · simp (disch := omega) only [↓nn_m3, nn_p0, nn_p1, nn_p2, nn_p3, nn_p4, nn_p5, nn_p6, nn_p7, nn_p8, nn_p9, nn_p10, nn_p20, nn_p21, nn_le, nn_lt, nn_eq, nn_cl, nn_in, nn_add, nn_mul, nn_en, nn_ne, nn_mn, nn_64] at c
      omega
  | succ r ih =>
    intro k l2 hk g2 h
    refine tMX10_liesWith_19 (d := d + 2) ⟨fun c => ?_, fun _ => ⟨_, _, bl_lost (d := d) (q := q) (k := k) hW hp hm hD hK hv hw hs (by omega) (fun own ho => h201 k own (by omega) ho), ?_⟩⟩
    · simp (disch := omega) only [↓nn_m3, nn_p0, nn_p1, nn_p2, nn_p3, nn_p4, nn_p5, nn_p6, nn_p7, nn_p8, nn_p9, nn_p10, nn_p20, nn_p21, nn_le, nn_lt, nn_eq, nn_cl, nn_in, nn_add, nn_mul, nn_en, nn_ne, nn_mn, nn_64] at c
      omega
    · rintro i6 l7 dd8 x9 ⟨l3, ⟨⟩, g3⟩
      rw [la_nx]
      refine ⟨fun c => ih (k + 1) _ (by omega) (fr_t g2 g3) (fun u hu => ?_), fun c => ?_⟩
      · by_cases e : u = k
        · rw [e]
          exact c
        · exact h u (by omega)
      · have hq := hQ _ (fr_t g2 g3)
        unfold bl_lie at hq
        rw [if_neg (fun y => y k (by omega) c)] at hq
        exact hq
theorem bl_lies {A : mA_} {m v w q s : Nat} (hW : mt_W A) (hp : 0 < aV_ A) (hm : ab_isM m) (hD : bl_D m v w dd) (hK : mt_K A m i) (hv : v < aV_ A) (hw : w < aV_ A) (hs : s < aS_ A v) (hq : bl_q (aS_ A v) q) (h3 : i 199 3 = Int32.ofNat (bl_p (aS_ A v) q)) (h201 : ∀ k own, k < bl_n (aS_ A v) q (aS_ A v) → own < aS_ A w → i 201 (3 * k + own) = Int32.ofNat (bl_d A v w q k own)) : ab_Sp MX10_liesWith (d + 3) [.ref 199, .int (Int32.ofNat s), .int (Int32.ofNat (bl_n (aS_ A v) q (aS_ A v)))] (i, l, dd, x) (ab_E0 sc) (some (.int (Int32.ofNat (bl_lie A v w q s (bl_n (aS_ A v) q (aS_ A v)))))) (fun σ => ∃ l2, σ = (i, l2, dd, x) ∧ fr_o 200 200 l l2) := by
  have hS := hW.2.2.2.2.2.2.1 v hv
  have hnl := bl_nl (S := aS_ A v) (q := q) (aS_ A v) (by omega)
  have hnw := bl_nw (S := aS_ A v) (q := q) (aS_ A v) s hs
  have hpl := bl_pl hq
  refine ab_ent (n := 2) okMX10_liesWith.1 (fun G => Nat.le_of_ble_eq_true rfl) (fun Q hQ => ?_)
  refine tMX10_liesWith_0 (d := d + 2) ?_
  rw [h3, nn_add, nn_cl (by omega), bl_wo hq hs]
  refine ⟨la_vp (by omega) (by omega), _, _, bl_lost (d := d) (q := q) (k := bl_w (aS_ A v) q s) hW hp hm hD hK hv hw hs (by omega) (fun own ho => h201 _ own hnw ho), ?_⟩
  rintro i6 l7 dd8 x9 ⟨l3, ⟨⟩, g3⟩
  exact bz_19 (d := d) (q := q) (l0 := l) hW hp hm hD hK hv hw hs hnl h201 (fun l2 g2 => hQ _ ⟨l2, rfl, g2⟩) _ 0 _ (Nat.zero_add _).symm g3 (fun u hu => absurd hu (Nat.not_lt_zero u))
end TQQ2
