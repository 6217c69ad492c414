/-! believed: the model; the call -/
section TQS2
variable {d : Nat} {sc : Nat × (Nat → Int32)} {i : Nat → Nat → Int32} {l : Nat → Nat → Int64} {dd : Nat → Nat → Value} {x : Nat}
theorem md_word {S q s : Nat} (h : bl_q S q) (hs : s < S) : ab_Sp MX12_wordOf (d + 1) [.int (Int32.ofNat s), .int (Int32.ofNat S), .int (Int32.ofNat q)] (i, l, dd, x) (ab_E0 sc) (some (.int (Int32.ofNat (bl_w S q s)))) (fun σ => σ = (i, l, dd, x)) := by
  refine ab_ent (n := 3) okMX12_wordOf.1 (fun G => Nat.le_of_ble_eq_true rfl) (fun Q hQ => ?_)
  refine tMX12_wordOf_0 ?_
  have hq2 := hQ _ rfl
  rcases h with ⟨rfl, hq⟩ | ⟨rfl, hq⟩
  · rcases (show q = 0 ∨ q = 1 by omega) with rfl | rfl <;> rcases (show s = 0 ∨ s = 1 by omega) with rfl | rfl <;> (repeat' first | exact hq2 | (refine ⟨fun g => ?_, fun g => ?_⟩ <;> try (exact absurd g (by decide))) | (intro g; first | exact absurd g (by decide) | skip))
  · rcases (show q = 0 ∨ q = 1 ∨ q = 2 ∨ q = 3 ∨ q = 4 by omega) with rfl | rfl | rfl | rfl | rfl <;> rcases (show s = 0 ∨ s = 1 ∨ s = 2 by omega) with rfl | rfl | rfl <;> (repeat' first | exact hq2 | (refine ⟨fun g => ?_, fun g => ?_⟩ <;> try (exact absurd g (by decide))) | (intro g; first | exact absurd g (by decide) | skip))
theorem md_both {A : mA_} {v s w o t : Nat} (hW : mt_W A) (hM : mt_M A i l) (hv : v < aV_ A) (hs : s < aS_ A v) (hw : w < aV_ A) (ho : o < aS_ A w) (ht : t < aT_ A) : ab_Sp MX12_both (d + 1) [.ref 205, .int (Int32.ofNat v), .int (Int32.ofNat s), .int (Int32.ofNat w), .int (Int32.ofNat o), .int (Int32.ofNat t)] (i, l, dd, x) (ab_E0 sc) (some (.long (Int64.ofNat (aC_ A t * (aL_ A v s t * aL_ A w o t))))) (fun σ => σ = (i, l, dd, x)) := by
  have w1 := hW.1
  have w2 := hW.2.1
  have hSv := hW.2.2.2.2.2.2.1 v hv
  have hSw := hW.2.2.2.2.2.2.1 w hw
  have hC := (hW.2.2.2.2.1 t).1
  have h1 := (hW.2.2.2.2.2.2.2.1 v s t).1
  have h2 := (hW.2.2.2.2.2.2.2.1 w o t).1
  have eC := hM.2.2.1 t ht
  have e1 := hM.2.2.2.2.1 v s t hv hs ht
  have e2 := hM.2.2.2.2.1 w o t hw ho ht
  have hidx : ∀ v s : Nat, ((9 : Int32) * Int32.ofNat v + 3 * Int32.ofNat s + Int32.ofNat t) = Int32.ofNat (9 * v + 3 * s + t) := fun v s => by
    rw [nn_p9, nn_p3, nn_mul, nn_mul, nn_add, nn_add]
  refine ab_ent (n := 5) okMX12_both.1 (fun G => Nat.le_of_ble_eq_true rfl) (fun Q hQ => ?_)
  refine tMX12_both_0 ?_
  have hq := hQ _ rfl
  rw [hidx, hidx, nn_cl (by omega), nn_cl (by omega), nn_cl (by omega), eC, e1, e2, nn_64 (by omega), nn_64 (by omega), nn_64 (by omega), nl_mul, nl_mul, Nat.mul_assoc]
  exact ⟨la_vp (by omega) (by omega), la_vp (by omega) (by omega), la_vp (by omega) (by omega), hq⟩
/-- the model's heard: cell 246 -/
def bm_h (A : mA_) (v w q n : Nat) (i : Nat → Nat → Int32) : Prop := ∀ o k, o < aS_ A w → k < n → i 246 (3 * o + k) = Int32.ofNat (bl_d A v w q k o)
theorem bm_20 {A : mA_} {v s w q k o z : Nat} (hW : mt_W A) (hp : 0 < aV_ A) (hM : mt_M A i l) (hv : v < aV_ A) (hs : s < aS_ A v) (hw : w < aV_ A) (ho : o < aS_ A w) (hk : k < 3) (h246 : i 246 (3 * o + k) = Int32.ofNat (bl_d A v w q k o)) {Q : ab_Qt} (hQ : ab_Fr MX12_lostByWord (d + 2) Q 6 [some (.ref 205), some (.int (Int32.ofNat v)), some (.int (Int32.ofNat s)), some (.int (Int32.ofNat w)), some (.int (Int32.ofNat k)), some (.long (Int64.ofNat (z + pu_s (fun t => bl_c A v w q s k o t) (aT_ A)))), none, some (.int (Int32.ofNat (o + 1))), none] [] (0, 0) (i, l, dd, x) (ab_E0 sc)) :
    ∀ r t : Nat, aT_ A = t + r → ab_Fr MX12_lostByWord (d + 2) Q 20 [some (.ref 205), some (.int (Int32.ofNat v)), some (.int (Int32.ofNat s)), some (.int (Int32.ofNat w)), some (.int (Int32.ofNat k)), some (.long (Int64.ofNat (z + pu_s (fun t => bl_c A v w q s k o t) t))), none, some (.int (Int32.ofNat o)), some (.int (Int32.ofNat t))] [] (0, 0) (i, l, dd, x) (ab_E0 sc) := by
  intro r
  have w1 := hW.1
  have w2 := hW.2.1
  have r1 := hM.1.1
  have hSw := hW.2.2.2.2.2.2.1 w hw
  have hdl := bl_dlt (v := v) (w := w) (q := q) (k := k) (own := o) hW hp
  induction r with
  | zero =>
    intro t ht
    refine tMX12_lostByWord_20 (d := d + 1) ⟨fun _ => ?_, fun c => ?_⟩
    · rw [show t = aT_ A by omega, la_nx]
      exact hQ
    · simp (disch := omega) only [r1, ↓nn_m3, nn_p0, nn_p1, nn_p2, nn_p3, nn_p4, nn_p5, nn_p6, nn_p7, nn_p8, nn_p9, nn_p10, nn_p20, nn_p21, nn_le, nn_lt, nn_eq, nn_cl, nn_in, nn_add, nn_mul, nn_en, nn_ne, nn_mn, nn_64] at c
      omega
  | succ r ih =>
    intro t ht
    have ih2 := ih (t + 1) (by omega)
    have hK5 := hW.2.2.2.2.2.2.2.2.2.1 v t (bl_d A v w q k o)
    have el : pu_s (fun t => bl_c A v w q s k o t) (t + 1) = pu_s (fun t => bl_c A v w q s k o t) t + aC_ A t * (aL_ A v s t * aL_ A w o t) * aK_ A v t (bl_d A v w q k o) := rfl
    refine tMX12_lostByWord_20 (d := d + 1) ⟨fun c => ?_, fun _ => ⟨_, _, md_both (d := d) hW hM hv hs hw ho (by omega), ?_⟩⟩
    · simp (disch := omega) only [r1, ↓nn_m3, nn_p0, nn_p1, nn_p2, nn_p3, nn_p4, nn_p5, nn_p6, nn_p7, nn_p8, nn_p9, nn_p10, nn_p20, nn_p21, nn_le, nn_lt, nn_eq, nn_cl, nn_in, nn_add, nn_mul, nn_en, nn_ne, nn_mn, nn_64] at c
      omega
    · rintro i6 l7 dd8 x9 ⟨⟩
      rw [nn_p3, nn_mul, nn_add, nn_cl (by omega), h246]
      refine ⟨la_vp (by omega) (by omega), _, _, mt_loss (d := d) hW hM (Or.inl hv) (by omega) hdl, ?_⟩
      rintro i6 l7 dd8 x9 ⟨⟩
      rw [el, ← Nat.add_assoc] at ih2
      rw [nn_64 (by omega), nl_mul, nl_add, la_nx]
      exact ih2
theorem md_lostW {A : mA_} {v s w q k n : Nat} (hW : mt_W A) (hp : 0 < aV_ A) (hM : mt_M A i l) (hv : v < aV_ A) (hs : s < aS_ A v) (hw : w < aV_ A) (hk : k < n) (hn : n ≤ 3) (h246 : bm_h A v w q n i) : ab_Sp MX12_lostByWord (d + 2) [.ref 205, .int (Int32.ofNat v), .int (Int32.ofNat s), .int (Int32.ofNat w), .int (Int32.ofNat k)] (i, l, dd, x) (ab_E0 sc) (some (.long (Int64.ofNat (bl_L A v w q s k)))) (fun σ => σ = (i, l, dd, x)) := by
  have w2 := hW.2.1
  have e0 := (hM.2.2.2.1 w hw).1
  have hSw := hW.2.2.2.2.2.2.1 w hw
  refine ab_ent (n := 4) okMX12_lostByWord.1 (fun G => Nat.le_of_ble_eq_true rfl) (fun Q hQ => ?_)
  refine tMX12_lostByWord_0 (d := d + 1) ?_
  have go : ∀ r o : Nat, aS_ A w = o + r → ab_Fr MX12_lostByWord (d + 2) Q 6 [some (.ref 205), some (.int (Int32.ofNat v)), some (.int (Int32.ofNat s)), some (.int (Int32.ofNat w)), some (.int (Int32.ofNat k)), some (.long (Int64.ofNat (pu_s (fun own => pu_s (fun t => bl_c A v w q s k own t) (aT_ A)) o))), none, some (.int (Int32.ofNat o)), none] [] (0, 0) (i, l, dd, x) (ab_E0 sc) := by
    intro r
    induction r with
    | zero =>
      intro o ho
      refine tMX12_lostByWord_6 (d := d + 1) ⟨la_vp (by omega) (by omega), ?_⟩
      rw [nn_cl (by omega), e0, nn_le (by omega) (by omega)]
      refine ⟨fun _ => ?_, fun c => absurd c (by omega)⟩
      rw [show o = aS_ A w by omega]
      exact hQ _ rfl
    | succ r ih =>
      intro o ho
      refine tMX12_lostByWord_6 (d := d + 1) ⟨la_vp (by omega) (by omega), ?_⟩
      rw [nn_cl (by omega), e0, nn_le (by omega) (by omega)]
      refine ⟨fun c => absurd c (by omega), fun _ => ?_⟩
      exact bm_20 (d := d) (z := pu_s (fun own => pu_s (fun t => bl_c A v w q s k own t) (aT_ A)) o) hW hp hM hv hs hw (by omega) (by omega) (h246 o k (by omega) hk) (ih (o + 1) (by omega)) _ 0 (Nat.zero_add _).symm
  exact go _ 0 (Nat.zero_add _).symm
/-- one case of the model's sum -/
def bm_c (A : mA_) (v w s o t e : Nat) : Nat := aC_ A t * (aL_ A v s t * aL_ A w o t) * aK_ A w t e
def bm_z (A : mA_) (v w q k o e s : Nat) : Nat := pu_s (fun s => if bl_w (aS_ A v) q s = k then pu_s (fun t => bm_c A v w s o t e) (aT_ A) else 0) s
theorem bm_full {A : mA_} {v w q k o e : Nat} (hW : mt_W A) : Int64.ofNat (bm_z A v w q k o e (aS_ A v)) = mt_f (bl_P A v w q k o) (aK_ A w) e := by
  have w1 := hW.1
  unfold mt_f
  rw [pu_s3 (f := fun t => bl_P A v w q k o t * aK_ A w t e) w1 (fun t ht => by
    unfold bl_P
    rw [(hW.2.2.2.2.1 t).2 ht, Nat.zero_mul, Nat.zero_mul, Nat.zero_mul])]
  congr 1
  unfold bm_z
  rw [show pu_s (fun s => if bl_w (aS_ A v) q s = k then pu_s (fun t => bm_c A v w s o t e) (aT_ A) else 0) (aS_ A v) = pu_s (fun s => pu_s (fun t => if bl_w (aS_ A v) q s = k then bm_c A v w s o t e else 0) (aT_ A)) (aS_ A v) from pu_sc (fun s _ => by
    by_cases c : bl_w (aS_ A v) q s = k
    · rw [if_pos c]
      exact pu_sc (fun t _ => (if_pos c).symm)
    · rw [if_neg c]
      exact (pu_sz (fun t _ => if_neg c)).symm), pu_sw]
  refine pu_sc (fun t _ => ?_)
  unfold bl_P bl_l
  rw [← pu_sm, ← pu_sr, ← pu_sr]
  refine pu_sc (fun s _ => ?_)
  unfold bm_c
  by_cases c : bl_w (aS_ A v) q s = k
  · rw [if_pos c, if_pos c]
    simp only [Nat.mul_assoc]
  · rw [if_neg c, if_neg c, Nat.mul_zero, Nat.zero_mul, Nat.zero_mul]
theorem bm_203 {A : mA_} {v w s o t a3 k n : Nat} {Z : Nat → Nat} (hW : mt_W A) {l0 : Nat → Nat → Int64} (hM : mt_M A i l0) (hv : v < aV_ A) (hs : s < aS_ A v) (hw : w < aV_ A) (ho : o < aS_ A w) (ht : t < aT_ A) (hZ : ∀ e, e < aT_ A → l0 228 e = Int64.ofNat (Z e)) {Q : ab_Qt} (hQ : ∀ l2, fr_o 228 228 l0 l2 → (∀ e, e < aT_ A → l2 228 e = Int64.ofNat (Z e + bm_c A v w s o t e)) → ab_Fr MX12_believed (d + 2) Q 191 [some (.ref 205), some (.int (Int32.ofNat v)), some (.int (Int32.ofNat w)), some (.int (Int32.ofNat a3)), some (.int (Int32.ofNat n)), some (.int (Int32.ofNat o)), some (.int (Int32.ofNat k)), some (.int (Int32.ofNat s)), some (.int (Int32.ofNat (t + 1))), none] [] (0, 0) (i, l2, dd, x) (ab_E0 sc)) :
    ∀ (r e : Nat) (l2 : Nat → Nat → Int64), aT_ A = e + r → fr_o 228 228 l0 l2 → (∀ u, u < aT_ A → l2 228 u = Int64.ofNat (Z u + (if u < e then bm_c A v w s o t u else 0))) → ab_Fr MX12_believed (d + 2) Q 203 [some (.ref 205), some (.int (Int32.ofNat v)), some (.int (Int32.ofNat w)), some (.int (Int32.ofNat a3)), some (.int (Int32.ofNat n)), some (.int (Int32.ofNat o)), some (.int (Int32.ofNat k)), some (.int (Int32.ofNat s)), some (.int (Int32.ofNat t)), some (.int (Int32.ofNat e))] [] (0, 0) (i, l2, dd, x) (ab_E0 sc) := by
  intro r
  have w1 := hW.1
  have w2 := hW.2.1
  have r1 := hM.1.1
  induction r with
  | zero =>
    intro e l2 he g2 z2
    refine tMX12_believed_203 (d := d + 1) ⟨fun _ => ?_, fun c => ?_⟩
    · rw [la_nx]
      refine hQ l2 g2 (fun u hu => ?_)
      rw [z2 u hu, if_pos (by omega)]
    · simp (disch := omega) only [r1, ↓nn_m3, nn_p0, nn_p1, nn_p2, nn_p3, nn_p4, nn_p5, nn_p6, nn_p7, nn_p8, nn_p9, nn_p10, nn_p20, nn_p21, nn_le, nn_lt, nn_eq, nn_cl, nn_in, nn_add, nn_mul, nn_en, nn_ne, nn_mn, nn_64] at c
      omega
  | succ r ih =>
    intro e l2 he g2 z2
    have hM2 := mt_M_2 hW hM fr_r g2
    have hK5 := hW.2.2.2.2.2.2.2.2.2.1 w t e
    refine tMX12_believed_203 (d := d + 1) ⟨fun c => ?_, fun _ => ⟨la_vp (by omega) (by omega), _, _, md_both (d := d) hW hM2 hv hs hw ho ht, ?_⟩⟩
    · simp (disch := omega) only [r1, ↓nn_m3, nn_p0, nn_p1, nn_p2, nn_p3, nn_p4, nn_p5, nn_p6, nn_p7, nn_p8, nn_p9, nn_p10, nn_p20, nn_p21, nn_le, nn_lt, nn_eq, nn_cl, nn_in, nn_add, nn_mul, nn_en, nn_ne, nn_mn, nn_64] at c
      omega
    · rintro i6 l7 dd8 x9 ⟨⟩
      refine ⟨_, _, mt_loss (d := d) hW hM2 (Or.inl hw) ht (by omega), ?_⟩
      rintro i6 l7 dd8 x9 ⟨⟩
      rw [nn_cl (by omega), z2 e (by omega), if_neg (Nat.lt_irrefl e), Nat.add_zero, nn_64 (by omega), nl_mul, nl_add, la_nx]
      refine ⟨la_vp (by omega) (by omega), ?_⟩
      rintro l3 rfl
      refine ih (e + 1) _ (by omega) (fr_u g2 (by omega)) (fun u hu => ?_)
      by_cases c : u = e
      · rw [c, if_pos (by omega)]
        exact uu_e
      · rw [uu_j c, z2 u hu]
        by_cases c2 : u < e
        · rw [if_pos c2, if_pos (by omega)]
        · rw [if_neg c2, if_neg (by omega)]
theorem bm_191 {A : mA_} {v w s o a3 k n : Nat} {Z : Nat → Nat} (hW : mt_W A) {l0 : Nat → Nat → Int64} (hM : mt_M A i l0) (hv : v < aV_ A) (hs : s < aS_ A v) (hw : w < aV_ A) (ho : o < aS_ A w) {Q : ab_Qt} (hQ : ∀ l2, fr_o 228 228 l0 l2 → (∀ e, e < aT_ A → l2 228 e = Int64.ofNat (Z e + pu_s (fun t => bm_c A v w s o t e) (aT_ A))) → ab_Fr MX12_believed (d + 2) Q 157 [some (.ref 205), some (.int (Int32.ofNat v)), some (.int (Int32.ofNat w)), some (.int (Int32.ofNat a3)), some (.int (Int32.ofNat n)), some (.int (Int32.ofNat o)), some (.int (Int32.ofNat k)), some (.int (Int32.ofNat (s + 1))), none, none] [] (0, 0) (i, l2, dd, x) (ab_E0 sc)) :
    ∀ (r t : Nat) (l2 : Nat → Nat → Int64), aT_ A = t + r → fr_o 228 228 l0 l2 → (∀ e, e < aT_ A → l2 228 e = Int64.ofNat (Z e + pu_s (fun t => bm_c A v w s o t e) t)) → ab_Fr MX12_believed (d + 2) Q 191 [some (.ref 205), some (.int (Int32.ofNat v)), some (.int (Int32.ofNat w)), some (.int (Int32.ofNat a3)), some (.int (Int32.ofNat n)), some (.int (Int32.ofNat o)), some (.int (Int32.ofNat k)), some (.int (Int32.ofNat s)), some (.int (Int32.ofNat t)), none] [] (0, 0) (i, l2, dd, x) (ab_E0 sc) := by
  intro r
  have w1 := hW.1
  have w2 := hW.2.1
  have r1 := hM.1.1
  induction r with
  | zero =>
    intro t l2 ht g2 z2
    refine tMX12_believed_191 (d := d + 1) ⟨fun _ => ?_, fun c => ?_⟩
    · rw [la_nx]
      refine hQ l2 g2 (fun u hu => ?_)
      rw [z2 u hu, show t = aT_ A by omega]
    · simp (disch := omega) only [r1, ↓nn_m3, nn_p0, nn_p1, nn_p2, nn_p3, nn_p4, nn_p5, nn_p6, nn_p7, nn_p8, nn_p9, nn_p10, nn_p20, nn_p21, nn_le, nn_lt, nn_eq, nn_cl, nn_in, nn_add, nn_mul, nn_en, nn_ne, nn_mn, nn_64] at c
      omega
  | succ r ih =>
    intro t l2 ht g2 z2
    refine tMX12_believed_191 (d := d + 1) ⟨fun c => ?_, fun _ => ?_⟩
    · simp (disch := omega) only [r1, ↓nn_m3, nn_p0, nn_p1, nn_p2, nn_p3, nn_p4, nn_p5, nn_p6, nn_p7, nn_p8, nn_p9, nn_p10, nn_p20, nn_p21, nn_le, nn_lt, nn_eq, nn_cl, nn_in, nn_add, nn_mul, nn_en, nn_ne, nn_mn, nn_64] at c
      omega
    · refine bm_203 (d := d) (l0 := l2) (Z := fun e => Z e + pu_s (fun t => bm_c A v w s o t e) t) hW (mt_M_2 hW hM fr_r g2) hv hs hw ho (by omega) z2 (fun l3 g3 z3 => ih (t + 1) l3 (by omega) (fr_t g2 g3) (fun e he => ?_)) _ 0 l2 (Nat.zero_add _).symm fr_r (fun u hu => ?_)
      · rw [z3 e he, Nat.add_assoc]
        rfl
      · rw [z2 u hu]
        rfl
theorem bm_157 {A : mA_} {v w q o k n : Nat} (hW : mt_W A) (hp : 0 < aV_ A) {l0 : Nat → Nat → Int64} (hM : mt_M A i l0) (hv : v < aV_ A) (hw : w < aV_ A) (hq : bl_q (aS_ A v) q) (ho : o < aS_ A w) (hk : k < 3) {Q : ab_Qt} (hQ : ∀ l2, fr_o 228 228 l0 l2 → ab_Fr MX12_believed (d + 2) Q 124 [some (.ref 205), some (.int (Int32.ofNat v)), some (.int (Int32.ofNat w)), some (.int (Int32.ofNat q)), some (.int (Int32.ofNat n)), some (.int (Int32.ofNat o)), some (.int (Int32.ofNat (k + 1))), none, none, none] [] (0, 0) (ab_u i 246 (3 * o + k) (Int32.ofNat (bl_d A v w q k o)), l2, dd, x) (ab_E0 sc)) :
    ∀ (r s : Nat) (l2 : Nat → Nat → Int64), aS_ A v = s + r → fr_o 228 228 l0 l2 → (∀ e, e < aT_ A → l2 228 e = Int64.ofNat (bm_z A v w q k o e s)) → ab_Fr MX12_believed (d + 2) Q 157 [some (.ref 205), some (.int (Int32.ofNat v)), some (.int (Int32.ofNat w)), some (.int (Int32.ofNat q)), some (.int (Int32.ofNat n)), some (.int (Int32.ofNat o)), some (.int (Int32.ofNat k)), some (.int (Int32.ofNat s)), none, none] [] (0, 0) (i, l2, dd, x) (ab_E0 sc) := by
  intro r
  have w1 := hW.1
  have w2 := hW.2.1
  have w4 := hW.2.2.2.1 hp
  have hS := hW.2.2.2.2.2.2.1 v hv
  have hSw := hW.2.2.2.2.2.2.1 w hw
  have e0 := (hM.2.2.2.1 v hv).1
  induction r with
  | zero =>
    intro s l2 hs g2 z2
    refine tMX12_believed_157 (d := d + 1) ⟨la_vp (by omega) (by omega), ?_⟩
    rw [nn_cl (by omega), e0, nn_le (by omega) (by omega)]
    refine ⟨fun _ => ?_, fun c => absurd c (by omega)⟩
    have ez : ∀ e, e < aT_ A → mt_f (bl_P A v w q k o) (aK_ A w) e = l2 228 e := fun e he => by
      rw [z2 e he, show s = aS_ A v by omega, bm_full hW]
    refine ⟨_, _, md_least (d := d) (f := mt_f (bl_P A v w q k o) (aK_ A w)) hW hp (mt_M_2 hW hM fr_r g2) (ez 0 (by omega)) (ez 1 (by omega)) (fun h => ez 2 (by omega)), ?_⟩
    rintro i6 l7 dd8 x9 ⟨⟩
    rw [nn_p3, nn_mul, nn_add, nn_cl (by omega), la_nx]
    refine ⟨la_vp (by omega) (by omega), ?_⟩
    rintro i11 rfl
    exact hQ l2 g2
  | succ r ih =>
    intro s l2 hs g2 z2
    have ih2 := ih (s + 1)
    have ez : ∀ e, bm_z A v w q k o e (s + 1) = bm_z A v w q k o e s + (if bl_w (aS_ A v) q s = k then pu_s (fun t => bm_c A v w s o t e) (aT_ A) else 0) := fun _ => rfl
    have hwl := bl_wl (S := aS_ A v) (q := q) (s := s) (by omega)
    refine tMX12_believed_157 (d := d + 1) ⟨la_vp (by omega) (by omega), ?_⟩
    rw [nn_cl (by omega), e0, nn_le (by omega) (by omega)]
    refine ⟨fun c => absurd c (by omega), fun _ => ⟨la_vp (by omega) (by omega), _, _, md_word (d := d) hq (by omega), ?_⟩⟩
    rintro i6 l7 dd8 x9 ⟨⟩
    rw [nn_eq (by omega) (by omega), la_nx]
    refine ⟨fun c => ?_, fun c => ih (s + 1) l2 (by omega) g2 (fun e he => ?_)⟩
    · refine bm_191 (d := d) (l0 := l2) (Z := fun e => bm_z A v w q k o e s) hW (mt_M_2 hW hM fr_r g2) hv (by omega) hw ho (fun l3 g3 z3 => ih (s + 1) l3 (by omega) (fr_t g2 g3) (fun e he => ?_)) _ 0 l2 (Nat.zero_add _).symm fr_r (fun u hu => ?_)
      · rw [z3 e he, ez, if_pos c]
      · rw [z2 u hu]
        rfl
    · rw [z2 e he, ez, if_neg c, Nat.add_zero]
theorem bm_134 {A : mA_} {v w q o k n : Nat} (hW : mt_W A) (hp : 0 < aV_ A) {l0 : Nat → Nat → Int64} (hM : mt_M A i l0) (hv : v < aV_ A) (hw : w < aV_ A) (hq : bl_q (aS_ A v) q) (ho : o < aS_ A w) (hk : k < 3) {Q : ab_Qt} (hQ : ∀ l2, fr_o 228 228 l0 l2 → ab_Fr MX12_believed (d + 2) Q 124 [some (.ref 205), some (.int (Int32.ofNat v)), some (.int (Int32.ofNat w)), some (.int (Int32.ofNat q)), some (.int (Int32.ofNat n)), some (.int (Int32.ofNat o)), some (.int (Int32.ofNat (k + 1))), none, none, none] [] (0, 0) (ab_u i 246 (3 * o + k) (Int32.ofNat (bl_d A v w q k o)), l2, dd, x) (ab_E0 sc)) :
    ∀ (r e : Nat) (l2 : Nat → Nat → Int64), 3 = e + r → fr_o 228 228 l0 l2 → (∀ u, u < e → l2 228 u = 0) → ab_Fr MX12_believed (d + 2) Q 134 [some (.ref 205), some (.int (Int32.ofNat v)), some (.int (Int32.ofNat w)), some (.int (Int32.ofNat q)), some (.int (Int32.ofNat n)), some (.int (Int32.ofNat o)), some (.int (Int32.ofNat k)), some (.int (Int32.ofNat e)), none, none] [] (0, 0) (i, l2, dd, x) (ab_E0 sc) := by
  intro r
  have w1 := hW.1
  induction r with
  | zero =>
    intro e l2 he g2 z2
    refine tMX12_believed_134 (d := d + 1) ⟨fun _ => ?_, fun c => ?_⟩
    · exact bm_157 (d := d) (l0 := l2) hW hp (mt_M_2 hW hM fr_r g2) hv hw hq ho hk (fun l3 g3 => hQ l3 (fr_t g2 g3)) _ 0 l2 (Nat.zero_add _).symm fr_r (fun u hu => z2 u (by omega))
    · simp (disch := omega) only [↓nn_m3, nn_p0, nn_p1, nn_p2, nn_p3, nn_p4, nn_p5, nn_p6, nn_p7, nn_p8, nn_p9, nn_p10, nn_p20, nn_p21, nn_le, nn_lt, nn_eq, nn_cl, nn_in, nn_add, nn_mul, nn_en, nn_ne, nn_mn, nn_64] at c
      omega
  | succ r ih =>
    intro e l2 he g2 z2
    refine tMX12_believed_134 (d := d + 1) ⟨fun c => ?_, fun _ => ⟨la_vp (by omega) (by omega), ?_⟩⟩
    · simp (disch := omega) only [↓nn_m3, nn_p0, nn_p1, nn_p2, nn_p3, nn_p4, nn_p5, nn_p6, nn_p7, nn_p8, nn_p9, nn_p10, nn_p20, nn_p21, nn_le, nn_lt, nn_eq, nn_cl, nn_in, nn_add, nn_mul, nn_en, nn_ne, nn_mn, nn_64] at c
      omega
    · rintro l3 rfl
      rw [nn_cl (by omega), la_nx]
      refine ih (e + 1) _ (by omega) (fr_u g2 (by omega)) (fun u hu => ?_)
      by_cases c : u = e
      · rw [c]
        exact uu_e
      · rw [uu_j c]
        exact z2 u (by omega)
theorem bm_M {A : mA_} {i2 : Nat → Nat → Int32} {l2 : Nat → Nat → Int64} (hW : mt_W A) (hM : mt_M A i l) (hf : fr_o 246 246 i i2) (hg : fr_o 228 228 l l2) : mt_M A i2 l2 :=
  mt_M_fr hM (fun j _ _ => by rw [hf 205 (by omega)]) (fun k _ _ => hf k (by omega)) (fun j _ => by rw [hf 225 (by omega)]) (hg 224 (by omega)) hW
/-- the speaker, at the end -/
theorem bm_348 {A : mA_} {v w q s n : Nat} (hW : mt_W A) (hp : 0 < aV_ A) (hM : mt_M A i l) (hv : v < aV_ A) (hw : w < aV_ A) (hs : s < aS_ A v) (hn : n ≤ 3) (h246 : bm_h A v w q n i) {Q : ab_Qt} (h0 : bl_lie A v w q s n = 0 → ab_Fr MX12_believed (d + 3) Q 312 [some (.ref 205), some (.int (Int32.ofNat v)), some (.int (Int32.ofNat w)), some (.int (Int32.ofNat q)), some (.int (Int32.ofNat n)), some (.int (Int32.ofNat (s + 1))), none, none, none, none] [] (0, 0) (i, l, dd, x) (ab_E0 sc)) (h1 : ¬ bl_lie A v w q s n = 0 → Q (some (some (.int 0))) (i, l, dd, x) (ab_E0 sc)) :
    ∀ r k : Nat, n = k + r → (∀ u, u < k → ¬ Int64.ofNat (bl_L A v w q s u) < Int64.ofNat (bl_L A v w q s (bl_w (aS_ A v) q s))) → ab_Fr MX12_believed (d + 3) Q 348 [some (.ref 205), some (.int (Int32.ofNat v)), some (.int (Int32.ofNat w)), some (.int (Int32.ofNat q)), some (.int (Int32.ofNat n)), some (.int (Int32.ofNat s)), some (.long (Int64.ofNat (bl_L A v w q s (bl_w (aS_ A v) q s)))), none, some (.int (Int32.ofNat k)), none] [] (0, 0) (i, l, dd, x) (ab_E0 sc) := by
  intro r
  induction r with
  | zero =>
    intro k hk h
    refine tMX12_believed_348 (d := d + 2) ⟨fun _ => ?_, fun c => ?_⟩
    · rw [la_nx]
      refine h0 ?_
      unfold bl_lie
      rw [if_pos (fun u hu => h u (by omega))]
    · simp (disch := omega) only [↓nn_m3, nn_p0, nn_p1, nn_p2, nn_p3, nn_p4, nn_p5, nn_p6, nn_p7, nn_p8, nn_p9, nn_p10, nn_p20, nn_p21, nn_le, nn_lt, nn_eq, nn_cl, nn_in, nn_add, nn_mul, nn_en, nn_ne, nn_mn, nn_64] at c
      omega
  | succ r ih =>
    intro k hk h
    refine tMX12_believed_348 (d := d + 2) ⟨fun c => ?_, fun _ => ⟨_, _, md_lostW (d := d) hW hp hM hv hs hw (by omega) hn h246, ?_⟩⟩
    · simp (disch := omega) only [↓nn_m3, nn_p0, nn_p1, nn_p2, nn_p3, nn_p4, nn_p5, nn_p6, nn_p7, nn_p8, nn_p9, nn_p10, nn_p20, nn_p21, nn_le, nn_lt, nn_eq, nn_cl, nn_in, nn_add, nn_mul, nn_en, nn_ne, nn_mn, nn_64] at c
      omega
    · rintro i6 l7 dd8 x9 ⟨⟩
      rw [la_nx]
      refine ⟨fun c => ih (k + 1) (by omega) (fun u hu => ?_), fun c => h1 ?_⟩
      · by_cases e : u = k
        · rw [e]
          exact c
        · exact h u (by omega)
      · unfold bl_lie
        rw [if_neg (fun y => y k (by omega) c)]
        omega
theorem bm_312 {A : mA_} {v w q : Nat} (hW : mt_W A) (hp : 0 < aV_ A) (hM : mt_M A i l) (hv : v < aV_ A) (hw : w < aV_ A) (hq : bl_q (aS_ A v) q) (h246 : bm_h A v w q (bl_n (aS_ A v) q (aS_ A v)) i) {Q : ab_Qt} (hQ : Q (some (some (.int (Int32.ofNat (bl_rr A v w q))))) (i, l, dd, x) (ab_E0 sc)) :
    ∀ r s : Nat, aS_ A v = s + r → (∀ u, u < s → bl_lie A v w q u (bl_n (aS_ A v) q (aS_ A v)) = 0) → ab_Fr MX12_believed (d + 3) Q 312 [some (.ref 205), some (.int (Int32.ofNat v)), some (.int (Int32.ofNat w)), some (.int (Int32.ofNat q)), some (.int (Int32.ofNat (bl_n (aS_ A v) q (aS_ A v)))), some (.int (Int32.ofNat s)), none, none, none, none] [] (0, 0) (i, l, dd, x) (ab_E0 sc) := by
  intro r
  have w2 := hW.2.1
  have hS := hW.2.2.2.2.2.2.1 v hv
  have e0 := (hM.2.2.2.1 v hv).1
  have hnl := bl_nl (S := aS_ A v) (q := q) (aS_ A v) (by omega)
  unfold bl_rr at hQ
  induction r with
  | zero =>
    intro s hs h
    refine tMX12_believed_312 (d := d + 2) ⟨la_vp (by omega) (by omega), ?_⟩
    rw [nn_cl (by omega), e0, nn_le (by omega) (by omega)]
    refine ⟨fun _ => ?_, fun c => absurd c (by omega)⟩
    rw [if_pos (fun u hu => h u (by omega))] at hQ
    exact hQ
  | succ r ih =>
    intro s hs h
    have hnw := bl_nw (S := aS_ A v) (q := q) (aS_ A v) s (by omega)
    refine tMX12_believed_312 (d := d + 2) ⟨la_vp (by omega) (by omega), ?_⟩
    rw [nn_cl (by omega), e0, nn_le (by omega) (by omega)]
    refine ⟨fun c => absurd c (by omega), fun _ => ⟨la_vp (by omega) (by omega), _, _, md_word (d := d + 1) hq (by omega), ?_⟩⟩
    rintro i6 l7 dd8 x9 ⟨⟩
    refine ⟨_, _, md_lostW (d := d) hW hp hM hv (by omega) hw hnw hnl h246, ?_⟩
    rintro i6 l7 dd8 x9 ⟨⟩
    refine bm_348 (d := d) (s := s) hW hp hM hv hw (by omega) hnl h246 (fun h0 => ih (s + 1) (by omega) (fun u hu => ?_)) (fun h1 => ?_) _ 0 (Nat.zero_add _).symm (fun u hu => absurd hu (Nat.not_lt_zero u))
    · by_cases e : u = s
      · rw [e]
        exact h0
      · exact h u (by omega)
    · rw [if_neg (fun y => h1 (y s (by omega)))] at hQ
      exact hQ
theorem bm_124 {A : mA_} {v w q o n : Nat} (hW : mt_W A) (hp : 0 < aV_ A) {i0 : Nat → Nat → Int32} {l0 : Nat → Nat → Int64} (hM : mt_M A i0 l0) (hv : v < aV_ A) (hw : w < aV_ A) (hq : bl_q (aS_ A v) q) (ho : o < aS_ A w) (hn : n ≤ 3) {Q : ab_Qt} (hQ : ∀ i2 l2, fr_o 246 246 i0 i2 → fr_o 228 228 l0 l2 → (∀ y k, y < o + 1 → k < n → i2 246 (3 * y + k) = Int32.ofNat (bl_d A v w q k y)) → ab_Fr MX12_believed (d + 2) Q 110 [some (.ref 205), some (.int (Int32.ofNat v)), some (.int (Int32.ofNat w)), some (.int (Int32.ofNat q)), some (.int (Int32.ofNat n)), some (.int (Int32.ofNat (o + 1))), none, none, none, none] [] (0, 0) (i2, l2, dd, x) (ab_E0 sc)) :
    ∀ (r k : Nat) (i2 : Nat → Nat → Int32) (l2 : Nat → Nat → Int64), n = k + r → fr_o 246 246 i0 i2 → fr_o 228 228 l0 l2 → (∀ y u, y < o → u < n → i2 246 (3 * y + u) = Int32.ofNat (bl_d A v w q u y)) → (∀ u, u < k → i2 246 (3 * o + u) = Int32.ofNat (bl_d A v w q u o)) → ab_Fr MX12_believed (d + 2) Q 124 [some (.ref 205), some (.int (Int32.ofNat v)), some (.int (Int32.ofNat w)), some (.int (Int32.ofNat q)), some (.int (Int32.ofNat n)), some (.int (Int32.ofNat o)), some (.int (Int32.ofNat k)), none, none, none] [] (0, 0) (i2, l2, dd, x) (ab_E0 sc) := by
  intro r
  induction r with
  | zero =>
    intro k i2 l2 hk f2 g2 z2 y2
    refine tMX12_believed_124 (d := d + 1) ⟨fun _ => ?_, fun c => ?_⟩
    · rw [la_nx]
      refine hQ i2 l2 f2 g2 (fun y u hy hu => ?_)
      by_cases e : y = o
      · rw [e]
        exact y2 u (by omega)
      · exact z2 y u (by omega) hu
    · simp (disch := omega) only [↓nn_m3, nn_p0, nn_p1, nn_p2, nn_p3, nn_p4, nn_p5, nn_p6, nn_p7, nn_p8, nn_p9, nn_p10, nn_p20, nn_p21, nn_le, nn_lt, nn_eq, nn_cl, nn_in, nn_add, nn_mul, nn_en, nn_ne, nn_mn, nn_64] at c
      omega
  | succ r ih =>
    intro k i2 l2 hk f2 g2 z2 y2
    refine tMX12_believed_124 (d := d + 1) ⟨fun c => ?_, fun _ => ?_⟩
    · simp (disch := omega) only [↓nn_m3, nn_p0, nn_p1, nn_p2, nn_p3, nn_p4, nn_p5, nn_p6, nn_p7, nn_p8, nn_p9, nn_p10, nn_p20, nn_p21, nn_le, nn_lt, nn_eq, nn_cl, nn_in, nn_add, nn_mul, nn_en, nn_ne, nn_mn, nn_64] at c
      omega
    · refine bm_134 (d := d) (l0 := l2) hW hp (bm_M hW hM f2 g2) hv hw hq ho (by omega) (fun l3 g3 => ih (k + 1) _ l3 (by omega) (fr_u f2 (by omega)) (fr_t g2 g3) (fun y u hy hu => ?_) (fun u hu => ?_)) 3 0 l2 (by omega) fr_r (fun u hu => absurd hu (Nat.not_lt_zero u))
      · rw [uu_j (by omega)]
        exact z2 y u hy hu
      · by_cases e : u = k
        · rw [e]
          exact uu_e
        · rw [uu_j (by omega)]
          exact y2 u (by omega)
theorem bm_110 {A : mA_} {v w q : Nat} (hW : mt_W A) (hp : 0 < aV_ A) {i0 : Nat → Nat → Int32} {l0 : Nat → Nat → Int64} (hM : mt_M A i0 l0) (hv : v < aV_ A) (hw : w < aV_ A) (hq : bl_q (aS_ A v) q) {Q : ab_Qt} (hQ : ∀ i2 l2, fr_o 246 246 i0 i2 → fr_o 228 228 l0 l2 → Q (some (some (.int (Int32.ofNat (bl_rr A v w q))))) (i2, l2, dd, x) (ab_E0 sc)) :
    ∀ (r o : Nat) (i2 : Nat → Nat → Int32) (l2 : Nat → Nat → Int64), aS_ A w = o + r → fr_o 246 246 i0 i2 → fr_o 228 228 l0 l2 → (∀ y u, y < o → u < bl_n (aS_ A v) q (aS_ A v) → i2 246 (3 * y + u) = Int32.ofNat (bl_d A v w q u y)) → ab_Fr MX12_believed (d + 3) Q 110 [some (.ref 205), some (.int (Int32.ofNat v)), some (.int (Int32.ofNat w)), some (.int (Int32.ofNat q)), some (.int (Int32.ofNat (bl_n (aS_ A v) q (aS_ A v)))), some (.int (Int32.ofNat o)), none, none, none, none] [] (0, 0) (i2, l2, dd, x) (ab_E0 sc) := by
  intro r
  have w2 := hW.2.1
  have hS := hW.2.2.2.2.2.2.1 v hv
  have hSw := hW.2.2.2.2.2.2.1 w hw
  have hnl := bl_nl (S := aS_ A v) (q := q) (aS_ A v) (by omega)
  induction r with
  | zero =>
    intro o i2 l2 ho f2 g2 z2
    have hM2 := bm_M hW hM f2 g2
    have e0 := (hM2.2.2.2.1 w hw).1
    refine tMX12_believed_110 (d := d + 2) ⟨la_vp (by omega) (by omega), ?_⟩
    rw [nn_cl (by omega), e0, nn_le (by omega) (by omega)]
    refine ⟨fun _ => ?_, fun c => absurd c (by omega)⟩
    exact bm_312 (d := d) hW hp hM2 hv hw hq (fun y u hy hu => z2 y u (by omega) hu) (hQ i2 l2 f2 g2) _ 0 (Nat.zero_add _).symm (fun u hu => absurd hu (Nat.not_lt_zero u))
  | succ r ih =>
    intro o i2 l2 ho f2 g2 z2
    have hM2 := bm_M hW hM f2 g2
    have e0 := (hM2.2.2.2.1 w hw).1
    refine tMX12_believed_110 (d := d + 2) ⟨la_vp (by omega) (by omega), ?_⟩
    rw [nn_cl (by omega), e0, nn_le (by omega) (by omega)]
    refine ⟨fun c => absurd c (by omega), fun _ => ?_⟩
    exact bm_124 (d := d + 1) (o := o) (i0 := i0) (l0 := l0) hW hp hM hv hw hq (by omega) hnl (fun i3 l3 f3 g3 z3 => ih (o + 1) i3 l3 (by omega) f3 g3 z3) _ 0 i2 l2 (Nat.zero_add _).symm f2 g2 z2 (fun u hu => absurd hu (Nat.not_lt_zero u))
theorem bm_57 {A : mA_} {v w q : Nat} (hW : mt_W A) (hM : mt_M A i l) (hv : v < aV_ A) (hq : bl_q (aS_ A v) q) {Q : ab_Qt} (hQ : ab_Fr MX12_believed (d + 2) Q 110 [some (.ref 205), some (.int (Int32.ofNat v)), some (.int (Int32.ofNat w)), some (.int (Int32.ofNat q)), some (.int (Int32.ofNat (bl_n (aS_ A v) q (aS_ A v)))), some (.int (Int32.ofNat 0)), none, none, none, none] [] (0, 0) (i, l, dd, x) (ab_E0 sc)) :
    ∀ r s : Nat, aS_ A v = s + r → ab_Fr MX12_believed (d + 2) Q 57 [some (.ref 205), some (.int (Int32.ofNat v)), some (.int (Int32.ofNat w)), some (.int (Int32.ofNat q)), some (.int (Int32.ofNat (bl_n (aS_ A v) q s))), some (.int (Int32.ofNat s)), none, none, none, none] [] (0, 0) (i, l, dd, x) (ab_E0 sc) := by
  intro r
  have w2 := hW.2.1
  have hS := hW.2.2.2.2.2.2.1 v hv
  have e0 := (hM.2.2.2.1 v hv).1
  induction r with
  | zero =>
    intro s hs
    refine tMX12_believed_57 (d := d + 1) ⟨la_vp (by omega) (by omega), ?_⟩
    rw [nn_cl (by omega), e0, nn_le (by omega) (by omega)]
    refine ⟨fun _ => ?_, fun c => absurd c (by omega)⟩
    rw [show s = aS_ A v by omega]
    exact hQ
  | succ r ih =>
    intro s hs
    have ih2 := ih (s + 1) (by omega)
    have en : bl_n (aS_ A v) q (s + 1) = if bl_n (aS_ A v) q s < bl_w (aS_ A v) q s + 1 then bl_w (aS_ A v) q s + 1 else bl_n (aS_ A v) q s := rfl
    have hwl := bl_wl (S := aS_ A v) (q := q) (s := s) (by omega)
    have hnl := bl_nl (S := aS_ A v) (q := q) s (by omega)
    rw [en] at ih2
    refine tMX12_believed_57 (d := d + 1) ⟨la_vp (by omega) (by omega), ?_⟩
    rw [nn_cl (by omega), e0, nn_le (by omega) (by omega)]
    refine ⟨fun c => absurd c (by omega), fun _ => ⟨la_vp (by omega) (by omega), _, _, md_word (d := d) hq (by omega), ?_⟩⟩
    rintro i6 l7 dd8 x9 ⟨⟩
    rw [nn_lt (by omega) (by omega), e0, la_nx]
    refine ⟨fun c => ?_, fun c => ⟨la_vp (by omega) (by omega), _, _, md_word (d := d) hq (by omega), ?_⟩⟩
    · rw [if_neg (by omega)] at ih2
      exact ih2
    · rintro i6 l7 dd8 x9 ⟨⟩
      rw [la_nx]
      by_cases c2 : bl_n (aS_ A v) q s < bl_w (aS_ A v) q s + 1
      · rw [if_pos c2] at ih2
        exact ih2
      · exact absurd c2 (by omega)
theorem md_lp {A : mA_} {v : Nat} (hS : 2 ≤ aS_ A v ∧ aS_ A v ≤ 3) {q : Int32} (h0 : ¬ q < 0) (h1 : q ≤ (if aS_ A v = 2 then (1 : Int32) else 4)) : ∃ n, q = Int32.ofNat n ∧ bl_q (aS_ A v) n := by
  have e1 : ((1 : Int32).toInt) = 1 := rfl
  have e4 : ((4 : Int32).toInt) = 4 := rfl
  rw [la_lt0] at h0
  rw [Int32.le_iff_toInt_le] at h1
  by_cases c : aS_ A v = 2
  · rw [if_pos c] at h1
    obtain ⟨n, hn, rfl⟩ := la_rep (a := q) (m := 2) (by omega) (by omega)
    exact ⟨n, rfl, Or.inl ⟨c, by omega⟩⟩
  · rw [if_neg c] at h1
    obtain ⟨n, hn, rfl⟩ := la_rep (a := q) (m := 5) (by omega) (by omega)
    exact ⟨n, rfl, Or.inr ⟨by omega, by omega⟩⟩
theorem md_lastP {A : mA_} {v : Nat} (hS : 2 ≤ aS_ A v ∧ aS_ A v ≤ 3) : ab_Sp MX10_lastPart (d + 1) [.int (Int32.ofNat (aS_ A v))] (i, l, dd, x) (ab_E0 sc) (some (.int (if aS_ A v = 2 then (1 : Int32) else 4))) (fun σ => σ = (i, l, dd, x)) := by
  refine ab_ent (n := 1) okMX10_lastPart.1 (fun G => Nat.le_of_ble_eq_true rfl) (fun Q hQ => ?_)
  refine tMX10_lastPart_0 ?_
  rw [nn_p2, nn_eq (by omega) (by omega)]
  have hq := hQ _ rfl
  refine ⟨fun c => ?_, fun c => ?_⟩
  · rw [if_neg c] at hq
    exact hq
  · rw [if_pos c] at hq
    exact hq
theorem op_believed {R : ab_S → Prop} {A : mA_} (hA : op_A R A) : la_c32 1310 sc (la_I R) := by
  rintro ⟨i, l, dd, x⟩ a1 a2 a3 hI
  obtain ⟨hW, hA2⟩ := hA
  have w2 := hW.2.1
  obtain ⟨m, e0, hm, hK, hM⟩ := hA2 _ _ _ _ hI
  by_cases c : (0 ≤ a1.toInt ∧ a1.toInt < (aV_ A : Int)) ∧ (0 ≤ a2.toInt ∧ a2.toInt < (aV_ A : Int)) ∧ ¬ a1 = a2 ∧ ¬ a3 < 0 ∧ a3 ≤ (if aS_ A a1.toInt.toNat = 2 then (1 : Int32) else 4)
  · obtain ⟨c1, c2, c3, c4, c5⟩ := c
    obtain ⟨v, hv, rfl⟩ := la_rep c1.1 c1.2
    obtain ⟨w, hw, rfl⟩ := la_rep c2.1 c2.2
    have hp : 0 < aV_ A := by omega
    have hS := hW.2.2.2.2.2.2.1 v hv
    rw [la_nat (by omega), Int.toNat_natCast] at c5
    obtain ⟨q, rfl, hq⟩ := md_lp hS c4 c5
    refine ⟨Int32.ofNat (bl_rr A v w q), la_I R, ?_, ?_⟩
    · refine ab_ent (n := 3) okMX11_believed.1 (fun G => Nat.le_of_ble_eq_true rfl) (fun Q hQ => ?_)
      refine tMX11_believed_0 (d := 1310) ⟨m, e0, hm, _, _, mt_hasV1 (d := 1309) hW hm hK, ?_⟩
      rintro i5 l6 dd7 x8 ⟨⟩
      rw [if_pos c1]
      refine ⟨fun z => absurd z (by decide), fun _ => ⟨m, e0, hm, _, _, mt_hasV1 (d := 1309) hW hm hK, ?_⟩⟩
      rintro i5 l6 dd7 x8 ⟨⟩
      rw [if_pos c2, nn_cl (by omega)]
      refine ⟨fun z => absurd z (by decide), fun _ => ⟨fun _ => ⟨fun z => absurd z c4, fun _ => ⟨m, e0, hm, la_vp (by omega) (by omega), ?_⟩⟩, fun z => absurd z c3⟩⟩
      rw [(hK.2.2.2.2.1 v hv).1]
      refine ⟨_, _, md_lastP (d := 1309) hS, ?_⟩
      rintro i5 l6 dd7 x8 ⟨⟩
      refine ⟨fun _ => ⟨m, e0, hm, _, _, bl_are (d := 1306) hW hp hm hK hv hw hq, ?_⟩, fun z => absurd c5 z⟩
      rintro i5 l6 dd7 x8 ⟨i2, l2, ⟨⟩, f2, g2⟩
      have hr : la_I R (i5, l6, ab_u (ab_u (ab_u dd 199 0 (.ref m)) 199 1 (.ref (m + 5 + 6 * v))) 199 2 (.ref (m + 5 + 6 * w)), x) := by
        refine kp_I hI ⟨fun k j hk => ?_, ?_, ?_, ?_, ?_⟩ (fun k j hk => ?_) ⟨fun k j hk => ?_, fun h => ?_⟩
        · rw [f2 k (fun z => by rw [z] at hk; simp [la_ws] at hk) (fun z => by rw [z] at hk; simp [la_ws] at hk)]
        · rw [f2 5 (by decide) (by decide)]
        · rw [f2 206 (by decide) (by decide)]
        · rw [f2 4 (by decide) (by decide)]
        · rw [f2 205 (by decide) (by decide)]
        · rw [g2 k]
          by_cases z : k = 200
          · rw [z] at hk
            simp [la_ws] at hk
          · omega
        · have n9 : k ≠ 199 := fun z => by
            rw [z] at hk
            simp [la_ws] at hk
          rw [uu_k n9, uu_k n9, uu_k n9]
        · unfold la_Iv at h ⊢
          have e : ∀ k j, k ≠ 199 → ab_u (ab_u (ab_u dd 199 0 (.ref m)) 199 1 (.ref (m + 5 + 6 * v))) 199 2 (.ref (m + 5 + 6 * w)) k j = dd k j := fun k j hk => by rw [uu_k hk, uu_k hk, uu_k hk]
          rw [e 3 11 (by decide), e 157 2 (by decide), e 160 0 (by decide), e 169 1 (by decide), e 179 0 (by decide), e 185 0 (by decide)]
          exact h
      have h01 : bl_rr A v w q = 0 ∨ bl_rr A v w q = 1 := by
        unfold bl_rr
        split
        · exact Or.inr rfl
        · exact Or.inl rfl
      rcases h01 with h | h
      · rw [h] at hQ ⊢
        exact ⟨fun _ => hQ _ hr, fun z => absurd rfl z⟩
      · rw [h] at hQ ⊢
        exact ⟨fun z => absurd z (by decide), fun _ => hQ _ hr⟩
    · rintro ⟨i, l, dd, x⟩ hI
      refine ab_ent (n := 3) okMX12_believed.1 (fun G => Nat.le_of_ble_eq_true rfl) (fun Q hQ => ?_)
      refine tMX12_believed_0 (d := 1310) ?_
      rintro i1 rfl
      have hI2 := la_thr (v := 0) (x2 := x) hI
      obtain ⟨m, e0, hm, hK, hM⟩ := hA2 _ _ _ _ hI2
      have eS := (hM.2.2.2.1 v hv).1
      refine ⟨_, _, mt_isV1 (d := 1309) hW hM, ?_⟩
      rintro i5 l6 dd7 x8 ⟨⟩
      rw [if_pos c1]
      refine ⟨fun z => absurd z (by decide), fun _ => ⟨_, _, mt_isV1 (d := 1309) hW hM, ?_⟩⟩
      rintro i5 l6 dd7 x8 ⟨⟩
      rw [if_pos c2, nn_cl (by omega), eS, nn_p3, nn_eq (a := aS_ A v) (b := 3) (by omega) (by omega)]
      refine ⟨fun z => absurd z (by decide), fun _ => ⟨fun z => absurd z c3, fun _ => ⟨la_vp (by omega) (by omega), ?_⟩⟩⟩
      have go : ∀ z : Int32, z = (if aS_ A v = 2 then (1 : Int32) else 4) → ab_Fr MX12_believed 1311 Q 43 [some (.ref 205), some (.int (Int32.ofNat v)), some (.int (Int32.ofNat w)), some (.int (Int32.ofNat q)), none, none, none, none, none, none] [.int z, .int 0, .int (Int32.ofNat q)] (0, 0) (ab_u i 205 0 0, l, dd, x) (ab_E0 sc) := by
        rintro z rfl
        refine tMX12_believed_43 (d := 1310) ⟨_, _, mn_isIn (d := 1309), ?_⟩
        rintro i5 l6 dd7 x8 ⟨⟩
        rw [if_pos ⟨c4, fun z => by
          have c5' := c5
          rw [Int32.le_iff_toInt_le] at c5'
          rw [Int32.lt_iff_toInt_lt] at z
          omega⟩]
        refine ⟨fun _ => ?_, fun z => absurd z (by decide)⟩
        refine bm_57 (d := 1309) hW hM hv hq ?_ _ 0 (Nat.zero_add _).symm
        exact bm_110 (d := 1308) (i0 := ab_u i 205 0 0) (l0 := l) hW hp hM hv hw hq (fun i3 l3 f3 g3 => hQ _ (kp_I hI2 (kp_fo f3 (fun k h1 h2 => by rw [show k = 246 by omega]; rfl)) (kp_lo g3 kp_c8) kp_dr)) _ 0 _ _ (Nat.zero_add _).symm fr_r fr_r (fun y _ hy _ => absurd hy (Nat.not_lt_zero y))
      refine ⟨fun z => go 1 ?_, fun z => go 4 ?_⟩
      · rw [if_pos (by omega)]
      · rw [if_neg (by omega)]
  · refine ⟨-1, la_I R, ?_, ?_⟩
    · refine ab_ent (n := 3) okMX11_believed.1 (fun G => Nat.le_of_ble_eq_true rfl) (fun Q hQ => ?_)
      refine tMX11_believed_0 (d := 1310) ⟨m, e0, hm, _, _, mt_hasV1 (d := 1309) hW hm hK, ?_⟩
      rintro i5 l6 dd7 x8 ⟨⟩
      refine ⟨fun _ => hQ _ hI, fun g => ⟨m, e0, hm, _, _, mt_hasV1 (d := 1309) hW hm hK, ?_⟩⟩
      rintro i5 l6 dd7 x8 ⟨⟩
      refine ⟨fun _ => hQ _ hI, fun g2 => ⟨fun c3 => ⟨fun _ => hQ _ hI, fun c4 => ?_⟩, fun _ => hQ _ hI⟩⟩
      have c1 : 0 ≤ a1.toInt ∧ a1.toInt < (aV_ A : Int) := Classical.byContradiction (fun z => g (if_neg z))
      have c2 : 0 ≤ a2.toInt ∧ a2.toInt < (aV_ A : Int) := Classical.byContradiction (fun z => g2 (if_neg z))
      obtain ⟨v, hv, rfl⟩ := la_rep c1.1 c1.2
      have hS := hW.2.2.2.2.2.2.1 v hv
      rw [nn_cl (by omega)]
      refine ⟨m, e0, hm, la_vp (by omega) (by omega), ?_⟩
      rw [(hK.2.2.2.2.1 v hv).1]
      refine ⟨_, _, md_lastP (d := 1309) hS, ?_⟩
      rintro i5 l6 dd7 x8 ⟨⟩
      refine ⟨fun c5 => absurd ⟨c1, c2, c3, c4, ?_⟩ c, fun _ => hQ _ hI⟩
      rw [la_nat (by omega), Int.toNat_natCast]
      exact c5
    · rintro ⟨i, l, dd, x⟩ hI
      refine ab_ent (n := 3) okMX12_believed.1 (fun G => Nat.le_of_ble_eq_true rfl) (fun Q hQ => ?_)
      refine tMX12_believed_0 (d := 1310) ?_
      rintro i1 rfl
      have hI2 := la_thr (v := 0) (x2 := x) hI
      obtain ⟨m, e0, hm, hK, hM⟩ := hA2 _ _ _ _ hI2
      refine ⟨_, _, mt_isV1 (d := 1309) hW hM, ?_⟩
      rintro i5 l6 dd7 x8 ⟨⟩
      refine ⟨fun _ => hQ _ hI2, fun g => ⟨_, _, mt_isV1 (d := 1309) hW hM, ?_⟩⟩
      rintro i5 l6 dd7 x8 ⟨⟩
      refine ⟨fun _ => hQ _ hI2, fun g2 => ⟨fun _ => hQ _ hI2, fun c3 => ?_⟩⟩
      have c1 : 0 ≤ a1.toInt ∧ a1.toInt < (aV_ A : Int) := Classical.byContradiction (fun z => g (if_neg z))
      have c2 : 0 ≤ a2.toInt ∧ a2.toInt < (aV_ A : Int) := Classical.byContradiction (fun z => g2 (if_neg z))
      obtain ⟨v, hv, rfl⟩ := la_rep c1.1 c1.2
      have hS := hW.2.2.2.2.2.2.1 v hv
      have eS := (hM.2.2.2.1 v hv).1
      rw [nn_cl (by omega), eS, nn_p3, nn_eq (a := aS_ A v) (b := 3) (by omega) (by omega)]
      refine ⟨la_vp (by omega) (by omega), ?_⟩
      have go : ∀ z : Int32, z = (if aS_ A v = 2 then (1 : Int32) else 4) → ab_Fr MX12_believed 1311 Q 43 [some (.ref 205), some (.int (Int32.ofNat v)), some (.int a2), some (.int a3), none, none, none, none, none, none] [.int z, .int 0, .int a3] (0, 0) (ab_u i 205 0 0, l, dd, x) (ab_E0 sc) := by
        rintro z rfl
        refine tMX12_believed_43 (d := 1310) ⟨_, _, mn_isIn (d := 1309), ?_⟩
        rintro i5 l6 dd7 x8 ⟨⟩
        rw [if_neg (fun y => c ⟨c1, c2, c3, y.1, by
          have y2 := y.2
          rw [Int32.lt_iff_toInt_lt] at y2
          have e5 : (Int32.ofNat v).toInt.toNat = v := by rw [la_nat (by omega), Int.toNat_natCast]
          rw [e5, Int32.le_iff_toInt_le]
          omega⟩)]
        exact ⟨fun z => absurd rfl z, fun _ => hQ _ hI2⟩
      refine ⟨fun z => go 1 ?_, fun z => go 4 ?_⟩
      · rw [if_pos (by omega)]
      · rw [if_neg (by omega)]
end TQS2
