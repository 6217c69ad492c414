/-! the class: the row now, all rows one after another -/
section TQH
variable {d : Nat} {sc : Nat × (Nat → Int32)} {i : Nat → Nat → Int32} {l : Nat → Nat → Int64} {dd : Nat → Nat → Value} {x : Nat}
/-- parts and weights ahead of voter k -/
def rw_p (A : mA_) (cv : Nat → mC_) (b : Nat → Nat) (k t : Nat) : Nat := pu_p (aC_ A t) (fun v => (cv v).2.2 (b v) t) k
def rw_b (cv : Nat → mC_) (b : Nat → Nat) : Nat → Nat := fun v => (cv v).2.1 (b v)
def rw_w (A : mA_) (cv : Nat → mC_) (b : Nat → Nat) (k t : Nat) : Nat := mt_tl (aW_ A) (rw_b cv b) t k
/-- the row now, ahead of voter k -/
def rw_q (A : mA_) (cv : Nat → mC_) (b : Nat → Nat) (k : Nat) (i : Nat → Nat → Int32) (l : Nat → Nat → Int64) : Prop := (∀ v t, v ≤ k → t < 3 → l 165 (3 * v + t) = Int64.ofNat (rw_p A cv b v t) ∧ i 166 (3 * v + t) = Int32.ofNat (rw_w A cv b v t)) ∧ ∀ v, v < k → i 167 v = Int32.ofNat (rw_b cv b v)
def rw_k (V : Nat) (b : Nat → Nat) (i : Nat → Nat → Int32) : Prop := ∀ v, v < V → i 162 v = Int32.ofNat (b v)
/-- choices in their bounds -/
def rw_cb (A : mA_) (cv : Nat → mC_) : Prop := ∀ v, v < aV_ A → (0 < (cv v).1 ∧ (cv v).1 ≤ 3) ∧ ∀ a, a < (cv v).1 → (cv v).2.1 a ≤ 9 ∧ ∀ t, (cv v).2.2 a t ≤ 60
theorem rw_R_f {V : Nat} {cv : Nat → mC_} {i2 : Nat → Nat → Int32} (h : rw_R V cv i) (h1 : i2 161 = i 161) (h3 : i2 163 = i 163) (h4 : i2 164 = i 164) : rw_R V cv i2 := fun v hv => by
  unfold mt_c1
  rw [h1, h3, h4]
  exact h v hv
/-- inside a voter: truths before t -/
theorem rw_ff39 {A : mA_} {m v : Nat} {cv : Nat → mC_} {b : Nat → Nat} {i0 : Nat → Nat → Int32} {l0 : Nat → Nat → Int64} (hW : mt_W A) (hm : ab_isM m) (hd : dd 160 0 = .ref m) (hK : mt_K A m i0) (hv : v < aV_ A) (hR : rw_R (aV_ A) cv i0) (hc : rw_cb A cv) (hb : b v < (cv v).1) {Q : ab_Qt} (hQ : ∀ i2 l2, fr_o 166 167 i0 i2 → fr_o 165 165 l0 l2 → rw_q A cv b (v + 1) i2 l2 → ab_Fr MX4_fillFrom (d + 1) Q 2 [some (.ref 160), none, some (.int (Int32.ofNat (v + 1))), none, none, none] [] (0, 0) (i2, l2, dd, x) (ab_E0 sc)) :
    ∀ (r t : Nat) (i2 : Nat → Nat → Int32) (l2 : Nat → Nat → Int64), 3 = t + r → fr_o 166 167 i0 i2 → fr_o 165 165 l0 l2 → rw_q A cv b v i2 l2 → i2 167 v = Int32.ofNat (rw_b cv b v) → (∀ u, u < t → l2 165 (3 * (v + 1) + u) = Int64.ofNat (rw_p A cv b (v + 1) u) ∧ i2 166 (3 * (v + 1) + u) = Int32.ofNat (rw_w A cv b (v + 1) u)) → ab_Fr MX4_fillFrom (d + 1) Q 39 [some (.ref 160), none, some (.int (Int32.ofNat v)), some (.int (Int32.ofNat (3 * v + b v))), some (.int (Int32.ofNat t)), none] [] (0, 0) (i2, l2, dd, x) (ab_E0 sc) := by
  intro r
  have w2 := hW.2.1
  have hcv := hc v hv
  have hcb := hcv.2 (b v) hb
  induction r with
  | zero =>
    intro t i2 l2 ht f2 g2 q2 e7 e5
    refine tMX4_fillFrom_39 ⟨fun _ => ?_, fun c => ?_⟩
    · rw [la_nx]
      refine hQ i2 l2 f2 g2 ⟨fun u t hu ht3 => ?_, fun u hu => ?_⟩
      · by_cases e : u = v + 1
        · rw [e]
          exact e5 t (by omega)
        · exact q2.1 u t (by omega) ht3
      · by_cases e : u = v
        · rw [e]
          exact e7
        · exact q2.2 u (by omega)
    · simp (disch := omega) only [↓nn_m3, nn_p0, nn_p1, nn_p2, nn_p3, nn_p4, nn_p5, nn_p6, nn_p7, nn_p8, nn_p9, nn_p10, nn_p20, nn_p21, nn_le, nn_lt, nn_eq, nn_cl, nn_in, nn_add, nn_mul, nn_en, nn_ne, nn_mn, nn_64] at c
      omega
  | succ r ih =>
    intro t i2 l2 ht f2 g2 q2 e7 e5
    have eL : i2 164 (3 * (3 * v + b v) + t) = Int32.ofNat ((cv v).2.2 (b v) t) := by
      rw [f2 164 (by omega)]
      exact ((hR v hv).2 (b v) hb).2 t (by omega)
    have eW : i2 (m + 5 + 6 * v) 1 = Int32.ofNat (aW_ A v) := ((mt_K_o hm hK f2 (by omega) hW).2.2.2.2.1 v hv).2
    have hw9 := hW.2.2.2.2.2.2.2.2.2.2.2.1 v
    have hcl := hcb.2 t
    have ep := (q2.1 v t (Nat.le_refl v) (by omega)).1
    have ew := (q2.1 v t (Nat.le_refl v) (by omega)).2
    have hrb : rw_b cv b v = (cv v).2.1 (b v) := rfl
    refine tMX4_fillFrom_39 ⟨fun c => ?_, fun _ => ?_⟩
    · simp (disch := omega) only [↓nn_m3, nn_p0, nn_p1, nn_p2, nn_p3, nn_p4, nn_p5, nn_p6, nn_p7, nn_p8, nn_p9, nn_p10, nn_p20, nn_p21, nn_le, nn_lt, nn_eq, nn_cl, nn_in, nn_add, nn_mul, nn_en, nn_ne, nn_mn, nn_64] at c
      omega
    · have fin : ∀ z : Nat, z = (if rw_b cv b v = t then aW_ A v else 0) → ∀ l3, l3 = ab_u l2 165 (3 * (v + 1) + t) (Int64.ofNat (rw_p A cv b v t * (cv v).2.2 (b v) t)) → ab_Fr MX4_fillFrom (d + 1) Q 109 [some (.ref 160), none, some (.int (Int32.ofNat v)), some (.int (Int32.ofNat (3 * v + b v))), some (.int (Int32.ofNat t)), none] [.int (Int32.ofNat z)] (0, 0) (i2, l3, dd, x) (ab_E0 sc) := by
        rintro z hz l3 rfl
        refine tMX4_fillFrom_109 ?_
        simp (disch := omega) only [ew, ↓nn_m3, nn_p0, nn_p1, nn_p2, nn_p3, nn_p4, nn_p5, nn_p6, nn_p7, nn_p8, nn_p9, nn_p10, nn_p20, nn_p21, nn_le, nn_lt, nn_eq, nn_cl, nn_in, nn_add, nn_mul, nn_en, nn_ne, nn_mn, nn_64]
        refine ⟨trivial, trivial, ?_⟩
        rintro i3 rfl
        refine ih (t + 1) _ _ (by omega) (fr_u f2 (by omega)) (fr_u g2 (by omega)) ⟨fun u t' hu ht' => ?_, fun u hu => ?_⟩ ?_ (fun u hu => ?_)
        · rw [uu_j (by omega), uu_j (by omega)]
          exact q2.1 u t' hu ht'
        · rw [uu_k (by omega)]
          exact q2.2 u hu
        · rw [uu_k (by omega)]
          exact e7
        · by_cases e : u = t
          · rw [e, uu_e, uu_e, hz]
            exact ⟨rfl, rfl⟩
          · rw [uu_j (by omega), uu_j (by omega)]
            exact e5 u (by omega)
      simp (disch := omega) only [ep, eL, e7, ↓nn_m3, nn_p0, nn_p1, nn_p2, nn_p3, nn_p4, nn_p5, nn_p6, nn_p7, nn_p8, nn_p9, nn_p10, nn_p20, nn_p21, nn_le, nn_lt, nn_eq, nn_cl, nn_in, nn_add, nn_mul, nn_en, nn_ne, nn_mn, nn_64, nl_p0, nl_p1, nl_p20, nl_add, nl_mul]
      refine ⟨trivial, trivial, trivial, ?_⟩
      rintro l3 rfl
      refine ⟨trivial, fun c => ?_, fun c => ⟨m, hd, hm, trivial, ?_⟩⟩
      · exact fin 0 (by rw [if_neg c]) _ rfl
      · rw [eW]
        exact fin (aW_ A v) (by rw [if_pos c]) _ rfl
theorem rw_ff2 {A : mA_} {m : Nat} {cv : Nat → mC_} {b : Nat → Nat} {i0 : Nat → Nat → Int32} {l0 : Nat → Nat → Int64} (hW : mt_W A) (hm : ab_isM m) (hd : dd 160 0 = .ref m) (hK : mt_K A m i0) (hR : rw_R (aV_ A) cv i0) (hc : rw_cb A cv) (hb : ∀ v, v < aV_ A → b v < (cv v).1) (hk : rw_k (aV_ A) b i0) {Q : ab_Qt} (hQ : ∀ i2 l2, fr_o 166 167 i0 i2 → fr_o 165 165 l0 l2 → rw_q A cv b (aV_ A) i2 l2 → Q (some none) (i2, l2, dd, x) (ab_E0 sc)) :
    ∀ (r v : Nat) (i2 : Nat → Nat → Int32) (l2 : Nat → Nat → Int64), aV_ A = v + r → fr_o 166 167 i0 i2 → fr_o 165 165 l0 l2 → rw_q A cv b v i2 l2 → ab_Fr MX4_fillFrom (d + 1) Q 2 [some (.ref 160), none, some (.int (Int32.ofNat v)), none, none, none] [] (0, 0) (i2, l2, dd, x) (ab_E0 sc) := by
  intro r
  have w2 := hW.2.1
  induction r with
  | zero =>
    intro v i2 l2 hv f2 g2 q2
    have e1 := (mt_K_o hm hK f2 (by omega) hW).1.2
    have hv2 : v = aV_ A := by omega
    refine tMX4_fillFrom_2 ⟨m, hd, hm, fun _ => ?_, fun c => ?_⟩
    · rw [hv2] at q2
      exact hQ i2 l2 f2 g2 q2
    · simp (disch := omega) only [e1, ↓nn_m3, nn_p0, nn_p1, nn_p2, nn_p3, nn_p4, nn_p5, nn_p6, nn_p7, nn_p8, nn_p9, nn_p10, nn_p20, nn_p21, nn_le, nn_lt, nn_eq, nn_cl, nn_in, nn_add, nn_mul, nn_en, nn_ne, nn_mn, nn_64] at c
      omega
  | succ r ih =>
    intro v i2 l2 hv f2 g2 q2
    have hK2 := mt_K_o hm hK f2 (by omega) hW
    have e1 := hK2.1.2
    have hcv := (hc v (by omega)).1
    have hbv := hb v (by omega)
    have ek : i2 162 v = Int32.ofNat (b v) := by
      rw [f2 162 (by omega)]
      exact hk v (by omega)
    have ec : i2 163 (3 * v + b v) = Int32.ofNat (rw_b cv b v) := by
      rw [f2 163 (by omega)]
      exact ((hR v (by omega)).2 (b v) hbv).1
    refine tMX4_fillFrom_2 ⟨m, hd, hm, fun c => ?_, fun _ => ?_⟩
    · simp (disch := omega) only [e1, ↓nn_m3, nn_p0, nn_p1, nn_p2, nn_p3, nn_p4, nn_p5, nn_p6, nn_p7, nn_p8, nn_p9, nn_p10, nn_p20, nn_p21, nn_le, nn_lt, nn_eq, nn_cl, nn_in, nn_add, nn_mul, nn_en, nn_ne, nn_mn, nn_64] at c
      omega
    · simp (disch := omega) only [ek, ec, ↓nn_m3, nn_p0, nn_p1, nn_p2, nn_p3, nn_p4, nn_p5, nn_p6, nn_p7, nn_p8, nn_p9, nn_p10, nn_p20, nn_p21, nn_le, nn_lt, nn_eq, nn_cl, nn_in, nn_add, nn_mul, nn_en, nn_ne, nn_mn, nn_64]
      refine ⟨trivial, trivial, trivial, ?_⟩
      rintro i3 rfl
      have f3 : fr_o 166 167 i0 (ab_u i2 167 v (Int32.ofNat (rw_b cv b v))) := fr_u f2 (by omega)
      refine rw_ff39 (i0 := i0) (l0 := l0) hW hm hd hK (by omega) hR hc hbv ?_ 3 0 _ l2 (by omega) f3 g2 ⟨fun u t hu ht => ?_, fun u hu => ?_⟩ uu_e (fun u hu => absurd hu (Nat.not_lt_zero u))
      · intro i4 l4 f4 g4 q4
        exact ih (v + 1) i4 l4 (by omega) f4 g4 q4
      · rw [uu_k (by omega)]
        exact q2.1 u t hu ht
      · rw [uu_j (by omega)]
        exact q2.2 u hu
theorem rw_fill {A : mA_} {m v : Nat} {cv : Nat → mC_} {b : Nat → Nat} (hW : mt_W A) (hm : ab_isM m) (hd : dd 160 0 = .ref m) (hK : mt_K A m i) (hR : rw_R (aV_ A) cv i) (hc : rw_cb A cv) (hb : ∀ v, v < aV_ A → b v < (cv v).1) (hk : rw_k (aV_ A) b i) (hv : v ≤ aV_ A) (hq : rw_q A cv b v i l) : ab_Sp MX4_fillFrom (d + 1) [.ref 160, .int (Int32.ofNat v)] (i, l, dd, x) (ab_E0 sc) none (fun σ => ∃ i2 l2, σ = (i2, l2, dd, x) ∧ fr_o 166 167 i i2 ∧ fr_o 165 165 l l2 ∧ rw_q A cv b (aV_ A) i2 l2) := by
  refine ab_ent (n := 1) okMX4_fillFrom.1 (fun G => Nat.le_of_ble_eq_true rfl) (fun Q hQ => ?_)
  refine tMX4_fillFrom_0 (rw_ff2 (i0 := i) (l0 := l) hW hm hd hK hR hc hb hk ?_ (aV_ A - v) v i l (by omega) fr_r fr_r hq)
  intro i2 l2 f2 g2 q2
  exact hQ _ ⟨i2, l2, rfl, f2, g2, q2⟩
end TQH
