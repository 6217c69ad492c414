/-! one's vote in place: the class's decidesIf; turns, think -/
section TQZ
variable {d : Nat} {sc : Nat × (Nat → Int32)} {i : Nat → Nat → Int32} {l : Nat → Nat → Int64} {dd : Nat → Nat → Value} {x : Nat}
theorem mt_tl_u {w bal : Nat → Nat} {v y t : Nat} (h9 : bal v = 9) (ht : t ≠ 9) : ∀ k, mt_tl w (pu_u bal v y) t k = mt_tl w bal t k + (if v < k ∧ y = t then w v else 0) := by
  intro k
  induction k with
  | zero => rw [if_neg (fun q => absurd q.1 (Nat.not_lt_zero v))]; rfl
  | succ k ih =>
    show mt_tl w (pu_u bal v y) t k + (if pu_u bal v y k = t then w k else 0) = mt_tl w bal t k + (if bal k = t then w k else 0) + (if v < k + 1 ∧ y = t then w v else 0)
    rw [ih]
    by_cases e : k = v
    · subst e
      have e1 : (if k < k ∧ y = t then w k else 0) = 0 := if_neg (fun q => absurd q.1 (Nat.lt_irrefl k))
      have e2 : (if bal k = t then w k else 0) = 0 := if_neg (fun q => ht (q.symm.trans h9))
      rw [pu_ue, e1, e2]
      by_cases c : y = t
      · have e3 : (if k < k + 1 ∧ y = t then w k else 0) = w k := if_pos ⟨Nat.lt_succ_self k, c⟩
        rw [if_pos c, e3]
      · have e3 : (if k < k + 1 ∧ y = t then w k else 0) = 0 := if_neg (fun q => c q.2)
        rw [if_neg c, e3]
    · have e1 : (if v < k ∧ y = t then w v else 0) = (if v < k + 1 ∧ y = t then w v else 0) := by
        by_cases c : v < k ∧ y = t
        · rw [if_pos c, if_pos ⟨by omega, c.2⟩]
        · rw [if_neg c, if_neg (fun q => c ⟨by omega, q.2⟩)]
      rw [pu_un e, e1]
      omega
theorem mt_hv {a v : Nat} (h : a < 7 ∨ a = 7) (hv : v < 7) : (mt_h a = Int32.ofNat v) = (a = v) := by
  unfold mt_h
  by_cases c : a = 7
  · rw [if_pos c]
    refine propext ⟨fun z => ?_, fun z => by omega⟩
    have := nn_me (a := v) (by omega)
    rw [z] at this
    exact ((eq_true rfl).symm.trans this ▸ trivial : False).elim
  · rw [if_neg c, nn_eq (by omega) (by omega)]
theorem rw_decIf {A : mA_} {m v y : Nat} {cv : Nat → mC_} {b : Nat → Nat} (hW : mt_W A) (hp : 0 < aV_ A) (hm : ab_isM m) (hd : dd 160 0 = .ref m) (hK : mt_K A m i) (hs : rw_s A cv b i l) (h9 : rw_b9 A cv b) (hv : v < aV_ A) (hb9 : rw_b cv b v = 9) (hy : y ≤ 9) : ab_Sp MX4_decidesIf (d + 2) [.ref 160, .int (Int32.ofNat v), .int (Int32.ofNat y)] (i, l, dd, x) (ab_E0 sc) (some (.int (Int32.ofNat (mt_db A (pu_u (rw_b cv b) v y))))) (fun σ => ∃ i2, σ = (i2, l, dd, x) ∧ fr_o 168 168 i i2) := by
  have hW2 := hW
  obtain ⟨w1, w2, w3, w4, w5, w6, w7, w8, w9, w10, w11, w12, w13, w14, w15⟩ := hW2
  refine ab_ent (n := 2) okMX4_decidesIf.1 (fun G => Nat.le_of_ble_eq_true rfl) (fun Q hQ => ?_)
  refine tMX4_decidesIf_0 (d := d + 1) ⟨_, rw_tally (d := d) hW hm hd hK hs, ?_⟩
  rintro i5 l6 dd7 x8 ⟨i2, ⟨⟩, f2, z2⟩
  have eT := (mt_K_o hm hK f2 (by omega) hW).1.1
  have e5 := ((mt_K_o hm hK f2 (by omega) hW).2.2.2.2.1 v hv).2
  refine ⟨m, hd, hm, _, mt_addV (d := d) (n := 3) (v := v) hm rfl (by omega) (by omega) (by rw [eT, la_nat (by omega)]; omega), ?_⟩
  rintro i6 l7 dd8 x9 h
  rw [eT, la_nat (by omega), la_nat (by omega), e5] at h
  have hbd : ∀ t, mt_tl (aW_ A) (pu_u (rw_b cv b) v y) t (aV_ A) < 2 ^ 31 := fun t => by
    have := mt_tl_le (w := aW_ A) (b := pu_u (rw_b cv b) v y) (t := t) w12 (aV_ A)
    omega
  have key : ∀ i3, fr_o 168 168 i i3 → (∀ t, t < aT_ A → i3 168 t = Int32.ofNat (mt_tl (aW_ A) (pu_u (rw_b cv b) v y) t (aV_ A))) → (∃ m21, dd 160 0 = .ref m21 ∧ ab_isM m21 ∧ (((i3 m21 5) = Int32.ofNat v → ab_Fr MX4_decidesIf (d + 2) Q 59 [some (.ref 160), none, none, some (.int (Int32.ofNat y))] [] (0, 0) (i3, l, dd, x) (ab_E0 sc)) ∧ (¬ (i3 m21 5) = Int32.ofNat v → ((¬ (i3 m21 5) = (-1) → (vp_in (i3 m21 5) 7 ∧ ab_Fr MX4_decidesIf (d + 2) Q 58 [some (.ref 160), none, none, none] [.int (i3 167 (i3 m21 5).toNatClampNeg)] (0, 0) (i3, l, dd, x) (ab_E0 sc))) ∧ ((i3 m21 5) = (-1) → ab_Fr MX4_decidesIf (d + 2) Q 58 [some (.ref 160), none, none, none] [.int 9] (0, 0) (i3, l, dd, x) (ab_E0 sc)))))) := by
    intro i3 f3 z3
    have hK3 := mt_K_o hm hK f3 (by omega) hW
    have q5 := hK3.2.1.2.2
    have fin : ∀ z, z = (if aH_ A = 7 then 9 else pu_u (rw_b cv b) v y (aH_ A)) → z < 2 ^ 31 → ab_Fr MX4_decidesIf (d + 2) Q 59 [some (.ref 160), none, none, some (.int (Int32.ofNat z))] [] (0, 0) (i3, l, dd, x) (ab_E0 sc) := by
      rintro z hz hz2
      refine tMX4_decidesIf_59 (d := d + 1) ⟨m, hd, hm, _, _, mt_decides (d := d) (n := 3) (f := fun t => mt_tl (aW_ A) (pu_u (rw_b cv b) v y) t (aV_ A)) hW hp hm hK3 rfl (by omega) z3 hbd hz2, ?_⟩
      rintro i5 l6 dd7 x8 ⟨⟩
      rw [hz]
      exact hQ _ ⟨_, rfl, f3⟩
    refine ⟨m, hd, hm, ?_⟩
    rw [q5, mt_hv (by omega) (by omega), mt_h_n (by omega)]
    refine ⟨fun c => fin y (by rw [if_neg (by omega), c, pu_ue]) (by omega), fun c => ⟨fun c7 => ?_, fun c7 => ?_⟩⟩
    · have hH : aH_ A < aV_ A := by omega
      have e167 : i3 167 (aH_ A) = Int32.ofNat (rw_b cv b (aH_ A)) := by
        rw [f3 167 (by omega)]
        exact hs.2.2 (aH_ A) hH
      have h9H := h9 (aH_ A) hH
      rw [mt_hn (by omega), nn_cl (by omega), e167]
      exact ⟨la_vp (by omega) (by omega), tMX4_decidesIf_58 (d := d + 1) (fin _ (by rw [if_neg c7, pu_un c]) (by omega))⟩
    · exact tMX4_decidesIf_58 (d := d + 1) (fin 9 (by rw [if_pos c7]) (by omega))
  by_cases c : y < aT_ A
  · rw [if_pos (by omega)] at h
    cases h
    refine key _ (fr_u f2 (by omega)) (fun t ht => ?_)
    rw [mt_tl_u hb9 (by omega)]
    by_cases e : t = y
    · rw [uu_a ⟨rfl, by omega⟩, show ((y : Int)).toNat = y by omega, z2 _ (by omega), nn_add, e, if_pos ⟨hv, rfl⟩]
    · rw [uu_j (by omega), z2 t (by omega), if_neg (fun q => e q.2.symm), Nat.add_zero]
  · rw [if_neg (by omega)] at h
    cases h
    refine key _ f2 (fun t ht => ?_)
    rw [mt_tl_u hb9 (by omega), z2 t (by omega), if_neg (by omega), Nat.add_zero]
/-- whether one's voice turns it -/
def cs_tn (A : mA_) (v : Nat) (p : Nat → Nat) : Nat := if (∀ t, t < aT_ A → mt_db A (pu_u p v t) = mt_db A (pu_u p v 9)) then 0 else 1
theorem pu_uc {p q : Nat → Nat} {V v y : Nat} (h : ∀ w, w < V → w ≠ v → p w = q w) : ∀ w, w < V → pu_u p v y w = pu_u q v y w := fun w hw => by
  unfold pu_u
  by_cases e : w = v
  · rw [if_pos e, if_pos e]
  · rw [if_neg e, if_neg e, h w hw e]
theorem cs_tn_c {A : mA_} {v : Nat} {p q : Nat → Nat} (hW : mt_W A) (h : ∀ w, w < aV_ A → w ≠ v → p w = q w) : cs_tn A v p = cs_tn A v q := by
  have e : ∀ y, mt_db A (pu_u p v y) = mt_db A (pu_u q v y) := fun y => mt_db_c hW (pu_uc h)
  unfold cs_tn
  by_cases c : ∀ t, t < aT_ A → mt_db A (pu_u p v t) = mt_db A (pu_u p v 9)
  · rw [if_pos c, if_pos (fun t ht => by rw [← e, ← e]; exact c t ht)]
  · rw [if_neg c, if_neg (fun z => c (fun t ht => by rw [e, e]; exact z t ht))]
theorem mt_tn13 {A : mA_} {m v : Nat} {cv : Nat → mC_} {b : Nat → Nat} (hW : mt_W A) (hp : 0 < aV_ A) (hm : ab_isM m) (hd : dd 160 0 = .ref m) (hd2 : dd 169 1 = .ref m) {i0 : Nat → Nat → Int32} (hK : mt_K A m i0) (hs : rw_s A cv b i0 l) (h9 : rw_b9 A cv b) (hv : v < aV_ A) (hb9 : rw_b cv b v = 9) {Q : ab_Qt} (hQ : ∀ i2, fr_o 168 168 i0 i2 → Q (some (some (.int (Int32.ofNat (cs_tn A v (rw_b cv b)))))) (i2, l, dd, x) (ab_E0 sc)) :
    ∀ (n t : Nat) (i2 : Nat → Nat → Int32), aT_ A = t + n → fr_o 168 168 i0 i2 → (∀ u, u < t → mt_db A (pu_u (rw_b cv b) v u) = mt_db A (pu_u (rw_b cv b) v 9)) → ab_Fr MX3_turnsNow (d + 3) Q 13 [some (.ref 169), some (.int (Int32.ofNat v)), some (.int (Int32.ofNat (mt_db A (pu_u (rw_b cv b) v 9)))), some (.int (Int32.ofNat t))] [] (0, 0) (i2, l, dd, x) (ab_E0 sc) := by
  intro n
  have w1 := hW.1
  have hlt : ∀ p, mt_db A p < 3 := fun p => by
    have := cs_db_lt (p := p) hW hp
    omega
  induction n with
  | zero =>
    intro t i2 ht f2 h
    have e1 := (mt_K_o hm hK f2 (by omega) hW).1.1
    refine tMX3_turnsNow_13 (d := d + 2) ⟨m, hd2, hm, fun _ => ?_, fun c => ?_⟩
    · have h2 := hQ i2 f2
      unfold cs_tn at h2
      rw [if_pos (fun u hu => h u (by omega))] at h2
      exact h2
    · simp (disch := omega) only [e1, ↓nn_m3, nn_p0, nn_p1, nn_p2, nn_p3, nn_p4, nn_p5, nn_p6, nn_p7, nn_p8, nn_p9, nn_p10, nn_p20, nn_p21, nn_le, nn_lt, nn_eq, nn_cl, nn_in, nn_add, nn_mul, nn_en, nn_ne, nn_mn, nn_64] at c
      omega
  | succ n ih =>
    intro t i2 ht f2 h
    have hK2 := mt_K_o hm hK f2 (by omega) hW
    have e1 := hK2.1.1
    refine tMX3_turnsNow_13 (d := d + 2) ⟨m, hd2, hm, fun c => ?_, fun _ => ⟨_, _, rw_decIf (d := d) (y := t) hW hp hm hd hK2 (rw_s_8 hs f2) h9 hv hb9 (by omega), ?_⟩⟩
    · simp (disch := omega) only [e1, ↓nn_m3, nn_p0, nn_p1, nn_p2, nn_p3, nn_p4, nn_p5, nn_p6, nn_p7, nn_p8, nn_p9, nn_p10, nn_p20, nn_p21, nn_le, nn_lt, nn_eq, nn_cl, nn_in, nn_add, nn_mul, nn_en, nn_ne, nn_mn, nn_64] at c
      omega
    · rintro i5 l6 dd7 x8 ⟨i3, ⟨⟩, f3⟩
      have a1 := hlt (pu_u (rw_b cv b) v t)
      have a2 := hlt (pu_u (rw_b cv b) v 9)
      rw [nn_eq (by omega) (by omega), la_nx]
      refine ⟨fun c => ih (t + 1) _ (by omega) (fr_t f2 f3) (fun u hu => ?_), fun c => ?_⟩
      · by_cases e : u = t
        · rw [e]
          exact c
        · exact h u (by omega)
      · have h2 := hQ i5 (fr_t f2 f3)
        unfold cs_tn at h2
        rw [if_neg (fun q => c (q t (by omega)))] at h2
        exact h2
theorem mt_turnsNow {A : mA_} {m v : Nat} {cv : Nat → mC_} {b : Nat → Nat} (hW : mt_W A) (hp : 0 < aV_ A) (hm : ab_isM m) (hd : dd 160 0 = .ref m) (hd2 : dd 169 1 = .ref m) (hK : mt_K A m i) (hs : rw_s A cv b i l) (h9 : rw_b9 A cv b) (hv : v < aV_ A) (hb9 : rw_b cv b v = 9) : ab_Sp MX3_turnsNow (d + 3) [.ref 169, .int (Int32.ofNat v)] (i, l, dd, x) (ab_E0 sc) (some (.int (Int32.ofNat (cs_tn A v (rw_b cv b))))) (fun σ => ∃ i2, σ = (i2, l, dd, x) ∧ fr_o 168 168 i i2) := by
  refine ab_ent (n := 1) okMX3_turnsNow.1 (fun G => Nat.le_of_ble_eq_true rfl) (fun Q hQ => ?_)
  refine tMX3_turnsNow_0 (d := d + 2) ⟨_, _, rw_decIf (d := d) (y := 9) hW hp hm hd hK hs h9 hv hb9 (by omega), ?_⟩
  rintro i5 l6 dd7 x8 ⟨i3, ⟨⟩, f3⟩
  exact mt_tn13 (i0 := i) hW hp hm hd hd2 hK hs h9 hv hb9 (fun i2 f2 => hQ _ ⟨i2, rfl, f2⟩) (aT_ A) 0 _ (by omega) f3 (fun u hu => absurd hu (Nat.not_lt_zero u))
/-- the model -/
theorem md_tu17 {A : mA_} {v : Nat} {bal : Nat → Nat} (hW : mt_W A) (hp : 0 < aV_ A) {i0 : Nat → Nat → Int32} (hM : mt_M A i0 l) (hB : mt_bk A bal) (hv : v < aV_ A) {Q : ab_Qt} (hQ : ∀ i2, fr_o 226 227 i0 i2 → Q (some (some (.int (Int32.ofNat (cs_tn A v bal))))) (i2, l, dd, x) (ab_E0 sc)) :
    ∀ (n t : Nat) (i2 : Nat → Nat → Int32), aT_ A = t + n → fr_o 226 227 i0 i2 → mt_ba A i2 bal → (∀ u, u ≤ t → mt_db A (pu_u bal v (mt_wx A u)) = mt_db A (pu_u bal v (mt_wx A 0))) → ab_Fr MX12_isTurned (d + 3) Q 17 [some (.ref 205), none, some (.int (Int32.ofNat v)), some (.int (Int32.ofNat (mt_db A (pu_u bal v (mt_wx A 0))))), some (.int (Int32.ofNat (t + 1)))] [] (0, 0) (i2, l, dd, x) (ab_E0 sc) := by
  intro n
  have w1 := hW.1
  have w4 := hW.2.2.2.1 hp
  have hlt : ∀ p, mt_db A p < 3 := fun p => by
    have := cs_db_lt (p := p) hW hp
    omega
  have e0 : mt_wx A 0 = 0 := if_pos (by omega)
  have e9 : mt_wx A (aT_ A) = 9 := if_neg (by omega)
  induction n with
  | zero =>
    intro t i2 ht f2 b2 h
    have r1 := (mt_M_f hM f2 (by omega) hW).1.1
    refine tMX12_isTurned_17 (d := d + 2) ⟨fun _ => ?_, fun c => ?_⟩
    · have h2 := hQ i2 f2
      unfold cs_tn at h2
      rw [if_pos (fun u hu => by
        have h3 := h u (by omega)
        have h4 := h (aT_ A) (by omega)
        rw [show mt_wx A u = u from if_pos hu] at h3
        rw [e9] at h4
        rw [h3, h4])] at h2
      exact h2
    · simp (disch := omega) only [r1, ↓nn_m3, nn_p0, nn_p1, nn_p2, nn_p3, nn_p4, nn_p5, nn_p6, nn_p7, nn_p8, nn_p9, nn_p10, nn_p20, nn_p21, nn_le, nn_lt, nn_eq, nn_cl, nn_in, nn_add, nn_mul, nn_en, nn_ne, nn_mn, nn_64] at c
      omega
  | succ n ih =>
    intro t i2 ht f2 b2 h
    have hM2 := mt_M_f hM f2 (by omega) hW
    have r1 := hM2.1.1
    refine tMX12_isTurned_17 (d := d + 2) ⟨fun c => ?_, fun _ => ⟨_, _, mt_decideWith (d := d) (y := t + 1) hW hp hM2 b2 hB hv (by omega), ?_⟩⟩
    · simp (disch := omega) only [r1, ↓nn_m3, nn_p0, nn_p1, nn_p2, nn_p3, nn_p4, nn_p5, nn_p6, nn_p7, nn_p8, nn_p9, nn_p10, nn_p20, nn_p21, nn_le, nn_lt, nn_eq, nn_cl, nn_in, nn_add, nn_mul, nn_en, nn_ne, nn_mn, nn_64] at c
      omega
    · rintro i5 l6 dd7 x8 ⟨i3, ⟨⟩, f3, b3⟩
      have a1 := hlt (pu_u bal v (mt_wx A (t + 1)))
      have a2 := hlt (pu_u bal v (mt_wx A 0))
      rw [nn_eq (by omega) (by omega), la_nx]
      refine ⟨fun c => ih (t + 1) _ (by omega) (fr_t f2 f3) b3 (fun u hu => ?_), fun c => ?_⟩
      · by_cases e : u = t + 1
        · rw [e]
          exact c
        · exact h u (by omega)
      · have h2 := hQ i5 (fr_t f2 f3)
        unfold cs_tn at h2
        rw [if_neg (fun q => c ?_)] at h2
        · exact h2
        · have q0 := q 0 (by omega)
          rw [e0, q0]
          by_cases c2 : t + 1 < aT_ A
          · rw [show mt_wx A (t + 1) = t + 1 from if_pos c2]
            exact q (t + 1) c2
          · rw [show t + 1 = aT_ A by omega, e9]
theorem md_isTurned {A : mA_} {v r : Nat} (hW : mt_W A) (hp : 0 < aV_ A) (hM : mt_M A i l) (hv : v < aV_ A) (hr : r < mt_rad (aS_ A) (aV_ A)) : ab_Sp MX12_isTurned (d + 3) [.ref 205, .int (Int32.ofNat r), .int (Int32.ofNat v)] (i, l, dd, x) (ab_E0 sc) (some (.int (Int32.ofNat (cs_tn A v (fun w => aO_ A w (pu_g (aS_ A) (aV_ A) r w)))))) (fun σ => ∃ i2, σ = (i2, l, dd, x) ∧ fr_o 226 227 i i2) := by
  refine ab_ent (n := 2) okMX12_isTurned.1 (fun G => Nat.le_of_ble_eq_true rfl) (fun Q hQ => ?_)
  refine tMX12_isTurned_0 (d := d + 2) ⟨_, _, mt_decideRow (d := d) (o := 0) hW hp hM (by omega) (mt_MV hM) hW.2.2.2.2.2.2.2.2.2.2.1 hr, ?_⟩
  rintro i5 l6 dd7 x8 ⟨i2, ⟨⟩, f2, b2⟩
  have hM2 := mt_M_f hM f2 (by omega) hW
  have hB := mt_row_bk (r := r) hW hW.2.2.2.2.2.2.2.2.2.2.1
  refine ⟨_, _, mt_decideWith (d := d) (y := 0) hW hp hM2 b2 hB hv (by omega), ?_⟩
  rintro i5 l6 dd7 x8 ⟨i3, ⟨⟩, f3, b3⟩
  exact md_tu17 (i0 := i) hW hp hM hB hv (fun i2 f2 => hQ _ ⟨i2, rfl, f2⟩) (aT_ A) 0 _ (by omega) (fr_t f2 f3) b3 (fun u hu => by rw [show u = 0 by omega])
end TQZ
