/-! replies: the class's losing table, the best vote -/
/-- the class's best: from now, then 0, 1 .. -/
def rp_c (f : Nat → Int64) (now : Nat) : Nat → Nat
  | 0 => now
  | k + 1 => if f k < f (rp_c f now k) then k else rp_c f now k
/-- the model's best: from now, then T, T - 1 .. -/
def rp_m (f : Nat → Int64) (now T : Nat) : Nat → Nat
  | 0 => now
  | n + 1 => if f (T - n) < f (rp_m f now T n) then T - n else if f (T - n) = f (rp_m f now T n) ∧ ¬ rp_m f now T n = now then T - n else rp_m f now T n
theorem rp_c_s {f : Nat → Int64} {now : Nat} : ∀ k, (∀ x, x < k → (f (rp_c f now k)).toInt ≤ (f x).toInt) ∧ (f (rp_c f now k)).toInt ≤ (f now).toInt ∧ ((f now).toInt = (f (rp_c f now k)).toInt → rp_c f now k = now) ∧ (rp_c f now k ≠ now → rp_c f now k < k ∧ ∀ x, x < rp_c f now k → (f (rp_c f now k)).toInt < (f x).toInt) := by
  intro k
  induction k with
  | zero => exact ⟨fun x hx => absurd hx (Nat.not_lt_zero x), Int.le_refl _, fun _ => rfl, fun h => absurd rfl h⟩
  | succ k ih =>
    obtain ⟨h1, h2, h3, h4⟩ := ih
    unfold rp_c
    by_cases c : f k < f (rp_c f now k)
    · rw [if_pos c]
      rw [Int64.lt_iff_toInt_lt] at c
      refine ⟨fun x hx => ?_, by omega, fun h => by omega, fun _ => ⟨by omega, fun x hx => ?_⟩⟩
      · by_cases e : x = k
        · rw [e]
          exact Int.le_refl _
        · have := h1 x (by omega)
          omega
      · have := h1 x (by omega)
        omega
    · rw [if_neg c]
      rw [Int64.lt_iff_toInt_lt] at c
      refine ⟨fun x hx => ?_, h2, h3, fun h => ⟨by have := (h4 h).1; omega, (h4 h).2⟩⟩
      by_cases e : x = k
      · rw [e]
        omega
      · exact h1 x (by omega)
theorem rp_m_s {f : Nat → Int64} {now T : Nat} : ∀ n, n ≤ T + 1 → (∀ x, T + 1 - n ≤ x → x ≤ T → (f (rp_m f now T n)).toInt ≤ (f x).toInt) ∧ (f (rp_m f now T n)).toInt ≤ (f now).toInt ∧ ((f now).toInt = (f (rp_m f now T n)).toInt → rp_m f now T n = now) ∧ (rp_m f now T n ≠ now → T + 1 - n ≤ rp_m f now T n ∧ rp_m f now T n ≤ T ∧ ∀ x, T + 1 - n ≤ x → x < rp_m f now T n → (f (rp_m f now T n)).toInt < (f x).toInt) := by
  intro n
  induction n with
  | zero => intro _; exact ⟨fun x h1 h2 => absurd h1 (by omega), Int.le_refl _, fun _ => rfl, fun h => absurd rfl h⟩
  | succ n ih =>
    intro hn
    obtain ⟨h1, h2, h3, h4⟩ := ih (by omega)
    have e1 : T + 1 - (n + 1) = T - n := by omega
    unfold rp_m
    rw [e1]
    by_cases c : f (T - n) < f (rp_m f now T n)
    · rw [if_pos c]
      rw [Int64.lt_iff_toInt_lt] at c
      refine ⟨fun x hx hx2 => ?_, by omega, fun h => by omega, fun _ => ⟨by omega, by omega, fun x hx hx2 => absurd hx (by omega)⟩⟩
      by_cases e : x = T - n
      · rw [e]
        exact Int.le_refl _
      · have := h1 x (by omega) hx2
        omega
    · rw [if_neg c]
      rw [Int64.lt_iff_toInt_lt] at c
      by_cases c2 : f (T - n) = f (rp_m f now T n) ∧ ¬ rp_m f now T n = now
      · rw [if_pos c2]
        have c3 := congrArg Int64.toInt c2.1
        refine ⟨fun x hx hx2 => ?_, by omega, fun h => ?_, fun _ => ⟨by omega, by omega, fun x hx hx2 => absurd hx (by omega)⟩⟩
        · by_cases e : x = T - n
          · rw [e]
            exact Int.le_refl _
          · have := h1 x (by omega) hx2
            omega
        · exact absurd (h3 (by omega)) c2.2
      · rw [if_neg c2]
        refine ⟨fun x hx hx2 => ?_, h2, h3, fun h => ?_⟩
        · by_cases e : x = T - n
          · rw [e]
            omega
          · exact h1 x (by omega) hx2
        · obtain ⟨g1, g2, g3⟩ := h4 h
          refine ⟨by omega, g2, fun x hx hx2 => ?_⟩
          by_cases e : x = T - n
          · rw [e]
            have c4 : ¬ (f (T - n)).toInt = (f (rp_m f now T n)).toInt := fun z => c2 ⟨Int64.toInt.inj z, h⟩
            omega
          · exact g3 x (by omega) hx2
theorem rp_mc {f : Nat → Int64} {now T : Nat} (hn : now ≤ T) : rp_m f now T (T + 1) = rp_c f now (T + 1) := by
  obtain ⟨a1, a2, a3, a4⟩ := rp_c_s (f := f) (now := now) (T + 1)
  obtain ⟨b1, b2, b3, b4⟩ := rp_m_s (f := f) (now := now) (T := T) (T + 1) (Nat.le_refl _)
  generalize rp_c f now (T + 1) = p at *
  generalize rp_m f now T (T + 1) = q at *
  have hp : p ≤ T := by
    by_cases e : p = now
    · omega
    · have := (a4 e).1
      omega
  have hq : q ≤ T := by
    by_cases e : q = now
    · omega
    · exact (b4 e).2.1
  have e1 := a1 q (by omega)
  have e2 := b1 p (by omega) hp
  by_cases c : (f now).toInt = (f p).toInt
  · rw [a3 c, b3 (by omega)]
  · have hpn : p ≠ now := fun z => c (by rw [z])
    have hqn : q ≠ now := fun z => c (by rw [z] at e1 e2; omega)
    rcases Nat.lt_trichotomy p q with h | h | h
    · have := (b4 hqn).2.2 p (by omega) h
      omega
    · exact h.symm
    · have := (a4 hpn).2 q h
      omega
theorem rp_c_le {f : Nat → Int64} {now T : Nat} (hn : now ≤ T) : rp_c f now (T + 1) ≤ T := by
  obtain ⟨a1, a2, a3, a4⟩ := rp_c_s (f := f) (now := now) (T + 1)
  by_cases e : rp_c f now (T + 1) = now
  · omega
  · have := (a4 e).1
    omega
/-- what a vote x of voter v loses with sign s -/
def rp_lo (A : mA_) (vt : Nat → Nat → Nat) (v s x : Nat) (b : Nat → Nat) : Nat := if b v = s then cs_l A v b (mt_db A (pu_u (fun w => vt w (b w)) v (mt_wx A x))) (aT_ A) else 0
def rp_f (A : mA_) (vt : Nat → Nat → Nat) (v s : Nat) : Nat → Int64 := fun x => Int64.ofNat (pu_n (aS_ A) (aV_ A) (rp_lo A vt v s x))
def rp_now (A : mA_) (y : Nat) : Nat := if y < aT_ A then y else aT_ A
/-- the reply -/
def rp_y (A : mA_) (vt : Nat → Nat → Nat) (v s : Nat) : Nat := mt_wx A (rp_c (rp_f A vt v s) (rp_now A (vt v s)) (aT_ A + 1))
section TQC2
variable {d : Nat} {sc : Nat × (Nat → Int32)} {i : Nat → Nat → Int32} {l : Nat → Nat → Int64} {dd : Nat → Nat → Value} {x : Nat}
theorem rp_now_le {A : mA_} {y : Nat} : rp_now A y ≤ aT_ A := by
  unfold rp_now
  split <;> omega
/-- choices with a voter left out -/
def ho_cv (A : mA_) (vt : Nat → Nat → Nat) (v : Nat) : Nat → mC_ := gr_u (gr_cv A vt) v (1, fun _ => 9, fun _ _ => 1)
def ho_g (A : mA_) (vt : Nat → Nat → Nat) (v x t : Nat) (c : Nat → Nat) : Nat := rw_p A (ho_cv A vt v) c (aV_ A) t * aK_ A v t (mt_db A (pu_u (rw_b (ho_cv A vt v) c) v (mt_wx A x)))
theorem pu_pm {c : Nat} {f g : Nat → Nat} {v : Nat} (h1 : ∀ w, w ≠ v → g w = f w) (h2 : g v = 1) : ∀ k, v < k → pu_p c g k * f v = pu_p c f k := by
  intro k
  induction k with
  | zero => intro hv; exact absurd hv (Nat.not_lt_zero v)
  | succ k ih =>
    intro hv
    show pu_p c g k * g k * f v = pu_p c f k * f k
    by_cases e : k = v
    · subst e
      rw [h2, Nat.mul_one, pu_pc (f := g) (g := f) k (fun w hw => h1 w (by omega))]
    · rw [h1 k e, Nat.mul_right_comm, ih (by omega)]
/-- what the class keeps, times the sign's likelihood, summed -/
theorem ho_sum {A : mA_} {vt : Nat → Nat → Nat} {v s x : Nat} (hW : mt_W A) (hv : v < aV_ A) (hs : s < aS_ A v) : pu_s (fun t => pu_n (rw_N (ho_cv A vt v)) (aV_ A) (ho_g A vt v x t) * aL_ A v s t) 3 = pu_n (aS_ A) (aV_ A) (rp_lo A vt v s x) := by
  rw [pu_s3 (f := fun t => pu_n (rw_N (ho_cv A vt v)) (aV_ A) (ho_g A vt v x t) * aL_ A v s t) hW.1 (fun t ht => by
    rw [((hW.2.2.2.2.2.2.2.1 v s t).2.2 ht), Nat.mul_zero])]
  rw [pu_sc (g := fun t => pu_n (aS_ A) (aV_ A) (fun b => if b v = s then mt_pa A b t * aK_ A v t (mt_db A (pu_u (fun w => vt w (b w)) v (mt_wx A x))) else 0)) (fun t ht => ?_), ← pu_ns]
  · refine pu_nc (fun b _ => ?_)
    unfold rp_lo cs_l
    by_cases e : b v = s
    · rw [if_pos e]
      exact pu_sc (fun t _ => if_pos e)
    · rw [if_neg e]
      exact pu_sz (fun t _ => if_neg e)
  · have hr : gr_r (aS_ A) (aV_ A) (ho_cv A vt v) t (gr_f vt v (fun _ => 9)) (gr_f (fun v s => aL_ A v s t) v (fun u => if u = s then 1 else 0)) := gr_lo hs gr_v
    have h := gr_eq (z := aC_ A t) (aV_ A) (fun p => aK_ A v t (mt_db A (pu_u p v (mt_wx A x)))) (fun p q hpq => by rw [mt_db_c hW (pu_uc (fun w hw _ => hpq w hw))]) hr
    rw [pu_nc (G := ho_g A vt v x t) (H := fun c => aK_ A v t (mt_db A (pu_u (rw_b (ho_cv A vt v) c) v (mt_wx A x))) * pu_p (aC_ A t) (fun w => (ho_cv A vt v w).2.2 (c w) t) (aV_ A)) (fun c _ => Nat.mul_comm _ _), h, ← pu_nr]
    refine pu_nc (fun b _ => ?_)
    by_cases e : b v = s
    · rw [if_pos e, mt_db_c (c := pu_u (fun w => vt w (b w)) v (mt_wx A x)) hW (pu_uc (fun w hw hn => by
        unfold gr_f
        rw [if_neg hn])), Nat.mul_assoc]
      have e2 : pu_p (aC_ A t) (fun w => gr_f (fun v s => aL_ A v s t) v (fun u => if u = s then 1 else 0) w (b w)) (aV_ A) * aL_ A v s t = mt_pa A b t := by
        have e3 := pu_pm (c := aC_ A t) (f := fun w => aL_ A w (b w) t) (g := fun w => gr_f (fun v s => aL_ A v s t) v (fun u => if u = s then 1 else 0) w (b w)) (v := v) (fun w hw => by
          unfold gr_f
          rw [if_neg hw]) (by
          unfold gr_f
          rw [if_pos rfl, if_pos e]) (aV_ A) hv
        rw [e] at e3
        exact e3
      rw [e2, Nat.mul_comm]
    · rw [if_neg e, pu_pz (v := v) (f := fun w => gr_f (fun v s => aL_ A v s t) v (fun u => if u = s then 1 else 0) w (b w)) (by
        unfold gr_f
        rw [if_pos rfl, if_neg e]) _ hv, Nat.mul_zero, Nat.zero_mul]
theorem kd_vc {m v : Nat} (hm : ab_isM m) (hv : v < 7) : (ab_E0 sc).1 (m + 5 + 6 * v + 3 + 1) = .inr (0, 9) ∧ (ab_E0 sc).1 (m + 5 + 6 * v + 1) = .inr (0, 9) := by
  rcases (show v = 0 ∨ v = 1 ∨ v = 2 ∨ v = 3 ∨ v = 4 ∨ v = 5 ∨ v = 6 by omega) with rfl | rfl | rfl | rfl | rfl | rfl | rfl <;> rcases hm with rfl | rfl | rfl <;> exact ⟨rfl, rfl⟩
theorem mt_voteAt {A : mA_} {m y : Nat} (hW : mt_W A) (hm : ab_isM m) (hd2 : dd 169 1 = .ref m) (hK : mt_K A m i) (hy : y ≤ aT_ A) : ab_Sp MX3_voteAt (d + 1) [.ref 169, .int (Int32.ofNat y)] (i, l, dd, x) (ab_E0 sc) (some (.int (Int32.ofNat (mt_wx A y)))) (fun σ => σ = (i, l, dd, x)) := by
  have w1 := hW.1
  have e := hK.1.1
  refine ab_ent (n := 1) okMX3_voteAt.1 (fun G => Nat.le_of_ble_eq_true rfl) (fun Q hQ => ?_)
  refine tMX3_voteAt_0 ⟨m, hd2, hm, ?_⟩
  simp (disch := omega) only [e, ↓nn_m3, nn_p0, nn_p1, nn_p2, nn_p3, nn_p4, nn_p5, nn_p6, nn_p7, nn_p8, nn_p9, nn_p10, nn_p20, nn_p21, nn_le, nn_lt, nn_eq, nn_cl, nn_in, nn_add, nn_mul, nn_en, nn_ne, nn_mn, nn_64]
  refine ⟨fun c => ?_, fun c => ?_⟩
  · rw [show mt_wx A y = 9 from if_neg (by omega)] at hQ
    exact hQ _ rfl
  · rw [show mt_wx A y = y from if_pos (by omega)] at hQ
    exact hQ _ rfl
theorem ho_34 {A : mA_} {m v y e : Nat} {vt : Nat → Nat → Nat} {b : Nat → Nat} {F : Nat → Nat → Nat} {l0 : Nat → Nat → Int64} (hW : mt_W A) (hm : ab_isM m) (hd : dd 160 0 = .ref m) (hK : mt_K A m i) (hs : rw_s A (ho_cv A vt v) b i l0) (hv : v < aV_ A) (hy : y < 4) (he : e < 3) (hF : ∀ z t, z < 4 → t < 3 → l0 170 (3 * z + t) = Int64.ofNat (F z t)) {Q : ab_Qt} (hQ : ∀ l2, fr_o 170 170 l0 l2 → (∀ z t, z < 4 → t < 3 → l2 170 (3 * z + t) = Int64.ofNat (F z t + (if z = y then rw_p A (ho_cv A vt v) b (aV_ A) t * aK_ A v t e else 0))) → Q (some none) (i, l2, dd, x) (ab_E0 sc)) :
    ∀ (n t : Nat) (l2 : Nat → Nat → Int64), 3 = t + n → fr_o 170 170 l0 l2 → (∀ z u, z < 4 → u < 3 → l2 170 (3 * z + u) = Int64.ofNat (F z u + (if u < t ∧ z = y then rw_p A (ho_cv A vt v) b (aV_ A) u * aK_ A v u e else 0))) → ab_Fr MX3_addLosing (d + 2) Q 34 [some (.ref 169), none, some (.int (Int32.ofNat y)), some (.int (Int32.ofNat e)), some (.ref (m + 5 + 6 * v + 3 + 1)), some (.int (Int32.ofNat t))] [] (0, 0) (i, l2, dd, x) (ab_E0 sc) := by
  intro n
  have w2 := hW.2.1
  have hkd := (kd_vc (sc := sc) hm (show v < 7 by omega)).1
  induction n with
  | zero =>
    intro t l2 ht f2 z2
    refine tMX3_addLosing_34 (d := d + 1) hkd ⟨fun _ => hQ l2 f2 (fun z u hz hu => ?_), fun c => ?_⟩
    · rw [z2 z u hz hu]
      by_cases c : z = y
      · rw [if_pos c, if_pos ⟨by omega, c⟩]
      · rw [if_neg c, if_neg (fun q => c q.2)]
    · simp (disch := omega) only [↓nn_m3, nn_p0, nn_p1, nn_p2, nn_p3, nn_p4, nn_p5, nn_p6, nn_p7, nn_p8, nn_p9, nn_p10, nn_p20, nn_p21, nn_le, nn_lt, nn_eq, nn_cl, nn_in, nn_add, nn_mul, nn_en, nn_ne, nn_mn, nn_64] at c
      omega
  | succ n ih =>
    intro t l2 ht f2 z2
    have e1 := z2 y t hy (by omega)
    rw [if_neg (by omega), Nat.add_zero] at e1
    have eK : i (m + 5 + 6 * v + 3 + 1) (3 * t + e) = Int32.ofNat (aK_ A v t e) := hK.2.2.2.2.2.2.1 v t e hv (by omega) he
    have hK5 := hW.2.2.2.2.2.2.2.2.2.1 v t e
    refine tMX3_addLosing_34 (d := d + 1) hkd ⟨fun c => ?_, fun _ => ?_⟩
    · simp (disch := omega) only [↓nn_m3, nn_p0, nn_p1, nn_p2, nn_p3, nn_p4, nn_p5, nn_p6, nn_p7, nn_p8, nn_p9, nn_p10, nn_p20, nn_p21, nn_le, nn_lt, nn_eq, nn_cl, nn_in, nn_add, nn_mul, nn_en, nn_ne, nn_mn, nn_64] at c
      omega
    · rw [nn_m3, nn_mul, nn_add]
      refine ⟨la_vp (by omega) (by omega), _, _, rw_partsNow (d := d) (t := t) hW hm hd hK (rw_s_l hs (f2 165 (by omega))) (by omega), ?_⟩
      rintro i6 l7 dd8 x9 ⟨⟩
      rw [nn_m3, nn_mul, nn_add]
      refine ⟨la_vp (by omega) (by omega), la_vp (by omega) (by omega), ?_⟩
      rintro l11 rfl
      rw [nn_cl (by omega), nn_cl (by omega), e1, eK, nn_64 (by omega), nl_mul, nl_add, la_nx]
      refine ih (t + 1) _ (by omega) (fr_u f2 (by omega)) (fun z u hz hu => ?_)
      by_cases c : z = y ∧ u = t
      · obtain ⟨rfl, rfl⟩ := c
        rw [uu_e, if_pos ⟨by omega, rfl⟩]
      · rw [uu_j (by omega), z2 z u hz hu]
        congr 2
        by_cases c2 : u < t ∧ z = y
        · rw [if_pos c2, if_pos ⟨by omega, c2.2⟩]
        · rw [if_neg c2, if_neg (by omega)]
theorem mt_addLosing {A : mA_} {m v y : Nat} {vt : Nat → Nat → Nat} {b : Nat → Nat} {F : Nat → Nat → Nat} (hW : mt_W A) (hp : 0 < aV_ A) (hm : ab_isM m) (hd : dd 160 0 = .ref m) (hd2 : dd 169 1 = .ref m) (hK : mt_K A m i) (hs : rw_s A (ho_cv A vt v) b i l) (h9 : rw_b9 A (ho_cv A vt v) b) (hb9 : rw_b (ho_cv A vt v) b v = 9) (hv : v < aV_ A) (hy : y ≤ aT_ A) (hF : ∀ z t, z < 4 → t < 3 → l 170 (3 * z + t) = Int64.ofNat (F z t)) : ab_Sp MX3_addLosing (d + 3) [.ref 169, .int (Int32.ofNat v), .int (Int32.ofNat y)] (i, l, dd, x) (ab_E0 sc) none (fun σ => ∃ i2 l2, σ = (i2, l2, dd, x) ∧ fr_o 168 168 i i2 ∧ fr_o 170 170 l l2 ∧ ∀ z t, z < 4 → t < 3 → l2 170 (3 * z + t) = Int64.ofNat (F z t + (if z = y then ho_g A vt v y t b else 0))) := by
  have w1 := hW.1
  have w2 := hW.2.1
  refine ab_ent (n := 2) okMX3_addLosing.1 (fun G => Nat.le_of_ble_eq_true rfl) (fun Q hQ => ?_)
  refine tMX3_addLosing_0 (d := d + 2) ⟨_, _, mt_voteAt (d := d + 1) hW hm hd2 hK hy, ?_⟩
  rintro i5 l6 dd7 x8 ⟨⟩
  have hwx : mt_wx A y ≤ 9 := by
    unfold mt_wx
    split <;> omega
  refine ⟨_, _, rw_decIf (d := d) hW hp hm hd hK hs h9 hv hb9 hwx, ?_⟩
  rintro i5 l6 dd7 x8 ⟨i2, ⟨⟩, f2⟩
  have hlt := cs_db_lt (p := pu_u (rw_b (ho_cv A vt v) b) v (mt_wx A y)) hW hp
  refine ⟨m, hd2, hm, la_vp (by omega) (by omega), ?_⟩
  rw [nn_cl (by omega)]
  refine ho_34 (d := d + 1) (l0 := l) hW hm hd (mt_K_o hm hK f2 (by omega) hW) (rw_s_8 hs f2) hv (by omega) (by omega) hF ?_ 3 0 l (by omega) fr_r (fun z u hz hu => by rw [if_neg (by omega), Nat.add_zero]; exact hF z u hz hu)
  intro l2 g2 z2
  exact hQ _ ⟨_, _, rfl, f2, g2, z2⟩
end TQC2
