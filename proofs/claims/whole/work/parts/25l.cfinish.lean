/-! THE MATTER that a store tells; the class ends it -/
section TKL
variable {d : Nat} {sc : Nat × (Nat → Int32)} {i : Nat → Nat → Int32} {l : Nat → Nat → Int64} {dd : Nat → Nat → Value} {x : Nat}
def A_C (st : ps_) (t : Nat) : Nat := if t < st 0 0 then st 3 t else 0
def A_L (st : ps_) (v s t : Nat) : Nat := if v < st 0 1 ∧ s < st 4 v ∧ t < st 0 0 then st 5 (9 * v + 3 * s + t) else 0
def A_K (st : ps_) (w t e : Nat) : Nat := if t < 3 ∧ e < 3 then (if w < st 0 1 ∧ st 6 (9 * w + 3 * t + e) ≠ 99 then st 6 (9 * w + 3 * t + e) else kr_ (st 6) t e) else 0
def A_h (st : ps_) (v s : Nat) : Nat := mt_ln (fun e => pu_s (fun t => A_C st t * A_L st v s t * A_K st v t e) 3) (st 0 0 - 1)
def A_O (st : ps_) (v s : Nat) : Nat := if st 7 v = 3 then st 9 (3 * v + s) else if st 7 v = 1 then mt_am (fun t => A_L st v s t) (st 0 0 - 1) else if st 7 v = 2 then (if A_C st (A_h st v s) * A_L st v s (A_h st v s) * 20 < st 8 v * pu_s (fun t => A_C st t * A_L st v s t) 3 then 9 else A_h st v s) else A_h st v s
def A_of (st : ps_) : mA_ := ((st 0 0, st 0 1), st 4, A_C st, A_L st, A_K st, A_O st, (fun v => if v < st 0 1 then st 10 v else 0), (st 0 2, st 0 3, st 0 4, st 0 5))
theorem A_Kb {st : ps_} (hD : PD_ (st 0 1) (st 6)) {w t e : Nat} : A_K st w t e ≤ 50 := by
  unfold A_K
  by_cases c : t < 3 ∧ e < 3
  · rw [if_pos c]
    by_cases c2 : w < st 0 1 ∧ st 6 (9 * w + 3 * t + e) ≠ 99
    · rw [if_pos c2]
      have := hD w t e (Or.inl c2.1) c.1 c.2
      have := c2.2
      omega
    · rw [if_neg c2]
      have := hD 7 t e (Or.inr rfl) c.1 c.2
      rw [show 9 * 7 + 3 * t + e = 63 + 3 * t + e by omega] at this
      unfold kr_
      split
      · split <;> omega
      · omega
  · rw [if_neg c]
    omega
theorem A_hl {st : ps_} {v s : Nat} (hT : 2 ≤ st 0 0) : A_h st v s < st 0 0 := by
  have := mt_ln_le (f := fun e => pu_s (fun t => A_C st t * A_L st v s t * A_K st v t e) 3) (st 0 0 - 1)
  unfold A_h
  omega
theorem A_W {st : ps_} (hI : PI_ st) (hp : 0 < st 0 1) : mt_W (A_of st) := by
  obtain ⟨⟨a1, a2, a3, a4, a5, a6, a7⟩, hB, hC, hD, e1, e2, e3⟩ := hI
  obtain ⟨-, b2, b3⟩ := a6 (a4 hp)
  have hCb : ∀ t, A_C st t ≤ 20 ∧ (st 0 0 ≤ t → A_C st t = 0) := fun t => by
    unfold A_C
    by_cases c : t < st 0 0
    · rw [if_pos c]
      exact ⟨by have := a7 t c; omega, fun y => by omega⟩
    · rw [if_neg c]
      exact ⟨by omega, fun _ => rfl⟩
  have hLb : ∀ v s t, A_L st v s t ≤ 20 ∧ (st 4 v ≤ s → A_L st v s t = 0) ∧ (st 0 0 ≤ t → A_L st v s t = 0) := fun v s t => by
    unfold A_L
    by_cases c : v < st 0 1 ∧ s < st 4 v ∧ t < st 0 0
    · rw [if_pos c]
      exact ⟨((hC v c.1).2.2.2.2.2 t c.2.2).1 s c.2.1, fun y => by omega, fun y => by omega⟩
    · rw [if_neg c]
      exact ⟨by omega, fun _ => rfl, fun _ => rfl⟩
  refine ⟨a1, a2, fun y => absurd (show st 0 1 = 0 from y) (by omega), fun _ => b2, hCb, fun _ => ?_, fun v hv => (hC v hv).1, hLb, fun v t hv ht => ?_, fun w t e => A_Kb hD, fun v s hv hs => ?_, fun v => ?_, e1, e2, e3⟩
  · show A_C st 0 + A_C st 1 + A_C st 2 = 20
    rcases (show st 0 0 = 2 ∨ st 0 0 = 3 by omega) with y | y
    · rw [y] at b3
      have b3 : 0 + st 3 0 + st 3 1 = 20 := b3
      unfold A_C
      rw [if_pos (by omega), if_pos (by omega), if_neg (by omega)]
      omega
    · rw [y] at b3
      have b3 : 0 + st 3 0 + st 3 1 + st 3 2 = 20 := b3
      unfold A_C
      rw [if_pos (by omega), if_pos (by omega), if_pos (by omega)]
      omega
  · show A_L st v 0 t + A_L st v 1 t + A_L st v 2 t = 20
    have hv : v < st 0 1 := hv
    have ht : t < st 0 0 := ht
    obtain ⟨f1, -, -, -, -, f6⟩ := hC v hv
    have f := (f6 t ht).2
    rcases (show st 4 v = 2 ∨ st 4 v = 3 by omega) with y | y
    · rw [y] at f
      have f : 0 + st 5 (9 * v + 3 * 0 + t) + st 5 (9 * v + 3 * 1 + t) = 20 := f
      unfold A_L
      rw [if_pos ⟨hv, by omega, ht⟩, if_pos ⟨hv, by omega, ht⟩, if_neg (by omega)]
      omega
    · rw [y] at f
      have f : 0 + st 5 (9 * v + 3 * 0 + t) + st 5 (9 * v + 3 * 1 + t) + st 5 (9 * v + 3 * 2 + t) = 20 := f
      unfold A_L
      rw [if_pos ⟨hv, by omega, ht⟩, if_pos ⟨hv, by omega, ht⟩, if_pos ⟨hv, by omega, ht⟩]
      omega
  · show A_O st v s < st 0 0 ∨ A_O st v s = 9
    have hv : v < st 0 1 := hv
    obtain ⟨f1, f2, f3, f4, f5, f6⟩ := hC v hv
    unfold A_O
    by_cases c3 : st 7 v = 3
    · rw [if_pos c3]
      exact f5 c3 s hs
    · rw [if_neg c3]
      by_cases c1 : st 7 v = 1
      · rw [if_pos c1]
        have := mt_am_le (f := fun t => A_L st v s t) (st 0 0 - 1)
        exact Or.inl (by omega)
      · rw [if_neg c1]
        by_cases c2 : st 7 v = 2
        · rw [if_pos c2]
          split
          · exact Or.inr rfl
          · exact Or.inl (A_hl b2)
        · rw [if_neg c2]
          exact Or.inl (A_hl b2)
  · show (if v < st 0 1 then st 10 v else 0) ≤ 9
    split
    · rename_i y
      exact (hC v y).2.1
    · omega
theorem kt_m {k : Nat} (h : k ≤ 50 ∨ k = 99) : (kt_ k = -1) = (k = 99) := by
  unfold kt_
  by_cases c : k = 99
  · rw [if_pos c]
    exact (eq_true rfl).trans (eq_true c).symm
  · rw [if_neg c, nn_em (by omega)]
    exact (eq_false c).symm
theorem ct_fill {st : ps_} {m v : Nat} (hm : ab_isM m) (hI : PI_ st) (hv : v < st 0 1) (hR3 : ∀ t e, t < 3 → e < 3 → i (m + 3) (3 * t + e) = Int32.ofNat (kr_ (st 6) t e)) (hR7 : ∀ t e, t < 3 → e < 3 → i (m + 5 + 6 * v + 2) (3 * t + e) = kt_ (st 6 (9 * v + 3 * t + e))) : ab_Sp MX9_fillLosses (d + 1) [.ref (m + 5 + 6 * v), .ref (m + 2)] (i, l, dd, x) (ab_E0 sc) none (fun σ => ∃ i2, σ = (i2, l, dd, x) ∧ fr_o (m + 5 + 6 * v + 4) (m + 5 + 6 * v + 4) i i2 ∧ ∀ t e, t < 3 → e < 3 → i2 (m + 5 + 6 * v + 4) (3 * t + e) = Int32.ofNat (A_K st v t e)) := by
  have hV := hI.1.2.1
  have hVc : ab_isV (m + 5 + 6 * v) := ⟨m, v, hm, by omega, rfl⟩
  refine ab_ent (n := 1) okMX9_fillLosses.1 (fun G => Nat.le_of_ble_eq_true rfl) (fun Q hQ => ?_)
  refine tMX9_fillLosses_0 (d := d) hVc (isM_2 hm) ?_
  have go : ∀ (n k : Nat) (i2 : Nat → Nat → Int32), 9 = k + n → fr_o (m + 5 + 6 * v + 4) (m + 5 + 6 * v + 4) i i2 → (∀ t e, t < 3 → e < 3 → 3 * t + e < k → i2 (m + 5 + 6 * v + 4) (3 * t + e) = Int32.ofNat (A_K st v t e)) → ab_Fr MX9_fillLosses (d + 1) Q 2 [some (.ref (m + 5 + 6 * v)), some (.ref (m + 2)), some (.int (Int32.ofNat k))] [] (0, 0) (i2, l, dd, x) (ab_E0 sc) := by
    intro n
    induction n with
    | zero =>
      intro k i2 hk f2 z2
      refine tMX9_fillLosses_2 (d := d) hVc (isM_2 hm) ⟨fun _ => hQ _ ⟨i2, rfl, f2, fun t e ht he => z2 t e ht he (by omega)⟩, fun y => ?_⟩
      rw [nn_p9, nn_le (by omega) (by omega)] at y
      omega
    | succ n ih =>
      intro k i2 hk f2 z2
      have ek : k = 3 * (k / 3) + k % 3 := by omega
      have h3 := hR3 (k / 3) (k % 3) (by omega) (by omega)
      have h7 := hR7 (k / 3) (k % 3) (by omega) (by omega)
      rw [← ek] at h3
      rw [show 3 * (k / 3) + k % 3 = k by omega, show 9 * v + 3 * (k / 3) + k % 3 = 9 * v + k by omega] at h7
      have hdk := hI.2.2.2.1 v (k / 3) (k % 3) (Or.inl hv) (by omega) (by omega)
      rw [show 9 * v + 3 * (k / 3) + k % 3 = 9 * v + k by omega] at hdk
      have eA : A_K st v (k / 3) (k % 3) = if st 6 (9 * v + k) ≠ 99 then st 6 (9 * v + k) else kr_ (st 6) (k / 3) (k % 3) := by
        unfold A_K
        rw [if_pos ⟨by omega, by omega⟩, show 9 * v + 3 * (k / 3) + k % 3 = 9 * v + k by omega]
        by_cases c : st 6 (9 * v + k) ≠ 99
        · rw [if_pos ⟨hv, c⟩, if_pos c]
        · rw [if_neg (fun y => c y.2), if_neg c]
      have key : ∀ w, w = Int32.ofNat (A_K st v (k / 3) (k % 3)) → ab_Fr MX9_fillLosses (d + 1) Q 2 [some (.ref (m + 5 + 6 * v)), some (.ref (m + 2)), some (.int (Int32.ofNat (k + 1)))] [] (0, 0) (ab_u i2 (m + 5 + 6 * v + 4) k w, l, dd, x) (ab_E0 sc) := fun w hw => by
        refine ih (k + 1) _ (by omega) (fr_u f2 (by omega)) (fun t e ht he h => ?_)
        by_cases c : 3 * t + e = k
        · rw [c, uu_e, hw, show k / 3 = t by omega, show k % 3 = e by omega]
        · rw [uu_j c]
          exact z2 t e ht he (by omega)
      refine tMX9_fillLosses_2 (d := d) hVc (isM_2 hm) ⟨fun y => ?_, fun _ => ⟨la_vp (by omega) (by omega), ?_⟩⟩
      · rw [nn_p9, nn_le (by omega) (by omega)] at y
        omega
      · rw [nn_cl (by omega), f2 (m + 5 + 6 * v + 2) (by omega), h7, kt_m hdk, f2 (m + 2 + 1) (by omega), la_nx]
        refine ⟨fun c => ⟨la_vp (by omega) (by omega), la_vp (by omega) (by omega), ?_⟩, fun c => ⟨la_vp (by omega) (by omega), la_vp (by omega) (by omega), ?_⟩⟩
        · rintro i3 rfl
          refine key _ ?_
          rw [eA, if_pos c]
          exact if_neg c
        · rintro i3 rfl
          refine key _ ?_
          rw [eA, if_neg (fun y => y c)]
          exact h3
  exact go 9 0 i rfl fr_r (fun t e _ _ h => absurd h (Nat.not_lt_zero _))
/-- the vote of a voter whose losses are filled -/
theorem ct_hon {st : ps_} {m v s : Nat} (hm : ab_isM m) (hI : PI_ st) (hv : v < st 0 1) (hs : s < st 4 v) (hR : cR_ st m i l) (h4 : ∀ t e, t < 3 → e < 3 → i (m + 5 + 6 * v + 4) (3 * t + e) = Int32.ofNat (A_K st v t e)) : ab_Sp MX1_honestVote (d + 3) [.ref m, .ref (m + 5 + 6 * v), .int (Int32.ofNat s)] (i, l, dd, x) (ab_E0 sc) (some (.int (Int32.ofNat (A_h st v s)))) (fun σ => ∃ l2, σ = (i, l2, dd, x) ∧ fr_o (m + 49) (m + 49) l l2 ∧ ∀ t, t < 3 → l2 (m + 49) t = Int64.ofNat (A_C st t * A_L st v s t)) := by
  have hW := A_W hI (by omega)
  have hV := hI.1.2.1
  have hS := (hI.2.2.1 v hv).1
  have hT : 1 ≤ st 0 0 ∧ st 0 0 ≤ 3 := ⟨by have := hI.1.2.2.2.2.2.1 (hI.1.2.2.2.1 (by omega)); omega, hI.1.1⟩
  have hVc : ab_isV (m + 5 + 6 * v) := ⟨m, v, hm, by omega, rfl⟩
  have hCb := fun t => (hW.2.2.2.2.1 t).1
  have hLb := fun t => (hW.2.2.2.2.2.2.2.1 v s t).1
  refine ab_ent (n := 2) okMX1_honestVote.1 (fun G => Nat.le_of_ble_eq_true rfl) (fun Q hQ => ?_)
  refine tMX1_honestVote_0 (d := d + 2) hm hVc ?_
  have go : ∀ (n t : Nat) (l2 : Nat → Nat → Int64), 3 = t + n → fr_o (m + 49) (m + 49) l l2 → (∀ u, u < t → l2 (m + 49) u = Int64.ofNat (A_C st u * A_L st v s u)) → ab_Fr MX1_honestVote (d + 3) Q 2 [some (.ref m), some (.ref (m + 5 + 6 * v)), some (.int (Int32.ofNat s)), some (.int (Int32.ofNat t))] [] (0, 0) (i, l2, dd, x) (ab_E0 sc) := by
    intro n
    induction n with
    | zero =>
      intro t l2 ht f2 z2
      refine tMX1_honestVote_2 (d := d + 2) hm hVc ⟨fun _ => ?_, fun y => ?_⟩
      · rw [hR.1.1]
        refine ⟨_, _, mt_leastOf (d := d) (fr := 0) (T := st 0 0) (P := fun t => A_C st t * A_L st v s t) (K := A_K st v) (isV_3 hVc) (kM_49 hm) (fun t e ht he => ⟨h4 t e ht he, A_Kb hI.2.2.2.1⟩) (fun u hu => by rw [Nat.zero_add]; exact z2 u (by omega)) (by omega) hT, ?_⟩
        rintro i6 l7 dd8 x9 ⟨⟩
        have e : mt_li (mt_f (fun t => A_C st t * A_L st v s t) (A_K st v)) (st 0 0 - 1) = A_h st v s := tu_li (A := A_of st) (v := v) (s := s) (L := A_C st) hW (fun t => Nat.le_trans (hCb t) (by decide))
        rw [e]
        exact hQ _ ⟨l2, rfl, f2, fun u hu => z2 u (by omega)⟩
      · rw [nn_p3, nn_le (by omega) (by omega)] at y
        omega
    | succ n ih =>
      intro t l2 ht f2 z2
      have hc : i (m + 1) t = Int32.ofNat (A_C st t) := by
        rw [hR.2.2.1 t (by omega)]
        unfold A_C
        split <;> rfl
      have hl : i (m + 5 + 6 * v + 1) (3 * t + s) = Int32.ofNat (A_L st v s t) := by
        rw [hR.2.2.2.2.2.1 v s t hv hs (by omega)]
        unfold A_L
        by_cases c : t < st 0 0
        · rw [if_pos c, if_pos ⟨hv, hs, c⟩]
        · rw [if_neg c, if_neg (fun y => c y.2.2)]
          rfl
      have hC := hCb t
      have hL := hLb t
      have hCL : A_C st t * A_L st v s t ≤ 20 * 20 := Nat.mul_le_mul hC hL
      refine tMX1_honestVote_2 (d := d + 2) hm hVc ⟨fun y => ?_, fun _ => ?_⟩
      · rw [nn_p3, nn_le (by omega) (by omega)] at y
        omega
      · rw [nn_p3, nn_mul, nn_add, nn_cl (by omega), nn_cl (by omega), Nat.mul_comm t 3, hc, hl, nn_mul, nn_64 (by omega), la_nx]
        refine ⟨la_vp (by omega) (by omega), la_vp (by omega) (by omega), la_vp (by omega) (by omega), ?_⟩
        rintro l11 rfl
        refine ih (t + 1) _ (by omega) (fr_u f2 (by omega)) (fun u hu => ?_)
        by_cases c : u = t
        · rw [c, uu_e]
        · rw [uu_j c]
          exact z2 u (by omega)
  exact go 3 0 l rfl fr_r (fun u hu => absurd hu (Nat.not_lt_zero u))
theorem ct_like {st : ps_} {m v s : Nat} (hm : ab_isM m) (hI : PI_ st) (hv : v < st 0 1) (hs : s < st 4 v) (hR : cR_ st m i l) : ab_Sp MX9_likeliest (d + 1) [.ref (m + 5 + 6 * v), .int (Int32.ofNat (st 0 0)), .int (Int32.ofNat s)] (i, l, dd, x) (ab_E0 sc) (some (.int (Int32.ofNat (mt_am (fun t => A_L st v s t) (st 0 0 - 1))))) (fun σ => σ = (i, l, dd, x)) := by
  have hW := A_W hI (by omega)
  have hV := hI.1.2.1
  have hS := (hI.2.2.1 v hv).1
  have hT : 2 ≤ st 0 0 ∧ st 0 0 ≤ 3 := ⟨by have := hI.1.2.2.2.2.2.1 (hI.1.2.2.2.1 (by omega)); omega, hI.1.1⟩
  have hVc : ab_isV (m + 5 + 6 * v) := ⟨m, v, hm, by omega, rfl⟩
  have hl : ∀ t, t < st 0 0 → i (m + 5 + 6 * v + 1) (3 * t + s) = Int32.ofNat (A_L st v s t) := fun t ht => by
    rw [hR.2.2.2.2.2.1 v s t hv hs (by omega)]
    unfold A_L
    rw [if_pos ht, if_pos ⟨hv, hs, ht⟩]
  have hLb := fun t => (hW.2.2.2.2.2.2.2.1 v s t).1
  refine ab_ent (n := 2) okMX9_likeliest.1 (fun G => Nat.le_of_ble_eq_true rfl) (fun Q hQ => ?_)
  refine tMX9_likeliest_0 (d := d) hVc ?_
  have go : ∀ n k : Nat, st 0 0 = k + 1 + n → ab_Fr MX9_likeliest (d + 1) Q 5 [some (.ref (m + 5 + 6 * v)), some (.int (Int32.ofNat (st 0 0))), some (.int (Int32.ofNat s)), some (.int (Int32.ofNat (mt_am (fun t => A_L st v s t) k))), some (.int (Int32.ofNat (k + 1)))] [] (0, 0) (i, l, dd, x) (ab_E0 sc) := by
    intro n
    induction n with
    | zero =>
      intro k hk
      refine tMX9_likeliest_5 (d := d) hVc ⟨fun _ => ?_, fun y => ?_⟩
      · rw [show k = st 0 0 - 1 by omega]
        exact hQ _ rfl
      · rw [nn_le (by omega) (by omega)] at y
        omega
    | succ n ih =>
      intro k hk
      have ha := mt_am_le (f := fun t => A_L st v s t) k
      have e : mt_am (fun t => A_L st v s t) (k + 1) = if A_L st v s (mt_am (fun t => A_L st v s t) k) < A_L st v s (k + 1) then k + 1 else mt_am (fun t => A_L st v s t) k := rfl
      have h1 := hLb (k + 1)
      have h2 := hLb (mt_am (fun t => A_L st v s t) k)
      have h1 : A_L st v s (k + 1) ≤ 20 := h1
      have h2 : A_L st v s (mt_am (fun t => A_L st v s t) k) ≤ 20 := h2
      refine tMX9_likeliest_5 (d := d) hVc ⟨fun y => ?_, fun _ => ?_⟩
      · rw [nn_le (by omega) (by omega)] at y
        omega
      · rw [nn_p3, nn_mul, nn_mul, nn_add, nn_add, nn_cl (by omega), nn_cl (by omega), Nat.mul_comm (k + 1) 3, Nat.mul_comm _ 3, hl (k + 1) (by omega), hl _ (by omega), nn_le (by omega) (by omega), la_nx]
        refine ⟨la_vp (by omega) (by omega), la_vp (by omega) (by omega), fun c => ?_, fun c => ?_⟩
        · have hi := ih (k + 1) (by omega)
          rw [e, if_neg (by omega)] at hi
          exact hi
        · have hi := ih (k + 1) (by omega)
          rw [e, if_pos (by omega)] at hi
          exact hi
  exact go (st 0 0 - 1) 0 (by omega)
theorem ct_voteOf {st : ps_} {m v s : Nat} (hm : ab_isM m) (hI : PI_ st) (hv : v < st 0 1) (hs : s < st 4 v) (hR : cR_ st m i l) (h4 : ∀ t e, t < 3 → e < 3 → i (m + 5 + 6 * v + 4) (3 * t + e) = Int32.ofNat (A_K st v t e)) : ab_Sp MX1_voteOf (d + 5) [.ref m, .ref (m + 5 + 6 * v), .int (Int32.ofNat s)] (i, l, dd, x) (ab_E0 sc) (some (.int (Int32.ofNat (A_O st v s)))) (fun σ => ∃ l2, σ = (i, l2, dd, x) ∧ fr_o (m + 49) (m + 49) l l2) := by
  have hW := A_W hI (by omega)
  have hV := hI.1.2.1
  obtain ⟨hS, f2, f3, f4, f5, f6⟩ := hI.2.2.1 v hv
  have hT : 2 ≤ st 0 0 ∧ st 0 0 ≤ 3 := ⟨by have := hI.1.2.2.2.2.2.1 (hI.1.2.2.2.1 (by omega)); omega, hI.1.1⟩
  have hVc : ab_isV (m + 5 + 6 * v) := ⟨m, v, hm, by omega, rfl⟩
  have hw := (hR.2.2.2.2.1 v hv).2.2.1
  have hCL : ∀ t, A_C st t * A_L st v s t ≤ 400 := fun t => Nat.mul_le_mul (hW.2.2.2.2.1 t).1 (hW.2.2.2.2.2.2.2.1 v s t).1
  refine ab_ent (n := 2) okMX1_voteOf.1 (fun G => Nat.le_of_ble_eq_true rfl) (fun Q hQ => ?_)
  refine tMX1_voteOf_0 (d := d + 4) hm hVc ?_
  rw [hw, la_nat (by omega)]
  unfold A_O at hQ
  refine ⟨fun y => ⟨_, _, ct_hon (d := d + 1) hm hI hv hs hR h4, ?_⟩, fun y => ?_, fun y => ?_, fun y => ?_⟩
  · rw [if_neg (by omega), if_neg (by omega), if_neg (by omega)] at hQ
    rintro i6 l7 dd8 x9 ⟨l2, ⟨⟩, g2, -⟩
    exact hQ _ ⟨l7, rfl, g2⟩
  · rw [if_neg (by omega), if_pos (by omega)] at hQ
    rw [hR.1.1]
    refine ⟨_, _, ct_like (d := d + 3) hm hI hv hs hR, ?_⟩
    rintro i15 l16 dd17 x18 ⟨⟩
    exact hQ _ ⟨l, rfl, fr_r⟩
  · rw [if_neg (by omega), if_neg (by omega), if_pos (by omega)] at hQ
    have hh := A_hl (v := v) (s := s) hT.1
    have hsh := (hR.2.2.2.2.1 v hv).2.2.2 (by omega)
    have hs2 : ab_Sp MX1_shyVote (d + 4) [.ref m, .ref (m + 5 + 6 * v), .int (Int32.ofNat s)] (i, l, dd, x) (ab_E0 sc) (some (.int (Int32.ofNat (if A_C st (A_h st v s) * A_L st v s (A_h st v s) * 20 < st 8 v * pu_s (fun t => A_C st t * A_L st v s t) 3 then 9 else A_h st v s)))) (fun σ => ∃ l2, σ = (i, l2, dd, x) ∧ fr_o (m + 49) (m + 49) l l2) := by
      refine ab_ent (n := 2) okMX1_shyVote.1 (fun G => Nat.le_of_ble_eq_true rfl) (fun Q hQ => ?_)
      refine tMX1_shyVote_0 (d := d + 3) hm hVc ⟨_, _, ct_hon (d := d) hm hI hv hs hR h4, ?_⟩
      rintro i5 l6 dd7 x8 ⟨l2, ⟨⟩, g2, z2⟩
      have c0 := hCL 0
      have c1 := hCL 1
      have c2 := hCL 2
      have ch := hCL (A_h st v s)
      have h8 := f4 (by omega)
      have e3 : pu_s (fun t => A_C st t * A_L st v s t) 3 = A_C st 0 * A_L st v s 0 + A_C st 1 * A_L st v s 1 + A_C st 2 * A_L st v s 2 := pu_3
      have hm8 : st 8 v * (A_C st 0 * A_L st v s 0 + A_C st 1 * A_L st v s 1 + A_C st 2 * A_L st v s 2) ≤ 20 * 1200 := Nat.mul_le_mul h8.2 (by omega)
      rw [nn_cl (by omega), z2 _ (by omega), z2 0 (by omega), z2 1 (by omega), z2 2 (by omega), hsh, nn_64 (by omega), nl_p20, nl_mul, nl_add, nl_add, nl_mul, nl_lt (by omega) (by omega)]
      rw [e3] at hQ
      refine ⟨la_vp (by omega) (by omega), fun c => ?_, fun c => ?_⟩
      · rw [if_pos c] at hQ
        exact hQ _ ⟨l6, rfl, g2⟩
      · rw [if_neg c] at hQ
        exact hQ _ ⟨l6, rfl, g2⟩
    refine ⟨_, _, hs2, ?_⟩
    rintro i24 l25 dd26 x27 ⟨l2, ⟨⟩, g2⟩
    exact hQ _ ⟨l25, rfl, g2⟩
  · rw [if_pos (by omega)] at hQ
    rw [nn_cl (by omega), hR.2.2.2.2.2.2.2.1 v s hv (by omega) hs]
    exact ⟨la_vp (by omega) (by omega), hQ _ ⟨l, rfl, fr_r⟩⟩
theorem ct_finish {st : ps_} {m : Nat} (hm : ab_isM m) (hI : PI_ st) (hp : 0 < st 0 1) (hR : cR_ st m i l) : ab_Sp MX1_finish (d + 6) [.ref m] (i, l, dd, x) (ab_E0 sc) none (fun σ => ∃ i2 l2, σ = (i2, l2, dd, x) ∧ fr_o m (m + 47) i i2 ∧ fr_o (m + 49) (m + 49) l l2 ∧ mt_K (A_of st) m i2) := by
  have hm7 : m + 49 < 157 := by rcases hm with rfl | rfl | rfl <;> omega
  have hV := hI.1.2.1
  have hC := hI.2.2.1
  refine ab_ent (n := 0) okMX1_finish.1 (fun G => Nat.le_of_ble_eq_true rfl) (fun Q hQ => ?_)
  refine tMX1_finish_0 (d := d + 5) hm ?_
  -- what changes
  have hcR : ∀ (i2 : Nat → Nat → Int32) (l2 : Nat → Nat → Int64), (∀ k, (k < m ∨ m + 47 < k ∨ ((∀ v, v < 7 → k ≠ m + 5 + 6 * v + 4) ∧ k ≠ m + 47)) → i2 k = i k) → fr_o (m + 49) (m + 49) l l2 → cR_ st m i2 l2 := fun i2 l2 hf hg => by
    obtain ⟨r1, r2, r3, r4, r5, r6, r7, r8, r9, r10, r11⟩ := hR
    unfold cR_
    rw [hf m (Or.inr (Or.inr ⟨fun v hv => by omega, by omega⟩)), hf (m + 1) (Or.inr (Or.inr ⟨fun v hv => by omega, by omega⟩)), hf (m + 3) (Or.inr (Or.inr ⟨fun v hv => by omega, by omega⟩)), hf 157 (by omega), hg 158 (by omega), hg 159 (by omega)]
    refine ⟨r1, r2, r3, r4, fun v hv => ?_, fun v s t hv hs ht => ?_, fun v t e hv ht he => ?_, fun v s hv h7 hs => ?_, r9, r10, r11⟩
    · rw [hf (m + 5 + 6 * v) (Or.inr (Or.inr ⟨fun u hu => by omega, by omega⟩))]
      exact r5 v hv
    · rw [hf (m + 5 + 6 * v + 1) (Or.inr (Or.inr ⟨fun u hu => by omega, by omega⟩))]
      exact r6 v s t hv hs ht
    · rw [hf (m + 5 + 6 * v + 2) (Or.inr (Or.inr ⟨fun u hu => by omega, by omega⟩))]
      exact r7 v t e hv ht he
    · rw [hf (m + 5 + 6 * v + 5) (Or.inr (Or.inr ⟨fun u hu => by omega, by omega⟩))]
      exact r8 v s hv h7 hs
  have go : ∀ (n v : Nat) (i2 : Nat → Nat → Int32) (l2 : Nat → Nat → Int64), st 0 1 = v + n → (∀ k, (k < m ∨ m + 47 < k ∨ ((∀ v, v < 7 → k ≠ m + 5 + 6 * v + 4) ∧ k ≠ m + 47)) → i2 k = i k) → fr_o (m + 49) (m + 49) l l2 → (∀ u t e, u < v → t < 3 → e < 3 → i2 (m + 5 + 6 * u + 4) (3 * t + e) = Int32.ofNat (A_K st u t e)) → (∀ u s, u < v → s < st 4 u → i2 (m + 47) (3 * u + s) = Int32.ofNat (A_O st u s)) → ab_Fr MX1_finish (d + 6) Q 2 [some (.ref m), some (.int (Int32.ofNat v)), none] [] (0, 0) (i2, l2, dd, x) (ab_E0 sc) := by
    intro n
    induction n with
    | zero =>
      intro v i2 l2 hv hf hg hk ho
      have hR2 := hcR i2 l2 hf hg
      have hvV : v = st 0 1 := by omega
      refine tMX1_finish_2 (d := d + 5) hm ⟨fun _ => hQ _ ⟨i2, l2, rfl, fun k hk => hf k (by omega), hg, ?_⟩, fun y => ?_⟩
      · obtain ⟨r1, r2, r3, r4, r5, r6, r7, r8, r9, r10, r11⟩ := hR2
        refine ⟨r1, r2, fun t ht => ?_, fun t e ht he => ?_, fun u hu => ?_, fun u s t hu hs ht => ?_, fun u t e hu ht he => hk u t e (by rw [hvV]; exact hu) ht he, fun u s hu hs => ho u s (by rw [hvV]; exact hu) hs⟩
        · show _ = Int32.ofNat (A_C st t)
          rw [r3 t ht]
          unfold A_C
          split <;> rfl
        · show _ = Int32.ofNat (A_K st 7 t e)
          rw [r4 t e ht he]
          unfold A_K
          rw [if_pos ⟨ht, he⟩, if_neg (by omega)]
        · show _ ∧ _ = Int32.ofNat (if u < st 0 1 then st 10 u else 0)
          rw [if_pos (show u < st 0 1 from hu)]
          exact ⟨(r5 u hu).1, (r5 u hu).2.1⟩
        · show _ = Int32.ofNat (A_L st u s t)
          rw [r6 u s t hu hs ht]
          unfold A_L
          by_cases c : t < st 0 0
          · rw [if_pos c, if_pos ⟨hu, hs, c⟩]
          · rw [if_neg c, if_neg (fun y => c y.2.2)]
            rfl
      · rw [hR2.1.2, nn_le (by omega) (by omega)] at y
        omega
    | succ n ih =>
      intro v i2 l2 hv hf hg hk ho
      have hR2 := hcR i2 l2 hf hg
      have hvV : v < st 0 1 := by omega
      obtain ⟨hS, -⟩ := hC v hvV
      refine tMX1_finish_2 (d := d + 5) hm ⟨fun y => ?_, fun _ => ?_⟩
      · rw [hR2.1.2, nn_le (by omega) (by omega)] at y
        omega
      · rw [nn_cl (by omega)]
        refine ⟨la_vp (by omega) (by omega), _, ct_fill (d := d + 4) hm hI hvV hR2.2.2.2.1 (fun t e ht he => hR2.2.2.2.2.2.2.1 v t e hvV ht he), ?_⟩
        rintro i6 l7 dd8 x9 ⟨i3, ⟨⟩, f3, z3⟩
        have go2 : ∀ (n2 s : Nat) (i4 : Nat → Nat → Int32) (l4 : Nat → Nat → Int64), 3 = s + n2 → fr_o (m + 47) (m + 47) i6 i4 → fr_o (m + 49) (m + 49) l l4 → (∀ u r, u < 7 → r < 3 → (u < v ∨ (u = v ∧ r < s)) → r < st 4 u → i4 (m + 47) (3 * u + r) = Int32.ofNat (A_O st u r)) → ab_Fr MX1_finish (d + 6) Q 25 [some (.ref m), some (.int (Int32.ofNat v)), some (.int (Int32.ofNat s))] [] (0, 0) (i4, l4, dd, x) (ab_E0 sc) := by
          intro n2
          induction n2 with
          | zero =>
            intro s i4 l4 hs f4 g4 z4
            refine tMX1_finish_25 (d := d + 5) hm ⟨fun _ => ?_, fun y => ?_⟩
            · rw [la_nx]
              refine ih (v + 1) i4 l4 (by omega) (fun k hk' => ?_) g4 (fun u t e hu ht he => ?_) (fun u r hu hr => ?_)
              · rw [f4 k (by omega), f3 k (by rcases hk' with h | h | h; omega; omega; have := h.1 v (by omega); omega), hf k hk']
              · rw [f4 _ (by omega)]
                by_cases c : u = v
                · rw [c]
                  exact z3 t e ht he
                · rw [f3 _ (by omega)]
                  exact hk u t e (by omega) ht he
              · have := (hC u (by omega)).1.2
                exact z4 u r (by omega) (by omega) (by omega) hr
            · rw [nn_p3, nn_le (by omega) (by omega)] at y
              omega
          | succ n2 ih2 =>
            intro s i4 l4 hs f4 g4 z4
            have hR4 : cR_ st m i4 l4 := hcR i4 l4 (fun k hk' => by rw [f4 k (by omega), f3 k (by rcases hk' with h | h | h; omega; omega; have := h.1 v (by omega); omega), hf k hk']) g4
            have e0 := (hR4.2.2.2.2.1 v hvV).1
            refine tMX1_finish_25 (d := d + 5) hm ⟨fun y => ?_, fun _ => ?_⟩
            · rw [nn_p3, nn_le (by omega) (by omega)] at y
              omega
            · rw [nn_cl (by omega), e0, nn_le (by omega) (by omega), nn_p3, nn_mul, nn_add, nn_cl (by omega), Nat.mul_comm v 3, la_nx]
              refine ⟨la_vp (by omega) (by omega), fun c => ⟨la_vp (by omega) (by omega), ?_⟩, fun c => ⟨la_vp (by omega) (by omega), _, _, ct_voteOf (d := d) hm hI hvV (by omega) hR4 (fun t e ht he => by rw [f4 _ (by omega)]; exact z3 t e ht he), ?_⟩⟩
              · rintro i5 rfl
                refine ih2 (s + 1) _ l4 (by omega) (fr_u f4 (by omega)) g4 (fun u r hu hr h1 h2 => ?_)
                by_cases c2 : u = v ∧ r = s
                · rw [c2.1, c2.2] at h2
                  omega
                · rw [uu_j (by omega)]
                  exact z4 u r hu hr (by omega) h2
              · rintro i9 l10 dd11 x12 ⟨l5, ⟨⟩, g5⟩
                refine ⟨la_vp (by omega) (by omega), ?_⟩
                rintro i14 rfl
                refine ih2 (s + 1) _ l10 (by omega) (fr_u f4 (by omega)) (fr_t g4 g5) (fun u r hu hr h1 h2 => ?_)
                by_cases c2 : u = v ∧ r = s
                · obtain ⟨rfl, rfl⟩ := c2
                  rw [uu_e]
                · rw [uu_j (by omega)]
                  exact z4 u r hu hr (by omega) h2
        exact go2 3 0 i6 l2 rfl fr_r hg (fun u r hu hr h1 h2 => by
          have := (hC u (by omega)).1.2
          rw [f3 _ (by omega)]
          exact ho u r (by omega) h2)
  exact go (st 0 1) 0 i l (Nat.zero_add _).symm (fun _ _ => rfl) fr_r (fun u t e hu => absurd hu (Nat.not_lt_zero u)) (fun u s hu => absurd hu (Nat.not_lt_zero u))
end TKL
