/-! LINES, pure: what a store keeps stays -/
section PINW
variable {z : (Nat → Nat) × Nat} {st : ps_} {p : Nat}
/-- a good end: further along, in the tape -/
def g_p (z : (Nat → Nat) × Nat) (p q : Nat) : Prop := p < q ∧ q ≤ z.2
theorem g_e (hp : p ≤ z.2) (h : z_k z p < 3) : g_p z p (z_e z p) := ⟨(z_el hp h).1, (z_el hp h).2.1⟩
theorem g_t {q r : Nat} (h1 : g_p z p q) (h2 : g_p z q r) : g_p z p r := ⟨Nat.lt_trans h1.1 h2.1, h2.2⟩
theorem fT_w (h : z_k z p = 0) (h2 : fT_ z st p = st 0 0) : ∀ t, t < st 0 0 → st 1 t ≠ z_w z p := fun t ht => (fi_l (f := st 1) (w := z_w z p) (st 0 0)).2.2 t (by unfold fT_ at h2; omega)
theorem fV_w (h : z_k z p = 0) (h2 : fV_ z st p = st 0 1) : ∀ t, t < st 0 1 → st 2 t ≠ z_w z p := fun t ht => (fi_l (f := st 2) (w := z_w z p) (st 0 1)).2.2 t (by unfold fV_ at h2; omega)
theorem PI_truth (hp : p ≤ z.2) (hk : z_k z p < 3) (hI : PI_ st) (h : (b_truth z st p).1 = 0) : g_p z p (b_truth z st p).2.1 ∧ PI_ (ab_u (b_truth z st p).2.2 0 7 ((b_truth z st p).2.2 0 7 + 1)) ∧ (b_truth z st p).2.2 0 7 = st 0 7 := by
  obtain ⟨⟨a1, a2, a3, a4, a5, a6, a7⟩, ⟨n1, n2, n3, n4, n5⟩, hC, hD, e1, e2, e3⟩ := hI
  unfold b_truth at h ⊢
  obtain ⟨c1, q1⟩ := ch_0 h
  rw [q1] at h ⊢
  obtain ⟨c2, q2⟩ := ch_0 h
  rw [q2] at h ⊢
  obtain ⟨c3, q3⟩ := ch_0 h
  rw [q3] at h ⊢
  have hb : st 0 6 = 0 ∧ st 0 0 < 3 := by
    split at c1
    · rename_i g
      exact g
    · omega
  obtain ⟨k1, x1, t1, v1⟩ := c_new0 c2
  obtain ⟨k2, w1, w2⟩ := c_num0 c3
  have g1 := g_e hp hk
  have g2 := g_e g1.2 (show z_k z (z_e z p) < 3 by omega)
  have g3 := g_e g2.2 (show z_k z (z_e z (z_e z p)) < 3 by omega)
  obtain ⟨y1, y2, y3⟩ := z_wk g1.2 k1
  have hV : st 0 1 = 0 := by
    rcases Nat.eq_zero_or_pos (st 0 1) with g | g
    · exact g
    · have := a4 g
      omega
  refine ⟨g_t g1 (g_t g2 g3), ?_, rfl⟩
  show PA_ (st 0 0 + 1) (st 0 1) (st 0 6) (st 0 7 + 1) (ab_u (ab_u st 1 (st 0 0) (z_w z (z_e z p))) 3 (st 0 0) (z_v z (z_e z (z_e z p))) 3) ∧ PB_ (st 0 0 + 1) (st 0 1) (ab_u st 1 (st 0 0) (z_w z (z_e z p)) 1) (st 2) ∧ PC_ (st 0 0 + 1) (st 0 1) (st 4) (st 10) (st 7) (st 8) (st 9) (st 5) ∧ PD_ (st 0 1) (st 6) ∧ PE_ (st 0 0 + 1) (st 0 1) (st 0 2) (st 0 3) (st 0 4) (st 0 5)
  refine ⟨⟨by omega, a2, a3, a4, fun _ => by rw [a5 hb.1], fun y => by omega, fun t ht => ?_⟩, ⟨fun t ht => ?_, n2, fun t u ht hu eu => ?_, n4, fun t v ht hv => by omega⟩, fun v hv => by omega, hD, e1, fun y => ⟨by have := e2 y; omega, by have := e2 y; omega⟩, e3⟩
  · by_cases e : t = st 0 0
    · rw [e, uu_e]
      exact ⟨w1, w2⟩
    · rw [uu_j e, uu_k (by omega)]
      exact a7 t (by omega)
  · by_cases e : t = st 0 0
    · rw [e, uu_e]
      exact ⟨y1, y2⟩
    · rw [uu_j e]
      exact n1 t (by omega)
  · have hw := fT_w k1 t1
    by_cases e : t = st 0 0
    · by_cases e' : u = st 0 0
      · rw [e, e']
      · rw [e, uu_e, uu_j e'] at eu
        exact absurd eu.symm (hw u (by omega))
    · by_cases e' : u = st 0 0
      · rw [e', uu_e, uu_j e] at eu
        exact absurd eu (hw t (by omega))
      · rw [uu_j e, uu_j e'] at eu
        exact n3 t u (by omega) (by omega) eu
theorem PJ_fin {st : ps_} (h : PJ_ st) : PI_ (ab_u st 0 7 (st 0 7 + 1)) := by
  obtain ⟨⟨a1, a2, a3, a4, a5, a6, a7⟩, hB, hC, hD, hE⟩ := h
  show PA_ (st 0 0) (st 0 1) (st 0 6) (st 0 7 + 1) (st 3) ∧ _
  exact ⟨⟨a1, a2, by omega, fun _ => a3, fun y => by omega, fun _ => ⟨by omega, a5, a6⟩, a7⟩, hB, hC, hD, hE⟩
/-- a voter's likes: only group 5 at v changes -/
theorem v_s_p {v t : Nat} : ∀ (n s sum : Nat) (st : ps_) (p : Nat), p ≤ z.2 → (v_s z v t n s sum st p).1 = 0 → p ≤ (v_s z v t n s sum st p).2.1 ∧ (v_s z v t n s sum st p).2.1 ≤ z.2 ∧ (∀ g, g ≠ 5 → (v_s z v t n s sum st p).2.2 g = st g) ∧ (∀ j, (∀ k, s ≤ k → k < s + n → j ≠ 9 * v + 3 * k + t) → (v_s z v t n s sum st p).2.2 5 j = st 5 j) ∧ (∀ k, s ≤ k → k < s + n → (v_s z v t n s sum st p).2.2 5 (9 * v + 3 * k + t) ≤ 20) ∧ (0 < n → sum + pu_s (fun k => (v_s z v t n s sum st p).2.2 5 (9 * v + 3 * (s + k) + t)) n = 20) := by
  intro n
  induction n with
  | zero =>
    intro s sum st p hp h
    exact ⟨Nat.le_refl p, hp, fun _ _ => rfl, fun _ _ => rfl, fun k h1 h2 => by omega, fun h => absurd h (Nat.lt_irrefl 0)⟩
  | succ n ih =>
    intro s sum st p hp h
    have e : v_s z v t (n + 1) s sum st p = ch_ (v_c z n sum p) (z_p z p) st (v_s z v t n (s + 1) (sum + z_v z p) (ab_u st 5 (9 * v + 3 * s + t) (z_v z p)) (z_e z p)) := rfl
    rw [e] at h ⊢
    obtain ⟨c1, q1⟩ := ch_0 h
    rw [q1] at h ⊢
    have hc : z_k z p = 1 ∧ z_v z p ≤ 20 ∧ (n = 0 → sum + z_v z p = 20) := by
      unfold v_c at c1
      split at c1
      · rename_i g1
        split at c1
        · rename_i g2
          exact ⟨g1, g2⟩
        · omega
      · omega
    have g1 := g_e hp (show z_k z p < 3 by omega)
    obtain ⟨i1, i2, i3, i4, i5, i6⟩ := ih (s + 1) (sum + z_v z p) (ab_u st 5 (9 * v + 3 * s + t) (z_v z p)) (z_e z p) g1.2 h
    have hs : (v_s z v t n (s + 1) (sum + z_v z p) (ab_u st 5 (9 * v + 3 * s + t) (z_v z p)) (z_e z p)).2.2 5 (9 * v + 3 * s + t) = z_v z p := by
      rw [i4 _ (fun k h1 h2 => by omega), uu_e]
    refine ⟨by have := g1.1; omega, i2, fun g hg => by rw [i3 g hg, uu_f hg], fun j hj => ?_, fun k h1 h2 => ?_, fun _ => ?_⟩
    · rw [i4 j (fun k h1 h2 => hj k (by omega) (by omega)), uu_j (hj s (by omega) (by omega))]
    · by_cases ek : k = s
      · rw [ek, hs]
        exact hc.2.1
      · exact i5 k (by omega) (by omega)
    · rw [show n + 1 = 1 + n by omega, pu_sp]
      have e1 : pu_s (fun k => (v_s z v t n (s + 1) (sum + z_v z p) (ab_u st 5 (9 * v + 3 * s + t) (z_v z p)) (z_e z p)).2.2 5 (9 * v + 3 * (s + k) + t)) 1 = z_v z p := by
        show 0 + _ = _
        rw [Nat.zero_add]
        exact hs
      rw [e1, pu_sc (g := fun k => (v_s z v t n (s + 1) (sum + z_v z p) (ab_u st 5 (9 * v + 3 * s + t) (z_v z p)) (z_e z p)).2.2 5 (9 * v + 3 * (s + 1 + k) + t)) (fun k _ => by rw [show s + (1 + k) = s + 1 + k by omega])]
      rcases Nat.eq_zero_or_pos n with y | y
      · subst y
        show sum + (z_v z p + 0) = 20
        have := hc.2.2 rfl
        omega
      · have := i6 y
        omega
theorem v_t_p {v S : Nat} (hS : 2 ≤ S ∧ S ≤ 3) : ∀ (n t : Nat) (st : ps_) (p : Nat), p ≤ z.2 → t + n ≤ 3 → (v_t z v S n t st p).1 = 0 → p ≤ (v_t z v S n t st p).2.1 ∧ (v_t z v S n t st p).2.1 ≤ z.2 ∧ (∀ g, g ≠ 5 → (v_t z v S n t st p).2.2 g = st g) ∧ (∀ j, (j < 9 * v ∨ 9 * v + 9 ≤ j) → (v_t z v S n t st p).2.2 5 j = st 5 j) ∧ (∀ u s, u < t → s < 3 → (v_t z v S n t st p).2.2 5 (9 * v + 3 * s + u) = st 5 (9 * v + 3 * s + u)) ∧ ∀ u, t ≤ u → u < t + n → (∀ s, s < S → (v_t z v S n t st p).2.2 5 (9 * v + 3 * s + u) ≤ 20) ∧ pu_s (fun s => (v_t z v S n t st p).2.2 5 (9 * v + 3 * s + u)) S = 20 := by
  intro n
  induction n with
  | zero =>
    intro t st p hp _ h
    exact ⟨Nat.le_refl p, hp, fun _ _ => rfl, fun _ _ => rfl, fun _ _ _ _ => rfl, fun k h1 h2 => by omega⟩
  | succ n ih =>
    intro t st p hp ht h
    have e : v_t z v S (n + 1) t st p = if (v_s z v t S 0 0 st p).1 = 0 then v_t z v S n (t + 1) (v_s z v t S 0 0 st p).2.2 (v_s z v t S 0 0 st p).2.1 else v_s z v t S 0 0 st p := rfl
    rw [e] at h ⊢
    by_cases c : (v_s z v t S 0 0 st p).1 = 0
    · rw [if_pos c] at h ⊢
      obtain ⟨s1, s2, s3, s4, s5, s6⟩ := v_s_p S 0 0 st p hp c
      obtain ⟨i1, i2, i3, i4, i5, i6⟩ := ih (t + 1) _ _ s2 (by omega) h
      refine ⟨by omega, i2, fun g hg => by rw [i3 g hg, s3 g hg], fun j hj => ?_, fun u s hu hs => ?_, fun u h1 h2 => ?_⟩
      · rw [i4 j hj, s4 j (fun k _ hk => by omega)]
      · rw [i5 u s (by omega) hs, s4 _ (fun k _ hk => by omega)]
      · by_cases eu : u = t
        · subst eu
          refine ⟨fun s hs => ?_, ?_⟩
          · rw [i5 u s (by omega) (by omega)]
            exact s5 s (by omega) (by omega)
          · have := s6 (by omega)
            rw [Nat.zero_add] at this
            rw [← this]
            exact pu_sc (fun s hs => by rw [i5 u s (by omega) (by omega), Nat.zero_add])
        · exact i6 u (by omega) (by omega)
    · rw [if_neg c] at h
      exact absurd h c
theorem PJ_voter (hp : p ≤ z.2) (hk : z_k z p < 3) (hJ : PJ_ st) (h : (b_voter z st p).1 = 0) : g_p z p (b_voter z st p).2.1 ∧ PJ_ (b_voter z st p).2.2 ∧ (b_voter z st p).2.2 0 7 = st 0 7 := by
  obtain ⟨⟨a1, a2, a3, a4, a5, a6, a7⟩, ⟨n1, n2, n3, n4, n5⟩, hC, hD, e1, e2, e3⟩ := hJ
  unfold b_voter at h ⊢
  obtain ⟨c1, q1⟩ := ch_0 h
  rw [q1] at h ⊢
  obtain ⟨c2, q2⟩ := ch_0 h
  rw [q2] at h ⊢
  obtain ⟨c3, q3⟩ := ch_0 h
  rw [q3] at h ⊢
  obtain ⟨c4, q4⟩ := ch_0 h
  rw [q4] at h ⊢
  have hb : st 0 1 < 7 := by
    split at c1
    · rename_i g
      exact g
    · omega
  obtain ⟨k1, x1, t1, v1⟩ := c_new0 c2
  obtain ⟨k2, x2⟩ := c_key0 (by omega) c3
  obtain ⟨k3, w1, w2⟩ := c_num0 c4
  have g1 := g_e hp hk
  have g2 := g_e g1.2 (show z_k z (z_e z p) < 3 by omega)
  have g3 := g_e g2.2 (show z_k z (z_e z (z_e z p)) < 3 by omega)
  have g4 := g_e g3.2 (show z_k z (z_e z (z_e z (z_e z p))) < 3 by omega)
  obtain ⟨y1, y2, y3⟩ := z_wk g1.2 k1
  revert h
  generalize ewn : z_w z (z_e z p) = wn at *
  generalize eS : z_v z (z_e z (z_e z (z_e z p))) = S at *
  generalize ep4 : z_e z (z_e z (z_e z (z_e z p))) = p4 at *
  intro h
  by_cases c5 : (v_t z (st 0 1) S (st 0 0) 0 (v_0 st (st 0 1) wn S) p4).1 = 0
  · rw [if_pos c5]
    obtain ⟨i1, i2, i3, i4, i5, i6⟩ := v_t_p (v := st 0 1) ⟨w1, w2⟩ (st 0 0) 0 (v_0 st (st 0 1) wn S) p4 g4.2 (by omega) c5
    generalize v_t z (st 0 1) S (st 0 0) 0 (v_0 st (st 0 1) wn S) p4 = R at *
    have j0 : R.2.2 0 = st 0 := by rw [i3 0 (by omega)]; rfl
    have j1 : R.2.2 1 = st 1 := by rw [i3 1 (by omega)]; rfl
    have j2 : R.2.2 2 = ab_u st 2 (st 0 1) wn 2 := by rw [i3 2 (by omega)]; rfl
    have j3 : R.2.2 3 = st 3 := by rw [i3 3 (by omega)]; rfl
    have j4 : R.2.2 4 = ab_u st 4 (st 0 1) S 4 := by rw [i3 4 (by omega)]; rfl
    have j7 : R.2.2 7 = ab_u st 7 (st 0 1) 0 7 := by rw [i3 7 (by omega)]; rfl
    have j8 : R.2.2 8 = st 8 := by rw [i3 8 (by omega)]; rfl
    have j9 : R.2.2 9 = st 9 := by rw [i3 9 (by omega)]; rfl
    have j10 : R.2.2 10 = ab_u st 10 (st 0 1) 1 10 := by rw [i3 10 (by omega)]; rfl
    have j6 : ∀ j, R.2.2 6 j = if 9 * st 0 1 ≤ j ∧ j < 9 * st 0 1 + 9 then 99 else st 6 j := fun j => by
      rw [i3 6 (by omega)]
      show (if 6 = 6 ∧ 9 * st 0 1 ≤ j ∧ j < 9 * st 0 1 + 9 then 99 else _) = _
      by_cases g : 9 * st 0 1 ≤ j ∧ j < 9 * st 0 1 + 9
      · rw [if_pos g, if_pos ⟨rfl, g⟩]
      · rw [if_neg g, if_neg (fun y => g y.2)]
        rfl
    refine ⟨⟨by have := g1.1; have := g2.1; have := g3.1; have := g4.1; show p < R.2.1; omega, i2⟩, ?_, by show R.2.2 0 7 = st 0 7; rw [j0]⟩
    show ((R.2.2 0 0 ≤ 3 ∧ st 0 1 + 1 ≤ 7 ∧ R.2.2 0 6 = 1 ∧ R.2.2 0 0 ≤ R.2.2 0 7 ∧ 2 ≤ R.2.2 0 0 ∧ t_sum (R.2.2 3) (R.2.2 0 0) = 20 ∧ ∀ t, t < R.2.2 0 0 → 1 ≤ R.2.2 3 t ∧ R.2.2 3 t ≤ 19)) ∧ PB_ (R.2.2 0 0) (st 0 1 + 1) (R.2.2 1) (R.2.2 2) ∧ PC_ (R.2.2 0 0) (st 0 1 + 1) (R.2.2 4) (R.2.2 10) (R.2.2 7) (R.2.2 8) (R.2.2 9) (R.2.2 5) ∧ PD_ (st 0 1 + 1) (R.2.2 6) ∧ PE_ (R.2.2 0 0) (st 0 1 + 1) (R.2.2 0 2) (R.2.2 0 3) (R.2.2 0 4) (R.2.2 0 5)
    rw [j0, j1, j2, j3, j4, j7, j8, j9, j10]
    refine ⟨⟨a1, by omega, a3, a4, a5, a6, a7⟩, ⟨n1, fun v hv => ?_, n3, fun v u hv hu eu => ?_, fun t v ht hv => ?_⟩, fun v hv => ?_, fun w t e hw ht he => ?_, e1, e2, by omega⟩
    · by_cases e : v = st 0 1
      · rw [e, uu_e]
        exact ⟨y1, y2⟩
      · rw [uu_j e]
        exact n2 v (by omega)
    · have hw := fV_w k1 v1
      by_cases e : v = st 0 1
      · by_cases e' : u = st 0 1
        · rw [e, e']
        · rw [e, uu_e, uu_j e'] at eu
          exact absurd (eu.symm.trans ewn.symm) (hw u (by omega))
      · by_cases e' : u = st 0 1
        · rw [e', uu_e, uu_j e] at eu
          exact absurd (eu.trans ewn.symm) (hw v (by omega))
        · rw [uu_j e, uu_j e'] at eu
          exact n4 v u (by omega) (by omega) eu
    · by_cases e : v = st 0 1
      · rw [e, uu_e]
        have := fT_w k1 t1 t ht
        rw [ewn] at this
        exact this
      · rw [uu_j e]
        exact n5 t v ht (by omega)
    · by_cases e : v = st 0 1
      · rw [e, uu_e, uu_e, uu_e]
        refine ⟨⟨w1, w2⟩, by omega, by omega, fun y => by omega, fun y => by omega, fun t ht => i6 t (by omega) (by omega)⟩
      · rw [uu_j e, uu_j e, uu_j e]
        obtain ⟨f1, f2, f3, f4, f5, f6⟩ := hC v (by omega)
        refine ⟨f1, f2, f3, f4, f5, fun t ht => ⟨fun s hs => ?_, ?_⟩⟩
        · rw [i4 _ (by omega)]
          exact (f6 t ht).1 s hs
        · rw [← (f6 t ht).2]
          exact pu_sc (fun s hs => by rw [i4 _ (by omega)]; rfl)
    · rw [j6]
      by_cases g : 9 * st 0 1 ≤ 9 * w + 3 * t + e ∧ 9 * w + 3 * t + e < 9 * st 0 1 + 9
      · rw [if_pos g]
        exact Or.inr rfl
      · rw [if_neg g]
        exact hD w t e (by omega) ht he
  · rw [if_neg c5] at h
    exact absurd h c5
theorem l_2_p {who : Nat} (hp : p ≤ z.2) (hw : who < st 0 1 ∨ who = 7) (hJ : PJ_ st) (h : (l_2 z st who p).1 = 0) : g_p z p (l_2 z st who p).2.1 ∧ PJ_ (l_2 z st who p).2.2 ∧ (l_2 z st who p).2.2 0 7 = st 0 7 := by
  obtain ⟨hA, hB, hC, hD, hE⟩ := hJ
  unfold l_2 at h ⊢
  obtain ⟨c1, q1⟩ := ch_0 h
  rw [q1] at h ⊢
  obtain ⟨c2, q2⟩ := ch_0 h
  rw [q2] at h ⊢
  obtain ⟨c3, q3⟩ := ch_0 h
  rw [q3]
  obtain ⟨k1, x1, t1⟩ := c_tr0 c1
  obtain ⟨k2, x2, t2⟩ := c_tr0 c2
  obtain ⟨k3, w1, w2⟩ := c_num0 c3
  have g1 := g_e hp (show z_k z p < 3 by omega)
  have g2 := g_e g1.2 (show z_k z (z_e z p) < 3 by omega)
  have g3 := g_e g2.2 (show z_k z (z_e z (z_e z p)) < 3 by omega)
  refine ⟨g_t g1 (g_t g2 g3), ⟨hA, hB, hC, fun w t e hw2 ht he => ?_, hE⟩, rfl⟩
  show ab_u st 6 _ _ 6 (9 * w + 3 * t + e) ≤ 50 ∨ ab_u st 6 _ _ 6 (9 * w + 3 * t + e) = 99
  by_cases g : 9 * w + 3 * t + e = 9 * who + 3 * fT_ z st p + fT_ z st (z_e z p)
  · rw [g, uu_e]
    exact Or.inl w2
  · rw [uu_j g]
    exact hD w t e hw2 ht he
theorem PJ_loss (hp : p ≤ z.2) (hk : z_k z p < 3) (hJ : PJ_ st) (h : (b_loss z st p).1 = 0) : g_p z p (b_loss z st p).2.1 ∧ PJ_ (b_loss z st p).2.2 ∧ (b_loss z st p).2.2 0 7 = st 0 7 := by
  unfold b_loss at h ⊢
  obtain ⟨c1, q1⟩ := ch_0 h
  rw [q1] at h ⊢
  have g1 := g_e hp hk
  by_cases c2 : fV_ z st (z_e z p) < st 0 1
  · rw [if_pos c2] at h ⊢
    have hz : zN_ z (z_e z p) := by
      split at c1
      · rename_i g
        exact g
      · omega
    have g2 := g_e g1.2 (show z_k z (z_e z p) < 3 by have := hz.1; omega)
    obtain ⟨r1, r2⟩ := l_2_p g2.2 (Or.inl c2) hJ h
    exact ⟨g_t g1 (g_t g2 r1), r2⟩
  · rw [if_neg c2] at h ⊢
    obtain ⟨r1, r2⟩ := l_2_p g1.2 (Or.inr rfl) hJ h
    exact ⟨g_t g1 r1, r2⟩
theorem w_s_p {v T : Nat} : ∀ (n s : Nat) (st : ps_) (p : Nat), p ≤ z.2 → st 0 0 = T → (w_s z v n s st p).1 = 0 → p ≤ (w_s z v n s st p).2.1 ∧ (w_s z v n s st p).2.1 ≤ z.2 ∧ (∀ g, g ≠ 9 → (w_s z v n s st p).2.2 g = st g) ∧ (∀ j, (∀ k, s ≤ k → k < s + n → j ≠ 3 * v + k) → (w_s z v n s st p).2.2 9 j = st 9 j) ∧ ∀ k, s ≤ k → k < s + n → (w_s z v n s st p).2.2 9 (3 * v + k) < T ∨ (w_s z v n s st p).2.2 9 (3 * v + k) = 9 := by
  intro n
  induction n with
  | zero =>
    intro s st p hp _ h
    exact ⟨Nat.le_refl p, hp, fun _ _ => rfl, fun _ _ => rfl, fun k h1 h2 => by omega⟩
  | succ n ih =>
    intro s st p hp hT h
    have e : w_s z v (n + 1) s st p = if z_x z p = 11 then w_s z v n (s + 1) (ab_u st 9 (3 * v + s) 9) (z_e z p) else ch_ (c_tr z st p) (z_p z p) st (w_s z v n (s + 1) (ab_u st 9 (3 * v + s) (fT_ z st p)) (z_e z p)) := rfl
    rw [e] at h ⊢
    have key : ∀ y, (y < T ∨ y = 9) → z_k z p < 3 → (w_s z v n (s + 1) (ab_u st 9 (3 * v + s) y) (z_e z p)).1 = 0 → p ≤ (w_s z v n (s + 1) (ab_u st 9 (3 * v + s) y) (z_e z p)).2.1 ∧ (w_s z v n (s + 1) (ab_u st 9 (3 * v + s) y) (z_e z p)).2.1 ≤ z.2 ∧ (∀ g, g ≠ 9 → (w_s z v n (s + 1) (ab_u st 9 (3 * v + s) y) (z_e z p)).2.2 g = st g) ∧ (∀ j, (∀ k, s ≤ k → k < s + (n + 1) → j ≠ 3 * v + k) → (w_s z v n (s + 1) (ab_u st 9 (3 * v + s) y) (z_e z p)).2.2 9 j = st 9 j) ∧ ∀ k, s ≤ k → k < s + (n + 1) → (w_s z v n (s + 1) (ab_u st 9 (3 * v + s) y) (z_e z p)).2.2 9 (3 * v + k) < T ∨ (w_s z v n (s + 1) (ab_u st 9 (3 * v + s) y) (z_e z p)).2.2 9 (3 * v + k) = 9 := by
      intro y hy hk h
      have g1 := g_e hp hk
      obtain ⟨i1, i2, i3, i4, i5⟩ := ih (s + 1) (ab_u st 9 (3 * v + s) y) (z_e z p) g1.2 hT h
      refine ⟨by have := g1.1; omega, i2, fun g hg => by rw [i3 g hg, uu_f hg], fun j hj => ?_, fun k h1 h2 => ?_⟩
      · rw [i4 j (fun k h1 h2 => hj k (by omega) (by omega)), uu_j (hj s (by omega) (by omega))]
      · by_cases ek : k = s
        · rw [ek, i4 _ (fun k h1 h2 => by omega), uu_e]
          exact hy
        · exact i5 k (by omega) (by omega)
    by_cases c : z_x z p = 11
    · rw [if_pos c] at h ⊢
      exact key 9 (Or.inr rfl) (by have := z_x0 (show z_x z p < 16 by omega); omega) h
    · rw [if_neg c] at h ⊢
      obtain ⟨c1, q1⟩ := ch_0 h
      rw [q1] at h ⊢
      obtain ⟨k1, x1, t1⟩ := c_tr0 c1
      exact key _ (Or.inl (by omega)) (by omega) h
theorem PJ_way (hp : p ≤ z.2) (hk : z_k z p < 3) (hJ : PJ_ st) (h : (b_way z st p).1 = 0) : g_p z p (b_way z st p).2.1 ∧ PJ_ (b_way z st p).2.2 ∧ (b_way z st p).2.2 0 7 = st 0 7 := by
  obtain ⟨hA, hB, hC, hD, hE⟩ := hJ
  unfold b_way at h ⊢
  obtain ⟨c1, q1⟩ := ch_0 h
  rw [q1] at h ⊢
  obtain ⟨c2, q2⟩ := ch_0 h
  rw [q2] at h ⊢
  obtain ⟨k1, x1, t1⟩ := c_vo0 c1
  have hx : 7 ≤ z_x z (z_e z (z_e z p)) ∧ z_x z (z_e z (z_e z p)) ≤ 10 := by
    split at c2
    · rename_i g
      exact g
    · omega
  have k2 := z_x0 (show z_x z (z_e z (z_e z p)) < 16 by omega)
  have g1 := g_e hp hk
  have g2 := g_e g1.2 (show z_k z (z_e z p) < 3 by omega)
  have g3 := g_e g2.2 (show z_k z (z_e z (z_e z p)) < 3 by omega)
  generalize fV_ z st (z_e z p) = v at *
  generalize z_e z (z_e z (z_e z p)) = p3 at *
  generalize ew : z_x z (z_e z (z_e z p)) - 7 = w at *
  have hw : w ≤ 3 := by omega
  unfold w_2 at h ⊢
  have hg : ∀ q, g_p z p3 q → g_p z p q := fun q h => g_t g1 (g_t g2 (g_t g3 h))
  have hC2 : ∀ v', v' < st 0 1 → v' ≠ v → _ := fun v' hv _ => hC v' hv
  obtain ⟨f1, f2, f3, f4, f5, f6⟩ := hC v t1
  by_cases w2 : w = 2
  · rw [if_pos w2] at h ⊢
    obtain ⟨c3, q3⟩ := ch_0 h
    rw [q3]
    obtain ⟨k3, y1, y2⟩ := c_num0 c3
    have g4 := g_e g3.2 (show z_k z p3 < 3 by omega)
    refine ⟨hg _ g4, ⟨hA, hB, fun v' hv => ?_, hD, hE⟩, rfl⟩
    show (2 ≤ st 4 v' ∧ st 4 v' ≤ 3) ∧ st 10 v' ≤ 9 ∧ ab_u (ab_u st 8 v (z_v z p3)) 7 v 2 7 v' ≤ 3 ∧ (ab_u (ab_u st 8 v (z_v z p3)) 7 v 2 7 v' = 2 → 1 ≤ ab_u st 8 v (z_v z p3) 8 v' ∧ ab_u st 8 v (z_v z p3) 8 v' ≤ 20) ∧ (ab_u (ab_u st 8 v (z_v z p3)) 7 v 2 7 v' = 3 → _) ∧ _
    by_cases e : v' = v
    · subst e
      rw [uu_e, uu_e]
      exact ⟨f1, f2, by omega, fun _ => ⟨y1, y2⟩, fun y => by omega, f6⟩
    · rw [uu_j e, uu_k (by omega), uu_j e]
      exact hC v' hv
  · rw [if_neg w2] at h ⊢
    by_cases w3 : w = 3
    · rw [if_pos w3] at h ⊢
      by_cases c3 : (w_s z v (st 4 v) 0 st p3).1 = 0
      · rw [if_pos c3]
        obtain ⟨i1, i2, i3, i4, i5⟩ := w_s_p (v := v) (T := st 0 0) (st 4 v) 0 st p3 g3.2 rfl c3
        generalize w_s z v (st 4 v) 0 st p3 = R at *
        have j : ∀ g, g ≠ 9 → g ≠ 7 → ab_u R.2.2 7 v 3 g = st g := fun g h1 h2 => by rw [uu_f h2, i3 g h1]
        refine ⟨⟨by have := g1.1; have := g2.1; have := g3.1; show p < R.2.1; omega, i2⟩, ?_, by show ab_u R.2.2 7 v 3 0 7 = st 0 7; rw [j 0 (by omega) (by omega)]⟩
        show (ab_u R.2.2 7 v 3 0 0 ≤ 3 ∧ ab_u R.2.2 7 v 3 0 1 ≤ 7 ∧ ab_u R.2.2 7 v 3 0 6 = 1 ∧ ab_u R.2.2 7 v 3 0 0 ≤ ab_u R.2.2 7 v 3 0 7 ∧ 2 ≤ ab_u R.2.2 7 v 3 0 0 ∧ t_sum (ab_u R.2.2 7 v 3 3) (ab_u R.2.2 7 v 3 0 0) = 20 ∧ ∀ t, t < ab_u R.2.2 7 v 3 0 0 → 1 ≤ ab_u R.2.2 7 v 3 3 t ∧ ab_u R.2.2 7 v 3 3 t ≤ 19) ∧ PB_ (ab_u R.2.2 7 v 3 0 0) (ab_u R.2.2 7 v 3 0 1) (ab_u R.2.2 7 v 3 1) (ab_u R.2.2 7 v 3 2) ∧ PC_ (ab_u R.2.2 7 v 3 0 0) (ab_u R.2.2 7 v 3 0 1) (ab_u R.2.2 7 v 3 4) (ab_u R.2.2 7 v 3 10) (ab_u R.2.2 7 v 3 7) (ab_u R.2.2 7 v 3 8) (ab_u R.2.2 7 v 3 9) (ab_u R.2.2 7 v 3 5) ∧ PD_ (ab_u R.2.2 7 v 3 0 1) (ab_u R.2.2 7 v 3 6) ∧ PE_ (ab_u R.2.2 7 v 3 0 0) (ab_u R.2.2 7 v 3 0 1) (ab_u R.2.2 7 v 3 0 2) (ab_u R.2.2 7 v 3 0 3) (ab_u R.2.2 7 v 3 0 4) (ab_u R.2.2 7 v 3 0 5)
        rw [j 0 (by omega) (by omega), j 1 (by omega) (by omega), j 2 (by omega) (by omega), j 3 (by omega) (by omega), j 4 (by omega) (by omega), j 5 (by omega) (by omega), j 6 (by omega) (by omega), j 8 (by omega) (by omega), j 10 (by omega) (by omega), uu_f (show 9 ≠ 7 by omega)]
        refine ⟨hA, hB, fun v' hv => ?_, hD, hE⟩
        by_cases e : v' = v
        · subst e
          rw [uu_e]
          exact ⟨f1, f2, by omega, fun y => by omega, fun _ s hs => i5 s (by omega) (by omega), f6⟩
        · rw [uu_j e, i3 7 (by omega)]
          obtain ⟨m1, m2, m3, m4, m5, m6⟩ := hC v' hv
          refine ⟨m1, m2, m3, m4, fun y s hs => ?_, m6⟩
          rw [i4 _ (fun k _ hk => by omega)]
          exact m5 y s hs
      · rw [if_neg c3] at h
        exact absurd h c3
    · rw [if_neg w3]
      refine ⟨g_t g1 (g_t g2 g3), ⟨hA, hB, fun v' hv => ?_, hD, hE⟩, rfl⟩
      show (2 ≤ st 4 v' ∧ st 4 v' ≤ 3) ∧ st 10 v' ≤ 9 ∧ ab_u st 7 v w 7 v' ≤ 3 ∧ (ab_u st 7 v w 7 v' = 2 → 1 ≤ st 8 v' ∧ st 8 v' ≤ 20) ∧ (ab_u st 7 v w 7 v' = 3 → _) ∧ _
      by_cases e : v' = v
      · subst e
        rw [uu_e]
        exact ⟨f1, f2, hw, fun y => by omega, fun y => by omega, f6⟩
      · rw [uu_j e]
        exact hC v' hv
theorem PJ_weight (hp : p ≤ z.2) (hk : z_k z p < 3) (hJ : PJ_ st) (h : (b_weight z st p).1 = 0) : g_p z p (b_weight z st p).2.1 ∧ PJ_ (b_weight z st p).2.2 ∧ (b_weight z st p).2.2 0 7 = st 0 7 := by
  obtain ⟨hA, hB, hC, hD, hE⟩ := hJ
  unfold b_weight at h ⊢
  obtain ⟨c1, q1⟩ := ch_0 h
  rw [q1] at h ⊢
  obtain ⟨c2, q2⟩ := ch_0 h
  rw [q2]
  obtain ⟨k1, x1, t1⟩ := c_vo0 c1
  obtain ⟨k2, y1, y2⟩ := c_num0 c2
  have g1 := g_e hp hk
  have g2 := g_e g1.2 (show z_k z (z_e z p) < 3 by omega)
  have g3 := g_e g2.2 (show z_k z (z_e z (z_e z p)) < 3 by omega)
  refine ⟨g_t g1 (g_t g2 g3), ⟨hA, hB, fun v' hv => ?_, hD, hE⟩, rfl⟩
  show (2 ≤ st 4 v' ∧ st 4 v' ≤ 3) ∧ ab_u st 10 (fV_ z st (z_e z p)) (z_v z (z_e z (z_e z p))) 10 v' ≤ 9 ∧ _
  obtain ⟨f1, f2, f3⟩ := hC v' hv
  by_cases e : v' = fV_ z st (z_e z p)
  · rw [e, uu_e, ← e]
    exact ⟨f1, y2, f3⟩
  · rw [uu_j e]
    exact ⟨f1, f2, f3⟩
theorem PJ_rule (hp : p ≤ z.2) (hk : z_k z p < 3) (hJ : PJ_ st) (h : (b_rule z st p).1 = 0) : g_p z p (b_rule z st p).2.1 ∧ PJ_ (b_rule z st p).2.2 ∧ (b_rule z st p).2.2 0 7 = st 0 7 := by
  obtain ⟨hA, hB, hC, hD, e1, e2, e3⟩ := hJ
  have g1 := g_e hp hk
  unfold b_rule at h ⊢
  by_cases c0 : z_x z (z_e z p) = 12
  · rw [if_pos c0] at h ⊢
    have k1 := z_x0 (show z_x z (z_e z p) < 16 by omega)
    have g2 := g_e g1.2 (show z_k z (z_e z p) < 3 by omega)
    unfold r_most at h ⊢
    by_cases c1 : z_x z (z_e z (z_e z p)) = 13
    · rw [if_pos c1] at h ⊢
      have k2 := z_x0 (show z_x z (z_e z (z_e z p)) < 16 by omega)
      have g3 := g_e g2.2 (show z_k z (z_e z (z_e z p)) < 3 by omega)
      obtain ⟨c2, q2⟩ := ch_0 h
      rw [q2]
      obtain ⟨k3, x3, t3⟩ := c_vo0 c2
      have g4 := g_e g3.2 (show z_k z (z_e z (z_e z (z_e z p))) < 3 by omega)
      exact ⟨g_t g1 (g_t g2 (g_t g3 g4)), ⟨hA, hB, hC, hD, Nat.zero_le _, fun y => absurd y (Nat.lt_irrefl 0), Or.inl t3⟩, rfl⟩
    · rw [if_neg c1]
      exact ⟨g_t g1 g2, ⟨hA, hB, hC, hD, Nat.zero_le _, fun y => absurd y (Nat.lt_irrefl 0), Or.inr rfl⟩, rfl⟩
  · rw [if_neg c0] at h ⊢
    obtain ⟨c1, q1⟩ := ch_0 h
    rw [q1] at h ⊢
    obtain ⟨k1, x1⟩ := c_key0 (by omega) c1
    have g2 := g_e g1.2 (show z_k z (z_e z p) < 3 by omega)
    unfold r_need at h ⊢
    obtain ⟨c2, q2⟩ := ch_0 h
    rw [q2] at h ⊢
    obtain ⟨c3, q3⟩ := ch_0 h
    rw [q3] at h ⊢
    obtain ⟨c4, q4⟩ := ch_0 h
    rw [q4] at h ⊢
    obtain ⟨c5, q5⟩ := ch_0 h
    rw [q5]
    obtain ⟨k2, y1, y2⟩ := c_num0 c2
    obtain ⟨k3, x3, t3⟩ := c_tr0 c3
    obtain ⟨k4, x4⟩ := c_key0 (by omega) c4
    obtain ⟨k5, x5, t5⟩ := c_tr0 c5
    generalize z_e z (z_e z p) = p2 at *
    have g3 := g_e g2.2 (show z_k z p2 < 3 by omega)
    have g4 := g_e g3.2 (show z_k z (z_e z p2) < 3 by omega)
    have g5 := g_e g4.2 (show z_k z (z_e z (z_e z p2)) < 3 by omega)
    have g6 := g_e g5.2 (show z_k z (z_e z (z_e z (z_e z p2))) < 3 by omega)
    exact ⟨g_t g1 (g_t g2 (g_t g3 (g_t g4 (g_t g5 g6)))), ⟨hA, hB, hC, hD, y2, fun _ => ⟨t3, t5⟩, e3⟩, rfl⟩
theorem b_fin0 {r : rs_} (h : (b_fin z r).1 = 0) : r.1 = 0 ∧ z_k z r.2.1 = 2 ∧ b_fin z r = (0, z_e z r.2.1, ab_u r.2.2 0 7 (r.2.2 0 7 + 1)) := by
  unfold b_fin at h ⊢
  by_cases c : r.1 = 0
  · rw [if_pos c] at h ⊢
    obtain ⟨c1, q1⟩ := ch_0 h
    rw [q1]
    exact ⟨c, c_stop0 c1, rfl⟩
  · rw [if_neg c] at h
    exact absurd h c
/-- a line keeps it -/
theorem PI_line (hp : p ≤ z.2) (hI : PI_ st) (h : (p_line z st p).1 = 0) : g_p z p (p_line z st p).2.1 ∧ PI_ (p_line z st p).2.2 ∧ (p_line z st p).2.2 0 7 = st 0 7 + 1 ∧ z_k z p = 0 := by
  unfold p_line at h ⊢
  by_cases c : 5 < z_x z p
  · rw [if_pos c] at h
    exact absurd (show 1 = 0 from h) (by decide)
  · rw [if_neg c] at h ⊢
    have k0 := z_x0 (show z_x z p < 16 by omega)
    by_cases c0 : z_x z p = 0
    · rw [if_pos c0] at h ⊢
      obtain ⟨r1, k2, q⟩ := b_fin0 h
      obtain ⟨g, P, e7⟩ := PI_truth hp (by omega) hI r1
      rw [q]
      refine ⟨g_t g (g_e g.2 (by omega)), P, ?_, k0⟩
      rw [← e7]
      show ab_u (b_truth z st p).2.2 0 7 ((b_truth z st p).2.2 0 7 + 1) 0 7 = (b_truth z st p).2.2 0 7 + 1
      exact uu_e
    · rw [if_neg c0] at h ⊢
      obtain ⟨c1, q1⟩ := ch_0 h
      rw [q1] at h ⊢
      obtain ⟨r1, k2, q⟩ := b_fin0 h
      have hJ : PJ_ (ab_u st 0 6 1) := by
        obtain ⟨⟨a1, a2, a3, a4, a5, a6, a7⟩, hB, hC, hD, hE⟩ := hI
        have hb : st 0 0 ≤ st 0 7 ∧ t_ok st := by
          by_cases y : st 0 6 = 0
          · have := a5 y
            refine ⟨by omega, Classical.byContradiction (fun n => ?_)⟩
            rw [if_pos ⟨y, n⟩] at c1
            exact absurd c1 (by decide)
          · have := a6 (by omega)
            exact ⟨by omega, this.2⟩
        exact ⟨⟨a1, a2, rfl, hb.1, hb.2.1, hb.2.2, a7⟩, hB, hC, hD, hE⟩
      have key : ∀ R : rs_, b_any z (ab_u st 0 6 1) (z_x z p) p = R → g_p z p R.2.1 ∧ PJ_ R.2.2 ∧ R.2.2 0 7 = st 0 7 → g_p z p (b_fin z (b_any z (ab_u st 0 6 1) (z_x z p) p)).2.1 ∧ PI_ (b_fin z (b_any z (ab_u st 0 6 1) (z_x z p) p)).2.2 ∧ (b_fin z (b_any z (ab_u st 0 6 1) (z_x z p) p)).2.2 0 7 = st 0 7 + 1 ∧ z_k z p = 0 := by
        rintro R eR ⟨g, P, e7⟩
        rw [q]
        rw [eR] at k2 ⊢
        refine ⟨g_t g (g_e g.2 (by omega)), PJ_fin P, ?_, k0⟩
        rw [← e7]
        show ab_u R.2.2 0 7 (R.2.2 0 7 + 1) 0 7 = R.2.2 0 7 + 1
        exact uu_e
      refine key _ rfl ?_
      revert r1
      unfold b_any
      intro r1
      by_cases x1 : z_x z p = 1
      · rw [if_pos x1] at r1 ⊢
        exact PJ_voter hp (by omega) hJ r1
      · rw [if_neg x1] at r1 ⊢
        by_cases x2 : z_x z p = 2
        · rw [if_pos x2] at r1 ⊢
          exact PJ_loss hp (by omega) hJ r1
        · rw [if_neg x2] at r1 ⊢
          by_cases x3 : z_x z p = 3
          · rw [if_pos x3] at r1 ⊢
            exact PJ_way hp (by omega) hJ r1
          · rw [if_neg x3] at r1 ⊢
            by_cases x4 : z_x z p = 4
            · rw [if_pos x4] at r1 ⊢
              exact PJ_weight hp (by omega) hJ r1
            · rw [if_neg x4] at r1 ⊢
              exact PJ_rule hp (by omega) hJ r1
end PINW
