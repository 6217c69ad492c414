/-! weighed: sums by weights that are tried -/
/-- the weights of a table by its number -/
def wt_ (V q v : Nat) : Nat := q / 4 ^ (V - 1 - v) % 4
theorem wt_4 {V q v : Nat} : wt_ V q v ≤ 3 := by
  have := Nat.mod_lt (q / 4 ^ (V - 1 - v)) (show 0 < 4 by omega)
  unfold wt_
  omega
def cx_ (A : mA_) (w : Nat → Nat) (t u : Nat) : Nat := pu_s (fun v => if u / 4 ^ v % 4 = t then w v else 0) (aV_ A)
theorem cx_B {A : mA_} {w : Nat → Nat} {t u : Nat} (hV : aV_ A ≤ 5) (hw : ∀ v, w v ≤ 3) : cx_ A w t u ≤ 15 := by
  have h : ∀ k, k ≤ 5 → pu_s (fun v => if u / 4 ^ v % 4 = t then w v else 0) k ≤ 3 * k := by
    intro k
    induction k with
    | zero => intro _; exact Nat.le_refl 0
    | succ k ih =>
      intro hk
      have h1 := ih (by omega)
      have h2 := hw k
      show _ + (if _ then w k else 0) ≤ 3 * (k + 1)
      split <;> omega
  have h2 := h (aV_ A) hV
  unfold cx_
  omega
/-- what is lost by verdict e where truth t has weight k -/
def bx_ (A : mA_) (w : Nat → Nat) (t k e : Nat) : Nat := pu_s (fun u => if cx_ A w t u = k then bv_ A u e else 0) (4 ^ aV_ A)
/-- what is lost by need n t else e -/
def lx_ (A : mA_) (w : Nat → Nat) (t e n : Nat) : Nat := pu_s (fun u => if cx_ A w t u < n then bv_ A u e else bv_ A u t) (4 ^ aV_ A)
theorem lx_m {A : mA_} {w : Nat → Nat} {t e n : Nat} (hB : ∀ u, cx_ A w t u ≤ 15) : pu_s (fun k => if k < n then bx_ A w t k e else bx_ A w t k t) 16 = lx_ A w t e n := by
  rw [pu_sc (g := fun k => pu_s (fun u => if k = cx_ A w t u then (if k < n then bv_ A u e else bv_ A u t) else 0) (4 ^ aV_ A)) (fun k _ => by
    by_cases c : k < n
    · rw [if_pos c]
      refine pu_sc (fun u _ => ?_)
      rw [if_pos c]
      by_cases q : cx_ A w t u = k
      · rw [if_pos q, if_pos q.symm]
      · rw [if_neg q, if_neg (fun z => q z.symm)]
    · rw [if_neg c]
      refine pu_sc (fun u _ => ?_)
      rw [if_neg c]
      by_cases q : cx_ A w t u = k
      · rw [if_pos q, if_pos q.symm]
      · rw [if_neg q, if_neg (fun z => q z.symm)]), pu_sw]
  refine pu_sc (fun u _ => ?_)
  rw [pu_s1 (f := fun k => if k < n then bv_ A u e else bv_ A u t), if_pos (by have := hB u; omega)]
/-- what is lost by verdict e where truth t has weight s at least -/
def av_ (A : mA_) (w : Nat → Nat) (t s e : Nat) : Nat := pu_s (fun u => if s ≤ cx_ A w t u then bv_ A u e else 0) (4 ^ aV_ A)
theorem av_lx {A : mA_} {w : Nat → Nat} {t e n : Nat} : lx_ A w t e n + av_ A w t n e = av_ A w t n t + av_ A w t 0 e := by
  unfold lx_ av_
  rw [← pu_sa, ← pu_sa]
  refine pu_sc (fun u _ => ?_)
  rw [if_pos (Nat.zero_le _)]
  by_cases c : cx_ A w t u < n
  · rw [if_pos c, if_neg (by omega), if_neg (by omega)]
    omega
  · rw [if_neg c, if_pos (by omega), if_pos (by omega)]
theorem av_s {A : mA_} {w : Nat → Nat} {t s e : Nat} : bx_ A w t s e + av_ A w t (s + 1) e = av_ A w t s e := by
  unfold bx_ av_
  rw [← pu_sa]
  refine pu_sc (fun u _ => ?_)
  rcases Nat.lt_trichotomy (cx_ A w t u) s with c | c | c
  · rw [if_neg (by omega), if_neg (by omega), if_neg (by omega)]
  · rw [if_pos c, if_neg (by omega), if_pos (by omega)]
    omega
  · rw [if_neg (by omega), if_pos (by omega), if_pos (by omega)]
    omega
theorem av_16 {A : mA_} {w : Nat → Nat} {t e : Nat} (hB : ∀ u, cx_ A w t u ≤ 15) : av_ A w t 16 e = 0 :=
  pu_sz (fun u _ => if_neg (by have := hB u; omega))
/-- the voters for a truth in a code, by bits -/
def mk_ (V t u : Nat) : Nat := pu_s (fun v => if u / 4 ^ v % 4 = t then 2 ^ v else 0) V
theorem mk_lt {t u : Nat} : ∀ V, mk_ V t u < 2 ^ V := by
  intro V
  induction V with
  | zero => exact Nat.zero_lt_one
  | succ V ih =>
    show mk_ V t u + (if u / 4 ^ V % 4 = t then 2 ^ V else 0) < 2 ^ (V + 1)
    rw [Nat.pow_succ]
    split <;> omega
/-- the weights of a set -/
def sm_ (w : Nat → Nat) : Nat → Nat → Nat
  | 0, _ => 0
  | v + 1, m => if m < 2 ^ v then sm_ w v m else sm_ w v (m - 2 ^ v) + w v
theorem sm_k {w : Nat → Nat} {t u : Nat} : ∀ V, sm_ w V (mk_ V t u) = pu_s (fun v => if u / 4 ^ v % 4 = t then w v else 0) V := by
  intro V
  induction V with
  | zero => rfl
  | succ V ih =>
    have h := mk_lt (t := t) (u := u) V
    have em : mk_ (V + 1) t u = mk_ V t u + (if u / 4 ^ V % 4 = t then 2 ^ V else 0) := rfl
    have es : ∀ m, sm_ w (V + 1) m = if m < 2 ^ V then sm_ w V m else sm_ w V (m - 2 ^ V) + w V := fun _ => rfl
    have e2 : pu_s (fun v => if u / 4 ^ v % 4 = t then w v else 0) (V + 1) = pu_s (fun v => if u / 4 ^ v % 4 = t then w v else 0) V + (if u / 4 ^ V % 4 = t then w V else 0) := rfl
    rw [em, es, e2]
    by_cases c : u / 4 ^ V % 4 = t
    · rw [if_pos c, if_pos c, if_neg (by omega), Nat.add_sub_cancel, ih]
    · rw [if_neg c, if_neg c, Nat.add_zero, Nat.add_zero, if_pos h, ih]
theorem sm_B {w : Nat → Nat} (hw : ∀ v, w v ≤ 3) : ∀ V m, sm_ w V m ≤ 3 * V := by
  intro V
  induction V with
  | zero => intro m; exact Nat.le_refl 0
  | succ V ih =>
    intro m
    have h1 := ih m
    have h2 := ih (m - 2 ^ V)
    have h3 := hw V
    show (if m < 2 ^ V then sm_ w V m else sm_ w V (m - 2 ^ V) + w V) ≤ 3 * (V + 1)
    split <;> omega
/-- what is lost by verdict e where just these vote for truth t -/
def by_ (A : mA_) (t m e : Nat) : Nat := pu_s (fun u => if mk_ (aV_ A) t u = m then bv_ A u e else 0) (4 ^ aV_ A)
theorem by_bx {A : mA_} {w : Nat → Nat} {t s e : Nat} : pu_s (fun m => if sm_ w (aV_ A) m = s then by_ A t m e else 0) (2 ^ aV_ A) = bx_ A w t s e := by
  unfold by_ bx_
  rw [pu_sc (g := fun m => pu_s (fun u => if m = mk_ (aV_ A) t u then (if sm_ w (aV_ A) m = s then bv_ A u e else 0) else 0) (4 ^ aV_ A)) (fun m _ => by
    by_cases c : sm_ w (aV_ A) m = s
    · rw [if_pos c]
      refine pu_sc (fun u _ => ?_)
      rw [if_pos c]
      by_cases q : mk_ (aV_ A) t u = m
      · rw [if_pos q, if_pos q.symm]
      · rw [if_neg q, if_neg (fun z => q z.symm)]
    · rw [if_neg c]
      refine (pu_sz (fun u _ => ?_)).symm
      rw [if_neg c]
      split <;> rfl), pu_sw]
  refine pu_sc (fun u _ => ?_)
  rw [pu_s1 (f := fun m => if sm_ w (aV_ A) m = s then bv_ A u e else 0), if_pos (mk_lt _), sm_k]
  rfl
/-- the voters for a truth in a tuple of choices -/
def mr_ (A : mA_) (c : Nat → Nat) (t V : Nat) : Nat := pu_s (fun v => if rw_b (gr_cv A (aO_ A)) c v = t then 2 ^ v else 0) V
theorem mr_k {A : mA_} {c : Nat → Nat} {t : Nat} (hW : mt_W A) (hc : pu_t (rw_N (gr_cv A (aO_ A))) (aV_ A) c) (ht : t < aT_ A) : mk_ (aV_ A) t (kc_ A c) = mr_ A c t (aV_ A) := by
  have w1 := hW.1
  unfold mk_ mr_
  refine pu_sc (fun v hv => ?_)
  have h := cd_dig (kc_4 hW hc) (aV_ A) v hv
  rw [if_pos hv] at h
  have e : kc_ A c / 4 ^ v % 4 = cd_g (rw_b (gr_cv A (aO_ A)) c v) := h
  rw [e]
  have g := (kc_g hW hv (hc.1 v hv)).2
  have g2 : rw_b (gr_cv A (aO_ A)) c v < aT_ A ∨ rw_b (gr_cv A (aO_ A)) c v = 9 := g
  generalize rw_b (gr_cv A (aO_ A)) c v = y at *
  have e3 : cd_g y = t ↔ y = t := by
    unfold cd_g
    split <;> omega
  by_cases c2 : y = t
  · rw [if_pos (e3.mpr c2), if_pos c2]
  · rw [if_neg (fun q => c2 (e3.mp q)), if_neg c2]
theorem mr_lt {A : mA_} {c : Nat → Nat} {t : Nat} : ∀ V, mr_ A c t V < 2 ^ V := by
  intro V
  induction V with
  | zero => exact Nat.zero_lt_one
  | succ V ih =>
    show mr_ A c t V + (if rw_b (gr_cv A (aO_ A)) c V = t then 2 ^ V else 0) < 2 ^ (V + 1)
    rw [Nat.pow_succ]
    split <;> omega
theorem by_k {A : mA_} {t m e : Nat} (hW : mt_W A) (ht : t < aT_ A) : pu_n (rw_N (gr_cv A (aO_ A))) (aV_ A) (fun c => if mr_ A c t (aV_ A) = m then kc_w A c e else 0) = by_ A t m e := by
  unfold by_
  rw [← bv_sum (X := fun u => if mk_ (aV_ A) t u = m then bv_ A u e else 0) hW (fun u h => by
    rw [h e]
    split <;> rfl)]
  refine pu_nc (fun c hc => ?_)
  rw [mr_k hW hc ht, bv_at hW hc]
/-- bounds -/
theorem bv_B {A : mA_} {e : Nat} (hW : mt_W A) : pu_s (fun u => bv_ A u e) (4 ^ aV_ A) ≤ 25600000000 * 50 * 3 := by
  have w1 := hW.1
  unfold bv_
  rw [← pu_ns (G := fun b u => if cd_r A b = u then cs_l A 7 b e (aT_ A) else 0)]
  have h1 : pu_n (aS_ A) (aV_ A) (fun b => pu_s (fun u => if cd_r A b = u then cs_l A 7 b e (aT_ A) else 0) (4 ^ aV_ A)) ≤ pu_n (aS_ A) (aV_ A) (fun b => pu_s (fun t => mt_pa A b t * 50) (aT_ A)) := pu_nle (fun b hb => by
    rw [pu_sc (g := fun u => if u = cd_r A b then (fun _ => cs_l A 7 b e (aT_ A)) u else 0) (fun u _ => by
      by_cases q : cd_r A b = u
      · rw [if_pos q, if_pos q.symm]
      · rw [if_neg q, if_neg (fun z => q z.symm)]), pu_s1, if_pos (cd_rl hW hb.1)]
    exact pu_sle (fun t _ => Nat.mul_le_mul (Nat.le_refl _) (hW.2.2.2.2.2.2.2.2.2.1 7 t _)))
  rw [pu_ns (G := fun b t => mt_pa A b t * 50)] at h1
  have h2 : pu_s (fun a => pu_n (aS_ A) (aV_ A) (fun b => mt_pa A b a * 50)) (aT_ A) ≤ pu_s (fun _ => 25600000000 * 50) (aT_ A) := pu_sle (fun t _ => by
    rw [pu_nr (c := 50) (G := fun b => mt_pa A b t)]
    exact Nat.mul_le_mul (cs_paB hW) (Nat.le_refl _))
  have h3 : ∀ n, n ≤ 3 → pu_s (fun _ => 25600000000 * 50) n ≤ 25600000000 * 50 * 3 := fun n hn => by
    rcases (show n = 0 ∨ n = 1 ∨ n = 2 ∨ n = 3 by omega) with rfl | rfl | rfl | rfl <;> decide
  exact Nat.le_trans h1 (Nat.le_trans h2 (h3 _ w1))
theorem lx_B {A : mA_} {w : Nat → Nat} {t e n : Nat} (hW : mt_W A) : lx_ A w t e n < 1000000000000000000 := by
  have h1 := bv_B (e := e) hW
  have h2 := bv_B (e := t) hW
  have h3 : lx_ A w t e n ≤ pu_s (fun u => bv_ A u e + bv_ A u t) (4 ^ aV_ A) := pu_sle (fun u _ => by
    split <;> omega)
  rw [pu_sa] at h3
  omega
