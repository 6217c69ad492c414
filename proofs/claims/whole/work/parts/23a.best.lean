/-! the best rule: codes against choices -/
theorem pu_hit {N : Nat → Nat} : ∀ {k : Nat} {G : (Nat → Nat) → Nat} {b0 : Nat → Nat}, pu_t N k b0 → (∀ b, pu_t N k b → b ≠ b0 → G b = 0) → pu_n N k G = G b0 := by
  intro k
  induction k with
  | zero =>
    intro G b0 h0 _
    have e : b0 = fun _ => 0 := funext fun v => h0.2 v (Nat.zero_le v)
    rw [e]
    rfl
  | succ k ih =>
    intro G b0 h0 hz
    have h1 : pu_t N k (pu_u b0 k 0) := by
      refine ⟨fun v hv => ?_, fun v hv => ?_⟩
      · rw [pu_un (by omega)]
        exact h0.1 v (by omega)
      · by_cases e : v = k
        · rw [e, pu_ue]
        · rw [pu_un e]
          exact h0.2 v (by omega)
    show pu_s (fun a => pu_n N k (fun b => G (pu_u b k a))) (N k) = _
    rw [pu_sc (g := fun a => if a = b0 k then (fun _ => G b0) a else 0) (fun a ha => ?_), pu_s1, if_pos (h0.1 k (by omega))]
    by_cases c : a = b0 k
    · rw [if_pos c, ih (G := fun b => G (pu_u b k a)) h1 (fun b hb hne => ?_)]
      · show G (pu_u (pu_u b0 k 0) k a) = G b0
        congr 1
        funext v
        by_cases e : v = k
        · rw [e, pu_ue, c]
        · rw [pu_un e, pu_un e]
      · refine hz _ (pu_tu hb ha) (fun q => hne ?_)
        funext v
        by_cases e : v = k
        · rw [e, pu_ue]
          exact hb.2 k (Nat.le_refl _)
        · rw [pu_un e, ← q, pu_un e]
    · rw [if_neg c]
      refine pu_nz (fun b hb => hz _ (pu_tu hb ha) (fun q => c ?_))
      rw [← q, pu_ue]
theorem cd_inj {g h : Nat → Nat} (hg : ∀ v, g v < 4) (hh : ∀ v, h v < 4) : ∀ k, cd_ g k = cd_ h k → ∀ v, v < k → g v = h v := by
  intro k
  induction k with
  | zero => intro _ v hv; exact absurd hv (Nat.not_lt_zero v)
  | succ k ih =>
    intro e v hv
    have e2 : cd_ g k + g k * 4 ^ k = cd_ h k + h k * 4 ^ k := e
    have l1 := cd_lt hg k
    have l2 := cd_lt hh k
    have hM : 0 < 4 ^ k := Nat.pow_pos (by omega)
    have hk : g k = h k := by
      have d1 : (cd_ g k + g k * 4 ^ k) / 4 ^ k = g k := by rw [Nat.add_mul_div_right _ _ hM, Nat.div_eq_of_lt l1, Nat.zero_add]
      have d2 : (cd_ h k + h k * 4 ^ k) / 4 ^ k = h k := by rw [Nat.add_mul_div_right _ _ hM, Nat.div_eq_of_lt l2, Nat.zero_add]
      rw [← d1, ← d2, e2]
    by_cases c : v = k
    · rw [c]
      exact hk
    · rw [hk] at e2
      exact ih (by omega) v (by omega)
theorem vc_d {A : mA_} {vt : Nat → Nat → Nat} {v : Nat} : ∀ s, mt_cd (mt_vc A vt v s) ∧ ∀ a, a < (mt_vc A vt v s).1 → ∃ w, w < s ∧ (mt_vc A vt v s).2.1 a = vt v w := by
  intro s
  induction s with
  | zero => exact ⟨fun a b h _ _ => absurd h (Nat.not_lt_zero a), fun a h => absurd h (Nat.not_lt_zero a)⟩
  | succ s ih =>
    have h := mt_ad_d (vote := vt v s) (lk := aL_ A v s) ih.1
    refine ⟨h.1, fun a ha => ?_⟩
    rcases h.2.1 a ha with e | ⟨b, hb, e⟩
    · exact ⟨s, by omega, e⟩
    · obtain ⟨w, hw, e2⟩ := ih.2 b hb
      exact ⟨w, by omega, e.symm.trans e2⟩
/-- the code of a tuple of choices -/
def kc_p (A : mA_) (p : Nat → Nat) : Nat := cd_ (fun v => if v < aV_ A then cd_g (p v) else 0) (aV_ A)
def kc_ (A : mA_) (c : Nat → Nat) : Nat := kc_p A (rw_b (gr_cv A (aO_ A)) c)
theorem kc_g {A : mA_} {v a : Nat} (hW : mt_W A) (hv : v < aV_ A) (ha : a < (gr_cv A (aO_ A) v).1) : cd_g ((gr_cv A (aO_ A) v).2.1 a) < 4 ∧ ((gr_cv A (aO_ A) v).2.1 a < aT_ A ∨ (gr_cv A (aO_ A) v).2.1 a = 9) := by
  obtain ⟨w, hw, e⟩ := (vc_d (A := A) (vt := aO_ A) (v := v) (aS_ A v)).2 a ha
  have e2 : (gr_cv A (aO_ A) v).2.1 a = aO_ A v w := e
  rw [e2]
  exact ⟨cd_gl hW hv hw, hW.2.2.2.2.2.2.2.2.2.2.1 v w hv hw⟩
theorem kc_4 {A : mA_} {c : Nat → Nat} (hW : mt_W A) (hc : pu_t (rw_N (gr_cv A (aO_ A))) (aV_ A) c) : ∀ v, (if v < aV_ A then cd_g (rw_b (gr_cv A (aO_ A)) c v) else 0) < 4 := fun v => by
  by_cases h : v < aV_ A
  · rw [if_pos h]
    exact (kc_g hW h (hc.1 v h)).1
  · rw [if_neg h]
    omega
theorem kc_lt {A : mA_} {c : Nat → Nat} (hW : mt_W A) (hc : pu_t (rw_N (gr_cv A (aO_ A))) (aV_ A) c) : kc_ A c < 4 ^ aV_ A := cd_lt (kc_4 hW hc) _
theorem kc_inj {A : mA_} {c c2 : Nat → Nat} (hW : mt_W A) (h1 : pu_t (rw_N (gr_cv A (aO_ A))) (aV_ A) c) (h2 : pu_t (rw_N (gr_cv A (aO_ A))) (aV_ A) c2) (e : kc_ A c = kc_ A c2) : c = c2 := by
  have w1 := hW.1
  funext v
  by_cases hv : v < aV_ A
  · have h := cd_inj (kc_4 hW h1) (kc_4 hW h2) _ e v hv
    rw [if_pos hv, if_pos hv] at h
    have g1 := (kc_g hW hv (h1.1 v hv)).2
    have g2 := (kc_g hW hv (h2.1 v hv)).2
    refine (vc_d (A := A) (vt := aO_ A) (v := v) (aS_ A v)).1 (c v) (c2 v) (h1.1 v hv) (h2.1 v hv) ?_
    show (gr_cv A (aO_ A) v).2.1 (c v) = (gr_cv A (aO_ A) v).2.1 (c2 v)
    have h' : cd_g ((gr_cv A (aO_ A) v).2.1 (c v)) = cd_g ((gr_cv A (aO_ A) v).2.1 (c2 v)) := h
    unfold cd_g at h'
    split at h' <;> split at h' <;> omega
  · rw [h1.2 v (by omega), h2.2 v (by omega)]
/-- what is lost by a verdict in the cases of a tuple -/
def kc_w (A : mA_) (c : Nat → Nat) (e : Nat) : Nat := pu_s (fun t => rw_p A (gr_cv A (aO_ A)) c (aV_ A) t * aK_ A 7 t e) (aT_ A)
theorem kc_c {A : mA_} {p q : Nat → Nat} (h : ∀ v, v < aV_ A → p v = q v) : kc_p A p = kc_p A q := by
  unfold kc_p
  congr 1
  funext v
  by_cases c : v < aV_ A
  · rw [if_pos c, if_pos c, h v c]
  · rw [if_neg c, if_neg c]
theorem bv_k {A : mA_} {u e : Nat} (hW : mt_W A) : bv_ A u e = pu_n (rw_N (gr_cv A (aO_ A))) (aV_ A) (fun c => if kc_ A c = u then kc_w A c e else 0) := by
  have one : ∀ (x : Nat) (p : Prop) [Decidable p], (if p then x else 0) = (if p then 1 else 0) * x := fun x p _ => by
    by_cases c : p
    · rw [if_pos c, if_pos c, Nat.one_mul]
    · rw [if_neg c, if_neg c, Nat.zero_mul]
  unfold bv_
  rw [pu_nc (H := fun b => pu_s (fun t => (if cd_r A b = u then 1 else 0) * mt_pa A b t * aK_ A 7 t e) (aT_ A)) (fun b _ => by
    unfold cs_l
    rw [one, ← pu_sm]
    exact pu_sc (fun t _ => (Nat.mul_assoc _ _ _).symm)), pu_ns (G := fun b t => (if cd_r A b = u then 1 else 0) * mt_pa A b t * aK_ A 7 t e)]
  rw [pu_nc (G := fun c => if kc_ A c = u then kc_w A c e else 0) (H := fun c => pu_s (fun t => (if kc_ A c = u then 1 else 0) * rw_p A (gr_cv A (aO_ A)) c (aV_ A) t * aK_ A 7 t e) (aT_ A)) (fun c _ => by
    unfold kc_w
    rw [one, ← pu_sm]
    exact pu_sc (fun t _ => (Nat.mul_assoc _ _ _).symm)), pu_ns (G := fun c t => (if kc_ A c = u then 1 else 0) * rw_p A (gr_cv A (aO_ A)) c (aV_ A) t * aK_ A 7 t e)]
  refine pu_sc (fun t _ => ?_)
  rw [pu_nr (c := aK_ A 7 t e) (G := fun b => (if cd_r A b = u then 1 else 0) * mt_pa A b t), pu_nr (c := aK_ A 7 t e) (G := fun c => (if kc_ A c = u then 1 else 0) * rw_p A (gr_cv A (aO_ A)) c (aV_ A) t)]
  congr 1
  exact (gr_eq (z := aC_ A t) (aV_ A) (fun p => if kc_p A p = u then 1 else 0) (fun p q h => by rw [kc_c h]) gr_v).symm
theorem bv_at {A : mA_} {c : Nat → Nat} {e : Nat} (hW : mt_W A) (hc : pu_t (rw_N (gr_cv A (aO_ A))) (aV_ A) c) : bv_ A (kc_ A c) e = kc_w A c e := by
  rw [bv_k hW, pu_hit hc (fun b hb hne => if_neg (fun q => hne (kc_inj hW hb hc q))), if_pos rfl]
/-- the sum over codes of a function of the sums by votes that is 0 where they are -/
theorem bv_sum {A : mA_} {X : Nat → Nat} (hW : mt_W A) (hX : ∀ u, (∀ e, bv_ A u e = 0) → X u = 0) : pu_n (rw_N (gr_cv A (aO_ A))) (aV_ A) (fun c => X (kc_ A c)) = pu_s X (4 ^ aV_ A) := by
  rw [pu_nc (H := fun c => pu_s (fun u => if u = kc_ A c then X u else 0) (4 ^ aV_ A)) (fun c hc => by
    rw [pu_s1, if_pos (kc_lt hW hc)]), pu_ns (G := fun c u => if u = kc_ A c then X u else 0)]
  refine pu_sc (fun u _ => ?_)
  by_cases h : ∃ c, pu_t (rw_N (gr_cv A (aO_ A))) (aV_ A) c ∧ kc_ A c = u
  · obtain ⟨c, hc, rfl⟩ := h
    rw [pu_hit hc (fun b hb hne => if_neg (fun q => hne (kc_inj hW hb hc q.symm))), if_pos rfl]
  · rw [pu_nz (fun b hb => if_neg (fun q => h ⟨b, hb, q.symm⟩))]
    exact (hX u (fun e => by
      rw [bv_k hW]
      exact pu_nz (fun b hb => if_neg (fun q => h ⟨b, hb, q⟩)))).symm
/-- the best verdict for a code -/
def br_e (A : mA_) (u : Nat) : Nat := mt_li (fun e => Int64.ofNat (bv_ A u e)) (aT_ A - 1)
def br_ (A : mA_) : Nat := pu_s (fun u => bv_ A u (br_e A u)) (4 ^ aV_ A)
theorem br_be {A : mA_} {c : Nat → Nat} (hW : mt_W A) (hc : pu_t (rw_N (gr_cv A (aO_ A))) (aV_ A) c) : rw_be A (gr_cv A (aO_ A)) c = br_e A (kc_ A c) := by
  refine mt_li_c _ (fun e _ => ?_)
  rw [bv_at hW hc]
  unfold mt_f kc_w
  congr 1
  refine pu_s3 (f := fun t => rw_p A (gr_cv A (aO_ A)) c (aV_ A) t * aK_ A 7 t e) hW.1 (fun t ht => ?_)
  unfold rw_p
  rw [(hW.2.2.2.2.1 t).2 ht, pu_p0, Nat.zero_mul]
theorem br_eq {A : mA_} (hW : mt_W A) (hp : 0 < aV_ A) : mt_tb (rw_sum A (gr_cv A (aO_ A)) (rw_be A (gr_cv A (aO_ A)))) (aK_ A 7) = br_ A := by
  have w1 := hW.1
  have w4 := hW.2.2.2.1 hp
  have h := gs_tb (N := rw_N (gr_cv A (aO_ A))) (V := aV_ A) (P := fun c t => rw_p A (gr_cv A (aO_ A)) c (aV_ A) t) (e := rw_be A (gr_cv A (aO_ A))) (K := aK_ A 7) w1 (fun c _ => by
    have := mt_li_le (f := mt_f (fun t => rw_p A (gr_cv A (aO_ A)) c (aV_ A) t) (aK_ A 7)) (aT_ A - 1)
    unfold rw_be
    omega) (fun c t ht => by
    unfold rw_p
    rw [(hW.2.2.2.2.1 t).2 ht, pu_p0])
  refine Eq.trans h ?_
  rw [pu_nc (H := fun c => (fun u => bv_ A u (br_e A u)) (kc_ A c)) (fun c hc => by
    show kc_w A c (rw_be A (gr_cv A (aO_ A)) c) = _
    dsimp only
    rw [bv_at hW hc, br_be hW hc])]
  exact bv_sum (X := fun u => bv_ A u (br_e A u)) hW (fun u h => h _)
