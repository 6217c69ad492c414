/-! PURE: choices stand for signs, sum by sum -/
theorem pu_p0 {f : Nat → Nat} : ∀ k, pu_p 0 f k = 0 := by
  intro k
  induction k with
  | zero => rfl
  | succ k ih =>
    show pu_p 0 f k * f k = 0
    rw [ih, Nat.zero_mul]
/-- choices cv stand for votes vt with the likelihoods lam, under a truth t -/
def gr_r (S : Nat → Nat) (V : Nat) (cv : Nat → mC_) (t : Nat) (vt lam : Nat → Nat → Nat) : Prop := ∀ v, v < V → ∀ F : Nat → Nat, pu_s (fun a => F ((cv v).2.1 a) * (cv v).2.2 a t) (cv v).1 = pu_s (fun s => F (vt v s) * lam v s) (S v)
theorem gr_eq {S : Nat → Nat} {cv : Nat → mC_} {t z : Nat} {vt lam : Nat → Nat → Nat} : ∀ (k : Nat) (F : (Nat → Nat) → Nat), (∀ p q, (∀ v, v < k → p v = q v) → F p = F q) → gr_r S k cv t vt lam →
    pu_n (rw_N cv) k (fun c => F (rw_b cv c) * pu_p z (fun v => (cv v).2.2 (c v) t) k) = pu_n S k (fun b => F (fun v => vt v (b v)) * pu_p z (fun v => lam v (b v)) k) := by
  intro k
  induction k with
  | zero =>
    intro F hF _
    show F _ * z = F _ * z
    rw [hF _ (fun v => vt v 0) (fun v hv => absurd hv (Nat.not_lt_zero v))]
  | succ k ih =>
    intro F hF hr
    have hr2 : gr_r S k cv t vt lam := fun v hv => hr v (by omega)
    have hF2 : ∀ y, ∀ p q : Nat → Nat, (∀ v, v < k → p v = q v) → F (pu_u p k y) = F (pu_u q k y) := fun y p q h => hF _ _ (fun v hv => by
      unfold pu_u
      by_cases e : v = k
      · rw [if_pos e, if_pos e]
      · rw [if_neg e, if_neg e, h v (by omega)])
    have eL : pu_n (rw_N cv) (k + 1) (fun c => F (rw_b cv c) * pu_p z (fun v => (cv v).2.2 (c v) t) (k + 1)) = pu_n S k (fun b => pu_p z (fun v => lam v (b v)) k * pu_s (fun a => F (pu_u (fun v => vt v (b v)) k ((cv k).2.1 a)) * (cv k).2.2 a t) (cv k).1) := by
      show pu_s (fun a => pu_n (rw_N cv) k (fun c => F (rw_b cv (pu_u c k a)) * (pu_p z (fun v => (cv v).2.2 (pu_u c k a v) t) k * (cv k).2.2 (pu_u c k a k) t))) (cv k).1 = _
      rw [pu_sc (g := fun a => pu_n S k (fun b => pu_p z (fun v => lam v (b v)) k * (F (pu_u (fun v => vt v (b v)) k ((cv k).2.1 a)) * (cv k).2.2 a t))) (fun a _ => by
        rw [pu_nc (H := fun c => F (pu_u (rw_b cv c) k ((cv k).2.1 a)) * pu_p z (fun v => (cv v).2.2 (c v) t) k * (cv k).2.2 a t) (fun c _ => by
          rw [pu_ue, Nat.mul_assoc]
          congr 1
          · refine hF _ _ (fun v hv => ?_)
            unfold rw_b
            by_cases e : v = k
            · rw [e, pu_ue, pu_ue]
            · rw [pu_un e, pu_un e]
          · congr 1
            exact pu_pc k (fun v hv => by rw [pu_un (by omega)]))]
        rw [pu_nr, ih (fun p => F (pu_u p k ((cv k).2.1 a))) (hF2 _) hr2, ← pu_nr]
        exact pu_nc (fun b _ => by rw [Nat.mul_comm (F _), Nat.mul_assoc]))]
      rw [← pu_ns]
      exact pu_nc (fun b _ => pu_sm)
    rw [eL]
    show _ = pu_s (fun s => pu_n S k (fun b => F (fun v => vt v (pu_u b k s v)) * (pu_p z (fun v => lam v (pu_u b k s v)) k * lam k (pu_u b k s k)))) (S k)
    rw [← pu_ns]
    refine pu_nc (fun b _ => ?_)
    rw [hr k (by omega) (fun y => F (pu_u (fun v => vt v (b v)) k y)), ← pu_sm]
    refine pu_sc (fun s _ => ?_)
    rw [pu_ue, pu_pc (f := fun v => lam v (pu_u b k s v)) (g := fun v => lam v (b v)) k (fun v hv => by rw [pu_un (by omega)]), Nat.mul_left_comm]
    congr 1
    refine hF _ _ (fun v hv => ?_)
    by_cases e : v = k
    · rw [e, pu_ue, pu_ue]
    · rw [pu_un e, pu_un e]
theorem gr_vc {A : mA_} {vt : Nat → Nat → Nat} {v t : Nat} {F : Nat → Nat} : ∀ s, pu_s (fun a => F ((mt_vc A vt v s).2.1 a) * (mt_vc A vt v s).2.2 a t) (mt_vc A vt v s).1 = pu_s (fun s => F (vt v s) * aL_ A v s t) s := by
  intro s
  induction s with
  | zero => rfl
  | succ s ih =>
    show pu_s (fun a => F ((mt_ad (mt_vc A vt v s) (vt v s) (aL_ A v s)).2.1 a) * (mt_ad (mt_vc A vt v s) (vt v s) (aL_ A v s)).2.2 a t) (mt_ad (mt_vc A vt v s) (vt v s) (aL_ A v s)).1 = _
    rw [mt_ad_s, ih]
    rfl
/-- the choices by votes -/
def gr_cv (A : mA_) (vt : Nat → Nat → Nat) : Nat → mC_ := fun v => mt_vc A vt v (aS_ A v)
theorem gr_v {A : mA_} {vt : Nat → Nat → Nat} {t : Nat} : gr_r (aS_ A) (aV_ A) (gr_cv A vt) t vt (fun v s => aL_ A v s t) := fun _ _ _ => gr_vc _
/-- one voter's choices put in place -/
def gr_u (cv : Nat → mC_) (v : Nat) (c : mC_) : Nat → mC_ := fun u => if u = v then c else cv u
def gr_f (vt : Nat → Nat → Nat) (v : Nat) (f : Nat → Nat) : Nat → Nat → Nat := fun u => if u = v then f else vt u
theorem gr_up {S : Nat → Nat} {V v t : Nat} {cv : Nat → mC_} {vt lam : Nat → Nat → Nat} {c : mC_} {f g : Nat → Nat} (h : gr_r S V cv t vt lam) (hc : v < V → ∀ F : Nat → Nat, pu_s (fun a => F (c.2.1 a) * c.2.2 a t) c.1 = pu_s (fun s => F (f s) * g s) (S v)) : gr_r S V (gr_u cv v c) t (gr_f vt v f) (gr_f lam v g) := by
  intro u hu F
  unfold gr_u gr_f
  by_cases e : u = v
  · subst e
    rw [if_pos rfl, if_pos rfl, if_pos rfl]
    exact hc hu F
  · rw [if_neg e, if_neg e, if_neg e]
    exact h u hu F
theorem gr_L3 {A : mA_} {v t : Nat} (hW : mt_W A) (hv : v < aV_ A) (ht : t < aT_ A) : pu_s (fun s => aL_ A v s t) (aS_ A v) = 20 := by
  obtain ⟨w1, w2, w3, w4, w5, w6, w7, w8, w9, w10, w11, w12, w13, w14, w15⟩ := hW
  have h1 := w9 v t hv ht
  have h2 := w7 v hv
  have h3 := (w8 v 2 t).2.1
  rcases (show aS_ A v = 2 ∨ aS_ A v = 3 by omega) with e | e
  · rw [e] at h3 ⊢
    have := h3 (by omega)
    show 0 + aL_ A v 0 t + aL_ A v 1 t = 20
    omega
  · rw [e]
    show 0 + aL_ A v 0 t + aL_ A v 1 t + aL_ A v 2 t = 20
    omega
/-- a silenced voter: none with each sign -/
theorem gr_si {A : mA_} {v t : Nat} {cv : Nat → mC_} {vt : Nat → Nat → Nat} (hW : mt_W A) (ht : t < aT_ A) (h : gr_r (aS_ A) (aV_ A) cv t vt (fun v s => aL_ A v s t)) : gr_r (aS_ A) (aV_ A) (gr_u cv v (1, fun _ => 9, fun _ _ => 20)) t (gr_f vt v (fun _ => 9)) (fun v s => aL_ A v s t) := by
  have h2 := gr_up (v := v) (c := (1, fun _ => 9, fun _ _ => 20)) (f := fun _ => 9) (g := fun s => aL_ A v s t) h (fun hv F => by
    rw [pu_sm, gr_L3 hW hv ht]
    show 0 + F 9 * 20 = F 9 * 20
    rw [Nat.zero_add])
  have e : gr_f (fun v s => aL_ A v s t) v (fun s => aL_ A v s t) = fun v s => aL_ A v s t := by
    funext u
    unfold gr_f
    by_cases c : u = v
    · rw [if_pos c, c]
    · rw [if_neg c]
  rw [e] at h2
  exact h2
/-- a pinned voter: one sign, one vote -/
theorem gr_pin {A : mA_} {v s t vote : Nat} {cv : Nat → mC_} {vt lam : Nat → Nat → Nat} (hs : s < aS_ A v) (h : gr_r (aS_ A) (aV_ A) cv t vt lam) : gr_r (aS_ A) (aV_ A) (gr_u cv v (mt_ad mt_c0 vote (aL_ A v s))) t (gr_f vt v (fun _ => vote)) (gr_f lam v (fun u => if u = s then aL_ A v u t else 0)) := by
  refine gr_up h (fun hv F => ?_)
  rw [mt_ad_s, pu_sm, pu_s1, if_pos hs]
  show 0 + F vote * aL_ A v s t = _
  rw [Nat.zero_add]
/-- a voter left out -/
theorem gr_lo {A : mA_} {v s t : Nat} {cv : Nat → mC_} {vt lam : Nat → Nat → Nat} (hs : s < aS_ A v) (h : gr_r (aS_ A) (aV_ A) cv t vt lam) : gr_r (aS_ A) (aV_ A) (gr_u cv v (1, fun _ => 9, fun _ _ => 1)) t (gr_f vt v (fun _ => 9)) (gr_f lam v (fun u => if u = s then 1 else 0)) := by
  refine gr_up h (fun hv F => ?_)
  rw [pu_sm, pu_s1 (f := fun _ => 1), if_pos hs]
  show 0 + F 9 * 1 = F 9 * 1
  rw [Nat.zero_add]
theorem gr_cb {A : mA_} {vt : Nat → Nat → Nat} (hW : mt_W A) (h9 : ∀ v s, v < aV_ A → s < aS_ A v → vt v s ≤ 9) : rw_cb A (gr_cv A vt) := by
  intro v hv
  have hS := hW.2.2.2.2.2.2.1 v hv
  have h := mt_vc_b hW (fun s hs => h9 v s hv hs) (aS_ A v) (Nat.le_refl _)
  have h0 : 0 < (mt_vc A vt v (aS_ A v)).1 := by
    rw [show aS_ A v = (aS_ A v - 1) + 1 by omega]
    exact (mt_ad_b (mt_vc_b hW (fun s hs => h9 v s hv hs) (aS_ A v - 1) (by omega)) (h9 v _ hv (by omega)) (fun t => (hW.2.2.2.2.2.2.2.1 v _ t).1)).2
  refine ⟨⟨h0, Nat.le_trans h.1 hS.2⟩, fun a ha => ⟨(h.2 a ha).1, fun t => ?_⟩⟩
  have h9 := (h.2 a ha).2 t
  show (mt_vc A vt v (aS_ A v)).2.2 a t ≤ 60
  omega
theorem gr_cbu {A : mA_} {cv : Nat → mC_} {v : Nat} {c : mC_} (h : rw_cb A cv) (hc : (0 < c.1 ∧ c.1 ≤ 3) ∧ ∀ a, a < c.1 → c.2.1 a ≤ 9 ∧ ∀ t, c.2.2 a t ≤ 60) : rw_cb A (gr_u cv v c) := by
  intro u hu
  unfold gr_u
  by_cases e : u = v
  · rw [if_pos e]
    exact hc
  · rw [if_neg e]
    exact h u hu
theorem gr_c1 {A : mA_} {v s vote : Nat} (hW : mt_W A) (h9 : vote ≤ 9) : (0 < (mt_ad mt_c0 vote (aL_ A v s)).1 ∧ (mt_ad mt_c0 vote (aL_ A v s)).1 ≤ 3) ∧ ∀ a, a < (mt_ad mt_c0 vote (aL_ A v s)).1 → (mt_ad mt_c0 vote (aL_ A v s)).2.1 a ≤ 9 ∧ ∀ t, (mt_ad mt_c0 vote (aL_ A v s)).2.2 a t ≤ 60 := by
  have h := mt_ad_b (n := 0) (c := mt_c0) (vote := vote) (lk := aL_ A v s) ⟨Nat.le_refl 0, fun a ha => absurd ha (Nat.not_lt_zero a)⟩ h9 (fun t => (hW.2.2.2.2.2.2.2.1 v s t).1)
  have h1 := h.1.1
  refine ⟨⟨h.2, by omega⟩, fun a ha => ⟨(h.1.2 a ha).1, fun t => ?_⟩⟩
  have := (h.1.2 a ha).2 t
  omega
