/-! THE CLAIM: the invariant holds at the start, each call keeps it -/
section TLA
variable {d : Nat} {sc : Nat × (Nat → Int32)} {i : Nat → Nat → Int32} {l : Nat → Nat → Int64} {dd : Nat → Nat → Value} {x : Nat}
theorem mt_L_of {A : mA_} {m : Nat} (hW : mt_W A) (hK : mt_K A m i) (hM : mt_M A i l) : mt_L i m := by
  have w1 := hW.1
  have w2 := hW.2.1
  have w7 := hW.2.2.2.2.2.2.1
  have e29 : (i 205 29).toInt = (aT_ A : Int) := by rw [hM.1.1, la_nat (by omega)]
  have e30 : (i 205 30).toInt = (aV_ A : Int) := by rw [hM.1.2.1, la_nat (by omega)]
  refine ⟨by rw [hK.1.1, hM.1.1], by omega, fun t ht => ?_, fun v s t hv hs ht => ?_⟩
  · rw [hK.2.2.1 t ht, e29]
    by_cases c : t < aT_ A
    · rw [if_pos (by omega), hM.2.2.1 t c]
    · rw [if_neg (by omega), (hW.2.2.2.2.1 t).2 (by omega)]
      rfl
  · have hv2 : v < aV_ A := by omega
    have h7 := w7 v hv2
    rw [(hM.2.2.2.1 v hv2).1, la_nat (by omega)] at hs
    have hs2 : s < aS_ A v := by omega
    rw [hK.2.2.2.2.2.1 v s t hv2 hs2 ht, e29]
    by_cases c : t < aT_ A
    · rw [if_pos (by omega), hM.2.2.2.2.1 v s t hv2 hs2 c]
    · rw [if_neg (by omega), (hW.2.2.2.2.2.2.2.1 v s t).2.2 (by omega)]
      rfl
theorem mt_P_of {A : mA_} (hW : mt_W A) (hM : mt_M A i l) : mt_P i l := by
  have w1 := hW.1
  have w2 := hW.2.1
  have w7 := hW.2.2.2.2.2.2.1
  have e29 : (i 205 29).toInt = (aT_ A : Int) := by rw [hM.1.1, la_nat (by omega)]
  have e30 : (i 205 30).toInt = (aV_ A : Int) := by rw [hM.1.2.1, la_nat (by omega)]
  have eV : (i 205 30).toInt.toNat = aV_ A := by omega
  intro b t hb ht
  have ht2 : t < aT_ A := by omega
  have hb2 : ∀ v, v < aV_ A → b v < aS_ A v := fun v hv => by
    have := hb v (by omega)
    rw [mt_Sg_of hW hM hv] at this
    exact this
  rw [eV, mt_row_c (T := aS_ A) (c := b) (aV_ A) (fun v hv => ⟨mt_Sg_of hW hM hv, rfl⟩), hM.2.2.2.2.2.2.2 _ t (mt_row_lt _ hb2) ht2]
  have key : ∀ k, k ≤ aV_ A → Int64.ofNat (pu_p (aC_ A t) (fun v => aL_ A v (pu_g (aS_ A) (aV_ A) (mt_row (aS_ A) b (aV_ A)) v) t) k) = mt_pr (i 211 t).toInt64 (fun v => i 213 (9 * v + 3 * b v + t)) k := by
    intro k
    induction k with
    | zero =>
      intro _
      have hc := (hW.2.2.2.2.1 t).1
      show Int64.ofNat (aC_ A t) = (i 211 t).toInt64
      rw [hM.2.2.1 t ht2, nn_64 (by omega)]
    | succ k ih =>
      intro hk
      have hkV : k < aV_ A := by omega
      have eg : pu_g (aS_ A) (aV_ A) (mt_row (aS_ A) b (aV_ A)) k = b k := by
        have hs := mt_sign (S := aS_ A) (b := b) (v := k) (aV_ A - (k + 1)) (fun u hu => hb2 u (by omega))
        rw [show k + 1 + (aV_ A - (k + 1)) = aV_ A by omega] at hs
        exact (if_pos hkV).trans hs
      have hl := (hW.2.2.2.2.2.2.2.1 k (b k) t).1
      show Int64.ofNat (pu_p (aC_ A t) (fun v => aL_ A v (pu_g (aS_ A) (aV_ A) (mt_row (aS_ A) b (aV_ A)) v) t) k * aL_ A k (pu_g (aS_ A) (aV_ A) (mt_row (aS_ A) b (aV_ A)) k) t) = mt_pr (i 211 t).toInt64 (fun v => i 213 (9 * v + 3 * b v + t)) k * (i 213 (9 * k + 3 * b k + t)).toInt64
      rw [← ih (by omega), eg, hM.2.2.2.2.1 k (b k) t hkV (hb2 k hkV) ht2, nn_64 (by omega), nl_mul]
  exact key _ (Nat.le_refl _)
theorem RI_of {σ : ab_S} (h : la_I RF σ) : ∃ A B o, la_I (rR_ A B o) σ := by
  obtain ⟨A, B, o, g⟩ := h.2.2
  exact ⟨A, B, o, h.1, h.2.1, g⟩
theorem RI_to {A B : mA_} {o : Nat → Nat} {σ : ab_S} (h : la_I (rR_ A B o) σ) : la_I RF σ := ⟨h.1, h.2.1, A, B, o, h.2.2⟩
theorem RI_m {A B : mA_} {o : Nat → Nat} {v0 : Option Value} {E : ab_E} : ∀ v σ2 E2, (v = v0 ∧ E2 = E ∧ la_I (rR_ A B o) σ2) → (v = v0 ∧ E2 = E ∧ la_I RF σ2) := fun _ _ _ h => ⟨h.1, h.2.1, RI_to h.2.2⟩
theorem RA_op {A B : mA_} {o : Nat → Nat} {σ : ab_S} (h : la_I (rR_ A B o) σ) : op_A (rR_ A B o) A := ⟨h.2.2.1.1, fun i l dd x g => by
  obtain ⟨⟨a1, ⟨m, a2, a3, a4⟩, a5⟩, -⟩ := rR_m.mp g.2.2
  exact ⟨m, a2, a3, a4, a5⟩⟩
theorem RA_oT {A B : mA_} {o : Nat → Nat} {σ : ab_S} (h : la_I (rR_ A B o) σ) : op_T (rR_ A B o) B o := ⟨h.2.2.2.1.1, fun ⟨i, l, dd, x⟩ g => (rR_m.mp g.2.2).2.1.2⟩
theorem rR_f {A A2 B : mA_} {o : Nat → Nat} {τ τ2 : ab_S} (h : ∀ k j, (pM_ k j ∨ (7 ≤ k ∧ k ≤ 154) ∨ (k = 157 ∧ j = 0) ∨ (k = 205 ∧ j = 8)) → τ2.1 k j = τ.1 k j) (hl : ∀ j, τ2.2.1 224 j = τ.2.1 224 j) (hd : τ2.2.2.1 3 11 = τ.2.2.1 3 11) (hT : mt_W B → tn_K B o τ → mt_W A2 ∧ ∃ o2, tn_K A2 o2 τ2) (hK : rK_ τ → rK_ τ2) (hR : rR_ A B o τ) : ∃ o2, rR_ A A2 o2 τ2 := by
  obtain ⟨⟨a1, ⟨m, a2, a3, a4⟩, a5⟩, ⟨b1, b2⟩, c1, c2⟩ := hR
  obtain ⟨t1, o2, t2⟩ := hT b1 b2
  have a3' : ab_isM m := a3
  refine ⟨o2, ⟨a1, ⟨m, hd.trans a2, a3, mt_Kp a3 a1 (fun k j h1 h2 => h k j (Or.inr (Or.inl ?_))) a4⟩, mt_Mp a1 (fun k j hk => h k j (Or.inl hk)) hl a5⟩, ⟨t1, t2⟩, hK c1, ?_⟩
  · have h1 : @LE.le Nat _ m k := h1
    have h2 : @LE.le Nat _ k (m + 47) := h2
    rcases a3' with e | e | e <;> rw [e] at h1 h2 <;> omega
  · rw [h _ _ (Or.inr (Or.inr (Or.inl ⟨rfl, rfl⟩))), h _ _ (Or.inr (Or.inr (Or.inr ⟨rfl, rfl⟩)))]
    exact c2
/-- the turns' matter stays -/
theorem tn_st {B : mA_} {o : Nat → Nat} {τ τ2 : ab_S} (h : ∀ k j, (pT_ k j ∨ (7 ≤ k ∧ k ≤ 154)) → τ2.1 k j = τ.1 k j) (hl : ∀ k j, qT_ k j → τ2.2.1 k j = τ.2.1 k j) (hd : τ2.2.2.1 179 0 = τ.2.2.1 179 0) : mt_W B → tn_K B o τ → mt_W B ∧ ∃ o2, tn_K B o2 τ2 := fun hW hK => ⟨hW, o, tn_Kp hW hd (fun m e hm k j h1 h2 => h k j (Or.inr (by rcases hm with rfl | rfl | rfl <;> omega))) (fun k j hk => h k j (Or.inl hk)) hl hK⟩
/-- what a part of the kept wants -/
theorem rK_st {τ τ2 : ab_S} (h : ∀ k j, k ≠ 174 → k ≠ 229 → k ≠ 230 → ¬ (k = 205 ∧ j = 41) → τ2.1 k j = τ.1 k j) (hl : ∀ k j, ¬ (k = 169 ∧ (j = 7 ∨ j = 8)) → ¬ (k = 205 ∧ (j = 42 ∨ j = 43)) → τ2.2.1 k j = τ.2.1 k j) (hS : st_K τ2) (hK : rK_ τ) : rK_ τ2 := by
  obtain ⟨k1, k4, ⟨k5, k6⟩, k7, k8⟩ := hK
  refine ⟨hS, la_tabf (h _ _ (by omega) (by omega) (by omega) (by omega)) (fun j => h _ _ (by omega) (by omega) (by omega) (by omega)) (fun j => h _ _ (by omega) (by omega) (by omega) (by omega)) (fun j => h _ _ (by omega) (by omega) (by omega) (by omega)) k4, ⟨?_, fun v hv => ?_⟩, ?_, ?_⟩
  · rw [h _ _ (by omega) (by omega) (by omega) (by omega)]
    exact k5
  · rw [h _ _ (by omega) (by omega) (by omega) (by omega), h _ _ (by omega) (by omega) (by omega) (by omega), h _ _ (by omega) (by omega) (by omega) (by omega)]
    exact k6 v hv
  · rw [hl _ _ (by omega) (by omega), hl _ _ (by omega) (by omega)]
    exact k7
  · rw [h _ _ (by omega) (by omega) (by omega) (by omega)]
    exact k8
theorem rK_ft {τ τ2 : ab_S} (h : ∀ k j, k ≠ 175 → k ≠ 247 → k ≠ 248 → ¬ (k = 205 ∧ j = 68) → τ2.1 k j = τ.1 k j) (hl : τ2.2.1 = τ.2.1) (hS : la_tab τ2.1 68 248 247 175) (hK : rK_ τ) : rK_ τ2 := by
  obtain ⟨⟨k1, k2, k3⟩, k4, ⟨k5, k6⟩, k7, k8⟩ := hK
  refine ⟨⟨la_tabf (h _ _ (by omega) (by omega) (by omega) (by omega)) (fun j => h _ _ (by omega) (by omega) (by omega) (by omega)) (fun j => h _ _ (by omega) (by omega) (by omega) (by omega)) (fun j => h _ _ (by omega) (by omega) (by omega) (by omega)) k1, ?_, ?_⟩, hS, ⟨?_, fun v hv => ?_⟩, ?_, ?_⟩
  · rw [hl, h _ _ (by omega) (by omega) (by omega) (by omega)]
    exact k2
  · rw [hl, h _ _ (by omega) (by omega) (by omega) (by omega)]
    exact k3
  · rw [h _ _ (by omega) (by omega) (by omega) (by omega)]
    exact k5
  · rw [h _ _ (by omega) (by omega) (by omega) (by omega), h _ _ (by omega) (by omega) (by omega) (by omega), h _ _ (by omega) (by omega) (by omega) (by omega)]
    exact k6 v hv
  · rw [hl]
    exact k7
  · rw [h _ _ (by omega) (by omega) (by omega) (by omega)]
    exact k8
theorem rK_ba {τ τ2 : ab_S} (h : τ2.1 = τ.1) (hl : ∀ k j, ¬ (k = 191 ∧ j = 3) → ¬ (k = 205 ∧ j = 61) → τ2.2.1 k j = τ.2.1 k j) (hS : τ2.2.1 191 3 = τ2.2.1 205 61) (hK : rK_ τ) : rK_ τ2 := by
  obtain ⟨⟨k1, k2, k3⟩, k4, ⟨k5, k6⟩, k7, k8⟩ := hK
  refine ⟨⟨by rw [h]; exact k1, ?_, ?_⟩, by rw [h]; exact k4, ⟨by rw [h]; exact k5, by rw [h]; exact k6⟩, hS, by rw [h]; exact k8⟩
  · rw [hl _ _ (by omega) (by omega), hl _ _ (by omega) (by omega), h]
    exact k2
  · rw [hl _ _ (by omega) (by omega), hl _ _ (by omega) (by omega), h]
    exact k3
theorem wg_n {k j : Nat} (h : k ≠ 198 ∧ k ≠ 245 ∧ ¬ (k = 205 ∧ j = 64)) : wg_B k j = false := by
  unfold wg_B
  by_cases c : k = 205
  · have : j ≠ 64 := fun y => h.2.2 ⟨c, y⟩
    simp [h.1, h.2.1, this]
  · simp [h.1, h.2.1, c]
theorem rK_wg {τ τ2 : ab_S} (h : up_E wg_B τ τ2) (hS : wg_K τ2) (hK : rK_ τ) : rK_ τ2 := by
  have hi : ∀ k j, k ≠ 198 ∧ k ≠ 245 ∧ ¬ (k = 205 ∧ j = 64) → τ2.1 k j = τ.1 k j := fun k j q => h.1 k j (wg_n q)
  have hl : ∀ k j, k ≠ 198 ∧ k ≠ 245 ∧ ¬ (k = 205 ∧ j = 64) → τ2.2.1 k j = τ.2.1 k j := fun k j q => h.2.1 k j (wg_n q)
  obtain ⟨⟨k1, k2, k3⟩, k4, k56, k7, k8⟩ := hK
  refine ⟨⟨la_tabf (hi _ _ (by omega)) (fun j => hi _ _ (by omega)) (fun j => hi _ _ (by omega)) (fun j => hi _ _ (by omega)) k1, ?_, ?_⟩, la_tabf (hi _ _ (by omega)) (fun j => hi _ _ (by omega)) (fun j => hi _ _ (by omega)) (fun j => hi _ _ (by omega)) k4, hS, ?_, ?_⟩
  · rw [hl _ _ (by omega), hl _ _ (by omega), hi _ _ (by omega)]
    exact k2
  · rw [hl _ _ (by omega), hl _ _ (by omega), hi _ _ (by omega)]
    exact k3
  · rw [hl _ _ (by omega), hl _ _ (by omega)]
    exact k7
  · rw [hi _ _ (by omega)]
    exact k8
theorem hC_st {A B : mA_} {o : Nat → Nat} {τ τ2 : ab_S} (hR : rR_ A B o τ) (hE : st_E τ τ2) (hS : st_K τ2) : ∃ o2, rR_ A B o2 τ2 :=
  rR_f (fun k j hk => hE.1 k j (by unfold pM_ at hk; omega) (by unfold pM_ at hk; omega) (by unfold pM_ at hk; omega) (by unfold pM_ at hk; omega)) (fun j => hE.2.1 _ _ (by omega) (by omega)) (by rw [hE.2.2]) (tn_st (fun k j hk => hE.1 k j (by unfold pT_ at hk; omega) (by unfold pT_ at hk; omega) (by unfold pT_ at hk; omega) (by unfold pT_ at hk; omega)) (fun k j hk => hE.2.1 k j (by unfold qT_ at hk; omega) (by unfold qT_ at hk; omega)) (by rw [hE.2.2])) (rK_st hE.1 hE.2.1 hS) hR
theorem hC_ft {A B : mA_} {o : Nat → Nat} {τ τ2 : ab_S} (hR : rR_ A B o τ) (hE : ft_E τ τ2) (hS : la_tab τ2.1 68 248 247 175) : ∃ o2, rR_ A B o2 τ2 :=
  rR_f (fun k j hk => hE.1 k j (by unfold pM_ at hk; omega) (by unfold pM_ at hk; omega) (by unfold pM_ at hk; omega) (by unfold pM_ at hk; omega)) (fun j => by rw [hE.2.1]) (by rw [hE.2.2]) (tn_st (fun k j hk => hE.1 k j (by unfold pT_ at hk; omega) (by unfold pT_ at hk; omega) (by unfold pT_ at hk; omega) (by unfold pT_ at hk; omega)) (fun k j hk => by rw [hE.2.1]) (by rw [hE.2.2])) (rK_ft hE.1 hE.2.1 hS) hR
theorem hC_ba {A B : mA_} {o : Nat → Nat} {τ τ2 : ab_S} (hR : rR_ A B o τ) (hE : ba_E τ τ2) (hS : τ2.2.1 191 3 = τ2.2.1 205 61) : ∃ o2, rR_ A B o2 τ2 :=
  rR_f (fun k j hk => by rw [hE.1]) (fun j => hE.2.1 _ _ (by omega) (by omega)) (by rw [hE.2.2]) (tn_st (fun k j hk => by rw [hE.1]) (fun k j hk => hE.2.1 k j (by unfold qT_ at hk; omega) (by unfold qT_ at hk; omega)) (by rw [hE.2.2])) (rK_ba hE.1 hE.2.1 hS) hR
theorem hC_wg {A B : mA_} {o : Nat → Nat} {τ τ2 : ab_S} (hR : rR_ A B o τ) (hE : up_E wg_B τ τ2) (hS : wg_K τ2) : ∃ o2, rR_ A B o2 τ2 :=
  rR_f (fun k j hk => hE.1 k j (wg_n (by unfold pM_ at hk; omega))) (fun j => hE.2.1 _ _ (wg_n (by omega))) (hE.2.2 _ _ (wg_n (by omega))) (tn_st (fun k j hk => hE.1 k j (wg_n (by unfold pT_ at hk; omega))) (fun k j hk => hE.2.1 k j (wg_n (by unfold qT_ at hk; omega))) (hE.2.2 _ _ (wg_n (by omega)))) (rK_wg hE hS) hR
theorem hC_in {A B : mA_} {o o3 : Nat → Nat} {τ τ2 : ab_S} (hR : rR_ A B o τ) (hE : in_E τ τ2) (hS : tn_K A o3 τ2) : RF τ2 := by
  have hWA := hR.1.1
  obtain ⟨o2, h⟩ := rR_f (A2 := A) (τ2 := τ2) (fun k j hk => hE.1 k j (by unfold pM_ at hk; omega) (by unfold pM_ at hk; omega) (by unfold pM_ at hk; omega) (by unfold pM_ at hk; omega) (by unfold pM_ at hk; omega)) (fun j => hE.2.1 _ _ (by omega) (by omega) (by omega)) (hE.2.2 _ _ (by omega)) (fun _ _ => ⟨hWA, o3, hS⟩) (fun hK => rK_f (fun k j hk => hE.1 k j (by unfold pK_ at hk; omega) (by unfold pK_ at hk; omega) (by unfold pK_ at hk; omega) (by unfold pK_ at hk; omega) (by unfold pK_ at hk; omega)) (fun k j hk => hE.2.1 k j (by unfold qK_ at hk; omega) (by unfold qK_ at hk; omega) (by unfold qK_ at hk; omega)) hK) hR
  exact ⟨A, A, o2, h⟩
end TLA
section TLB
variable {d : Nat} {sc : Nat × (Nat → Int32)} {i : Nat → Nat → Int32} {l : Nat → Nat → Int64} {dd : Nat → Nat → Value} {x : Nat}
theorem RF_mtR : mt_R RF := fun τ ⟨A, B, o, ⟨a1, ⟨m, a2, a3, a4⟩, a5⟩, _⟩ => ⟨m, a2, a3, mt_C_of a1 a4 a5⟩
theorem RF_mtP : mt_RP RF := fun i l dd x h => by
  obtain ⟨A, B, o, ⟨a1, ⟨m, a2, a3, a4⟩, a5⟩, -⟩ := RF_of h
  exact ⟨m, a2, a3, mt_C_of a1 a4 a5, mt_L_of a1 a4 a5, mt_X_of a1 a5, mt_P_of a1 a5⟩
theorem cR_9 : la_c9 1310 sc (la_I RF) := by
  intro σ  hI
  obtain ⟨A, B, o, h⟩ := RI_of hI
  obtain ⟨r, P, h1, h2⟩ := op_decided (sc := sc) (RA_op h) σ  h
  exact ⟨r, P, h1, fun σ1 hp => ab_call_mono (h2 σ1 hp) RI_m⟩
theorem cR_10 : la_c10 1310 sc (la_I RF) := by
  intro σ  hI
  obtain ⟨A, B, o, h⟩ := RI_of hI
  obtain ⟨r, P, h1, h2⟩ := op_right (sc := sc) (RA_op h) σ  h
  exact ⟨r, P, h1, fun σ1 hp => ab_call_mono (h2 σ1 hp) RI_m⟩
theorem cR_12 : la_c12 1310 sc (la_I RF) := by
  intro σ  hI
  obtain ⟨A, B, o, h⟩ := RI_of hI
  obtain ⟨r, P, h1, h2⟩ := op_lost (sc := sc) (RA_op h) σ  h
  exact ⟨r, P, h1, fun σ1 hp => ab_call_mono (h2 σ1 hp) RI_m⟩
theorem cR_13 : la_c13 1310 sc (la_I RF) := by
  intro σ  hI
  obtain ⟨A, B, o, h⟩ := RI_of hI
  obtain ⟨r, P, h1, h2⟩ := op_known (sc := sc) (RA_op h) σ  h
  exact ⟨r, P, h1, fun σ1 hp => ab_call_mono (h2 σ1 hp) RI_m⟩
theorem cR_17 : la_c17 1310 sc (la_I RF) := by
  intro σ b0 b1 hI
  obtain ⟨A, B, o, h⟩ := RI_of hI
  obtain ⟨r, P, h1, h2⟩ := op_reply (sc := sc) (RA_op h) σ b0 b1 h
  exact ⟨r, P, h1, fun σ1 hp => ab_call_mono (h2 σ1 hp) RI_m⟩
theorem cR_18 : la_c18 1310 sc (la_I RF) := by
  intro σ  hI
  obtain ⟨A, B, o, h⟩ := RI_of hI
  obtain ⟨r, P, h1, h2⟩ := op_fit (sc := sc) (RA_op h) σ  h
  exact ⟨r, P, h1, fun σ1 hp => ab_call_mono (h2 σ1 hp) RI_m⟩
theorem cR_26 : la_c26 1310 sc (la_I RF) := by
  intro σ  hI
  obtain ⟨A, B, o, h⟩ := RI_of hI
  obtain ⟨r, P, h1, h2⟩ := op_bestOrder (sc := sc) (RA_op h) σ  h
  exact ⟨r, P, h1, fun σ1 hp => ab_call_mono (h2 σ1 hp) RI_m⟩
theorem cR_30 : la_c30 1310 sc (la_I RF) := by
  intro σ  hI
  obtain ⟨A, B, o, h⟩ := RI_of hI
  obtain ⟨r, P, h1, h2⟩ := op_silent (sc := sc) (RA_op h) σ  h
  exact ⟨r, P, h1, fun σ1 hp => ab_call_mono (h2 σ1 hp) RI_m⟩
theorem cR_31 : la_c31 1310 sc (la_I RF) := by
  intro σ b0 b1 hI
  obtain ⟨A, B, o, h⟩ := RI_of hI
  obtain ⟨r, P, h1, h2⟩ := op_helps (sc := sc) (RA_op h) σ b0 b1 h
  exact ⟨r, P, h1, fun σ1 hp => ab_call_mono (h2 σ1 hp) RI_m⟩
theorem cR_32 : la_c32 1310 sc (la_I RF) := by
  intro σ b0 b1 b2 hI
  obtain ⟨A, B, o, h⟩ := RI_of hI
  obtain ⟨r, P, h1, h2⟩ := op_believed (sc := sc) (RA_op h) σ b0 b1 b2 h
  exact ⟨r, P, h1, fun σ1 hp => ab_call_mono (h2 σ1 hp) RI_m⟩
theorem cR_39 : la_c39 1310 sc (la_I RF) := by
  intro σ  hI
  obtain ⟨A, B, o, h⟩ := RI_of hI
  obtain ⟨r, P, h1, h2⟩ := op_guess (sc := sc) (RA_op h) σ  h
  exact ⟨r, P, h1, fun σ1 hp => ab_call_mono (h2 σ1 hp) RI_m⟩
theorem cR_41 : la_c41 1310 sc (la_I RF) := by
  intro σ b0 b1 hI
  obtain ⟨A, B, o, h⟩ := RI_of hI
  obtain ⟨r, P, h1, h2⟩ := op_run (sc := sc) (RA_op h) σ b0 b1 h
  exact ⟨r, P, h1, fun σ1 hp => ab_call_mono (h2 σ1 hp) RI_m⟩
theorem cR_11 : la_c11 1310 sc (la_I RF) := by
  intro σ b0 b1 hI
  obtain ⟨A, B, o, h⟩ := RI_of hI
  obtain ⟨r, b, P1, P2, h1, h2, h3, h4, h5⟩ := op_comes (sc := sc) (RA_op h) σ b0 b1 h
  exact ⟨r, b, P1, P2, h1, h2, h3, fun σ2 hp => ⟨RI_to (h4 σ2 hp).1, (h4 σ2 hp).2⟩, h5⟩
theorem cR_14 : la_c14 1310 sc (la_I RF) := by
  intro σ b0 hI
  obtain ⟨A, B, o, h⟩ := RI_of hI
  obtain ⟨r, b, P1, P2, h1, h2, h3, h4, h5⟩ := op_knows (sc := sc) (RA_op h) σ b0 h
  exact ⟨r, b, P1, P2, h1, h2, h3, fun σ2 hp => ⟨RI_to (h4 σ2 hp).1, (h4 σ2 hp).2⟩, h5⟩
theorem cR_15 : la_c15 1310 sc (la_I RF) := by
  intro σ b0 b1 hI
  obtain ⟨A, B, o, h⟩ := RI_of hI
  obtain ⟨r, b, P1, P2, h1, h2, h3, h4, h5⟩ := op_turns (sc := sc) (RA_op h) σ b0 b1 h
  exact ⟨r, b, P1, P2, h1, h2, h3, fun σ2 hp => ⟨RI_to (h4 σ2 hp).1, (h4 σ2 hp).2⟩, h5⟩
theorem cR_16 : la_c16 1310 sc (la_I RF) := by
  intro σ b0 b1 b2 hI
  obtain ⟨A, B, o, h⟩ := RI_of hI
  obtain ⟨r, b, P1, P2, h1, h2, h3, h4, h5⟩ := op_think (sc := sc) (RA_op h) σ b0 b1 b2 h
  exact ⟨r, b, P1, P2, h1, h2, h3, fun σ2 hp => ⟨RI_to (h4 σ2 hp).1, (h4 σ2 hp).2⟩, h5⟩
theorem cR_27 : la_c27 1310 sc (la_I RF) := by
  intro σ  hI
  obtain ⟨A, B, o, h⟩ := RI_of hI
  obtain ⟨r, b, P1, P2, h1, h2, h3, h4, h5⟩ := op_bestRule (sc := sc) (RA_op h) σ  h
  exact ⟨r, b, P1, P2, h1, h2, h3, fun σ2 hp => ⟨RI_to (h4 σ2 hp).1, (h4 σ2 hp).2⟩, h5⟩
theorem cR_33 : la_c33 1310 sc (la_I RF) := by
  intro σ b0 b1 hI
  obtain ⟨A, B, o, h⟩ := RI_of hI
  obtain ⟨r, b, P1, P2, h1, h2, h3, h4, h5⟩ := op_minutes (sc := sc) (RA_op h) σ b0 b1 h
  exact ⟨r, b, P1, P2, h1, h2, h3, fun σ2 hp => ⟨RI_to (h4 σ2 hp).1, (h4 σ2 hp).2⟩, h5⟩
theorem cR_34 : la_c34 1310 sc (la_I RF) := by
  intro σ b0 b1 b2 hI
  obtain ⟨A, B, o, h⟩ := RI_of hI
  obtain ⟨r, b, P1, P2, h1, h2, h3, h4, h5⟩ := op_shut (sc := sc) (RA_op h) σ b0 b1 b2 h
  exact ⟨r, b, P1, P2, h1, h2, h3, fun σ2 hp => ⟨RI_to (h4 σ2 hp).1, (h4 σ2 hp).2⟩, h5⟩
theorem cR_24 : la_c24 1310 sc (la_I RF) := by
  intro σ hI
  obtain ⟨A, B, o, h⟩ := RI_of hI
  obtain ⟨r, P, h1, h2⟩ := op_says (sc := sc) (RA_oT h) σ h
  exact ⟨r, P, h1, fun σ1 hp => ab_call_mono (h2 σ1 hp) RI_m⟩
theorem cR_25 : la_c25 1310 sc (la_I RF) := by
  intro σ hI
  obtain ⟨A, B, o, h⟩ := RI_of hI
  obtain ⟨r, P, h1, h2⟩ := op_cliff (sc := sc) (RA_oT h) σ h
  exact ⟨r, P, h1, fun σ1 hp => ab_call_mono (h2 σ1 hp) RI_m⟩
/-- the order that the turns tell may change: any of them -/
def rQ_ (A B : mA_) (τ : ab_S) : Prop := ∃ o, rR_ A B o τ
theorem RJ_of {σ : ab_S} (h : la_I RF σ) : ∃ A B, la_I (rQ_ A B) σ := by
  obtain ⟨A, B, o, g⟩ := h.2.2
  exact ⟨A, B, h.1, h.2.1, o, g⟩
theorem RJ_to {A B : mA_} {σ : ab_S} (h : la_I (rQ_ A B) σ) : la_I RF σ := by
  obtain ⟨o, g⟩ := h.2.2
  exact ⟨h.1, h.2.1, A, B, o, g⟩
theorem RJ_m {A B : mA_} {v0 : Option Value} {E : ab_E} : ∀ v σ2 E2, (v = v0 ∧ E2 = E ∧ la_I (rQ_ A B) σ2) → (v = v0 ∧ E2 = E ∧ la_I RF σ2) := fun _ _ _ h => ⟨h.1, h.2.1, RJ_to h.2.2⟩
theorem RJ_op {A B : mA_} {σ : ab_S} (h : la_I (rQ_ A B) σ) : op_A (rQ_ A B) A := by
  obtain ⟨o, g⟩ := h.2.2
  refine ⟨g.1.1, fun i l dd x g => ?_⟩
  obtain ⟨o2, g2⟩ := g.2.2
  obtain ⟨⟨a1, ⟨m, a2, a3, a4⟩, a5⟩, -⟩ := rR_m.mp g2
  exact ⟨m, a2, a3, a4, a5⟩
theorem cR_19 : la_c19 1310 sc (la_I RF) := by
  intro σ  hI
  obtain ⟨A, B, h⟩ := RJ_of hI
  obtain ⟨r, P, h1, h2⟩ := op_settle (sc := sc) (RJ_op h) (fun τ τ2 ⟨o, hR⟩ hE hS => hC_st hR hE hS) σ  h
  exact ⟨r, P, h1, fun σ1 hp => ab_call_mono (h2 σ1 hp) RJ_m⟩
theorem cR_28 : la_c28 1310 sc (la_I RF) := by
  intro σ b0 b1 hI
  obtain ⟨A, B, h⟩ := RJ_of hI
  obtain ⟨r, P, h1, h2⟩ := op_bar (sc := sc) (RJ_op h) (fun τ τ2 ⟨o, hR⟩ hE hS => hC_ba hR hE hS) σ b0 b1 h
  exact ⟨r, P, h1, fun σ1 hp => ab_call_mono (h2 σ1 hp) RJ_m⟩
theorem cR_35 : la_c35 1310 sc (la_I RF) := by
  intro σ  hI
  obtain ⟨A, B, h⟩ := RJ_of hI
  obtain ⟨r, P, h1, h2⟩ := op_fits (sc := sc) (RJ_op h) (fun τ τ2 ⟨o, hR⟩ hE hS => hC_ft hR hE hS) σ  h
  exact ⟨r, P, h1, fun σ1 hp => ab_call_mono (h2 σ1 hp) RJ_m⟩
theorem cR_37 : la_c37 1310 sc (la_I RF) := by
  intro σ  hI
  obtain ⟨A, B, h⟩ := RJ_of hI
  obtain ⟨r, P, h1, h2⟩ := op_weighed (sc := sc) (RJ_op h) (fun τ ⟨o, hR⟩ => hR.2.2.1.2.2.2.2) (fun τ τ2 ⟨o, hR⟩ hE hS => hC_wg hR hE hS) σ  h
  exact ⟨r, P, h1, fun σ1 hp => ab_call_mono (h2 σ1 hp) RJ_m⟩
theorem cR_22 : la_c22 1310 sc (la_I RF) := by
  intro σ hI
  obtain ⟨A, B, o, h⟩ := RI_of hI
  exact op_inTurns (sc := sc) (R := rR_ A B o) (RF := RF) (RA_op h) (fun τ hR => ⟨A, B, o, hR⟩) (fun o3 τ τ2 hR hE hS => hC_in hR hE hS) σ h
theorem cR_4 : la_c4 1310 sc (la_I RF) := op_count (fun τ ⟨A, B, o, ⟨a1, ⟨m, a2, a3, a4⟩, a5⟩, _⟩ => ⟨m, a2, a3, ws_m a3 (Nat.le_refl _) (Nat.le_add_right _ _), ws_m a3 (Nat.le_refl _) (Nat.le_add_right _ _), a4.1.1.trans a5.1.1.symm, a4.1.2.trans a5.1.2.1.symm⟩)
theorem n32_0 {n : Nat} (h : n ≤ 7) (h0 : ¬ Int32.ofNat n = 0) : 0 < n := by
  rcases Nat.eq_zero_or_pos n with e | e
  · rw [e] at h0
    exact absurd rfl h0
  · exact e
theorem cR_23 : la_c23 1310 sc (la_I RF) := op_herd (fun τ ⟨A, B, o, _, ⟨b1, ⟨m, b2, b3, b4⟩, b5, b6⟩, _⟩ => ⟨m, b2, b3, b4.1.2.trans b5.symm, fun h0 => by
  rw [b5] at h0
  exact (b6 (n32_0 b1.2.1 h0)).2.2.2⟩)
theorem cR_all : la_all 1310 sc (la_I RF) :=
  ⟨op_feed, op_end, op_matter, op_fault (fun τ ⟨A, B, o, h⟩ => h.2.2.2), cR_4, op_signs RF_mtR, op_parts RF_mtP, op_all RF_mtR, op_vote RF_mtR, cR_9, cR_10, cR_11, cR_12, cR_13, cR_14, cR_15, cR_16, cR_17, cR_18, cR_19, op_settled (fun τ ⟨A, B, o, h⟩ => h.2.2.1.1.1), op_settles (fun τ ⟨A, B, o, h⟩ => h.2.2.1.1.2), cR_22, cR_23, cR_24, cR_25, cR_26, cR_27, cR_28, op_barLost (fun τ ⟨A, B, o, h⟩ => h.2.2.1.2.2.2.1), cR_30, cR_31, cR_32, cR_33, cR_34, cR_35, op_fitAt (fun τ ⟨A, B, o, h⟩ => h.2.2.1.2.1), cR_37, op_weighedAt (fun τ ⟨A, B, o, h⟩ => h.2.2.1.2.2.1), cR_39, op_many, cR_41⟩
end TLB
/-! THE START -/
def A_0 : mA_ := ((0, 0), (fun _ => 0), (fun _ => 0), (fun _ _ _ => 0), (fun _ _ _ => 0), (fun _ _ => 0), (fun _ => 0), (0, 0, 0, 7))
theorem A_0W : mt_W A_0 := ⟨Nat.zero_le _, Nat.zero_le _, fun _ => rfl, fun h => absurd h (Nat.lt_irrefl 0), fun _ => ⟨Nat.zero_le _, fun _ => rfl⟩, fun h => absurd h (Nat.lt_irrefl 0), fun v h => absurd h (Nat.not_lt_zero v), fun _ _ _ => ⟨Nat.zero_le _, fun _ => rfl, fun _ => rfl⟩, fun v _ h => absurd h (Nat.not_lt_zero v), fun _ _ _ => Nat.zero_le _, fun v _ h => absurd h (Nat.not_lt_zero v), fun _ => Nat.zero_le _, Nat.zero_le _, fun h => absurd h (Nat.lt_irrefl 0), Or.inr rfl⟩
theorem li_0 {k : Nat} (h : (la_I53.all (fun p => !(p.1.1 == k))) = true) (j : Nat) : la_i la_I53 k j = 0 := by
  unfold la_i
  rw [la_zn (α := Nat) la_I53 k k j h rfl]
theorem li_174 : ∀ j : Fin 21, la_i la_I53 174 j.val = -1 ∧ la_i la_I53 175 j.val = -1 := by decide
theorem li_198 : ∀ j : Fin 8, la_i la_I53 198 j.val = -1 := by decide
theorem A_0K : mt_K A_0 7 (la_i la_I53) := ⟨⟨by decide, by decide⟩, ⟨by decide, fun h => absurd h (Nat.lt_irrefl 0), by decide⟩, fun t _ => li_0 (by decide) t, fun t d _ _ => li_0 (by decide) _, fun v h => absurd h (Nat.not_lt_zero v), fun v _ _ h => absurd h (Nat.not_lt_zero v), fun v _ _ h => absurd h (Nat.not_lt_zero v), fun v _ h => absurd h (Nat.not_lt_zero v)⟩
theorem A_0M : mt_M A_0 (la_i la_I53) (la_l la_J4) := ⟨⟨li_0 (by decide) _, li_0 (by decide) _, fun h => absurd h (Nat.lt_irrefl 0)⟩, ⟨li_0 (by decide) _, fun h => absurd h (Nat.lt_irrefl 0), fun h => absurd h (Nat.lt_irrefl 0)⟩, fun t h => absurd h (Nat.not_lt_zero t), fun v h => absurd h (Nat.not_lt_zero v), fun v _ _ h => absurd h (Nat.not_lt_zero v), fun w t _ _ h => absurd h (Nat.not_lt_zero t), fun v _ h => absurd h (Nat.not_lt_zero v), fun r t _ h => absurd h (Nat.not_lt_zero t)⟩
theorem tab_0 {jn ks kv kc : Nat} (h : (la_i la_I53) 205 jn = 0) (hc : ∀ j : Fin 21, la_i la_I53 kc j.val = -1) : la_tab (la_i la_I53) jn ks kv kc := by
  have e0 : (0 : Int32).toInt = 0 := rfl
  unfold la_tab la_at
  rw [h, e0]
  refine ⟨by omega, fun v hv hj => by omega, fun v s hv hs => ?_⟩
  rw [if_neg (by omega)]
  exact hc ⟨3 * v + s, by omega⟩
theorem RF_0 : la_I RF la_S0 := by
  refine ⟨⟨⟨?_, ?_⟩, ?_, fun j hj => ⟨?_, ?_⟩⟩, ⟨⟨7, by decide, Or.inl rfl⟩, ⟨7, by decide, Or.inl rfl⟩, ⟨7, by decide, Or.inl rfl⟩, ⟨7, by decide, Or.inl rfl⟩, ⟨7, by decide, Or.inl rfl⟩, ⟨7, by decide, Or.inl rfl⟩⟩, RF_to (i := la_i la_I53) (l := la_l la_J4) (dd := la_d la_D9) (x := 0) ⟨A_0, A_0, fun _ => 0, ⟨A_0W, ⟨7, by decide, Or.inl rfl, A_0K⟩, A_0M⟩, ⟨A_0W, ⟨7, by decide, Or.inl rfl, A_0K⟩, li_0 (k := 205) (by decide) 52, fun h => absurd h (Nat.lt_irrefl 0)⟩, ⟨⟨tab_0 (li_0 (by decide) _) (fun j => (li_174 j).1), ?_, ?_⟩, tab_0 (li_0 (by decide) _) (fun j => (li_174 j).2), ⟨?_, fun v hv => ?_⟩, by decide, li_0 (k := 195) (by decide) 0⟩, ?_⟩⟩
  · show (0 : Int) ≤ (la_i la_I53 4 1).toInt
    rw [li_0 (by decide)]
    decide
  · show (la_i la_I53 4 1).toInt + 0 ≤ 740
    rw [li_0 (by decide)]
    decide
  · show la_i la_I53 205 2 = la_i la_I53 4 1
    rw [li_0 (by decide), li_0 (by decide)]
  · show la_i la_I53 206 j = la_i la_I53 5 j
    rw [li_0 (by decide), li_0 (by decide)]
  · show la_byte (la_i la_I53 5 j)
    rw [li_0 (by decide)]
    exact ⟨by decide, by decide⟩
  · show la_l la_J4 169 7 = if la_i la_I53 205 41 = 0 then -1 else la_l la_J4 205 42
    rw [if_pos (li_0 (by decide) _)]
    decide
  · show la_l la_J4 169 8 = if la_i la_I53 205 41 = 0 then -1 else la_l la_J4 205 43
    rw [if_pos (li_0 (by decide) _)]
    decide
  · show (la_i la_I53 205 64).toInt ≤ 5
    rw [li_0 (by decide)]
    decide
  · show la_i la_I53 198 v = if 0 < (la_i la_I53 205 64).toInt ∧ ((v : Int) < (la_i la_I53 205 64).toInt ∨ 5 ≤ v) then la_i la_I53 245 v else -1
    rw [li_0 (k := 205) (by decide), if_neg (fun h => absurd h.1 (by decide))]
    exact li_198 ⟨v, hv⟩
  · show la_i la_I53 157 0 = la_i la_I53 205 8
    rw [li_0 (by decide), li_0 (by decide)]
theorem la_claim : la_Claim := ⟨la_I RF, RF_0, fun sc _ => cR_all (sc := sc)⟩
