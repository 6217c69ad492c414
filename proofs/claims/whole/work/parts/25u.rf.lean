/-! THE INVARIANT: a matter on both sides, a matter whose votes are in turns on both sides, the tables kept -/
section TKU
variable {d : Nat} {sc : Nat × (Nat → Int32)} {i : Nat → Nat → Int32} {l : Nat → Nat → Int64} {dd : Nat → Nat → Value} {x : Nat}
def rK_ (τ : ab_S) : Prop := st_K τ ∧ la_tab τ.1 68 248 247 175 ∧ wg_K τ ∧ τ.2.1 191 3 = τ.2.1 205 61 ∧ τ.1 195 0 = 0
def rA_ (A : mA_) (τ : ab_S) : Prop := (∃ m, τ.2.2.1 3 11 = .ref m ∧ ab_isM m ∧ mt_K A m τ.1) ∧ mt_M A τ.1 τ.2.1
def rR_ (A B : mA_) (o : Nat → Nat) (τ : ab_S) : Prop := (mt_W A ∧ rA_ A τ) ∧ (mt_W B ∧ tn_K B o τ) ∧ rK_ τ ∧ τ.1 157 0 = τ.1 205 8
def RF (τ : ab_S) : Prop := ∃ A B o, rR_ A B o τ
def pK_ (k j : Nat) : Prop := k = 174 ∨ k = 175 ∨ (k = 195 ∧ j = 0) ∨ k = 198 ∨ k = 229 ∨ k = 230 ∨ k = 245 ∨ k = 247 ∨ k = 248 ∨ (k = 205 ∧ (j = 41 ∨ j = 64 ∨ j = 68))
def qK_ (k j : Nat) : Prop := (k = 169 ∧ (j = 7 ∨ j = 8)) ∨ (k = 191 ∧ j = 3) ∨ (k = 205 ∧ (j = 42 ∨ j = 43 ∨ j = 61))
theorem la_tabf {i i2 : Nat → Nat → Int32} {jn ks kv kc : Nat} (h : i2 205 jn = i 205 jn) (h1 : ∀ j, i2 ks j = i ks j) (h2 : ∀ j, i2 kv j = i kv j) (h3 : ∀ j, i2 kc j = i kc j) (hT : la_tab i jn ks kv kc) : la_tab i2 jn ks kv kc := by
  unfold la_tab la_at at hT ⊢
  rw [h]
  refine ⟨hT.1, fun v hv hj => ?_, fun v s hv hs => ?_⟩
  · rw [h1]
    exact hT.2.1 v hv hj
  · rw [h1, h2, h3]
    exact hT.2.2 v s hv hs
theorem rK_f {τ τ2 : ab_S} (h : ∀ k j, pK_ k j → τ2.1 k j = τ.1 k j) (hl : ∀ k j, qK_ k j → τ2.2.1 k j = τ.2.1 k j) (hK : rK_ τ) : rK_ τ2 := by
  obtain ⟨⟨k1, k2, k3⟩, k4, ⟨k5, k6⟩, k7, k8⟩ := hK
  refine ⟨⟨la_tabf (h _ _ (by unfold pK_; omega)) (fun j => h _ _ (by unfold pK_; omega)) (fun j => h _ _ (by unfold pK_; omega)) (fun j => h _ _ (by unfold pK_; omega)) k1, ?_, ?_⟩, la_tabf (h _ _ (by unfold pK_; omega)) (fun j => h _ _ (by unfold pK_; omega)) (fun j => h _ _ (by unfold pK_; omega)) (fun j => h _ _ (by unfold pK_; omega)) k4, ⟨?_, fun v hv => ?_⟩, ?_, ?_⟩
  · rw [hl _ _ (by unfold qK_; omega), hl _ _ (by unfold qK_; omega), h _ _ (by unfold pK_; omega)]
    exact k2
  · rw [hl _ _ (by unfold qK_; omega), hl _ _ (by unfold qK_; omega), h _ _ (by unfold pK_; omega)]
    exact k3
  · rw [h _ _ (by unfold pK_; omega)]
    exact k5
  · rw [h _ _ (by unfold pK_; omega), h _ _ (by unfold pK_; omega), h _ _ (by unfold pK_; omega)]
    exact k6 v hv
  · rw [hl _ _ (by unfold qK_; omega), hl _ _ (by unfold qK_; omega)]
    exact k7
  · rw [h _ _ (by unfold pK_; omega)]
    exact k8
def pM_ (k j : Nat) : Prop := (k = 205 ∧ 29 ≤ j ∧ j ≤ 31) ∨ (219 ≤ k ∧ k ≤ 222 ∧ j = 0) ∨ (k = 211 ∧ j < 3) ∨ ((k = 212 ∨ k = 218 ∨ k = 223) ∧ j < 7) ∨ (k = 213 ∧ j < 63) ∨ (k = 214 ∧ j < 72) ∨ (k = 225 ∧ j < 21)
theorem mt_Mp {A : mA_} {i2 : Nat → Nat → Int32} {l2 : Nat → Nat → Int64} (hW : mt_W A) (h : ∀ k j, pM_ k j → i2 k j = i k j) (h4 : ∀ j, l2 224 j = l 224 j) (hM : mt_M A i l) : mt_M A i2 l2 := by
  have w1 := hW.1
  have w2 := hW.2.1
  have w7 := hW.2.2.2.2.2.2.1
  obtain ⟨⟨r1, r2, r3⟩, ⟨r4, r5, r6⟩, r7, r8, r9, r10, r11, r12⟩ := hM
  refine ⟨⟨?_, ?_, fun y => ?_⟩, ⟨?_, fun y => ⟨?_, ?_⟩, fun y => ?_⟩, fun t ht => ?_, fun v hv => ⟨?_, ?_, ?_⟩, fun v s t hv hs ht => ?_, fun w t e hw ht he => ?_, fun v s hv hs => ?_, fun r t hr ht => ?_⟩
  · rw [h _ _ (by unfold pM_; omega)]; exact r1
  · rw [h _ _ (by unfold pM_; omega)]; exact r2
  · rw [h _ _ (by unfold pM_; omega)]; exact r3 y
  · rw [h _ _ (by unfold pM_; omega)]; exact r4
  · rw [h _ _ (by unfold pM_; omega)]; exact (r5 y).1
  · rw [h _ _ (by unfold pM_; omega)]; exact (r5 y).2
  · rw [h _ _ (by unfold pM_; omega)]; exact r6 y
  · rw [h _ _ (by unfold pM_; omega)]; exact r7 t ht
  · rw [h _ _ (by unfold pM_; omega)]; exact (r8 v hv).1
  · rw [h _ _ (by unfold pM_; omega)]; exact (r8 v hv).2.1
  · rw [h _ _ (by unfold pM_; omega)]; exact (r8 v hv).2.2
  · have := w7 v hv
    rw [h _ _ (by unfold pM_; omega)]; exact r9 v s t hv hs ht
  · have := r10 w t e hw ht he
    unfold mt_lo at this ⊢
    rw [h 214 (9 * w + 3 * t + e) (by unfold pM_; omega), h 214 (63 + 3 * t + e) (by unfold pM_; omega)]
    exact this
  · have := w7 v hv
    rw [h _ _ (by unfold pM_; omega)]; exact r11 v s hv hs
  · rw [h4]; exact r12 r t hr ht
theorem mt_Kp {A : mA_} {m : Nat} {i2 : Nat → Nat → Int32} (hm : ab_isM m) (hW : mt_W A) (h : ∀ k j, m ≤ k → k ≤ m + 47 → i2 k j = i k j) (hK : mt_K A m i) : mt_K A m i2 := mt_K_f hm hK (fun k h1 h2 => funext fun j => h k j h1 h2) hW
def pT_ (k j : Nat) : Prop := k = 180 ∨ (238 ≤ k ∧ k ≤ 240) ∨ (k = 205 ∧ j = 52)
def qT_ (k j : Nat) : Prop := k = 179 ∨ k = 184 ∨ (k = 205 ∧ 53 ≤ j ∧ j ≤ 55)
theorem tn_Kp {B : mA_} {o : Nat → Nat} {τ τ2 : ab_S} (hW : mt_W B) (h0 : τ2.2.2.1 179 0 = τ.2.2.1 179 0) (hc : ∀ m : Nat, τ.2.2.1 179 0 = .ref m → ab_isM m → ∀ k j : Nat, m ≤ k → k ≤ m + 47 → τ2.1 k j = τ.1 k j) (h : ∀ k j, pT_ k j → τ2.1 k j = τ.1 k j) (hl : ∀ k j, qT_ k j → τ2.2.1 k j = τ.2.1 k j) (hK : tn_K B o τ) : tn_K B o τ2 := by
  obtain ⟨⟨m, e0, hm, hK⟩, k1, k2⟩ := hK
  refine ⟨⟨m, h0.trans e0, hm, mt_Kp hm hW (hc m e0 hm) hK⟩, ?_, fun hp => ?_⟩
  · rw [h _ _ (by unfold pT_; omega)]
    exact k1
  · obtain ⟨g1, g2, g3, g4, g5, g6⟩ := k2 hp
    refine ⟨g1, fun k hk => ⟨?_, ?_, ?_⟩, fun k h' s hk hh hs => ?_, ?_, ?_, ?_⟩
    · rw [h _ _ (by unfold pT_; omega)]; exact (g2 k hk).1
    · rw [h _ _ (by unfold pT_; omega)]; exact (g2 k hk).2.1
    · rw [h _ _ (by unfold pT_; omega)]; exact (g2 k hk).2.2
    · rw [h _ _ (by unfold pT_; omega)]; exact g3 k h' s hk hh hs
    · rw [hl _ _ (by unfold qT_; omega), hl _ _ (by unfold qT_; omega)]; exact g4
    · rw [hl _ _ (by unfold qT_; omega), hl _ _ (by unfold qT_; omega)]; exact g5
    · rw [hl _ _ (by unfold qT_; omega), hl _ _ (by unfold qT_; omega), hl _ _ (by unfold qT_; omega), hl _ _ (by unfold qT_; omega)]; exact g6
/-- what the mask leaves -/
theorem mq_i {σ : ab_S} {k j : Nat} (h : la_ws k j = false) : (la_mask σ).1 k j = σ.1 k j := by
  show (if la_ws k j then 0 else σ.1 k j) = σ.1 k j
  rw [h]
  rfl
theorem mq_l {σ : ab_S} {k j : Nat} (h : la_ws k j = false) : (la_mask σ).2.1 k j = σ.2.1 k j := by
  show (if la_ws k j then 0 else σ.2.1 k j) = σ.2.1 k j
  rw [h]
  rfl
theorem mq_d {σ : ab_S} {k j : Nat} (h : la_ws k j = false) : (la_mask σ).2.2.1 k j = σ.2.2.1 k j := by
  show (if la_ws k j then .null else σ.2.2.1 k j) = σ.2.2.1 k j
  rw [h]
  rfl
theorem ws_K {k j : Nat} (h : pK_ k j) : la_ws k j = false := by
  rcases h with rfl | rfl | ⟨rfl, rfl⟩ | rfl | rfl | rfl | rfl | rfl | rfl | ⟨rfl, rfl | rfl | rfl⟩ <;> simp [la_ws]
theorem ws_qK {k j : Nat} (h : qK_ k j) : la_ws k j = false := by
  rcases h with ⟨rfl, rfl | rfl⟩ | ⟨rfl, rfl⟩ | ⟨rfl, rfl | rfl | rfl⟩ <;> simp [la_ws]
theorem ws_M {k j : Nat} (h : pM_ k j) : la_ws k j = false := by
  rcases h with ⟨rfl, h1, h2⟩ | ⟨h1, h2, rfl⟩ | ⟨rfl, h1⟩ | ⟨rfl | rfl | rfl, h1⟩ | ⟨rfl, h1⟩ | ⟨rfl, h1⟩ | ⟨rfl, h1⟩
  · rcases (show j = 29 ∨ j = 30 ∨ j = 31 by omega) with rfl | rfl | rfl <;> simp [la_ws]
  · rcases (show k = 219 ∨ k = 220 ∨ k = 221 ∨ k = 222 by omega) with rfl | rfl | rfl | rfl <;> simp [la_ws]
  · simp [la_ws]
  · simp [la_ws]
  · simp [la_ws]
  · simp [la_ws]
  · simp [la_ws]
  · simp [la_ws]
  · simp [la_ws]
    omega
theorem rR_m {A B : mA_} {o : Nat → Nat} : rR_ A B o (la_mask (i, l, dd, x)) ↔ rR_ A B o (i, l, dd, x) := by
  have hf : rK_ (la_mask (i, l, dd, x)) ↔ rK_ (i, l, dd, x) := ⟨fun h => rK_f (fun k j hk => (mq_i (σ := (i, l, dd, x)) (ws_K hk)).symm) (fun k j hk => (mq_l (σ := (i, l, dd, x)) (ws_qK hk)).symm) h, fun h => rK_f (fun k j hk => mq_i (ws_K hk)) (fun k j hk => mq_l (ws_qK hk)) h⟩
  have hA : mt_W A → (rA_ A (la_mask (i, l, dd, x)) ↔ rA_ A (i, l, dd, x)) := fun hW => ⟨fun ⟨⟨m, h1, h2, h3⟩, h4⟩ => ⟨⟨m, h1, h2, mt_Kp h2 hW (fun k j a b => (mq_i (σ := (i, l, dd, x)) (ws_m h2 a b)).symm) h3⟩, mt_Mp hW (fun k j hk => (mq_i (σ := (i, l, dd, x)) (ws_M hk)).symm) (fun j => (mq_l (σ := (i, l, dd, x)) (by simp [la_ws])).symm) h4⟩, fun ⟨⟨m, h1, h2, h3⟩, h4⟩ => ⟨⟨m, h1, h2, mt_Kp h2 hW (fun k j a b => mq_i (σ := (i, l, dd, x)) (ws_m h2 a b)) h3⟩, mt_Mp hW (fun k j hk => mq_i (σ := (i, l, dd, x)) (ws_M hk)) (fun j => mq_l (σ := (i, l, dd, x)) (by simp [la_ws])) h4⟩⟩
  have e1 : (la_mask (i, l, dd, x)).1 157 0 = i 157 0 := rfl
  have e2 : (la_mask (i, l, dd, x)).1 205 8 = i 205 8 := rfl
  constructor
  · rintro ⟨⟨a1, a2⟩, ⟨a3, a4⟩, a5, a6⟩
    exact ⟨⟨a1, (hA a1).mp a2⟩, ⟨a3, (tn_Km a3).mp a4⟩, hf.mp a5, by rw [e1, e2] at a6; exact a6⟩
  · rintro ⟨⟨a1, a2⟩, ⟨a3, a4⟩, a5, a6⟩
    exact ⟨⟨a1, (hA a1).mpr a2⟩, ⟨a3, (tn_Km a3).mpr a4⟩, hf.mpr a5, by rw [e1, e2]; exact a6⟩
theorem RF_of (h : la_I RF (i, l, dd, x)) : RF (i, l, dd, x) := by
  obtain ⟨A, B, o, h⟩ := h.2.2
  exact ⟨A, B, o, rR_m.mp h⟩
theorem RF_to (h : RF (i, l, dd, x)) : RF (la_mask (i, l, dd, x)) := by
  obtain ⟨A, B, o, h⟩ := h
  exact ⟨A, B, o, rR_m.mpr h⟩
end TKU
