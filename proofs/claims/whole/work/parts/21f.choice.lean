/-! the class: the choices of a voter (SIGNS with one vote are one choice) -/
abbrev mC_ : Type := Nat × (Nat → Nat) × (Nat → Nat → Nat)
/-- the first place of a code, from k on -/
def mt_fi (code : Nat → Nat) (vote : Nat) : Nat → Nat → Nat
  | 0, k => k
  | r + 1, k => if code k = vote then k else mt_fi code vote r (k + 1)
theorem mt_fi_s {code : Nat → Nat} {vote : Nat} : ∀ r k, k ≤ mt_fi code vote r k ∧ mt_fi code vote r k ≤ k + r ∧ (mt_fi code vote r k < k + r → code (mt_fi code vote r k) = vote) ∧ ∀ b, k ≤ b → b < mt_fi code vote r k → code b ≠ vote := by
  intro r
  induction r with
  | zero => intro k; exact ⟨Nat.le_refl k, Nat.le_refl k, fun h => absurd h (Nat.lt_irrefl k), fun b h1 h2 => absurd h2 (show ¬ b < k by omega)⟩
  | succ r ih =>
    intro k
    obtain ⟨h1, h2, h3, h4⟩ := ih (k + 1)
    unfold mt_fi
    by_cases c : code k = vote
    · rw [if_pos c]
      exact ⟨Nat.le_refl k, by omega, fun _ => c, fun b hb hb2 => absurd hb2 (by omega)⟩
    · rw [if_neg c]
      refine ⟨by omega, by omega, fun h => h3 (by omega), fun b hb hb2 => ?_⟩
      by_cases e : b = k
      · rw [e]
        exact c
      · exact h4 b (by omega) hb2
def mt_ad (c : mC_) (vote : Nat) (lk : Nat → Nat) : mC_ := (if mt_fi c.2.1 vote c.1 0 = c.1 then c.1 + 1 else c.1, pu_u c.2.1 (mt_fi c.2.1 vote c.1 0) vote, fun b t => if b = mt_fi c.2.1 vote c.1 0 then (if mt_fi c.2.1 vote c.1 0 = c.1 then 0 else c.2.2 b t) + lk t else c.2.2 b t)
/-- bounds, behind n that were added -/
def mt_cb (n : Nat) (c : mC_) : Prop := c.1 ≤ n ∧ ∀ a, a < c.1 → c.2.1 a ≤ 9 ∧ ∀ t, c.2.2 a t ≤ 20 * n
theorem mt_ad_b {n : Nat} {c : mC_} {vote : Nat} {lk : Nat → Nat} (h : mt_cb n c) (hv : vote ≤ 9) (hl : ∀ t, lk t ≤ 20) : mt_cb (n + 1) (mt_ad c vote lk) ∧ 0 < (mt_ad c vote lk).1 := by
  obtain ⟨f1, f2, f3, f4⟩ := mt_fi_s (code := c.2.1) (vote := vote) c.1 0
  obtain ⟨h1, h2⟩ := h
  unfold mt_ad mt_cb
  generalize mt_fi c.2.1 vote c.1 0 = a at *
  dsimp only
  refine ⟨⟨by split <;> omega, fun b hb => ?_⟩, by split <;> omega⟩
  have hb2 : b < c.1 ∨ b = a := by
    by_cases e : a = c.1
    · rw [if_pos e] at hb
      omega
    · rw [if_neg e] at hb
      omega
  by_cases e : b = a
  · refine ⟨by rw [e, pu_ue]; exact hv, fun t => ?_⟩
    rw [if_pos e]
    have := hl t
    by_cases e2 : a = c.1
    · rw [if_pos e2]
      omega
    · rw [if_neg e2]
      have := (h2 b (by omega)).2 t
      omega
  · rw [pu_un e]
    refine ⟨(h2 b (by omega)).1, fun t => ?_⟩
    rw [if_neg e]
    have := (h2 b (by omega)).2 t
    omega
/-- what is added to any sum over the choices -/
theorem mt_ad_s {c : mC_} {vote : Nat} {lk : Nat → Nat} {F : Nat → Nat} {t : Nat} : pu_s (fun a => F ((mt_ad c vote lk).2.1 a) * (mt_ad c vote lk).2.2 a t) (mt_ad c vote lk).1 = pu_s (fun a => F (c.2.1 a) * c.2.2 a t) c.1 + F vote * lk t := by
  obtain ⟨f1, f2, f3, f4⟩ := mt_fi_s (code := c.2.1) (vote := vote) c.1 0
  unfold mt_ad
  generalize mt_fi c.2.1 vote c.1 0 = a at *
  dsimp only
  by_cases e : a = c.1
  · rw [if_pos e]
    show pu_s _ c.1 + _ = _
    rw [pu_sc (g := fun b => F (c.2.1 b) * c.2.2 b t) (fun b hb => by rw [pu_un (by omega), if_neg (by omega)]), e]
    dsimp only
    rw [pu_ue, if_pos rfl, if_pos rfl, Nat.zero_add]
  · rw [if_neg e]
    have h3 := f3 (by omega)
    rw [pu_sc (g := fun b => F (c.2.1 b) * c.2.2 b t + (if b = a then F vote * lk t else 0)) (fun b hb => by
      by_cases e2 : b = a
      · rw [e2, pu_ue, if_pos rfl, if_pos rfl, if_neg e, h3, Nat.mul_add]
      · rw [pu_un e2, if_neg e2, if_neg e2, Nat.add_zero])]
    rw [pu_sa, pu_s1, if_pos (by omega)]
/-- the codes are unlike -/
def mt_cd (c : mC_) : Prop := ∀ a b, a < c.1 → b < c.1 → c.2.1 a = c.2.1 b → a = b
theorem mt_ad_d {c : mC_} {vote : Nat} {lk : Nat → Nat} (h : mt_cd c) : mt_cd (mt_ad c vote lk) ∧ (∀ a, a < (mt_ad c vote lk).1 → (mt_ad c vote lk).2.1 a = vote ∨ ∃ b, b < c.1 ∧ c.2.1 b = (mt_ad c vote lk).2.1 a) ∧ (∃ a, a < (mt_ad c vote lk).1 ∧ (mt_ad c vote lk).2.1 a = vote) ∧ ∀ b, b < c.1 → ∃ a, a < (mt_ad c vote lk).1 ∧ (mt_ad c vote lk).2.1 a = c.2.1 b := by
  obtain ⟨f1, f2, f3, f4⟩ := mt_fi_s (code := c.2.1) (vote := vote) c.1 0
  unfold mt_ad mt_cd
  generalize mt_fi c.2.1 vote c.1 0 = k at *
  dsimp only
  have hle : ∀ a, a < (if k = c.1 then c.1 + 1 else c.1) → a ≠ k → a < c.1 := fun a ha hk => by
    by_cases e : k = c.1
    · rw [if_pos e] at ha
      omega
    · rw [if_neg e] at ha
      exact ha
  have hge : ∀ a, a < c.1 → a < (if k = c.1 then c.1 + 1 else c.1) := fun a ha => by split <;> omega
  have hk : k < (if k = c.1 then c.1 + 1 else c.1) := by split <;> omega
  have hu : ∀ a, a < c.1 → a ≠ k → c.2.1 a ≠ vote := fun a ha hk z => by
    by_cases e : a < k
    · exact f4 a (by omega) e z
    · have h3 := f3 (by omega)
      exact hk (h a k ha (by omega) (z.trans h3.symm))
  refine ⟨fun a b ha hb => ?_, fun a ha => ?_, ⟨k, hk, pu_ue⟩, fun b hb => ?_⟩
  · by_cases e1 : a = k
    · by_cases e2 : b = k
      · intro _
        omega
      · rw [e1, pu_ue, pu_un e2]
        intro z
        exact absurd z.symm (hu b (hle b hb e2) e2)
    · by_cases e2 : b = k
      · rw [e2, pu_ue, pu_un e1]
        intro z
        exact absurd z (hu a (hle a ha e1) e1)
      · rw [pu_un e1, pu_un e2]
        exact h a b (hle a ha e1) (hle b hb e2)
  · by_cases e1 : a = k
    · rw [e1, pu_ue]
      exact Or.inl rfl
    · rw [pu_un e1]
      exact Or.inr ⟨a, hle a ha e1, rfl⟩
  · by_cases e1 : b = k
    · refine ⟨k, hk, ?_⟩
      rw [pu_ue, e1]
      exact (f3 (by omega)).symm
    · exact ⟨b, hge b hb, pu_un e1⟩
/-- the choices of a voter in the class's cells -/
def mt_c1 (c : mC_) (v : Nat) (i : Nat → Nat → Int32) : Prop := i 161 v = Int32.ofNat c.1 ∧ ∀ a, a < c.1 → i 163 (3 * v + a) = Int32.ofNat (c.2.1 a) ∧ ∀ t, t < 3 → i 164 (3 * (3 * v + a) + t) = Int32.ofNat (c.2.2 a t)
def mt_c0 : mC_ := (0, fun _ => 0, fun _ _ => 0)
theorem mt_K_f {A : mA_} {m : Nat} {i i2 : Nat → Nat → Int32} (hm : ab_isM m) (hK : mt_K A m i) (h : ∀ k, m ≤ k → k ≤ m + 47 → i2 k = i k) (hW : mt_W A) : mt_K A m i2 := by
  have w2 := hW.2.1
  unfold mt_K
  rw [h m (by omega) (by omega), h (m + 1) (by omega) (by omega), h (m + 3) (by omega) (by omega), h (m + 47) (by omega) (by omega)]
  obtain ⟨q1, q3, q6, q7, q8, q9, q10, q11⟩ := hK
  refine ⟨q1, q3, q6, q7, fun v hv => ?_, fun v s t hv => ?_, fun v t e hv => ?_, q11⟩
  · rw [h (m + 5 + 6 * v) (by omega) (by omega)]
    exact q8 v hv
  · rw [h (m + 5 + 6 * v + 1) (by omega) (by omega)]
    exact q9 v s t hv
  · rw [h (m + 5 + 6 * v + 4) (by omega) (by omega)]
    exact q10 v t e hv
theorem mt_K_o {A : mA_} {m lo hi : Nat} {i i2 : Nat → Nat → Int32} (hm : ab_isM m) (hK : mt_K A m i) (hf : fr_o lo hi i i2) (h : 155 ≤ lo) (hW : mt_W A) : mt_K A m i2 :=
  mt_K_f hm hK (fun k h1 h2 => hf k (Or.inl (by rcases hm with rfl | rfl | rfl <;> omega))) hW
