/-! weighed: the model's loops -/
def pl_ (t k e n : Nat) : Prop := n / 3 % 3 < t ∨ n / 3 % 3 = t ∧ (n / 9 < k ∨ n / 9 = k ∧ n % 3 < e)
def wI_ (A : mA_) (q t k e x c : Nat) : Prop := c < 144 ∧ wd_ A (q * 144 + c) ∧ pl_ t k e c ∧ wv_ A (q * 144 + c) = x ∧ ∀ n, n < 144 → wd_ A (q * 144 + n) → pl_ t k e n → x < wv_ A (q * 144 + n) ∨ (x = wv_ A (q * 144 + n) ∧ c ≤ n)
def wJ_ (A : mA_) (q t k e : Nat) (L : Int64) (C : Int32) : Prop := ((∀ n, n < 144 → wd_ A (q * 144 + n) → ¬ pl_ t k e n) ∧ L = Int64.ofNat 1000000000000000000 ∧ C = -1) ∨ ∃ x c, wI_ A q t k e x c ∧ L = Int64.ofNat x ∧ C = Int32.ofNat c
theorem wJ_sk {A : mA_} {q t k e t2 k2 e2 : Nat} {L : Int64} {C : Int32} (h : wJ_ A q t k e L C) (he : ∀ n, n < 144 → wd_ A (q * 144 + n) → (pl_ t k e n ↔ pl_ t2 k2 e2 n)) : wJ_ A q t2 k2 e2 L C := by
  rcases h with ⟨h1, h2⟩ | ⟨x, c, ⟨h1, h2, h3, h4, h5⟩, h6⟩
  · exact Or.inl ⟨fun n a b z => h1 n a b ((he n a b).mpr z), h2⟩
  · exact Or.inr ⟨x, c, ⟨h1, h2, (he c h1 h2).mp h3, h4, fun n a b z => h5 n a b ((he n a b).mpr z)⟩, h6⟩
theorem pl_s {t k e n : Nat} (hn : n < 144) (ht : t < 3) (he : e < 3) : pl_ t k (e + 1) n ↔ pl_ t k e n ∨ n = 9 * k + 3 * t + e := by
  unfold pl_
  omega
theorem wJ_gt {A : mA_} {q t k e : Nat} {L : Int64} {C : Int32} (hW : mt_W A) (h : wJ_ A q t k e L C) (ht : t < 3) (he : e < 3) (hg : L < Int64.ofNat (wv_ A (q * 144 + (9 * k + 3 * t + e)))) : wJ_ A q t k (e + 1) L C := by
  have hB := wv_B (n := q * 144 + (9 * k + 3 * t + e)) hW
  rcases h with ⟨h1, h2, h3⟩ | ⟨x, c, ⟨h1, h2, h3, h4, h5⟩, h6, h7⟩
  · rw [h2, nl_lt (by omega) (by omega)] at hg
    omega
  · have hB2 := wv_B (n := q * 144 + c) hW
    rw [h6, nl_lt (by omega) (by omega)] at hg
    refine Or.inr ⟨x, c, ⟨h1, h2, (pl_s h1 ht he).mpr (Or.inl h3), h4, fun n a b z => ?_⟩, h6, h7⟩
    rcases (pl_s a ht he).mp z with y | y
    · exact h5 n a b y
    · rw [y]
      exact Or.inl hg
theorem wJ_up {A : mA_} {q t k e : Nat} {L : Int64} {C : Int32} (hW : mt_W A) (h : wJ_ A q t k e L C) (hk : k ≤ 15) (ht : t < 3) (he : e < 3) (hd : wd_ A (q * 144 + (9 * k + 3 * t + e))) (hg : ¬ L < Int64.ofNat (wv_ A (q * 144 + (9 * k + 3 * t + e)))) (h0 : ¬ Int64.ofNat (wv_ A (q * 144 + (9 * k + 3 * t + e))) = L ∨ Int32.ofNat (9 * k + 3 * t + e) < C) : wJ_ A q t k (e + 1) (Int64.ofNat (wv_ A (q * 144 + (9 * k + 3 * t + e)))) (Int32.ofNat (9 * k + 3 * t + e)) := by
  have hB := wv_B (n := q * 144 + (9 * k + 3 * t + e)) hW
  refine Or.inr ⟨_, _, ⟨by omega, hd, (pl_s (by omega) ht he).mpr (Or.inr rfl), rfl, fun n a b z => ?_⟩, rfl, rfl⟩
  rcases h with ⟨h1, h2, h3⟩ | ⟨x, c, ⟨h1, h2, h3, h4, h5⟩, h6, h7⟩
  · rcases (pl_s a ht he).mp z with y | y
    · exact absurd y (h1 n a b)
    · rw [y]
      exact Or.inr ⟨rfl, Nat.le_refl _⟩
  · have hB2 := wv_B (n := q * 144 + c) hW
    rw [h6, nl_lt (by omega) (by omega)] at hg
    rw [h6, h7, nl_eq (by omega) (by omega), nn_lt (by omega) (by omega)] at h0
    rcases (pl_s a ht he).mp z with y | y
    · have := h5 n a b y
      omega
    · rw [y]
      exact Or.inr ⟨rfl, Nat.le_refl _⟩
theorem wJ_eq {A : mA_} {q t k e : Nat} {L : Int64} {C : Int32} (hW : mt_W A) (h : wJ_ A q t k e L C) (hk : k ≤ 15) (ht : t < 3) (he : e < 3) (h0 : Int64.ofNat (wv_ A (q * 144 + (9 * k + 3 * t + e))) = L) (h9 : ¬ Int32.ofNat (9 * k + 3 * t + e) < C) : wJ_ A q t k (e + 1) L C := by
  have hB := wv_B (n := q * 144 + (9 * k + 3 * t + e)) hW
  rcases h with ⟨h1, h2, h3⟩ | ⟨x, c, ⟨h1, h2, h3, h4, h5⟩, h6, h7⟩
  · rw [h2, nl_eq (by omega) (by omega)] at h0
    omega
  · have hB2 := wv_B (n := q * 144 + c) hW
    rw [h6, nl_eq (by omega) (by omega)] at h0
    rw [h7, nn_lt (by omega) (by omega)] at h9
    refine Or.inr ⟨x, c, ⟨h1, h2, (pl_s h1 ht he).mpr (Or.inl h3), h4, fun n a b z => ?_⟩, h6, h7⟩
    rcases (pl_s a ht he).mp z with y | y
    · exact h5 n a b y
    · rw [y]
      exact Or.inr ⟨by omega, by omega⟩
/-- what the model keeps -/
def wl_ (A : mA_) (a : Nat) (i : Nat → Nat → Int32) : Prop := (∀ v, v < aV_ A → i 245 v = Int32.ofNat (wt_ (aV_ A) (a / 144) v)) ∧ i 245 5 = Int32.ofNat (a % 144 / 9) ∧ i 245 6 = Int32.ofNat (a % 144 / 3 % 3) ∧ i 245 7 = Int32.ofNat (a % 144 % 3)
def wO_ (A : mA_) (N : Nat) (L : Int64) (i : Nat → Nat → Int32) : Prop := (N = 0 ∧ L = Int64.ofNat 1000000000000000000) ∨ ∃ x a, wF_ A N x a ∧ L = Int64.ofNat x ∧ wl_ A a i
theorem wJ_all {A : mA_} {q : Nat} {L : Int64} {C : Int32} (hW : mt_W A) (hp : 0 < aV_ A) (h : wJ_ A q (aT_ A) 1 0 L C) : ∃ x c, c < 144 ∧ wd_ A (q * 144 + c) ∧ wv_ A (q * 144 + c) = x ∧ (∀ n, n < 144 → wd_ A (q * 144 + n) → x < wv_ A (q * 144 + n) ∨ (x = wv_ A (q * 144 + n) ∧ c ≤ n)) ∧ L = Int64.ofNat x ∧ C = Int32.ofNat c := by
  have w1 := hW.1
  have w4 := hW.2.2.2.1 hp
  have hpl : ∀ n, wd_ A (q * 144 + n) → n < 144 → pl_ (aT_ A) 1 0 n := fun n hd hn => by
    have := hd.2.1
    unfold pl_
    omega
  have h10 : wd_ A (q * 144 + 10) := by
    unfold wd_
    omega
  rcases h with ⟨h1, h2, h3⟩ | ⟨x, c, ⟨h1, h2, h3, h4, h5⟩, h6, h7⟩
  · exact absurd (hpl 10 h10 (by omega)) (h1 10 (by omega) h10)
  · exact ⟨x, c, h1, h2, h4, fun n a b => h5 n a b (hpl n b a), h6, h7⟩
theorem wO_no {A : mA_} {q x c : Nat} {B : Int64} {i : Nat → Nat → Int32} (hW : mt_W A) (hO : wO_ A (q * 144) B i) (hv : wv_ A (q * 144 + c) = x) (hmin : ∀ n, n < 144 → wd_ A (q * 144 + n) → x < wv_ A (q * 144 + n) ∨ (x = wv_ A (q * 144 + n) ∧ c ≤ n)) (hg : ¬ Int64.ofNat x < B) : wO_ A ((q + 1) * 144) B i := by
  have hB := wv_B (n := q * 144 + c) hW
  rcases hO with ⟨h1, h2⟩ | ⟨y, a, h1, h2, h3⟩
  · rw [h2, nl_lt (by omega) (by omega)] at hg
    omega
  · have hB2 := wv_B (n := a) hW
    rw [h1.2.2.1] at hB2
    rw [h2, nl_lt (by omega) (by omega)] at hg
    refine Or.inr ⟨y, a, ⟨by have := h1.1; omega, h1.2.1, h1.2.2.1, fun n hn hd => ?_, h1.2.2.2.2⟩, h2, h3⟩
    by_cases z : n < q * 144
    · exact h1.2.2.2.1 n z hd
    · have e : n = q * 144 + (n - q * 144) := by omega
      rw [e] at hd ⊢
      have := hmin (n - q * 144) (by omega) hd
      omega
theorem wO_ye {A : mA_} {q x c : Nat} {B : Int64} {i i2 : Nat → Nat → Int32} (hW : mt_W A) (hO : wO_ A (q * 144) B i) (hc : c < 144) (hd : wd_ A (q * 144 + c)) (hv : wv_ A (q * 144 + c) = x) (hmin : ∀ n, n < 144 → wd_ A (q * 144 + n) → x < wv_ A (q * 144 + n) ∨ (x = wv_ A (q * 144 + n) ∧ c ≤ n)) (hg : Int64.ofNat x < B) (hl : wl_ A (q * 144 + c) i2) : wO_ A ((q + 1) * 144) (Int64.ofNat x) i2 := by
  have hB := wv_B (n := q * 144 + c) hW
  refine Or.inr ⟨x, q * 144 + c, ⟨by omega, hd, hv, fun n hn hd => ?_, fun n hn hd => ?_⟩, rfl, hl⟩
  · by_cases z : n < q * 144
    · rcases hO with ⟨h1, h2⟩ | ⟨y, a, h1, h2, h3⟩
      · omega
      · have hB2 := wv_B (n := a) hW
        rw [h1.2.2.1] at hB2
        rw [h2, nl_lt (by omega) (by omega)] at hg
        have := h1.2.2.2.1 n z hd
        omega
    · have e : n = q * 144 + (n - q * 144) := by omega
      rw [e] at hd ⊢
      have := hmin (n - q * 144) (by omega) hd
      omega
  · by_cases z : n < q * 144
    · rcases hO with ⟨h1, h2⟩ | ⟨y, a, h1, h2, h3⟩
      · omega
      · have hB2 := wv_B (n := a) hW
        rw [h1.2.2.1] at hB2
        rw [h2, nl_lt (by omega) (by omega)] at hg
        have := h1.2.2.2.1 n z hd
        omega
    · have e : n = q * 144 + (n - q * 144) := by omega
      rw [e] at hd ⊢
      have := hmin (n - q * 144) (by omega) hd
      omega
theorem w144 {c : Nat} (hc : c < 144) : Int32.ofNat c / 9 = Int32.ofNat (c / 9) ∧ Int32.ofNat c / 3 - Int32.ofNat c / 3 / 3 * 3 = Int32.ofNat (c / 3 % 3) ∧ Int32.ofNat c - Int32.ofNat c / 3 * 3 = Int32.ofNat (c % 3) := by
  have h : ∀ c : Fin 144, Int32.ofNat c.val / 9 = Int32.ofNat (c.val / 9) ∧ Int32.ofNat c.val / 3 - Int32.ofNat c.val / 3 / 3 * 3 = Int32.ofNat (c.val / 3 % 3) ∧ Int32.ofNat c.val - Int32.ofNat c.val / 3 * 3 = Int32.ofNat (c.val % 3) := by decide +kernel
  exact h ⟨c, hc⟩
