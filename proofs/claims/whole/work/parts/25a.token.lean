/-! TOKENS, pure: z = the bytes and how many -/
abbrev zD (c : Nat) : Prop := 48 ≤ c ∧ c ≤ 57
abbrev zL (c : Nat) : Prop := 97 ≤ c ∧ c ≤ 122
abbrev zB (c : Nat) : Prop := c = 32 ∨ c = 10
def z_bl (z : (Nat → Nat) × Nat) : Nat → Nat → Nat
  | 0, p => p
  | n + 1, p => if zB (z.1 p) then z_bl z n (p + 1) else p
def z_q (z : (Nat → Nat) × Nat) (p : Nat) : Nat := z_bl z (z.2 - p) p
theorem z_q0 {z : (Nat → Nat) × Nat} {p : Nat} (h : z.2 ≤ p) : z_q z p = p := by
  unfold z_q
  rw [show z.2 - p = 0 by omega]
  rfl
theorem z_q1 {z : (Nat → Nat) × Nat} {p : Nat} (h : p < z.2) : z_q z p = if zB (z.1 p) then z_q z (p + 1) else p := by
  unfold z_q
  rw [show z.2 - p = z.2 - (p + 1) + 1 by omega]
  rfl
theorem z_ql {z : (Nat → Nat) × Nat} : ∀ n p, z.2 = p + n → p ≤ z_q z p ∧ z_q z p ≤ z.2 := by
  intro n
  induction n with
  | zero =>
    intro p h
    rw [z_q0 (by omega)]
    omega
  | succ n ih =>
    intro p h
    have := ih (p + 1) (by omega)
    rw [z_q1 (by omega)]
    split <;> omega
def z_n (z : (Nat → Nat) × Nat) : Nat → Nat → Nat
  | 0, _ => 0
  | n + 1, q => if zD (z.1 q) ∨ zL (z.1 q) then z_n z n (q + 1) + 1 else 0
def z_len (z : (Nat → Nat) × Nat) (q : Nat) : Nat := z_n z (z.2 - q) q
theorem z_len0 {z : (Nat → Nat) × Nat} {q : Nat} (h : z.2 ≤ q) : z_len z q = 0 := by
  unfold z_len
  rw [show z.2 - q = 0 by omega]
  rfl
theorem z_len1 {z : (Nat → Nat) × Nat} {q : Nat} (h : q < z.2) : z_len z q = if zD (z.1 q) ∨ zL (z.1 q) then z_len z (q + 1) + 1 else 0 := by
  unfold z_len
  rw [show z.2 - q = z.2 - (q + 1) + 1 by omega]
  rfl
theorem z_lenl {z : (Nat → Nat) × Nat} : ∀ n q, z.2 = q + n → z_len z q ≤ n := by
  intro n
  induction n with
  | zero =>
    intro p h
    rw [z_len0 (by omega)]
    omega
  | succ n ih =>
    intro p h
    have := ih (p + 1) (by omega)
    rw [z_len1 (by omega)]
    split <;> omega
theorem z_lenj {z : (Nat → Nat) × Nat} : ∀ j q, (∀ k, k < j → zD (z.1 (q + k)) ∨ zL (z.1 (q + k))) → q + j ≤ z.2 → (q + j = z.2 ∨ ¬ (zD (z.1 (q + j)) ∨ zL (z.1 (q + j)))) → z_len z q = j := by
  intro j
  induction j with
  | zero =>
    intro q _ h1 h2
    rcases h2 with h2 | h2
    · exact z_len0 (by omega)
    · by_cases c : q < z.2
      · rw [Nat.add_zero] at h2
        rw [z_len1 c, if_neg h2]
      · exact z_len0 (by omega)
  | succ j ih =>
    intro q h h1 h2
    have h0 := h 0 (by omega)
    rw [Nat.add_zero] at h0
    rw [z_len1 (by omega), if_pos h0, ih (q + 1) (fun k hk => by
      have := h (k + 1) (by omega)
      rw [show q + 1 + k = q + (k + 1) by omega]
      exact this) (by omega) (by
      rw [show q + 1 + j = q + (j + 1) by omega]
      exact h2)]
def zl_ (z : (Nat → Nat) × Nat) (q : Nat) : Nat → Nat
  | 0 => 0
  | j + 1 => zl_ z q j + (if zL (z.1 (q + j)) then 1 else 0)
def zd_ (z : (Nat → Nat) × Nat) (q : Nat) : Nat → Nat
  | 0 => 0
  | j + 1 => zd_ z q j + (if zD (z.1 (q + j)) then 1 else 0)
def zw_ (z : (Nat → Nat) × Nat) (q : Nat) : Nat → Nat
  | 0 => 0
  | j + 1 => if zL (z.1 (q + j)) then 256 * zw_ z q j + z.1 (q + j) else zw_ z q j
def zn_ (z : (Nat → Nat) × Nat) (q : Nat) : Nat → Nat
  | 0 => 0
  | j + 1 => if zD (z.1 (q + j)) then zn_ z q j * 10 + z.1 (q + j) - 48 else zn_ z q j
def z27 (z : (Nat → Nat) × Nat) (q : Nat) : Nat → Nat
  | 0 => 0
  | j + 1 => 27 * z27 z q j + z.1 (q + j) - 96
theorem zl_zd {z : (Nat → Nat) × Nat} {q : Nat} : ∀ j, (∀ k, k < j → zD (z.1 (q + k)) ∨ zL (z.1 (q + k))) → zl_ z q j + zd_ z q j = j := by
  intro j
  induction j with
  | zero => intro _; rfl
  | succ j ih =>
    intro h
    have h1 := ih (fun k hk => h k (by omega))
    have h2 := h j (by omega)
    show zl_ z q j + (if zL (z.1 (q + j)) then 1 else 0) + (zd_ z q j + (if zD (z.1 (q + j)) then 1 else 0)) = j + 1
    rcases h2 with h2 | h2
    · rw [if_pos h2, if_neg (by omega)]
      omega
    · rw [if_pos h2, if_neg (by omega)]
      omega
theorem zw_l {z : (Nat → Nat) × Nat} {q : Nat} : ∀ j, zw_ z q j < 256 ^ zl_ z q j := by
  intro j
  induction j with
  | zero => exact Nat.zero_lt_one
  | succ j ih =>
    show (if zL (z.1 (q + j)) then 256 * zw_ z q j + z.1 (q + j) else zw_ z q j) < 256 ^ (zl_ z q j + (if zL (z.1 (q + j)) then 1 else 0))
    by_cases c : zL (z.1 (q + j))
    · rw [if_pos c, if_pos c, Nat.pow_succ]
      omega
    · rw [if_neg c, if_neg c, Nat.add_zero]
      exact ih
/-- a word of 256 as one of 27 -/
def cv_ : Nat → Nat → Nat
  | 0, _ => 0
  | k + 1, W => if W = 0 then 0 else 27 * cv_ k (W / 256) + W % 256 - 96
/-- its bytes are small letters -/
def gw_ : Nat → Nat → Prop
  | 0, W => W = 0
  | k + 1, W => W = 0 ∨ (97 ≤ W % 256 ∧ W % 256 ≤ 122 ∧ gw_ k (W / 256))
theorem cv_0 : ∀ k, cv_ k 0 = 0 := by
  intro k
  cases k with
  | zero => rfl
  | succ k => exact if_pos rfl
theorem gw_0 : ∀ k, gw_ k 0 := by
  intro k
  cases k with
  | zero => rfl
  | succ k => exact Or.inl rfl
theorem cv_p {k W : Nat} (hg : gw_ k W) (h : W ≠ 0) : 0 < cv_ k W := by
  cases k with
  | zero => exact absurd hg h
  | succ k =>
    rcases hg with hg | hg
    · exact absurd hg h
    · rw [show cv_ (k + 1) W = 27 * cv_ k (W / 256) + W % 256 - 96 from if_neg h]
      omega
theorem cv_inj : ∀ k W X, gw_ k W → gw_ k X → cv_ k W = cv_ k X → W = X := by
  intro k
  induction k with
  | zero =>
    intro W X h1 h2 _
    rw [show W = 0 from h1, show X = 0 from h2]
  | succ k ih =>
    intro W X h1 h2 h3
    by_cases c1 : W = 0
    · by_cases c2 : X = 0
      · rw [c1, c2]
      · have := cv_p h2 c2
        rw [c1, cv_0] at h3
        omega
    · by_cases c2 : X = 0
      · have := cv_p h1 c1
        rw [c2, cv_0] at h3
        omega
      · rcases h1 with h1 | ⟨a1, a2, a3⟩
        · exact absurd h1 c1
        · rcases h2 with h2 | ⟨b1, b2, b3⟩
          · exact absurd h2 c2
          · rw [show cv_ (k + 1) W = 27 * cv_ k (W / 256) + W % 256 - 96 from if_neg c1, show cv_ (k + 1) X = 27 * cv_ k (X / 256) + X % 256 - 96 from if_neg c2] at h3
            have e := ih _ _ a3 b3 (by omega)
            omega
theorem cv_st {k : Nat} : ∀ j W, gw_ j W → j ≤ k → gw_ k W ∧ cv_ k W = cv_ j W := by
  induction k with
  | zero =>
    intro j W h hj
    rw [show j = 0 by omega] at h ⊢
    exact ⟨h, rfl⟩
  | succ k ih =>
    intro j W h hj
    cases j with
    | zero =>
      rw [show W = 0 from h]
      exact ⟨gw_0 _, by rw [cv_0, cv_0]⟩
    | succ j =>
      rcases h with h | ⟨a1, a2, a3⟩
      · rw [h]
        exact ⟨gw_0 _, by rw [cv_0, cv_0]⟩
      · obtain ⟨e1, e2⟩ := ih j _ a3 (by omega)
        have hW : W ≠ 0 := fun z => by
          rw [z] at a1
          exact absurd a1 (by decide)
        refine ⟨Or.inr ⟨a1, a2, e1⟩, ?_⟩
        rw [show cv_ (k + 1) W = 27 * cv_ k (W / 256) + W % 256 - 96 from if_neg hW, show cv_ (j + 1) W = 27 * cv_ j (W / 256) + W % 256 - 96 from if_neg hW, e2]
theorem zw_g {z : (Nat → Nat) × Nat} {q : Nat} : ∀ j, zd_ z q j = 0 → (∀ k, k < j → zD (z.1 (q + k)) ∨ zL (z.1 (q + k))) → gw_ j (zw_ z q j) ∧ cv_ j (zw_ z q j) = z27 z q j ∧ (1 ≤ j → zw_ z q j ≠ 0) := by
  intro j
  induction j with
  | zero => intro _ _; exact ⟨rfl, rfl, fun h => absurd h (by omega)⟩
  | succ j ih =>
    intro h1 h2
    have e : zd_ z q (j + 1) = zd_ z q j + (if zD (z.1 (q + j)) then 1 else 0) := rfl
    have hL : zL (z.1 (q + j)) := by
      rcases h2 j (by omega) with h | h
      · rw [e, if_pos h] at h1
        omega
      · exact h
    obtain ⟨g1, g2, -⟩ := ih (by omega) (fun k hk => h2 k (by omega))
    have ew : zw_ z q (j + 1) = 256 * zw_ z q j + z.1 (q + j) := if_pos hL
    have e27 : z27 z q (j + 1) = 27 * z27 z q j + z.1 (q + j) - 96 := rfl
    have m1 : (256 * zw_ z q j + z.1 (q + j)) % 256 = z.1 (q + j) := by omega
    have m2 : (256 * zw_ z q j + z.1 (q + j)) / 256 = zw_ z q j := by omega
    rw [ew, e27]
    refine ⟨Or.inr ⟨by omega, by omega, by rw [m2]; exact g1⟩, ?_, fun _ => by omega⟩
    rw [show cv_ (j + 1) (256 * zw_ z q j + z.1 (q + j)) = 27 * cv_ j ((256 * zw_ z q j + z.1 (q + j)) / 256) + (256 * zw_ z q j + z.1 (q + j)) % 256 - 96 from if_neg (by omega), m1, m2, g2]
/-- keywords -/
def kwN (j : Nat) : Nat := ([500136506472, 508676040050, 1819243379, 7823737, 131277443786868, 1920298085, 1936024947, 114827802801012, 482854660462, 7563385, 7562612, 1852796517, 1836020596, 426952976754, 1852138852, 1701606245] : List Nat).getD j 0
def kwi_ (W : Nat) : Nat → Nat
  | 0 => 16
  | j + 1 => if kwN j = W then j else kwi_ W j
theorem kw_e {j : Nat} (h : j < 16) : ab_kw j = Int64.ofNat (kwN j) ∧ kwN j < 2 ^ 63 ∧ gw_ 6 (kwN j) := by
  have h2 : ∀ j : Fin 16, ab_kw j.val = Int64.ofNat (kwN j.val) ∧ kwN j.val < 2 ^ 63 := by decide +kernel
  have h3 : gw_ 6 (kwN j) := by
    rcases (show j = 0 ∨ j = 1 ∨ j = 2 ∨ j = 3 ∨ j = 4 ∨ j = 5 ∨ j = 6 ∨ j = 7 ∨ j = 8 ∨ j = 9 ∨ j = 10 ∨ j = 11 ∨ j = 12 ∨ j = 13 ∨ j = 14 ∨ j = 15 by omega) with rfl | rfl | rfl | rfl | rfl | rfl | rfl | rfl | rfl | rfl | rfl | rfl | rfl | rfl | rfl | rfl <;> simp [gw_, kwN]
  exact ⟨(h2 ⟨j, h⟩).1, (h2 ⟨j, h⟩).2, h3⟩
theorem kw_d {j k : Nat} (hj : j < 16) (hk : k < 16) (e : kwN j = kwN k) : j = k := by
  have h : ∀ j : Fin 16, ∀ k : Fin 16, kwN j.val = kwN k.val → j.val = k.val := by decide +kernel
  exact h ⟨j, hj⟩ ⟨k, hk⟩ e
theorem kwi_l {W : Nat} : ∀ n, n ≤ 16 → kwi_ W n = 16 ∨ kwi_ W n < n := by
  intro n
  induction n with
  | zero => intro _; exact Or.inl rfl
  | succ n ih =>
    intro h
    have := ih (by omega)
    show (if kwN n = W then n else kwi_ W n) = 16 ∨ (if kwN n = W then n else kwi_ W n) < n + 1
    split <;> omega
theorem kwi_i {W k : Nat} : ∀ n, n ≤ 16 → k < n → (kwi_ W n = k ↔ kwN k = W) := by
  intro n
  induction n with
  | zero => intro _ h; exact absurd h (Nat.not_lt_zero k)
  | succ n ih =>
    intro hn hk
    have hl := kwi_l (W := W) n (by omega)
    have e : kwi_ W (n + 1) = if kwN n = W then n else kwi_ W n := rfl
    rw [e]
    by_cases c : kwN n = W
    · rw [if_pos c]
      refine ⟨fun h => by rw [← h]; exact c, fun h => ?_⟩
      exact (kw_d (by omega) (by omega) (h.trans c.symm)).symm
    · rw [if_neg c]
      by_cases c2 : k = n
      · rw [c2]
        exact ⟨fun h => by omega, fun h => absurd h c⟩
      · exact ih (by omega) (by omega)
def z_k (z : (Nat → Nat) × Nat) (p : Nat) : Nat := if z.2 ≤ z_q z p ∨ 700 ≤ z_q z p then 3 else if z.1 (z_q z p) = 59 then 2 else if zd_ z (z_q z p) (z_len z (z_q z p)) = 0 ∧ 1 ≤ zl_ z (z_q z p) (z_len z (z_q z p)) ∧ zl_ z (z_q z p) (z_len z (z_q z p)) ≤ 6 then 0 else if zl_ z (z_q z p) (z_len z (z_q z p)) = 0 ∧ 1 ≤ zd_ z (z_q z p) (z_len z (z_q z p)) ∧ zd_ z (z_q z p) (z_len z (z_q z p)) ≤ 2 then 1 else 4
def z_p (z : (Nat → Nat) × Nat) (p : Nat) : Nat := if z.2 ≤ z_q z p ∨ 700 ≤ z_q z p then (if 700 < z.2 then 700 else z.2) else z_q z p
def z_e (z : (Nat → Nat) × Nat) (p : Nat) : Nat := if z.1 (z_q z p) = 59 then z_q z p + 1 else z_q z p + z_len z (z_q z p)
def z_w (z : (Nat → Nat) × Nat) (p : Nat) : Nat := zw_ z (z_q z p) (z_len z (z_q z p))
def z_v (z : (Nat → Nat) × Nat) (p : Nat) : Nat := zn_ z (z_q z p) (z_len z (z_q z p))
def z_x (z : (Nat → Nat) × Nat) (p : Nat) : Nat := if z_k z p = 0 then kwi_ (z_w z p) 16 else 16
def kx_ (n : Nat) : Int32 := if n = 16 then -1 else Int32.ofNat n
theorem z_kl {z : (Nat → Nat) × Nat} {p : Nat} : z_k z p ≤ 4 := by
  unfold z_k
  split
  · omega
  · split
    · omega
    · split
      · omega
      · split <;> omega
theorem z_xl {z : (Nat → Nat) × Nat} {p : Nat} : z_x z p ≤ 16 := by
  unfold z_x
  split
  · have := kwi_l (W := z_w z p) 16 (Nat.le_refl _)
    omega
  · exact Nat.le_refl _
theorem z_lrun {z : (Nat → Nat) × Nat} : ∀ n q, z.2 = q + n → ∀ k, k < z_len z q → zD (z.1 (q + k)) ∨ zL (z.1 (q + k)) := by
  intro n
  induction n with
  | zero =>
    intro q h k hk
    rw [z_len0 (by omega)] at hk
    exact absurd hk (Nat.not_lt_zero k)
  | succ n ih =>
    intro q h k hk
    rw [z_len1 (by omega)] at hk
    by_cases c : zD (z.1 q) ∨ zL (z.1 q)
    · rw [if_pos c] at hk
      cases k with
      | zero => exact c
      | succ k =>
        have := ih (q + 1) (by omega) k (by omega)
        rw [show q + (k + 1) = q + 1 + k by omega]
        exact this
    · rw [if_neg c] at hk
      exact absurd hk (Nat.not_lt_zero k)
/-- what a word is -/
theorem z_wk {z : (Nat → Nat) × Nat} {p : Nat} (hp : p ≤ z.2) (h : z_k z p = 0) : gw_ 6 (z_w z p) ∧ z_w z p < 2 ^ 63 ∧ cv_ 6 (z_w z p) = z27 z (z_q z p) (z_len z (z_q z p)) := by
  have hq := z_ql (z := z) (z.2 - p) p (by omega)
  have hr := z_lrun (z := z) (z.2 - z_q z p) (z_q z p) (by omega)
  have hz := zl_zd _ hr
  unfold z_k at h
  split at h
  · omega
  · split at h
    · omega
    · split at h
      · rename_i h1 h2 h3
        obtain ⟨g1, g2, -⟩ := zw_g _ h3.1 hr
        obtain ⟨s1, s2⟩ := cv_st (k := 6) _ _ g1 (by omega)
        have hl := zw_l (z := z) (q := z_q z p) (z_len z (z_q z p))
        have hp6 : 256 ^ zl_ z (z_q z p) (z_len z (z_q z p)) ≤ 256 ^ 6 := Nat.pow_le_pow_right (by omega) h3.2.2
        have e6 : (256 : Nat) ^ 6 = 281474976710656 := rfl
        have e63 : (2 : Nat) ^ 63 = 9223372036854775808 := rfl
        refine ⟨s1, ?_, ?_⟩
        · show zw_ z (z_q z p) (z_len z (z_q z p)) < 2 ^ 63
          omega
        · show cv_ 6 (zw_ z (z_q z p) (z_len z (z_q z p))) = _
          rw [s2, g2]
      · split at h <;> omega
/-- where the next token may begin -/
theorem z_el {z : (Nat → Nat) × Nat} {p : Nat} (hp : p ≤ z.2) (h : z_k z p < 3) : p < z_e z p ∧ z_e z p ≤ z.2 ∧ z_q z p < 700 ∧ z_p z p = z_q z p ∧ p ≤ z_q z p := by
  have hq := z_ql (z := z) (z.2 - p) p (by omega)
  unfold z_k at h
  unfold z_e z_p
  split at h
  · omega
  · rename_i h1
    have hl := z_lenl (z := z) (z.2 - z_q z p) (z_q z p) (by omega)
    rw [if_neg h1]
    split at h
    · rename_i h2
      rw [if_pos h2]
      omega
    · rename_i h2
      rw [if_neg h2]
      have hr := zl_zd _ (z_lrun (z := z) (z.2 - z_q z p) (z_q z p) (by omega))
      split at h
      · omega
      · split at h
        · omega
        · omega
theorem z_vl {z : (Nat → Nat) × Nat} {p : Nat} (hp : p ≤ z.2) (h : z_k z p = 1) : z_v z p ≤ 99 := by
  have hq := z_ql (z := z) (z.2 - p) p (by omega)
  have hr := z_lrun (z := z) (z.2 - z_q z p) (z_q z p) (by omega)
  have hz := zl_zd _ hr
  unfold z_k at h
  split at h
  · omega
  · split at h
    · omega
    · split at h
      · omega
      · split at h
        · rename_i h1 h2 h3 h4
          have e : z_len z (z_q z p) = 1 ∨ z_len z (z_q z p) = 2 := by omega
          have n1 : ∀ c, (if zD c then (0 : Nat) * 10 + c - 48 else 0) ≤ 9 := fun c => by
            split <;> omega
          unfold z_v
          rcases e with e | e
          · rw [e]
            show (if zD (z.1 (z_q z p + 0)) then 0 * 10 + z.1 (z_q z p + 0) - 48 else 0) ≤ 99
            have := n1 (z.1 (z_q z p + 0))
            omega
          · rw [e]
            show (if zD (z.1 (z_q z p + 1)) then (if zD (z.1 (z_q z p + 0)) then 0 * 10 + z.1 (z_q z p + 0) - 48 else 0) * 10 + z.1 (z_q z p + 1) - 48 else (if zD (z.1 (z_q z p + 0)) then 0 * 10 + z.1 (z_q z p + 0) - 48 else 0)) ≤ 99
            have := n1 (z.1 (z_q z p + 0))
            split <;> omega
        · omega
