/-! BEST ORDER: the next order, both sides -/
section TQL5
variable {d : Nat} {sc : Nat × (Nat → Int32)} {i : Nat → Nat → Int32} {l : Nat → Nat → Int64} {dd : Nat → Nat → Value} {x : Nat}
theorem nx_tp {o : Nat → Nat} {t : Nat} : ∀ k, nx_t o k = t + 1 → o t ≤ o (t + 1) ∧ t + 1 ≤ k := by
  intro k
  induction k with
  | zero => intro h; exact absurd h (by unfold nx_t; omega)
  | succ k ih =>
    intro h
    have e : nx_t o (k + 1) = if o k ≤ o (k + 1) then k + 1 else nx_t o k := rfl
    rw [e] at h
    by_cases c : o k ≤ o (k + 1)
    · rw [if_pos c] at h
      rw [show t = k by omega]
      exact ⟨c, Nat.le_refl _⟩
    · rw [if_neg c] at h
      have := ih h
      omega
def bo_S (c V : Nat) (o : Nat → Nat) (i : Nat → Nat → Int32) : Prop := ∀ j, j < V → i c j = Int32.ofNat (o j) ∧ o j < 8
theorem bo_sw {c V a b : Nat} {o : Nat → Nat} (hS : bo_S c V o i) (ha : a < V) (hb : b < V) : bo_S c V (sw_ o a b) (ab_u (ab_u i c a (i c b)) c b (i c a)) := by
  intro j hj
  unfold sw_
  by_cases e : j = b
  · rw [if_pos e, e, uu_e]
    exact hS a ha
  · rw [if_neg e, uu_j e]
    by_cases e2 : j = a
    · rw [if_pos e2, e2, uu_e]
      exact hS b hb
    · rw [if_neg e2, uu_j e2]
      exact hS j hj
theorem bo_8 {c V : Nat} {o p : Nat → Nat} (hS : bo_S c V o i) (h : ∀ j, j < V → o j = p j) : bo_S c V p i := fun j hj => by
  rw [← h j hj]
  exact hS j hj
def tr_ : Nat → Int32
  | 0 => -1
  | k + 1 => Int32.ofNat k
theorem tr_2 {V : Nat} (h : 1 ≤ V ∧ V ≤ 7) : Int32.ofNat V - 2 = tr_ (V - 1) := by
  have h2 : ∀ V : Fin 8, 1 ≤ V.val → Int32.ofNat V.val - 2 = tr_ (V.val - 1) := by decide +kernel
  exact h2 ⟨V, by omega⟩ h.1
theorem tr_1 {k : Nat} (h : k ≤ 7) : Int32.ofNat k + (-1) = tr_ k := by
  have h2 : ∀ k : Fin 8, Int32.ofNat k.val + (-1) = tr_ k.val := by decide +kernel
  exact h2 ⟨k, by omega⟩
theorem ct_swap {V a b : Nat} {o : Nat → Nat} (hV : V ≤ 7) (hS : bo_S 186 V o i) (ha : a < V) (hb : b < V) : ab_Sp MX8_swap (d + 1) [.ref 185, .int (Int32.ofNat a), .int (Int32.ofNat b)] (i, l, dd, x) (ab_E0 sc) none (fun σ => ∃ i2, σ = (i2, l, dd, x) ∧ fr_o 186 186 i i2 ∧ bo_S 186 V (sw_ o a b) i2) := by
  refine ab_ent (n := 2) okMX8_swap.1 (fun G => Nat.le_of_ble_eq_true rfl) (fun Q hQ => ?_)
  refine tMX8_swap_0 (d := d) (a0 := 185) (Or.inr rfl) ⟨la_vp (by omega) (by omega), la_vp (by omega) (by omega), la_vp (by omega) (by omega), ?_⟩
  rintro i1 rfl
  refine ⟨la_vp (by omega) (by omega), ?_⟩
  rintro i3 rfl
  rw [nn_cl (by omega), nn_cl (by omega)]
  exact hQ _ ⟨_, rfl, fr_u (fr_u fr_r (by omega)) (by omega), bo_sw hS ha hb⟩
theorem md_swap {V a b : Nat} {o : Nat → Nat} (hV : V ≤ 7) (hS : bo_S 232 V o i) (ha : a < V) (hb : b < V) : ab_Sp MX12_exchange (d + 1) [.ref 205, .int (Int32.ofNat a), .int (Int32.ofNat b)] (i, l, dd, x) (ab_E0 sc) none (fun σ => ∃ i2, σ = (i2, l, dd, x) ∧ fr_o 232 232 i i2 ∧ bo_S 232 V (sw_ o a b) i2) := by
  refine ab_ent (n := 2) okMX12_exchange.1 (fun G => Nat.le_of_ble_eq_true rfl) (fun Q hQ => ?_)
  refine tMX12_exchange_0 (d := d) ⟨la_vp (by omega) (by omega), la_vp (by omega) (by omega), la_vp (by omega) (by omega), ?_⟩
  rintro i1 rfl
  refine ⟨la_vp (by omega) (by omega), ?_⟩
  rintro i3 rfl
  rw [nn_cl (by omega), nn_cl (by omega)]
  exact hQ _ ⟨_, rfl, fr_u (fr_u fr_r (by omega)) (by omega), bo_sw hS ha hb⟩
theorem ct_next {V m : Nat} {o : Nat → Nat} (hV : 1 ≤ V ∧ V ≤ 7) (hm : ab_isM m) (hd : dd 185 0 = .ref m) (h1 : i m 1 = Int32.ofNat V) (hS : bo_S 186 V o i) : ab_Sp MX8_nextOrder (d + 2) [.ref 185] (i, l, dd, x) (ab_E0 sc) (some (.int (if nx_t o (V - 1) = 0 then 0 else 1))) (fun σ => ∃ i2, σ = (i2, l, dd, x) ∧ fr_o 186 186 i i2 ∧ bo_S 186 V (nx_o V o) i2) := by
  have hm6 : m ≠ 186 := by rcases hm with rfl | rfl | rfl <;> omega
  refine ab_ent (n := 0) okMX8_nextOrder.1 (fun G => Nat.le_of_ble_eq_true rfl) (fun Q hQ => ?_)
  refine tMX8_nextOrder_0 (d := d + 1) (a0 := 185) (Or.inr rfl) ⟨m, hd, hm, ?_⟩
  rw [h1, tr_2 hV]
  -- the reversal
  have go3 : nx_t o (V - 1) ≠ 0 → ∀ (n : Nat) (a b : Nat) (p : Nat → Nat) (i2 : Nat → Nat → Int32), nx_o V o = nx_r n p a b → b ≤ a + n → b < V → a ≤ V → fr_o 186 186 i i2 → bo_S 186 V p i2 → ab_Fr MX8_nextOrder (d + 2) Q 100 [some (.ref 185), none, none, some (.int (Int32.ofNat b)), some (.int (Int32.ofNat a))] [] (0, 0) (i2, l, dd, x) (ab_E0 sc) := by
    intro hT n
    rw [if_neg hT] at hQ
    induction n with
    | zero =>
      intro a b p i2 en hab hb ha f2 S2
      refine tMX8_nextOrder_100 (d := d + 1) (a0 := 185) (Or.inr rfl) ⟨fun _ => hQ _ ⟨i2, rfl, f2, ?_⟩, fun c => ?_⟩
      · rw [en]
        exact S2
      · rw [nn_le (by omega) (by omega)] at c
        omega
    | succ n ih =>
      intro a b p i2 en hab hb ha f2 S2
      have e : nx_r (n + 1) p a b = if a < b then nx_r n (sw_ p a b) (a + 1) (b - 1) else p := rfl
      rw [e] at en
      refine tMX8_nextOrder_100 (d := d + 1) (a0 := 185) (Or.inr rfl) ⟨fun c => hQ _ ⟨i2, rfl, f2, ?_⟩, fun c => ?_⟩
      · rw [nn_le (by omega) (by omega)] at c
        rw [en, if_neg (by omega)]
        exact S2
      · rw [nn_le (by omega) (by omega)] at c
        rw [if_pos (by omega)] at en
        refine ⟨_, ct_swap (d := d) hV.2 S2 (by omega) hb, ?_⟩
        rintro i6 l7 dd8 x9 ⟨i3, ⟨⟩, f3, S3⟩
        rw [nn_m1 (by omega), la_nx]
        exact ih (a + 1) (b - 1) _ _ en (by omega) (by omega) (by omega) (fr_t f2 f3) S3
  have go2 : ∀ t, nx_t o (V - 1) = t + 1 → ∀ n j, j = t + 1 + n → j ≤ V - 1 → nx_j o t (V - 1) = nx_j o t j → ab_Fr MX8_nextOrder (d + 2) Q 53 [some (.ref 185), some (.int (Int32.ofNat t)), some (.int (Int32.ofNat j)), none, none] [] (0, 0) (i, l, dd, x) (ab_E0 sc) := by
    intro t ht
    obtain ⟨ho, hl⟩ := nx_tp _ ht
    have hex : ∀ j, t < j → j < V → nx_j o t (V - 1) = j → ab_Fr MX8_nextOrder (d + 2) Q 79 [some (.ref 185), some (.int (Int32.ofNat t)), some (.int (Int32.ofNat j)), none, none] [] (0, 0) (i, l, dd, x) (ab_E0 sc) := by
      intro j h3 h2 ej
      refine tMX8_nextOrder_79 (d := d + 1) (a0 := 185) (Or.inr rfl) ⟨_, ct_swap (d := d) hV.2 hS (show t < V by omega) h2, ?_⟩
      rintro i5 l6 dd7 x8 ⟨i3, ⟨⟩, f3, S3⟩
      refine ⟨m, hd, hm, ?_⟩
      rw [f3 m (by omega), h1, show Int32.ofNat V - 1 = Int32.ofNat (V - 1) from nn_sub (b := 1) (by omega), la_nx]
      refine go3 (by omega) V (t + 1) (V - 1) _ _ ?_ (by omega) (by omega) (by omega) f3 S3
      unfold nx_o
      rw [if_neg (by omega), ht, show t + 1 - 1 = t by omega, ej]
    intro n
    induction n with
    | zero =>
      intro j hj hj2 ej
      rw [show j = t + 1 by omega] at ej ⊢
      have e : nx_j o t (t + 1) = if o t ≤ o (t + 1) then t + 1 else nx_j o t t := rfl
      rw [e, if_pos ho] at ej
      obtain ⟨e1, b1⟩ := hS t (by omega)
      obtain ⟨e2, b2⟩ := hS (t + 1) (by omega)
      refine tMX8_nextOrder_53 (d := d + 1) (a0 := 185) (Or.inr rfl) ⟨fun c => ?_, fun c => ⟨la_vp (by omega) (by omega), la_vp (by omega) (by omega), fun _ => hex _ (by omega) (by omega) ej, fun c2 => ?_⟩⟩
      · rw [nn_le (by omega) (by omega)] at c
        omega
      · rw [nn_cl (by omega), nn_cl (by omega), e1, e2, nn_le (by omega) (by omega)] at c2
        exact absurd ho c2
    | succ n ih =>
      intro j hj hj2 ej
      obtain ⟨q, rfl⟩ : ∃ q, j = q + 1 := ⟨j - 1, by omega⟩
      have e : nx_j o t (q + 1) = if o t ≤ o (q + 1) then q + 1 else nx_j o t q := rfl
      rw [e] at ej
      obtain ⟨e1, b1⟩ := hS t (by omega)
      obtain ⟨e2, b2⟩ := hS (q + 1) (by omega)
      refine tMX8_nextOrder_53 (d := d + 1) (a0 := 185) (Or.inr rfl) ⟨fun c => ?_, fun c => ⟨la_vp (by omega) (by omega), la_vp (by omega) (by omega), fun c2 => ?_, fun c2 => ?_⟩⟩
      · rw [nn_le (by omega) (by omega)] at c
        omega
      · rw [nn_cl (by omega), nn_cl (by omega), e1, e2, nn_le (by omega) (by omega)] at c2
        rw [if_pos c2] at ej
        exact hex _ (by omega) (by omega) ej
      · rw [nn_cl (by omega), nn_cl (by omega), e1, e2, nn_le (by omega) (by omega)] at c2
        rw [if_neg c2] at ej
        rw [nn_m1 (by omega), show q + 1 - 1 = q by omega]
        exact ih q (by omega) (by omega) ej
  have go1 : ∀ k, k ≤ V - 1 → nx_t o (V - 1) = nx_t o k → ab_Fr MX8_nextOrder (d + 2) Q 10 [some (.ref 185), some (.int (tr_ k)), none, none, none] [] (0, 0) (i, l, dd, x) (ab_E0 sc) := by
    intro k
    induction k with
    | zero =>
      intro _ ek
      have hT : nx_t o (V - 1) = 0 := ek
      refine tMX8_nextOrder_10 (d := d + 1) (a0 := 185) (Or.inr rfl) ⟨fun _ => tMX8_nextOrder_37 (d := d + 1) (a0 := 185) (Or.inr rfl) ⟨fun c => absurd c (by decide), fun _ => ?_⟩, fun c => absurd (show tr_ 0 < 0 by decide) c⟩
      rw [if_pos hT] at hQ
      refine hQ _ ⟨i, rfl, fr_r, ?_⟩
      unfold nx_o
      rw [if_pos hT]
      exact hS
    | succ k ih =>
      intro hk ek
      have e : nx_t o (k + 1) = if o k ≤ o (k + 1) then k + 1 else nx_t o k := rfl
      rw [e] at ek
      obtain ⟨e1, b1⟩ := hS k (by omega)
      obtain ⟨e2, b2⟩ := hS (k + 1) (by omega)
      show ab_Fr MX8_nextOrder (d + 2) Q 10 [some (.ref 185), some (.int (Int32.ofNat k)), none, none, none] [] (0, 0) (i, l, dd, x) (ab_E0 sc)
      refine tMX8_nextOrder_10 (d := d + 1) (a0 := 185) (Or.inr rfl) ⟨fun c => absurd c (la_nn (by omega)).1, fun _ => ⟨la_vp (by omega) (by omega), ?_⟩⟩
      rw [la_nx, nn_cl (by omega), nn_cl (by omega), e1, e2, nn_le (by omega) (by omega)]
      refine ⟨la_vp (by omega) (by omega), fun c => ?_, fun c => ?_⟩
      · rw [if_pos c] at ek
        refine tMX8_nextOrder_37 (d := d + 1) (a0 := 185) (Or.inr rfl) ⟨fun _ => ⟨m, hd, hm, ?_⟩, fun z => ?_⟩
        · rw [h1, show Int32.ofNat V - 1 = Int32.ofNat (V - 1) from nn_sub (b := 1) (by omega)]
          exact go2 k ek (V - 1 - (k + 1)) (V - 1) (by omega) (Nat.le_refl _) rfl
        · rw [nn_p0, nn_le (by omega) (by omega)] at z
          omega
      · rw [if_neg c] at ek
        rw [tr_1 (by omega)]
        exact ih (by omega) ek
  exact go1 (V - 1) (Nat.le_refl _) rfl
theorem md_next {V : Nat} {o : Nat → Nat} (hV : 1 ≤ V ∧ V ≤ 7) (h1 : i 205 30 = Int32.ofNat V) (hS : bo_S 232 V o i) : ab_Sp MX12_goOn (d + 2) [.ref 205] (i, l, dd, x) (ab_E0 sc) (some (.int (if nx_t o (V - 1) = 0 then 0 else 1))) (fun σ => ∃ i2, σ = (i2, l, dd, x) ∧ fr_o 232 232 i i2 ∧ bo_S 232 V (nx_o V o) i2) := by
  refine ab_ent (n := 0) okMX12_goOn.1 (fun G => Nat.le_of_ble_eq_true rfl) (fun Q hQ => ?_)
  refine tMX12_goOn_0 (d := d + 1) ?_
  rw [h1, tr_2 hV]
  have go3 : nx_t o (V - 1) ≠ 0 → ∀ (n : Nat) (a b : Nat) (p : Nat → Nat) (i2 : Nat → Nat → Int32), nx_o V o = nx_r n p a b → b ≤ a + n → b < V → a ≤ V → fr_o 232 232 i i2 → bo_S 232 V p i2 → ab_Fr MX12_goOn (d + 2) Q 86 [some (.ref 205), none, none, some (.int (Int32.ofNat a)), some (.int (Int32.ofNat b))] [] (0, 0) (i2, l, dd, x) (ab_E0 sc) := by
    intro hT n
    rw [if_neg hT] at hQ
    induction n with
    | zero =>
      intro a b p i2 en hab hb ha f2 S2
      refine tMX12_goOn_86 (d := d + 1) ⟨fun _ => hQ _ ⟨i2, rfl, f2, ?_⟩, fun c => ?_⟩
      · rw [en]
        exact S2
      · rw [nn_le (by omega) (by omega)] at c
        omega
    | succ n ih =>
      intro a b p i2 en hab hb ha f2 S2
      have e : nx_r (n + 1) p a b = if a < b then nx_r n (sw_ p a b) (a + 1) (b - 1) else p := rfl
      rw [e] at en
      refine tMX12_goOn_86 (d := d + 1) ⟨fun c => hQ _ ⟨i2, rfl, f2, ?_⟩, fun c => ?_⟩
      · rw [nn_le (by omega) (by omega)] at c
        rw [en, if_neg (by omega)]
        exact S2
      · rw [nn_le (by omega) (by omega)] at c
        rw [if_pos (by omega)] at en
        refine ⟨_, md_swap (d := d) hV.2 S2 (by omega) hb, ?_⟩
        rintro i6 l7 dd8 x9 ⟨i3, ⟨⟩, f3, S3⟩
        rw [nn_m1 (by omega), la_nx]
        exact ih (a + 1) (b - 1) _ _ en (by omega) (by omega) (by omega) (fr_t f2 f3) S3
  have go2 : ∀ t, nx_t o (V - 1) = t + 1 → ∀ n j, j = t + 1 + n → j ≤ V - 1 → nx_j o t (V - 1) = nx_j o t j → ab_Fr MX12_goOn (d + 2) Q 47 [some (.ref 205), some (.int (Int32.ofNat t)), some (.int (Int32.ofNat j)), none, none] [] (0, 0) (i, l, dd, x) (ab_E0 sc) := by
    intro t ht
    obtain ⟨ho, hl⟩ := nx_tp _ ht
    have hex : ∀ j, t < j → j < V → nx_j o t (V - 1) = j → ∃ (P3 : ab_S → Prop), ab_Sp MX12_exchange (d + 1) [.ref 205, .int (Int32.ofNat t), .int (Int32.ofNat j)] (i, l, dd, x) (ab_E0 sc) none P3 ∧ ∀ i6 l7 dd8 x9, P3 (i6, l7, dd8, x9) → ab_Fr MX12_goOn (d + 2) Q 86 [some (.ref 205), none, none, some (.int (Int32.ofNat t + 1)), some (.int ((i6 205 30) - 1))] [] (0, 0) (i6, l7, dd8, x9) (ab_E0 sc) := by
      intro j h3 h2 ej
      refine ⟨_, md_swap (d := d) hV.2 hS (show t < V by omega) h2, ?_⟩
      rintro i5 l6 dd7 x8 ⟨i3, ⟨⟩, f3, S3⟩
      rw [f3 205 (by omega), h1, show Int32.ofNat V - 1 = Int32.ofNat (V - 1) from nn_sub (b := 1) (by omega), la_nx]
      refine go3 (by omega) V (t + 1) (V - 1) _ _ ?_ (by omega) (by omega) (by omega) f3 S3
      unfold nx_o
      rw [if_neg (by omega), ht, show t + 1 - 1 = t by omega, ej]
    intro n
    induction n with
    | zero =>
      intro j hj hj2 ej
      rw [show j = t + 1 by omega] at ej ⊢
      have e : nx_j o t (t + 1) = if o t ≤ o (t + 1) then t + 1 else nx_j o t t := rfl
      rw [e, if_pos ho] at ej
      obtain ⟨e1, b1⟩ := hS t (by omega)
      obtain ⟨e2, b2⟩ := hS (t + 1) (by omega)
      refine tMX12_goOn_47 (d := d + 1) ⟨la_vp (by omega) (by omega), la_vp (by omega) (by omega), fun _ => hex _ (by omega) (by omega) ej, fun c2 => ?_⟩
      rw [nn_cl (by omega), nn_cl (by omega), e1, e2, nn_le (by omega) (by omega)] at c2
      exact absurd ho c2
    | succ n ih =>
      intro j hj hj2 ej
      obtain ⟨q, rfl⟩ : ∃ q, j = q + 1 := ⟨j - 1, by omega⟩
      have e : nx_j o t (q + 1) = if o t ≤ o (q + 1) then q + 1 else nx_j o t q := rfl
      rw [e] at ej
      obtain ⟨e1, b1⟩ := hS t (by omega)
      obtain ⟨e2, b2⟩ := hS (q + 1) (by omega)
      refine tMX12_goOn_47 (d := d + 1) ⟨la_vp (by omega) (by omega), la_vp (by omega) (by omega), fun c2 => ?_, fun c2 => ?_⟩
      · rw [nn_cl (by omega), nn_cl (by omega), e1, e2, nn_le (by omega) (by omega)] at c2
        rw [if_pos c2] at ej
        exact hex _ (by omega) (by omega) ej
      · rw [nn_cl (by omega), nn_cl (by omega), e1, e2, nn_le (by omega) (by omega)] at c2
        rw [if_neg c2] at ej
        rw [nn_m1 (by omega), show q + 1 - 1 = q by omega]
        exact ih q (by omega) (by omega) ej
  have go1 : ∀ k, k ≤ V - 1 → nx_t o (V - 1) = nx_t o k → ab_Fr MX12_goOn (d + 2) Q 7 [some (.ref 205), some (.int (tr_ k)), none, none, none] [] (0, 0) (i, l, dd, x) (ab_E0 sc) := by
    intro k
    induction k with
    | zero =>
      intro _ ek
      have hT : nx_t o (V - 1) = 0 := ek
      refine tMX12_goOn_7 (d := d + 1) ⟨fun _ => tMX12_goOn_34 (d := d + 1) ⟨fun c => absurd c (by decide), fun _ => ?_⟩, fun c => absurd (show tr_ 0 < 0 by decide) c⟩
      rw [if_pos hT] at hQ
      refine hQ _ ⟨i, rfl, fr_r, ?_⟩
      unfold nx_o
      rw [if_pos hT]
      exact hS
    | succ k ih =>
      intro hk ek
      have e : nx_t o (k + 1) = if o k ≤ o (k + 1) then k + 1 else nx_t o k := rfl
      rw [e] at ek
      obtain ⟨e1, b1⟩ := hS k (by omega)
      obtain ⟨e2, b2⟩ := hS (k + 1) (by omega)
      show ab_Fr MX12_goOn (d + 2) Q 7 [some (.ref 205), some (.int (Int32.ofNat k)), none, none, none] [] (0, 0) (i, l, dd, x) (ab_E0 sc)
      refine tMX12_goOn_7 (d := d + 1) ⟨fun c => absurd c (la_nn (by omega)).1, fun _ => ⟨la_vp (by omega) (by omega), ?_⟩⟩
      rw [la_nx, nn_cl (by omega), nn_cl (by omega), e1, e2, nn_le (by omega) (by omega)]
      refine ⟨la_vp (by omega) (by omega), fun c => ?_, fun c => ?_⟩
      · rw [if_pos c] at ek
        refine tMX12_goOn_34 (d := d + 1) ⟨fun _ => ?_, fun z => ?_⟩
        · rw [h1, show Int32.ofNat V - 1 = Int32.ofNat (V - 1) from nn_sub (b := 1) (by omega)]
          exact go2 k ek (V - 1 - (k + 1)) (V - 1) (by omega) (Nat.le_refl _) rfl
        · rw [nn_p0, nn_le (by omega) (by omega)] at z
          omega
      · rw [if_neg c] at ek
        rw [tr_1 (by omega)]
        exact ih (by omega) ek
  exact go1 (V - 1) (Nat.le_refl _) rfl
end TQL5
