/-! IN TURNS: the tape names every voter once -/
def mm_ (b : Nat → Nat) : Nat → Nat
  | 0 => 0
  | n + 1 => if mm_ b n / 2 ^ b n % 2 = 1 then mm_ b n else mm_ b n + 2 ^ b n
def pc_ (M : Nat) : Nat := M % 2 + M / 2 % 2 + M / 4 % 2 + M / 8 % 2 + M / 16 % 2 + M / 32 % 2 + M / 64 % 2
theorem mm_o {M v : Nat} (hM : M < 128) (hv : v < 7) : (Int32.ofNat M ||| (1 <<< (Int32.ofNat v &&& 31))) = Int32.ofNat (if M / 2 ^ v % 2 = 1 then M else M + 2 ^ v) ∧ ((Int32.ofNat M >>> (Int32.ofNat v &&& 31)) &&& 1) = Int32.ofNat (M / 2 ^ v % 2) ∧ pc_ (if M / 2 ^ v % 2 = 1 then M else M + 2 ^ v) + M / 2 ^ v % 2 = pc_ M + 1 := by
  have h : ∀ M : Fin 128, ∀ v : Fin 7, (Int32.ofNat M.val ||| (1 <<< (Int32.ofNat v.val &&& 31))) = Int32.ofNat (if M.val / 2 ^ v.val % 2 = 1 then M.val else M.val + 2 ^ v.val) ∧ ((Int32.ofNat M.val >>> (Int32.ofNat v.val &&& 31)) &&& 1) = Int32.ofNat (M.val / 2 ^ v.val % 2) ∧ pc_ (if M.val / 2 ^ v.val % 2 = 1 then M.val else M.val + 2 ^ v.val) + M.val / 2 ^ v.val % 2 = pc_ M.val + 1 := by decide +kernel
  exact h ⟨M, hM⟩ ⟨v, hv⟩
theorem mm_u {M v u : Nat} (hM : M < 128) (hv : v < 7) (hu : u < 7) : (if M / 2 ^ v % 2 = 1 then M else M + 2 ^ v) / 2 ^ u % 2 = 1 ↔ u = v ∨ M / 2 ^ u % 2 = 1 := by
  have h : ∀ M : Fin 128, ∀ v : Fin 7, ∀ u : Fin 7, ((if M.val / 2 ^ v.val % 2 = 1 then M.val else M.val + 2 ^ v.val) / 2 ^ u.val % 2 = 1 ↔ u.val = v.val ∨ M.val / 2 ^ u.val % 2 = 1) := by decide +kernel
  exact h ⟨M, hM⟩ ⟨v, hv⟩ ⟨u, hu⟩
theorem mm_b {V M v : Nat} (hV : V ≤ 7) (hM : M < 2 ^ V) (hv : v < V) : (if M / 2 ^ v % 2 = 1 then M else M + 2 ^ v) < 2 ^ V := by
  have h : ∀ V : Fin 8, ∀ v : Fin 7, v.val < V.val → ∀ M : Fin 128, M.val < 2 ^ V.val → (if M.val / 2 ^ v.val % 2 = 1 then M.val else M.val + 2 ^ v.val) < 2 ^ V.val := by decide +kernel
  have h2 : 2 ^ V ≤ 2 ^ 7 := Nat.pow_le_pow_right (by omega) hV
  have e : (2 : Nat) ^ 7 = 128 := rfl
  exact h ⟨V, by omega⟩ ⟨v, by omega⟩ hv ⟨M, by omega⟩ hM
theorem mm_f {V M : Nat} (hV : V ≤ 7) (hM : M < 2 ^ V) : pc_ M = V ↔ M = 2 ^ V - 1 := by
  have h : ∀ V : Fin 8, ∀ M : Fin 128, M.val < 2 ^ V.val → (pc_ M.val = V.val ↔ M.val = 2 ^ V.val - 1) := by decide +kernel
  have h2 : 2 ^ V ≤ 2 ^ 7 := Nat.pow_le_pow_right (by omega) hV
  have e : (2 : Nat) ^ 7 = 128 := rfl
  exact h ⟨V, by omega⟩ ⟨M, by omega⟩ hM
theorem mm_V {V : Nat} (hV : V ≤ 7) : ((1 : Int32) <<< (Int32.ofNat V &&& 31)) - 1 = Int32.ofNat (2 ^ V - 1) := by
  have h : ∀ V : Fin 8, ((1 : Int32) <<< (Int32.ofNat V.val &&& 31)) - 1 = Int32.ofNat (2 ^ V.val - 1) := by decide +kernel
  exact h ⟨V, by omega⟩
theorem mm_l {b : Nat → Nat} {V : Nat} (hV : V ≤ 7) : ∀ n, (∀ j, j < n → b j < V) → mm_ b n < 2 ^ V := by
  intro n
  induction n with
  | zero => intro _; exact Nat.pow_pos (by omega)
  | succ n ih =>
    intro h
    exact mm_b hV (ih (fun j hj => h j (by omega))) (h n (by omega))
theorem mm_7 {b : Nat → Nat} {V n : Nat} (hV : V ≤ 7) (h : ∀ j, j < n → b j < V) : mm_ b n < 128 := by
  have h1 := mm_l hV n h
  have h2 : 2 ^ V ≤ 2 ^ 7 := Nat.pow_le_pow_right (by omega) hV
  have e : (2 : Nat) ^ 7 = 128 := rfl
  omega
theorem mm_i {b : Nat → Nat} {V : Nat} (hV : V ≤ 7) : ∀ n, (∀ j, j < n → b j < V) → ∀ u, u < 7 → (mm_ b n / 2 ^ u % 2 = 1 ↔ ∃ j, j < n ∧ b j = u) := by
  intro n
  induction n with
  | zero =>
    intro _ u _
    refine ⟨fun h => ?_, fun ⟨j, hj, _⟩ => absurd hj (Nat.not_lt_zero j)⟩
    have e : mm_ b 0 / 2 ^ u % 2 = 0 := by
      show 0 / 2 ^ u % 2 = 0
      rw [Nat.zero_div]
    omega
  | succ n ih =>
    intro h u hu
    have hb := h n (by omega)
    have e : mm_ b (n + 1) = if mm_ b n / 2 ^ b n % 2 = 1 then mm_ b n else mm_ b n + 2 ^ b n := rfl
    rw [e, mm_u (mm_7 hV (fun j hj => h j (by omega))) (by omega) hu, ih (fun j hj => h j (by omega)) u hu]
    refine ⟨fun q => ?_, fun ⟨j, hj, ej⟩ => ?_⟩
    · rcases q with q | ⟨j, hj, ej⟩
      · exact ⟨n, by omega, q.symm⟩
      · exact ⟨j, by omega, ej⟩
    · by_cases c : j = n
      · exact Or.inl (by rw [← ej, c])
      · exact Or.inr ⟨j, by omega, ej⟩
theorem mm_p {b : Nat → Nat} {V : Nat} (hV : V ≤ 7) : ∀ n, (∀ j, j < n → b j < V) → pc_ (mm_ b n) ≤ n ∧ (pc_ (mm_ b n) = n ↔ ∀ j k, j < n → k < n → b j = b k → j = k) := by
  intro n
  induction n with
  | zero =>
    intro _
    have e : pc_ (mm_ b 0) = 0 := (by decide : pc_ 0 = 0)
    exact ⟨by omega, fun _ j k hj => absurd hj (Nat.not_lt_zero j), fun _ => e⟩
  | succ n ih =>
    intro h
    have hb := h n (by omega)
    obtain ⟨h1, h2⟩ := ih (fun j hj => h j (by omega))
    have e : mm_ b (n + 1) = if mm_ b n / 2 ^ b n % 2 = 1 then mm_ b n else mm_ b n + 2 ^ b n := rfl
    have h3 := (mm_o (M := mm_ b n) (mm_7 hV (fun j hj => h j (by omega))) (show b n < 7 by omega)).2.2
    have h4 := mm_i hV n (fun j hj => h j (by omega)) (b n) (by omega)
    rw [← e] at h3
    have h5 := Nat.mod_lt (mm_ b n / 2 ^ b n) (show 0 < 2 by omega)
    refine ⟨by omega, fun q => ?_, fun q => ?_⟩
    · have h6 : ¬ mm_ b n / 2 ^ b n % 2 = 1 := by omega
      have h7 := h2.mp (by omega)
      intro j k hj hk ejk
      by_cases c1 : j = n
      · by_cases c2 : k = n
        · rw [c1, c2]
        · exact absurd (h4.mpr ⟨k, by omega, by rw [← ejk, c1]⟩) h6
      · by_cases c2 : k = n
        · exact absurd (h4.mpr ⟨j, by omega, by rw [ejk, c2]⟩) h6
        · exact h7 j k (by omega) (by omega) ejk
    · have h6 : ¬ mm_ b n / 2 ^ b n % 2 = 1 := fun z => by
        obtain ⟨j, hj, ej⟩ := h4.mp z
        have := q j n (by omega) (by omega) ej
        omega
      have h7 := h2.mpr (fun j k hj hk => q j k (by omega) (by omega))
      omega
theorem mm_O {A : mA_} {b : Nat → Nat} (hW : mt_W A) (h : ∀ j, j < aV_ A → b j < aV_ A) : mm_ b (aV_ A) = 2 ^ aV_ A - 1 ↔ tu_O A b := by
  have w2 := hW.2.1
  rw [← mm_f w2 (mm_l w2 _ h), (mm_p w2 _ h).2]
  exact ⟨fun q => ⟨h, q⟩, fun q => q.2⟩
section TQG4
variable {d : Nat} {sc : Nat × (Nat → Int32)} {i : Nat → Nat → Int32} {l : Nat → Nat → Int64} {dd : Nat → Nat → Value} {x : Nat}
theorem tn_24 {A : mA_} {m : Nat} {b : Nat → Nat} (hW : mt_W A) (hm : ab_isM m) (hK : mt_K A m i) (hb : ∀ v, v < aV_ A → i 5 v = Int32.ofNat (b v) ∧ b v ≤ 255) {Q : ab_Qt} (h1 : tu_O A b → Q (some (some (.int 1))) (i, l, dd, x) (ab_E0 sc)) (h0 : ¬ tu_O A b → Q (some (some (.int 0))) (i, l, dd, x) (ab_E0 sc)) :
    ∀ n k : Nat, aV_ A = k + n → (∀ j, j < k → b j < aV_ A) → (∀ j u, j < k → u < k → b j = b u → j = u) → ab_Fr MX1_hasOrder (d + 2) Q 24 [some (.ref m), some (.ref 4), some (.int (Int32.ofNat (mm_ b k))), some (.int (Int32.ofNat k)), none] [] (0, 0) (i, l, dd, x) (ab_E0 sc) := by
  intro n
  have w2 := hW.2.1
  induction n with
  | zero =>
    intro k hk hl hi
    refine tMX1_hasOrder_24 (d := d + 1) hm ⟨fun _ => h1 ⟨fun j hj => hl j (by omega), fun j u hj hu => hi j u (by omega) (by omega)⟩, fun c => ?_⟩
    rw [hK.1.2, nn_le (by omega) (by omega)] at c
    omega
  | succ n ih =>
    intro k hk hl hi
    obtain ⟨e1, e2⟩ := hb k (by omega)
    refine tMX1_hasOrder_24 (d := d + 1) hm ⟨fun c => ?_, fun _ => ⟨la_vp (by omega) (by omega), _, _, mt_hasV1 (d := d) hW hm hK, ?_⟩⟩
    · rw [hK.1.2, nn_le (by omega) (by omega)] at c
      omega
    · rintro i6 l7 dd8 x9 ⟨⟩
      rw [nn_cl (by omega), e1, la_nat (by omega), la_nx]
      by_cases c : b k < aV_ A
      · rw [if_pos (by omega)]
        have ho := mm_o (mm_7 w2 hl) (show b k < 7 by omega)
        have h4 := mm_i w2 k hl (b k) (by omega)
        have hm2 := Nat.mod_lt (mm_ b k / 2 ^ b k) (show 0 < 2 by omega)
        refine ⟨fun z => absurd z (by decide), fun _ => ?_⟩
        rw [ho.2.1, ho.1, nn_p1, nn_eq (by omega) (by omega)]
        refine ⟨fun q => ih (k + 1) (by omega) (fun j hj => ?_) (fun j u hj hu eju => ?_), fun q => h0 (fun z => ?_)⟩
        · by_cases e : j = k
          · rw [e]
            exact c
          · exact hl j (by omega)
        · by_cases c1 : j = k
          · by_cases c2 : u = k
            · rw [c1, c2]
            · exact absurd (h4.mpr ⟨u, by omega, by rw [← eju, c1]⟩) q
          · by_cases c2 : u = k
            · exact absurd (h4.mpr ⟨j, by omega, by rw [eju, c2]⟩) q
            · exact hi j u (by omega) (by omega) eju
        · obtain ⟨j, hj, ej⟩ := h4.mp q
          have := z.2 j k (by omega) (by omega) ej
          omega
      · rw [if_neg (by omega)]
        refine ⟨fun _ => h0 (fun z => ?_), fun z => absurd rfl z⟩
        have := z.1 k (by omega)
        omega
def tn_P (A : mA_) (i : Nat → Nat → Int32) : Prop := 0 < aV_ A ∧ i 4 1 = Int32.ofNat (aV_ A) ∧ tu_O A (tp_p i)
theorem tn_cls {R : ab_S → Prop} {A : mA_} {m : Nat} (hW : mt_W A) (hI : la_I R (i, l, dd, x)) (hm : ab_isM m) (hK : mt_K A m i) : ∃ r : Int32, ((r = 1 ∧ tn_P A i) ∨ (r = 0 ∧ ¬ tn_P A i)) ∧ ∀ d, ab_Sp MX1_hasOrder (d + 3) [.ref m, .ref 4] (i, l, dd, x) (ab_E0 sc) (some (.int r)) (fun σ => σ = (i, l, dd, x)) := by
  have w2 := hW.2.1
  have hz := mt_z30 hW hK
  have hb : ∀ v, v < aV_ A → i 5 v = Int32.ofNat (tp_p i v) ∧ tp_p i v ≤ 255 := fun v hv => ⟨(tp_pe hI (by omega)).1, (tp_pe hI (by omega)).2.1⟩
  rcases Classical.em (tn_P A i) with h | h
  · refine ⟨1, Or.inl ⟨rfl, h⟩, fun d => ?_⟩
    refine ab_ent (n := 1) okMX1_hasOrder.1 (fun G => Nat.le_of_ble_eq_true rfl) (fun Q hQ => ?_)
    refine tMX1_hasOrder_0 (d := d + 2) hm ⟨_, _, mt_empty (d := d + 1) hm, ?_⟩
    rintro i5 l6 dd7 x8 ⟨⟩
    rw [if_neg (fun z => by rw [hz] at z; have := h.1; omega), hK.1.2]
    exact ⟨fun z => absurd rfl z, fun _ => ⟨fun _ => tn_24 (d := d + 1) hW hm hK hb (fun _ => hQ _ rfl) (fun q => absurd h.2.2 q) (aV_ A) 0 (by omega) (fun v hv => absurd hv (Nat.not_lt_zero v)) (fun v u hv => absurd hv (Nat.not_lt_zero v)), fun z => absurd h.2.1 z⟩⟩
  · refine ⟨0, Or.inr ⟨rfl, h⟩, fun d => ?_⟩
    refine ab_ent (n := 1) okMX1_hasOrder.1 (fun G => Nat.le_of_ble_eq_true rfl) (fun Q hQ => ?_)
    refine tMX1_hasOrder_0 (d := d + 2) hm ⟨_, _, mt_empty (d := d + 1) hm, ?_⟩
    rintro i5 l6 dd7 x8 ⟨⟩
    by_cases c : i m 1 = 0
    · rw [if_pos c]
      exact ⟨fun _ => hQ _ rfl, fun z => absurd z (by decide)⟩
    · rw [if_neg c, hK.1.2]
      rw [hz] at c
      exact ⟨fun z => absurd rfl z, fun _ => ⟨fun c2 => tn_24 (d := d + 1) hW hm hK hb (fun q => absurd ⟨by omega, c2, q⟩ h) (fun _ => hQ _ rfl) (aV_ A) 0 (by omega) (fun v hv => absurd hv (Nat.not_lt_zero v)) (fun v u hv => absurd hv (Nat.not_lt_zero v)), fun _ => hQ _ rfl⟩⟩
theorem tn_33 {A : mA_} {b : Nat → Nat} (hW : mt_W A) (hM : mt_M A i l) (hb : ∀ v, v < aV_ A → i 206 v = Int32.ofNat (b v) ∧ b v ≤ 255) {Q : ab_Qt} (h1 : tu_O A b → ab_Fr MX12_inTurns (d + 1) Q 90 [some (.ref 205), some (.int (Int32.ofNat (aV_ A))), none, some (.int 0), none, none, none, none] [] (0, 0) (i, l, dd, x) (ab_E0 sc)) (h0 : ¬ tu_O A b → Q (some (some (.long (-1)))) (i, l, dd, x) (ab_E0 sc)) :
    ∀ n k : Nat, aV_ A = k + n → (∀ j, j < k → b j < aV_ A) → ab_Fr MX12_inTurns (d + 1) Q 33 [some (.ref 205), some (.int (Int32.ofNat (aV_ A))), some (.int (Int32.ofNat (mm_ b k))), some (.int (Int32.ofNat k)), none, none, none, none] [] (0, 0) (i, l, dd, x) (ab_E0 sc) := by
  intro n
  have w2 := hW.2.1
  have r2 := hM.1.2.1
  have hp7 : 2 ^ aV_ A ≤ 2 ^ 7 := Nat.pow_le_pow_right (by omega) w2
  have e7 : (2 : Nat) ^ 7 = 128 := rfl
  induction n with
  | zero =>
    intro k hk hl
    rw [show k = aV_ A by omega] at hl ⊢
    have hm7 := mm_7 w2 hl
    refine tMX12_inTurns_33 (d := d) ⟨fun _ => ?_, fun c => ?_⟩
    · rw [r2, mm_V w2, nn_eq (by omega) (by omega), mm_O hW hl]
      exact ⟨h1, h0⟩
    · rw [nn_le (by omega) (by omega)] at c
      omega
  | succ n ih =>
    intro k hk hl
    obtain ⟨e1, e2⟩ := hb k (by omega)
    refine tMX12_inTurns_33 (d := d) ⟨fun c => ?_, fun _ => ⟨la_vp (by omega) (by omega), ?_⟩⟩
    · rw [nn_le (by omega) (by omega)] at c
      omega
    · rw [nn_cl (by omega), e1, r2, nn_lt (by omega) (by omega), la_nx]
      refine ⟨fun c => ⟨la_vp (by omega) (by omega), ?_⟩, fun c => h0 (fun z => c (z.1 k (by omega)))⟩
      rw [(mm_o (mm_7 w2 hl) (show b k < 7 by omega)).1]
      refine ih (k + 1) (by omega) (fun j hj => ?_)
      by_cases e : j = k
      · rw [e]
        exact c
      · exact hl j (by omega)
end TQG4
