/-! IN TURNS, pure: histories, what is left, what is said -/
def mt_ln (f : Nat → Nat) : Nat → Nat
  | 0 => 0
  | k + 1 => if f (k + 1) < f (mt_ln f k) then k + 1 else mt_ln f k
theorem mt_ln_le {f : Nat → Nat} : ∀ k, mt_ln f k ≤ k := by
  intro k
  induction k with
  | zero => exact Nat.le_refl 0
  | succ k ih =>
    show (if f (k + 1) < f (mt_ln f k) then k + 1 else mt_ln f k) ≤ k + 1
    split <;> omega
theorem mt_ln_c {f g : Nat → Nat} : ∀ k, (∀ t, t ≤ k → f t = g t) → mt_ln f k = mt_ln g k := by
  intro k
  induction k with
  | zero => intro _; rfl
  | succ k ih =>
    intro h
    have h1 := ih (fun t ht => h t (by omega))
    have h2 := mt_ln_le (f := g) k
    show (if f (k + 1) < f (mt_ln f k) then k + 1 else mt_ln f k) = (if g (k + 1) < g (mt_ln g k) then k + 1 else mt_ln g k)
    rw [h1, h (mt_ln g k) (by omega), h (k + 1) (by omega)]
theorem mt_li_n {f : Nat → Nat} : ∀ k, (∀ t, t ≤ k → f t < 2 ^ 63) → mt_li (fun e => Int64.ofNat (f e)) k = mt_ln f k := by
  intro k
  induction k with
  | zero => intro _; rfl
  | succ k ih =>
    intro h
    have h1 := ih (fun t ht => h t (by omega))
    have h2 := mt_ln_le (f := f) k
    show (if Int64.ofNat (f (k + 1)) < Int64.ofNat (f (mt_li (fun e => Int64.ofNat (f e)) k)) then k + 1 else mt_li (fun e => Int64.ofNat (f e)) k) = (if f (k + 1) < f (mt_ln f k) then k + 1 else mt_ln f k)
    rw [h1]
    have e := nl_lt (h (k + 1) (by omega)) (h (mt_ln f k) (by omega))
    by_cases c : f (k + 1) < f (mt_ln f k)
    · rw [if_pos c, if_pos (e.mpr c)]
    · rw [if_neg c, if_neg (fun z => c (e.mp z))]
theorem mt_ln_m {f : Nat → Nat} {c : Nat} (hc : 0 < c) : ∀ k, mt_ln (fun e => f e * c) k = mt_ln f k := by
  intro k
  induction k with
  | zero => rfl
  | succ k ih =>
    show (if f (k + 1) * c < f (mt_ln (fun e => f e * c) k) * c then k + 1 else mt_ln (fun e => f e * c) k) = (if f (k + 1) < f (mt_ln f k) then k + 1 else mt_ln f k)
    rw [ih]
    by_cases q : f (k + 1) < f (mt_ln f k)
    · rw [if_pos q, if_pos (Nat.mul_lt_mul_of_pos_right q hc)]
    · rw [if_neg q, if_neg (fun z => q (Nat.lt_of_mul_lt_mul_right z))]
theorem mt_ln_0 {f : Nat → Nat} : ∀ k, (∀ t, t ≤ k → f t = 0) → mt_ln f k = 0 := by
  intro k
  induction k with
  | zero => intro _; rfl
  | succ k ih =>
    intro h
    show (if f (k + 1) < f (mt_ln f k) then k + 1 else mt_ln f k) = 0
    rw [h (k + 1) (Nat.le_refl _), ih (fun t ht => h t (by omega)), h 0 (Nat.zero_le _), if_neg (Nat.lt_irrefl 0)]
/-- what voter v says with a sign, the parts of the truths being L -/
def tu_s (A : mA_) (v : Nat) (L : Nat → Nat) (s : Nat) : Nat := mt_ln (fun e => pu_s (fun t => L t * aL_ A v s t * aK_ A v t e) 3) (aT_ A - 1)
/-- parts left before turn i by history and truth -/
def tu_L (A : mA_) (o : Nat → Nat) : Nat → Nat → Nat → Nat
  | 0 => fun _ t => aC_ A t
  | i + 1 => fun h t => tu_L A o i (h / 3) t * pu_s (fun s => if tu_s A (o i) (tu_L A o i (h / 3)) s = h % 3 then aL_ A (o i) s t else 0) (aS_ A (o i))
/-- the history before turn i with signs b -/
def tu_H (A : mA_) (o b : Nat → Nat) : Nat → Nat
  | 0 => 0
  | i + 1 => 3 * tu_H A o b i + tu_s A (o i) (tu_L A o i (tu_H A o b i)) (b (o i))
def tu_O (A : mA_) (o : Nat → Nat) : Prop := (∀ j, j < aV_ A → o j < aV_ A) ∧ ∀ j k, j < aV_ A → k < aV_ A → o j = o k → j = k
theorem tu_sl {A : mA_} {v s : Nat} {L : Nat → Nat} (hW : mt_W A) (hp : 0 < aV_ A) : tu_s A v L s < aT_ A := by
  have w4 := hW.2.2.2.1 hp
  have := mt_ln_le (f := fun e => pu_s (fun t => L t * aL_ A v s t * aK_ A v t e) 3) (aT_ A - 1)
  unfold tu_s
  omega
theorem tu_Hl {A : mA_} {o b : Nat → Nat} (hW : mt_W A) (hp : 0 < aV_ A) : ∀ i, tu_H A o b i < 3 ^ i := by
  intro i
  induction i with
  | zero => exact Nat.zero_lt_one
  | succ i ih =>
    have w1 := hW.1
    have h := tu_sl (A := A) (v := o i) (L := tu_L A o i (tu_H A o b i)) (s := b (o i)) hW hp
    show 3 * tu_H A o b i + _ < 3 ^ (i + 1)
    rw [Nat.pow_succ]
    omega
theorem tu_L0 {A : mA_} {o : Nat → Nat} {t : Nat} (hW : mt_W A) (ht : aT_ A ≤ t) : ∀ i h, tu_L A o i h t = 0 := by
  intro i
  induction i with
  | zero => intro h; exact (hW.2.2.2.2.1 t).2 ht
  | succ i ih =>
    intro h
    show tu_L A o i (h / 3) t * _ = 0
    rw [ih, Nat.zero_mul]
theorem tu_LB {A : mA_} {o : Nat → Nat} {t : Nat} (hW : mt_W A) (hO : tu_O A o) : ∀ i h, i ≤ aV_ A → tu_L A o i h t ≤ 20 ^ (i + 1) := by
  intro i
  induction i with
  | zero => intro h _; exact (hW.2.2.2.2.1 t).1
  | succ i ih =>
    intro h hi
    by_cases ht : t < aT_ A
    · have h1 := ih (h / 3) (by omega)
      have h2 := gr_L3 (v := o i) hW (hO.1 i (by omega)) ht
      have h3 : pu_s (fun s => if tu_s A (o i) (tu_L A o i (h / 3)) s = h % 3 then aL_ A (o i) s t else 0) (aS_ A (o i)) ≤ pu_s (fun s => aL_ A (o i) s t) (aS_ A (o i)) := pu_sle (fun s _ => by
        split
        · exact Nat.le_refl _
        · exact Nat.zero_le _)
      rw [h2] at h3
      show tu_L A o i (h / 3) t * _ ≤ 20 ^ (i + 1) * 20
      exact Nat.mul_le_mul h1 h3
    · rw [tu_L0 hW (by omega)]
      exact Nat.zero_le _
theorem tu_L8 {A : mA_} {o : Nat → Nat} {t i h : Nat} (hW : mt_W A) (hO : tu_O A o) (hi : i ≤ aV_ A) : tu_L A o i h t ≤ 25600000000 := by
  have h1 := tu_LB (t := t) hW hO i h hi
  have h2 : (20 : Nat) ^ (i + 1) ≤ 20 ^ 8 := Nat.pow_le_pow_right (by omega) (by have := hW.2.1; omega)
  have e : (20 : Nat) ^ 8 = 25600000000 := rfl
  omega
theorem tu_Lt {A : mA_} {o : Nat → Nat} {t i h : Nat} (hW : mt_W A) (hp : 0 < aV_ A) (hh : aT_ A ≤ h % 3) : tu_L A o (i + 1) h t = 0 := by
  show tu_L A o i (h / 3) t * pu_s (fun s => if tu_s A (o i) (tu_L A o i (h / 3)) s = h % 3 then aL_ A (o i) s t else 0) (aS_ A (o i)) = 0
  rw [pu_sz (fun s _ => if_neg (fun z => by
    have := tu_sl (A := A) (v := o i) (L := tu_L A o i (h / 3)) (s := s) hW hp
    omega)), Nat.mul_zero]
theorem tu_Lz {A : mA_} {o : Nat → Nat} {t i h : Nat} (hz : tu_L A o i h t = 0) : ∀ n j, j < 3 ^ n → tu_L A o (i + n) (h * 3 ^ n + j) t = 0 := by
  intro n
  induction n with
  | zero =>
    intro j hj
    rw [Nat.pow_zero] at hj
    rw [Nat.pow_zero, Nat.mul_one, show j = 0 by omega]
    exact hz
  | succ n ih =>
    intro j hj
    have e : (h * 3 ^ (n + 1) + j) / 3 = h * 3 ^ n + j / 3 := by
      rw [Nat.pow_succ, ← Nat.mul_assoc]
      omega
    rw [Nat.pow_succ] at hj
    show tu_L A o (i + n) ((h * 3 ^ (n + 1) + j) / 3) t * _ = 0
    rw [e, ih (j / 3) (by omega), Nat.zero_mul]
/-! products -/
theorem pn_prod {S : Nat → Nat} {c : Nat} {f : Nat → Nat → Nat} : ∀ k, pu_n S k (fun b => pu_p c (fun v => f v (b v)) k) = pu_p c (fun v => pu_s (f v) (S v)) k := by
  intro k
  induction k with
  | zero => rfl
  | succ k ih =>
    show pu_s (fun a => pu_n S k (fun b => pu_p c (fun v => f v (pu_u b k a v)) k * f k (pu_u b k a k))) (S k) = pu_p c (fun v => pu_s (f v) (S v)) k * pu_s (f k) (S k)
    rw [pu_sc (g := fun a => pu_p c (fun v => pu_s (f v) (S v)) k * f k a) (fun a _ => by
      rw [← ih, ← pu_nr]
      refine pu_nc (fun b _ => ?_)
      rw [pu_ue, pu_pc (f := fun v => f v (pu_u b k a v)) (g := fun v => f v (b v)) k (fun v hv => by rw [pu_un (by omega)])]), pu_sm]
theorem pu_pmu {c : Nat} {f g : Nat → Nat} : ∀ k, pu_p c (fun v => f v * g v) k = pu_p c f k * pu_p 1 g k := by
  intro k
  induction k with
  | zero => exact (Nat.mul_one c).symm
  | succ k ih =>
    show pu_p c (fun v => f v * g v) k * (f k * g k) = pu_p c f k * f k * (pu_p 1 g k * g k)
    rw [ih]
    ac_rfl
theorem pu_pone {f : Nat → Nat} : ∀ k, (∀ v, v < k → f v = 1) → pu_p 1 f k = 1 := by
  intro k
  induction k with
  | zero => intro _; rfl
  | succ k ih =>
    intro h
    show pu_p 1 f k * f k = 1
    rw [ih (fun v hv => h v (by omega)), h k (by omega)]
theorem pu_p1 {c : Nat} {f g : Nat → Nat} {a : Nat} (hf : ∀ v, v ≠ a → f v = g v) : ∀ k, a < k → pu_p c f k * g a = pu_p c g k * f a := by
  intro k
  induction k with
  | zero => intro h; exact absurd h (Nat.not_lt_zero a)
  | succ k ih =>
    intro h
    show pu_p c f k * f k * g a = pu_p c g k * g k * f a
    by_cases e : a = k
    · subst e
      rw [pu_pc (g := g) a (fun v hv => hf v (by omega))]
      ac_rfl
    · have h2 := ih (by omega)
      rw [hf k (fun z => e z.symm)]
      calc pu_p c f k * g k * g a = pu_p c f k * g a * g k := by ac_rfl
        _ = pu_p c g k * f a * g k := by rw [h2]
        _ = pu_p c g k * g k * f a := by ac_rfl
theorem pu_pat {y : Nat} {f : Nat → Nat} {a k : Nat} (h : a < k) (hf : ∀ v, v ≠ a → f v = 1) (ha : f a = y) : pu_p 1 f k = y := by
  have h2 := pu_p1 (c := 1) (f := f) (g := fun _ => 1) (a := a) hf k h
  rw [Nat.mul_one, pu_pone (f := fun _ => 1) k (fun _ _ => rfl), Nat.one_mul] at h2
  rw [h2, ha]
/-- what a history asks of a voter's sign -/
def tu_q (A : mA_) (o : Nat → Nat) : Nat → Nat → Nat → Nat → Nat
  | 0, _, _, _ => 1
  | i + 1, h, v, s => tu_q A o i (h / 3) v s * (if v = o i then (if tu_s A (o i) (tu_L A o i (h / 3)) s = h % 3 then 1 else 0) else 1)
theorem tu_qn {A : mA_} {o : Nat → Nat} {v s : Nat} : ∀ i h, (∀ j, j < i → o j ≠ v) → tu_q A o i h v s = 1 := by
  intro i
  induction i with
  | zero => intro h _; rfl
  | succ i ih =>
    intro h hn
    show tu_q A o i (h / 3) v s * _ = 1
    rw [ih (h / 3) (fun j hj => hn j (by omega)), if_neg (fun z => hn i (by omega) z.symm)]
theorem tu_q1 {A : mA_} {o b : Nat → Nat} (hW : mt_W A) (hp : 0 < aV_ A) (hO : tu_O A o) : ∀ i h, i ≤ aV_ A → h < 3 ^ i → pu_p 1 (fun v => tu_q A o i h v (b v)) (aV_ A) = if tu_H A o b i = h then 1 else 0 := by
  intro i
  induction i with
  | zero =>
    intro h _ hh
    rw [Nat.pow_zero] at hh
    rw [pu_pone (f := fun v => tu_q A o 0 h v (b v)) _ (fun _ _ => rfl), show h = 0 by omega]
    rfl
  | succ i ih =>
    intro h hi hh
    rw [Nat.pow_succ] at hh
    have w1 := hW.1
    have h1 := ih (h / 3) (by omega) (by omega)
    have hs := tu_sl (A := A) (v := o i) (L := tu_L A o i (tu_H A o b i)) (s := b (o i)) hW hp
    have hs2 := tu_sl (A := A) (v := o i) (L := tu_L A o i (h / 3)) (s := b (o i)) hW hp
    show pu_p 1 (fun v => tu_q A o i (h / 3) v (b v) * (if v = o i then (if tu_s A (o i) (tu_L A o i (h / 3)) (b v) = h % 3 then 1 else 0) else 1)) (aV_ A) = _
    rw [pu_pmu (f := fun v => tu_q A o i (h / 3) v (b v)) (g := fun v => if v = o i then (if tu_s A (o i) (tu_L A o i (h / 3)) (b v) = h % 3 then 1 else 0) else 1), h1, pu_pat (f := fun v => if v = o i then (if tu_s A (o i) (tu_L A o i (h / 3)) (b v) = h % 3 then 1 else 0) else 1) (a := o i) (y := if tu_s A (o i) (tu_L A o i (h / 3)) (b (o i)) = h % 3 then 1 else 0) (hO.1 i (by omega)) (fun v hv => if_neg hv) (if_pos rfl)]
    have eH : tu_H A o b (i + 1) = 3 * tu_H A o b i + tu_s A (o i) (tu_L A o i (tu_H A o b i)) (b (o i)) := rfl
    rw [eH]
    by_cases c : tu_H A o b i = h / 3
    · rw [if_pos c, Nat.one_mul, c]
      by_cases c2 : tu_s A (o i) (tu_L A o i (h / 3)) (b (o i)) = h % 3
      · rw [if_pos c2, if_pos (by omega)]
      · rw [if_neg c2, if_neg (by omega)]
    · rw [if_neg c, Nat.zero_mul, if_neg (by omega)]
/-- a history's parts with a condition on the next voter's sign -/
theorem tu_K {A : mA_} {o : Nat → Nat} {i h t : Nat} {q : Nat → Nat} (hW : mt_W A) (hp : 0 < aV_ A) (hO : tu_O A o) (ht : t < aT_ A) (hi : i < aV_ A) (hh : h < 3 ^ i) : pu_n (aS_ A) (aV_ A) (fun b => if tu_H A o b i = h then q (b (o i)) * mt_pa A b t else 0) * 20 = pu_p (aC_ A t) (fun v => pu_s (fun s => aL_ A v s t * tu_q A o i h v s) (aS_ A v)) (aV_ A) * pu_s (fun s => aL_ A (o i) s t * q s) (aS_ A (o i)) := by
  have ho := hO.1 i hi
  have hn : ∀ s, tu_q A o i h (o i) s = 1 := fun s => tu_qn i h (fun j hj z => by
    have := hO.2 j i (by omega) hi z
    omega)
  have e20 := gr_L3 (v := o i) hW ho ht
  have h1 := pu_p1 (c := aC_ A t) (f := fun v => pu_s (fun s => aL_ A v s t * tu_q A o i h v s * (if v = o i then q s else 1)) (aS_ A v)) (g := fun v => pu_s (fun s => aL_ A v s t * tu_q A o i h v s) (aS_ A v)) (a := o i) (fun v hv => pu_sc (fun s _ => by rw [if_neg hv, Nat.mul_one])) (aV_ A) ho
  rw [show pu_s (fun s => aL_ A (o i) s t * tu_q A o i h (o i) s) (aS_ A (o i)) = 20 from by
    rw [← e20]
    exact pu_sc (fun s _ => by rw [hn s, Nat.mul_one])] at h1
  rw [show pu_s (fun s => aL_ A (o i) s t * tu_q A o i h (o i) s * (if o i = o i then q s else 1)) (aS_ A (o i)) = pu_s (fun s => aL_ A (o i) s t * q s) (aS_ A (o i)) from pu_sc (fun s _ => by rw [hn s, Nat.mul_one, if_pos rfl])] at h1
  rw [← h1, ← pn_prod (c := aC_ A t) (f := fun v s => aL_ A v s t * tu_q A o i h v s * (if v = o i then q s else 1))]
  congr 1
  refine pu_nc (fun b _ => ?_)
  rw [pu_pmu (f := fun v => aL_ A v (b v) t * tu_q A o i h v (b v)) (g := fun v => if v = o i then q (b v) else 1), pu_pmu (f := fun v => aL_ A v (b v) t) (g := fun v => tu_q A o i h v (b v)), tu_q1 hW hp hO i h (by omega) hh, pu_pat (f := fun v => if v = o i then q (b v) else 1) (a := o i) (y := q (b (o i))) ho (fun v hv => if_neg hv) (if_pos rfl)]
  by_cases c : tu_H A o b i = h
  · rw [if_pos c, if_pos c, Nat.mul_one, Nat.mul_comm]
    rfl
  · rw [if_neg c, if_neg c, Nat.mul_zero, Nat.zero_mul]
theorem tu_X {A : mA_} {o : Nat → Nat} {t : Nat} (hW : mt_W A) (hp : 0 < aV_ A) (hO : tu_O A o) (ht : t < aT_ A) : ∀ i h, i ≤ aV_ A → h < 3 ^ i → pu_p (aC_ A t) (fun v => pu_s (fun s => aL_ A v s t * tu_q A o i h v s) (aS_ A v)) (aV_ A) = tu_L A o i h t * 20 ^ (aV_ A - i) := by
  intro i
  induction i with
  | zero =>
    intro h _ _
    have g : ∀ k, k ≤ aV_ A → pu_p (aC_ A t) (fun v => pu_s (fun s => aL_ A v s t * tu_q A o 0 h v s) (aS_ A v)) k = aC_ A t * 20 ^ k := by
      intro k
      induction k with
      | zero => intro _; exact (Nat.mul_one _).symm
      | succ k ih =>
        intro hk
        have e : pu_s (fun s => aL_ A k s t * tu_q A o 0 h k s) (aS_ A k) = 20 := by
          rw [← gr_L3 (v := k) hW (by omega) ht]
          exact pu_sc (fun s _ => Nat.mul_one _)
        show pu_p (aC_ A t) (fun v => pu_s (fun s => aL_ A v s t * tu_q A o 0 h v s) (aS_ A v)) k * pu_s (fun s => aL_ A k s t * tu_q A o 0 h k s) (aS_ A k) = _
        rw [ih (by omega), e, Nat.pow_succ, Nat.mul_assoc]
    rw [g (aV_ A) (Nat.le_refl _), Nat.sub_zero]
    rfl
  | succ i ih =>
    intro h hi hh
    rw [Nat.pow_succ] at hh
    have ho := hO.1 i (by omega)
    have hn : ∀ s, tu_q A o i (h / 3) (o i) s = 1 := fun s => tu_qn i (h / 3) (fun j hj z => by
      have := hO.2 j i (by omega) (by omega) z
      omega)
    have e20 := gr_L3 (v := o i) hW ho ht
    have h1 := pu_p1 (c := aC_ A t) (f := fun v => pu_s (fun s => aL_ A v s t * tu_q A o (i + 1) h v s) (aS_ A v)) (g := fun v => pu_s (fun s => aL_ A v s t * tu_q A o i (h / 3) v s) (aS_ A v)) (a := o i) (fun v hv => pu_sc (fun s _ => by
      show aL_ A v s t * (tu_q A o i (h / 3) v s * (if v = o i then _ else 1)) = _
      rw [if_neg hv, Nat.mul_one])) (aV_ A) ho
    rw [show pu_s (fun s => aL_ A (o i) s t * tu_q A o i (h / 3) (o i) s) (aS_ A (o i)) = 20 from by
      rw [← e20]
      exact pu_sc (fun s _ => by rw [hn s, Nat.mul_one]), ih (h / 3) (by omega) (by omega)] at h1
    rw [show pu_s (fun s => aL_ A (o i) s t * tu_q A o (i + 1) h (o i) s) (aS_ A (o i)) = pu_s (fun s => if tu_s A (o i) (tu_L A o i (h / 3)) s = h % 3 then aL_ A (o i) s t else 0) (aS_ A (o i)) from pu_sc (fun s _ => by
      show aL_ A (o i) s t * (tu_q A o i (h / 3) (o i) s * (if o i = o i then (if tu_s A (o i) (tu_L A o i (h / 3)) s = h % 3 then 1 else 0) else 1)) = _
      rw [hn s, Nat.one_mul, if_pos rfl]
      by_cases c : tu_s A (o i) (tu_L A o i (h / 3)) s = h % 3
      · rw [if_pos c, if_pos c, Nat.mul_one]
      · rw [if_neg c, if_neg c, Nat.mul_zero])] at h1
    refine Nat.eq_of_mul_eq_mul_right (show 0 < 20 by omega) (h1.trans ?_)
    show tu_L A o i (h / 3) t * 20 ^ (aV_ A - i) * _ = tu_L A o i (h / 3) t * _ * 20 ^ (aV_ A - (i + 1)) * 20
    rw [show aV_ A - i = aV_ A - (i + 1) + 1 by omega, Nat.pow_succ]
    ac_rfl
/-- a history's parts -/
theorem tu_K0 {A : mA_} {o : Nat → Nat} {i h t : Nat} (hW : mt_W A) (hp : 0 < aV_ A) (hO : tu_O A o) (ht : t < aT_ A) (hi : i ≤ aV_ A) (hh : h < 3 ^ i) : pu_n (aS_ A) (aV_ A) (fun b => if tu_H A o b i = h then mt_pa A b t else 0) = tu_L A o i h t * 20 ^ (aV_ A - i) := by
  rw [← tu_X hW hp hO ht i h hi hh, ← pn_prod (c := aC_ A t) (f := fun v s => aL_ A v s t * tu_q A o i h v s)]
  refine pu_nc (fun b _ => ?_)
  rw [pu_pmu (f := fun v => aL_ A v (b v) t) (g := fun v => tu_q A o i h v (b v)), tu_q1 hW hp hO i h hi hh]
  by_cases c : tu_H A o b i = h
  · rw [if_pos c, if_pos c, Nat.mul_one]
    rfl
  · rw [if_neg c, if_neg c, Nat.mul_zero]
/-- and a sign's -/
theorem tu_K1 {A : mA_} {o : Nat → Nat} {i h t s : Nat} (hW : mt_W A) (hp : 0 < aV_ A) (hO : tu_O A o) (ht : t < aT_ A) (hi : i < aV_ A) (hh : h < 3 ^ i) (hs : s < aS_ A (o i)) : pu_n (aS_ A) (aV_ A) (fun b => if tu_H A o b i = h ∧ b (o i) = s then mt_pa A b t else 0) = tu_L A o i h t * aL_ A (o i) s t * 20 ^ (aV_ A - (i + 1)) := by
  have h1 := tu_K (q := fun u => if u = s then 1 else 0) hW hp hO ht hi hh
  rw [tu_X hW hp hO ht i h (by omega) hh, pu_sc (g := fun u => if u = s then (fun u => aL_ A (o i) u t) u else 0) (n := aS_ A (o i)) (fun u _ => by
    by_cases c : u = s
    · rw [if_pos c, if_pos c, Nat.mul_one]
    · rw [if_neg c, if_neg c, Nat.mul_zero]), pu_s1, if_pos hs] at h1
  refine Nat.eq_of_mul_eq_mul_right (show 0 < 20 by omega) (Eq.trans ?_ (h1.trans ?_))
  · congr 1
    refine pu_nc (fun b _ => ?_)
    by_cases c : tu_H A o b i = h
    · rw [if_pos c]
      by_cases c2 : b (o i) = s
      · rw [if_pos ⟨c, c2⟩, if_pos c2, Nat.one_mul]
      · rw [if_neg (fun z => c2 z.2), if_neg c2, Nat.zero_mul]
    · rw [if_neg c, if_neg (fun z => c z.1)]
  · rw [show aV_ A - i = aV_ A - (i + 1) + 1 by omega, Nat.pow_succ]
    ac_rfl
/-- sums over the last histories are sums over cases -/
theorem tu_tot {A : mA_} {o : Nat → Nat} {t : Nat} {p : Nat → Prop} [DecidablePred p] (hW : mt_W A) (hp : 0 < aV_ A) (hO : tu_O A o) : pu_s (fun h => if p h then tu_L A o (aV_ A) h t else 0) (3 ^ aV_ A) = pu_n (aS_ A) (aV_ A) (fun b => if p (tu_H A o b (aV_ A)) then mt_pa A b t else 0) := by
  by_cases ht : t < aT_ A
  · rw [pu_sc (g := fun h => pu_n (aS_ A) (aV_ A) (fun b => if h = tu_H A o b (aV_ A) then (if p h then mt_pa A b t else 0) else 0)) (fun h hh => by
      have h1 := tu_K0 (i := aV_ A) hW hp hO ht (Nat.le_refl _) hh
      rw [Nat.sub_self, Nat.pow_zero, Nat.mul_one] at h1
      by_cases c : p h
      · rw [if_pos c, ← h1]
        refine pu_nc (fun b _ => ?_)
        by_cases q : tu_H A o b (aV_ A) = h
        · rw [if_pos q, if_pos q.symm, if_pos c]
        · rw [if_neg q, if_neg (fun z => q z.symm)]
      · rw [if_neg c]
        refine (pu_nz (fun b _ => ?_)).symm
        rw [if_neg c]
        split <;> rfl), ← pu_ns]
    refine pu_nc (fun b _ => ?_)
    rw [pu_s1 (f := fun h => if p h then mt_pa A b t else 0), if_pos (tu_Hl hW hp _)]
  · rw [pu_sz (fun h _ => by rw [tu_L0 hW (by omega)]; split <;> rfl), pu_nz (fun b _ => by rw [mt_pa0 hW (by omega)]; split <;> rfl)]
/-- the fold of follows: what is said with the signs that have a case (9 none yet), and whether it is one -/
def tu_g (A : mA_) (o : Nat → Nat) (i h : Nat) : Nat → Nat × Nat
  | 0 => (9, 1)
  | s + 1 => if 0 < pu_s (fun t => tu_L A o i h t * aL_ A (o i) s t) 3 then (tu_s A (o i) (tu_L A o i h) s, if (tu_g A o i h s).1 = 9 ∨ (tu_g A o i h s).1 = tu_s A (o i) (tu_L A o i h) s then (tu_g A o i h s).2 else 0) else tu_g A o i h s
def tu_f (A : mA_) (o : Nat → Nat) (i h : Nat) : Nat := (tu_g A o i h (aS_ A (o i))).2
/-- from which turn on all followed -/
def tu_z (A : mA_) (o : Nat → Nat) : Nat → Nat → Nat
  | 0, _ => 0
  | i + 1, h => if tu_f A o i (h / 3) = 1 then tu_z A o i (h / 3) else i + 1
theorem tu_zl {A : mA_} {o : Nat → Nat} : ∀ i h, tu_z A o i h ≤ i := by
  intro i
  induction i with
  | zero => intro h; exact Nat.le_refl 0
  | succ i ih =>
    intro h
    have := ih (h / 3)
    show (if tu_f A o i (h / 3) = 1 then tu_z A o i (h / 3) else i + 1) ≤ i + 1
    split <;> omega
