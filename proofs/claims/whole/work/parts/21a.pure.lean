/-! PURE: sums, nested sums over tuples, rows as numbers -/
def pu_s (f : Nat → Nat) : Nat → Nat
  | 0 => 0
  | k + 1 => pu_s f k + f k
theorem pu_sc {f g : Nat → Nat} : ∀ {n : Nat}, (∀ k, k < n → f k = g k) → pu_s f n = pu_s g n := by
  intro n
  induction n with
  | zero => intro _; rfl
  | succ n ih =>
    intro h
    show pu_s f n + f n = pu_s g n + g n
    rw [ih (fun k hk => h k (by omega)), h n (by omega)]
theorem pu_sa {f g : Nat → Nat} : ∀ {n : Nat}, pu_s (fun k => f k + g k) n = pu_s f n + pu_s g n := by
  intro n
  induction n with
  | zero => rfl
  | succ n ih =>
    show pu_s (fun k => f k + g k) n + (f n + g n) = (pu_s f n + f n) + (pu_s g n + g n)
    omega
theorem pu_sm {c : Nat} {f : Nat → Nat} : ∀ {n : Nat}, pu_s (fun k => c * f k) n = c * pu_s f n := by
  intro n
  induction n with
  | zero => rfl
  | succ n ih =>
    show pu_s (fun k => c * f k) n + c * f n = c * (pu_s f n + f n)
    rw [ih, Nat.mul_add]
theorem pu_sr {c : Nat} {f : Nat → Nat} {n : Nat} : pu_s (fun k => f k * c) n = pu_s f n * c := by
  rw [Nat.mul_comm, ← pu_sm]
  exact pu_sc (fun k _ => Nat.mul_comm _ _)
theorem pu_s0 : ∀ {n : Nat}, pu_s (fun _ => 0) n = 0 := by
  intro n
  induction n with
  | zero => rfl
  | succ n ih => show pu_s (fun _ => 0) n + 0 = 0; omega
theorem pu_sz {f : Nat → Nat} {n : Nat} (h : ∀ k, k < n → f k = 0) : pu_s f n = 0 := by
  rw [pu_sc (g := fun _ => 0) h, pu_s0]
theorem pu_sw {f : Nat → Nat → Nat} {m : Nat} : ∀ {n : Nat}, pu_s (fun a => pu_s (fun b => f a b) m) n = pu_s (fun b => pu_s (fun a => f a b) n) m := by
  intro n
  induction n with
  | zero => exact (pu_sz (fun _ _ => rfl)).symm
  | succ n ih =>
    show pu_s (fun a => pu_s (fun b => f a b) m) n + pu_s (fun b => f n b) m = _
    rw [ih, ← pu_sa]
    rfl
theorem pu_sle {f g : Nat → Nat} : ∀ {n : Nat}, (∀ k, k < n → f k ≤ g k) → pu_s f n ≤ pu_s g n := by
  intro n
  induction n with
  | zero => intro _; exact Nat.le_refl _
  | succ n ih =>
    intro h
    have h1 := ih (fun k hk => h k (by omega))
    have h2 := h n (by omega)
    show pu_s f n + f n ≤ pu_s g n + g n
    omega
theorem pu_sp {f : Nat → Nat} {n : Nat} : ∀ {m : Nat}, pu_s f (n + m) = pu_s f n + pu_s (fun k => f (n + k)) m := by
  intro m
  induction m with
  | zero => rfl
  | succ m ih =>
    show pu_s f (n + m) + f (n + m) = pu_s f n + (pu_s (fun k => f (n + k)) m + f (n + m))
    omega
theorem pu_sx {f : Nat → Nat} {m : Nat} : ∀ {n : Nat}, pu_s f (n * m) = pu_s (fun a => pu_s (fun b => f (a * m + b)) m) n := by
  intro n
  induction n with
  | zero => rw [Nat.zero_mul]; rfl
  | succ n ih =>
    rw [Nat.succ_mul, pu_sp, ih]
    rfl
theorem pu_s1 {f : Nat → Nat} {a : Nat} : ∀ {n : Nat}, pu_s (fun k => if k = a then f k else 0) n = if a < n then f a else 0 := by
  intro n
  induction n with
  | zero => rfl
  | succ n ih =>
    show pu_s (fun k => if k = a then f k else 0) n + (if n = a then f n else 0) = _
    rw [ih]
    by_cases h1 : a < n
    · rw [if_pos h1, if_neg (by omega), if_pos (by omega)]
      rfl
    · by_cases h2 : n = a
      · subst h2
        rw [if_neg h1, if_pos rfl, if_pos (by omega), Nat.zero_add]
      · rw [if_neg h1, if_neg h2, if_neg (by omega)]
/-- a place of a tuple set -/
def pu_u (b : Nat → Nat) (k a : Nat) : Nat → Nat := fun v => if v = k then a else b v
/-- the sum over all tuples, place v in 0 .. N v - 1 -/
def pu_n (N : Nat → Nat) : Nat → ((Nat → Nat) → Nat) → Nat
  | 0, G => G (fun _ => 0)
  | k + 1, G => pu_s (fun a => pu_n N k (fun b => G (pu_u b k a))) (N k)
/-- tuples that come up: 0 behind k, in their bounds before -/
def pu_t (N : Nat → Nat) (k : Nat) (b : Nat → Nat) : Prop := (∀ v, v < k → b v < N v) ∧ ∀ v, k ≤ v → b v = 0
theorem pu_tu {N : Nat → Nat} {k a : Nat} {b : Nat → Nat} (h : pu_t N k b) (ha : a < N k) : pu_t N (k + 1) (pu_u b k a) := by
  refine ⟨fun v hv => ?_, fun v hv => ?_⟩
  · unfold pu_u
    by_cases e : v = k
    · subst e
      rw [if_pos rfl]
      exact ha
    · rw [if_neg e]
      exact h.1 v (by omega)
  · unfold pu_u
    rw [if_neg (by omega)]
    exact h.2 v (by omega)
theorem pu_nc {N : Nat → Nat} : ∀ {k : Nat} {G H : (Nat → Nat) → Nat}, (∀ b, pu_t N k b → G b = H b) → pu_n N k G = pu_n N k H := by
  intro k
  induction k with
  | zero => intro G H h; exact h _ ⟨fun v hv => absurd hv (by omega), fun _ _ => rfl⟩
  | succ k ih =>
    intro G H h
    exact pu_sc (fun a ha => ih (fun b hb => h _ (pu_tu hb ha)))
theorem pu_na {N : Nat → Nat} : ∀ {k : Nat} {G H : (Nat → Nat) → Nat}, pu_n N k (fun b => G b + H b) = pu_n N k G + pu_n N k H := by
  intro k
  induction k with
  | zero => intro G H; rfl
  | succ k ih =>
    intro G H
    show pu_s (fun a => pu_n N k (fun b => G (pu_u b k a) + H (pu_u b k a))) (N k) = _
    rw [pu_sc (fun a _ => ih), pu_sa]
    rfl
theorem pu_nz {N : Nat → Nat} : ∀ {k : Nat} {G : (Nat → Nat) → Nat}, (∀ b, pu_t N k b → G b = 0) → pu_n N k G = 0 := by
  intro k
  induction k with
  | zero => intro G h; exact h _ ⟨fun v hv => absurd hv (by omega), fun _ _ => rfl⟩
  | succ k ih =>
    intro G h
    exact pu_sz (fun a ha => ih (fun b hb => h _ (pu_tu hb ha)))
theorem pu_nr {N : Nat → Nat} {c : Nat} : ∀ {k : Nat} {G : (Nat → Nat) → Nat}, pu_n N k (fun b => G b * c) = pu_n N k G * c := by
  intro k
  induction k with
  | zero => intro G; rfl
  | succ k ih =>
    intro G
    show pu_s (fun a => pu_n N k (fun b => G (pu_u b k a) * c)) (N k) = _
    rw [pu_sc (fun a _ => ih), pu_sr]
    rfl
/-- a sum goes in -/
theorem pu_ns {N : Nat → Nat} {G : (Nat → Nat) → Nat → Nat} {k : Nat} : ∀ {n : Nat}, pu_n N k (fun b => pu_s (G b) n) = pu_s (fun a => pu_n N k (fun b => G b a)) n := by
  intro n
  induction n with
  | zero => exact pu_nz (fun _ _ => rfl)
  | succ n ih =>
    show pu_n N k (fun b => pu_s (G b) n + G b n) = _
    rw [pu_na, ih]
    rfl
theorem pu_nle {N : Nat → Nat} : ∀ {k : Nat} {G H : (Nat → Nat) → Nat}, (∀ b, pu_t N k b → G b ≤ H b) → pu_n N k G ≤ pu_n N k H := by
  intro k
  induction k with
  | zero => intro G H h; exact h _ ⟨fun v hv => absurd hv (by omega), fun _ _ => rfl⟩
  | succ k ih =>
    intro G H h
    exact pu_sle (fun a ha => ih (fun b hb => h _ (pu_tu hb ha)))
/-- the class's digits of a row's number: the last voter's fastest -/
def pu_d (N : Nat → Nat) : Nat → Nat → Nat → Nat
  | 0, _ => fun _ => 0
  | k + 1, i => pu_u (pu_d N k (i / N k)) k (i % N k)
theorem pu_dt {N : Nat → Nat} : ∀ {k i : Nat}, (∀ v, v < k → 0 < N v) → pu_t N k (pu_d N k i) := by
  intro k
  induction k with
  | zero => intro i h; exact ⟨fun v hv => absurd hv (by omega), fun _ _ => rfl⟩
  | succ k ih => intro i h; exact pu_tu (ih (fun v hv => h v (by omega))) (Nat.mod_lt _ (h k (by omega)))
theorem pu_dn {N : Nat → Nat} : ∀ {k : Nat} {G : (Nat → Nat) → Nat}, (∀ v, v < k → 0 < N v) → pu_s (fun i => G (pu_d N k i)) (mt_rad N k) = pu_n N k G := by
  intro k
  induction k with
  | zero => intro G h; show 0 + G (pu_d N 0 0) = G (fun _ => 0); rw [Nat.zero_add]; rfl
  | succ k ih =>
    intro G h
    have hk := h k (by omega)
    show pu_s _ (mt_rad N k * N k) = _
    rw [pu_sx]
    rw [pu_sc (g := fun a => pu_s (fun b => G (pu_u (pu_d N k a) k b)) (N k)) (fun a _ => pu_sc (fun b hb => by
      show G (pu_u (pu_d N k ((a * N k + b) / N k)) k ((a * N k + b) % N k)) = _
      rw [Nat.mul_comm a, Nat.mul_add_div hk, Nat.div_eq_of_lt hb, Nat.mul_add_mod, Nat.mod_eq_of_lt hb, Nat.add_zero]))]
    rw [pu_sw]
    exact pu_sc (fun a _ => ih (G := fun b => G (pu_u b k a)) (fun v hv => h v (by omega)))
/-- the odometer -/
def pu_nx (N : Nat → Nat) : Nat → (Nat → Nat) → Nat → Nat
  | 0, b => b
  | k + 1, b => if b k + 1 < N k then pu_u b k (b k + 1) else pu_u (pu_nx N k b) k 0
theorem pu_uu {b : Nat → Nat} {k a c : Nat} : pu_u (pu_u b k a) k c = pu_u b k c := by
  funext v
  unfold pu_u
  by_cases h : v = k
  · simp [h]
  · simp [h]
theorem pu_ue {b : Nat → Nat} {k a : Nat} : pu_u b k a k = a := if_pos rfl
theorem pu_un {b : Nat → Nat} {k a v : Nat} (h : v ≠ k) : pu_u b k a v = b v := if_neg h
theorem pu_nxu {N : Nat → Nat} : ∀ {k j : Nat} {b : Nat → Nat} {a : Nat}, k ≤ j → pu_nx N k (pu_u b j a) = pu_u (pu_nx N k b) j a := by
  intro k
  induction k with
  | zero => intro j b a h; rfl
  | succ k ih =>
    intro j b a h
    have e : pu_u b j a k = b k := pu_un (by omega)
    show (if pu_u b j a k + 1 < N k then pu_u (pu_u b j a) k (pu_u b j a k + 1) else pu_u (pu_nx N k (pu_u b j a)) k 0) = pu_u (if b k + 1 < N k then pu_u b k (b k + 1) else pu_u (pu_nx N k b) k 0) j a
    rw [e, ih (by omega)]
    have sw : ∀ (c : Nat → Nat) (z : Nat), pu_u (pu_u c j a) k z = pu_u (pu_u c k z) j a := by
      intro c z
      funext v
      unfold pu_u
      by_cases h1 : v = k
      · have h2 : v ≠ j := by omega
        simp [h1, show k ≠ j by omega]
      · simp [h1]
    by_cases c : b k + 1 < N k
    · rw [if_pos c, if_pos c, sw]
    · rw [if_neg c, if_neg c, sw]
theorem pu_ds {N : Nat → Nat} : ∀ {k i : Nat}, (∀ v, v < k → 0 < N v) → i + 1 < mt_rad N k → pu_nx N k (pu_d N k i) = pu_d N k (i + 1) := by
  intro k
  induction k with
  | zero => intro i _ _; rfl
  | succ k ih =>
    intro i h hi
    have hk := h k (by omega)
    have hi : i + 1 < mt_rad N k * N k := hi
    show (if pu_u (pu_d N k (i / N k)) k (i % N k) k + 1 < N k then pu_u (pu_u (pu_d N k (i / N k)) k (i % N k)) k (pu_u (pu_d N k (i / N k)) k (i % N k) k + 1) else pu_u (pu_nx N k (pu_u (pu_d N k (i / N k)) k (i % N k))) k 0) = pu_u (pu_d N k ((i + 1) / N k)) k ((i + 1) % N k)
    rw [pu_ue, pu_uu]
    have hm := Nat.mod_lt i hk
    have hd := Nat.div_add_mod i (N k)
    by_cases c : i % N k + 1 < N k
    · rw [if_pos c]
      have e : i + 1 = N k * (i / N k) + (i % N k + 1) := by omega
      rw [e, Nat.mul_add_div hk, Nat.div_eq_of_lt c, Nat.mul_add_mod, Nat.mod_eq_of_lt c]
      rfl
    · rw [if_neg c]
      have e : i + 1 = N k * (i / N k + 1) := by rw [Nat.mul_add]; omega
      have e1 : (i + 1) / N k = i / N k + 1 := by rw [e, Nat.mul_div_cancel_left _ hk]
      have e2 : (i + 1) % N k = 0 := by rw [e, Nat.mul_mod_right]
      rw [e1, e2, pu_nxu (Nat.le_refl k), pu_uu, ih (fun v hv => h v (by omega))]
      have h5 : i / N k + 1 < mt_rad N k := by
        rw [← e1]
        exact Nat.div_lt_of_lt_mul (by rw [Nat.mul_comm]; exact hi)
      exact h5
theorem pu_d0 {N : Nat → Nat} : ∀ {k : Nat}, pu_d N k 0 = fun _ => 0 := by
  intro k
  induction k with
  | zero => rfl
  | succ k ih =>
    show pu_u (pu_d N k (0 / N k)) k (0 % N k) = _
    rw [Nat.zero_div, Nat.zero_mod, ih]
    funext v
    unfold pu_u
    by_cases h : v = k <;> simp [h]
/-- the model's digits of a row's number -/
def pu_g (S : Nat → Nat) (k r : Nat) : Nat → Nat := fun v => if v < k then r / mt_rad S v % S v else 0
theorem pu_gt {S : Nat → Nat} {k r : Nat} (h : ∀ v, v < k → 0 < S v) : pu_t S k (pu_g S k r) := by
  refine ⟨fun v hv => ?_, fun v hv => ?_⟩
  · unfold pu_g
    rw [if_pos hv]
    exact Nat.mod_lt _ (h v hv)
  · unfold pu_g
    exact if_neg (by omega)
theorem pu_gn {S : Nat → Nat} : ∀ {k : Nat} {G : (Nat → Nat) → Nat}, (∀ v, v < k → 0 < S v) → pu_s (fun r => G (pu_g S k r)) (mt_rad S k) = pu_n S k G := by
  intro k
  induction k with
  | zero =>
    intro G h
    show 0 + G (pu_g S 0 0) = G (fun _ => 0)
    rw [Nat.zero_add]
    congr 1
  | succ k ih =>
    intro G h
    have hk := h k (by omega)
    have hp := mt_rad_pos (S := S) k (fun v hv => h v (by omega))
    show pu_s _ (mt_rad S k * S k) = _
    rw [Nat.mul_comm, pu_sx]
    refine pu_sc (fun a ha => ?_)
    rw [← ih (G := fun b => G (pu_u b k a)) (fun v hv => h v (by omega))]
    refine pu_sc (fun q hq => ?_)
    show G _ = G _
    congr 1
    funext v
    unfold pu_g pu_u
    by_cases e : v = k
    · subst e
      rw [if_pos (by omega), if_pos rfl, Nat.mul_comm a, Nat.mul_add_div hp, Nat.div_eq_of_lt hq, Nat.add_zero, Nat.mod_eq_of_lt ha]
    · rw [if_neg e]
      dsimp only
      by_cases e2 : v < k
      · rw [if_pos e2, if_pos (by omega)]
        obtain ⟨c, hc⟩ := mt_dvd (S := S) (k - v - 1) v
        rw [show v + 1 + (k - v - 1) = k from by omega] at hc
        have hv := mt_rad_pos (S := S) v (fun u hu => h u (by omega))
        rw [hc, show a * (mt_rad S (v + 1) * c) + q = mt_rad S v * (S v * (c * a)) + q from by
          show a * (mt_rad S v * S v * c) + q = _
          congr 1
          rw [Nat.mul_comm a, Nat.mul_assoc, Nat.mul_assoc], Nat.mul_add_div hv, Nat.mul_add_mod]
      · rw [if_neg e2, if_neg (by omega)]
