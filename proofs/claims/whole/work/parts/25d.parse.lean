/-! LINES, pure: a store of naturals; groups 0 truths voters need for else chair(7) behind lines; 1 2 names; 3 chance; 4 signs; 5 like 9v+3s+t; 6 told losses 9w+3t+d (99 none); 7 way; 8 shy; 9 set 3v+s; 10 weight -/
abbrev ps_ : Type := Nat → Nat → Nat
abbrev rs_ : Type := Nat × Nat × ps_
def ps0 : ps_ := fun g j => if g = 0 ∧ j = 5 then 7 else if g = 6 then 99 else 0
/-- the first of 0 .. n - 1 with f = w; n if there is none -/
def fi_ (f : Nat → Nat) (w : Nat) : Nat → Nat
  | 0 => 0
  | n + 1 => if fi_ f w n < n then fi_ f w n else if f n = w then n else n + 1
theorem fi_l {f : Nat → Nat} {w : Nat} : ∀ n, fi_ f w n ≤ n ∧ (fi_ f w n < n → f (fi_ f w n) = w) ∧ ∀ j, j < fi_ f w n → f j ≠ w := by
  intro n
  induction n with
  | zero => exact ⟨Nat.le_refl 0, fun h => absurd h (Nat.lt_irrefl 0), fun j hj => absurd hj (Nat.not_lt_zero j)⟩
  | succ n ih =>
    obtain ⟨h1, h2, h3⟩ := ih
    have e : fi_ f w (n + 1) = if fi_ f w n < n then fi_ f w n else if f n = w then n else n + 1 := rfl
    rw [e]
    by_cases c : fi_ f w n < n
    · rw [if_pos c]
      exact ⟨by omega, fun _ => h2 c, h3⟩
    · rw [if_neg c]
      have hn : ∀ j, j < n → f j ≠ w := fun j hj => h3 j (by omega)
      by_cases c2 : f n = w
      · rw [if_pos c2]
        exact ⟨by omega, fun _ => c2, hn⟩
      · rw [if_neg c2]
        refine ⟨Nat.le_refl _, fun h => absurd h (Nat.lt_irrefl _), fun j hj => ?_⟩
        by_cases e2 : j = n
        · rw [e2]
          exact c2
        · exact hn j (by omega)
theorem fi_e {f : Nat → Nat} {w n k : Nat} (hk : k < n) (hf : f k = w) (h : ∀ j, j < k → f j ≠ w) : fi_ f w n = k := by
  obtain ⟨h1, h2, h3⟩ := fi_l (f := f) (w := w) n
  rcases Nat.lt_trichotomy (fi_ f w n) k with c | c | c
  · exact absurd (h2 (by omega)) (h _ c)
  · exact c
  · exact absurd hf (h3 k c)
theorem fi_n {f : Nat → Nat} {w n : Nat} (h : ∀ j, j < n → f j ≠ w) : fi_ f w n = n := by
  obtain ⟨h1, h2, -⟩ := fi_l (f := f) (w := w) n
  by_cases c : fi_ f w n < n
  · exact absurd (h2 c) (h _ c)
  · omega
section PARSE
variable (z : (Nat → Nat) × Nat)
abbrev zN_ (p : Nat) : Prop := z_k z p = 0 ∧ z_x z p = 16
def fT_ (st : ps_) (p : Nat) : Nat := fi_ (st 1) (z_w z p) (st 0 0)
def fV_ (st : ps_) (p : Nat) : Nat := fi_ (st 2) (z_w z p) (st 0 1)
def c_new (st : ps_) (p : Nat) : Nat := if zN_ z p then (if fT_ z st p = st 0 0 ∧ fV_ z st p = st 0 1 then 0 else 3) else 1
def c_tr (st : ps_) (p : Nat) : Nat := if zN_ z p then (if fT_ z st p < st 0 0 then 0 else 3) else 1
def c_vo (st : ps_) (p : Nat) : Nat := if zN_ z p then (if fV_ z st p < st 0 1 then 0 else 3) else 1
def c_num (a b p : Nat) : Nat := if z_k z p = 1 then (if a ≤ z_v z p ∧ z_v z p ≤ b then 0 else 2) else 1
def c_key (k p : Nat) : Nat := if z_x z p = k then 0 else 1
def c_stop (p : Nat) : Nat := if z_k z p = 2 then 0 else 1
/-- a check with its place; r if it holds -/
def ch_ (c pl : Nat) (st : ps_) (r : rs_) : rs_ := if c = 0 then r else (c, pl, st)
def b_truth (st : ps_) (p : Nat) : rs_ :=
  ch_ (if st 0 6 = 0 ∧ st 0 0 < 3 then 0 else 4) (z_p z p) st
    (ch_ (c_new z st (z_e z p)) (z_p z (z_e z p)) st
      (ch_ (c_num z 1 19 (z_e z (z_e z p))) (z_p z (z_e z (z_e z p))) st
        (0, z_e z (z_e z (z_e z p)), ab_u (ab_u (ab_u st 1 (st 0 0) (z_w z (z_e z p))) 3 (st 0 0) (z_v z (z_e z (z_e z p)))) 0 0 (st 0 0 + 1))))
def v_c (n sum p : Nat) : Nat := if z_k z p = 1 then (if z_v z p ≤ 20 ∧ (n = 0 → sum + z_v z p = 20) then 0 else 2) else 1
def v_s (v t : Nat) : Nat → Nat → Nat → ps_ → Nat → rs_
  | 0, _, _, st, p => (0, p, st)
  | n + 1, s, sum, st, p => ch_ (v_c z n sum p) (z_p z p) st (v_s v t n (s + 1) (sum + z_v z p) (ab_u st 5 (9 * v + 3 * s + t) (z_v z p)) (z_e z p))
def v_t (v S : Nat) : Nat → Nat → ps_ → Nat → rs_
  | 0, _, st, p => (0, p, st)
  | n + 1, t, st, p => if (v_s z v t S 0 0 st p).1 = 0 then v_t v S n (t + 1) (v_s z v t S 0 0 st p).2.2 (v_s z v t S 0 0 st p).2.1 else v_s z v t S 0 0 st p
/-- a voter as it begins -/
def v_0 (st : ps_) (v w S : Nat) : ps_ := fun g j => if g = 6 ∧ 9 * v ≤ j ∧ j < 9 * v + 9 then 99 else ab_u (ab_u (ab_u (ab_u st 2 v w) 4 v S) 10 v 1) 7 v 0 g j
def b_voter (st : ps_) (p : Nat) : rs_ :=
  ch_ (if st 0 1 < 7 then 0 else 4) (z_p z p) st
    (ch_ (c_new z st (z_e z p)) (z_p z (z_e z p)) st
      (ch_ (c_key z 6 (z_e z (z_e z p))) (z_p z (z_e z (z_e z p))) st
        (ch_ (c_num z 2 3 (z_e z (z_e z (z_e z p)))) (z_p z (z_e z (z_e z (z_e z p)))) st
          (if (v_t z (st 0 1) (z_v z (z_e z (z_e z (z_e z p)))) (st 0 0) 0 (v_0 st (st 0 1) (z_w z (z_e z p)) (z_v z (z_e z (z_e z (z_e z p))))) (z_e z (z_e z (z_e z (z_e z p))))).1 = 0 then
            (0, (v_t z (st 0 1) (z_v z (z_e z (z_e z (z_e z p)))) (st 0 0) 0 (v_0 st (st 0 1) (z_w z (z_e z p)) (z_v z (z_e z (z_e z (z_e z p))))) (z_e z (z_e z (z_e z (z_e z p))))).2.1, ab_u (v_t z (st 0 1) (z_v z (z_e z (z_e z (z_e z p)))) (st 0 0) 0 (v_0 st (st 0 1) (z_w z (z_e z p)) (z_v z (z_e z (z_e z (z_e z p))))) (z_e z (z_e z (z_e z (z_e z p))))).2.2 0 1 (st 0 1 + 1))
          else v_t z (st 0 1) (z_v z (z_e z (z_e z (z_e z p)))) (st 0 0) 0 (v_0 st (st 0 1) (z_w z (z_e z p)) (z_v z (z_e z (z_e z (z_e z p))))) (z_e z (z_e z (z_e z (z_e z p))))))))
/-- a loss of who, its truths from p on -/
def l_2 (st : ps_) (who p : Nat) : rs_ :=
  ch_ (c_tr z st p) (z_p z p) st
    (ch_ (c_tr z st (z_e z p)) (z_p z (z_e z p)) st
      (ch_ (c_num z 0 50 (z_e z (z_e z p))) (z_p z (z_e z (z_e z p))) st
        (0, z_e z (z_e z (z_e z p)), ab_u st 6 (9 * who + 3 * fT_ z st p + fT_ z st (z_e z p)) (z_v z (z_e z (z_e z p))))))
def b_loss (st : ps_) (p : Nat) : rs_ :=
  ch_ (if zN_ z (z_e z p) then 0 else 1) (z_p z (z_e z p)) st
    (if fV_ z st (z_e z p) < st 0 1 then l_2 z st (fV_ z st (z_e z p)) (z_e z (z_e z p)) else l_2 z st 7 (z_e z p))
def w_s (v : Nat) : Nat → Nat → ps_ → Nat → rs_
  | 0, _, st, p => (0, p, st)
  | n + 1, s, st, p => if z_x z p = 11 then w_s v n (s + 1) (ab_u st 9 (3 * v + s) 9) (z_e z p) else ch_ (c_tr z st p) (z_p z p) st (w_s v n (s + 1) (ab_u st 9 (3 * v + s) (fT_ z st p)) (z_e z p))
/-- way w of voter v, from p on -/
def w_2 (st : ps_) (v w p : Nat) : rs_ :=
  if w = 2 then ch_ (c_num z 1 20 p) (z_p z p) st (0, z_e z p, ab_u (ab_u st 8 v (z_v z p)) 7 v 2)
  else if w = 3 then (if (w_s z v (st 4 v) 0 st p).1 = 0 then (0, (w_s z v (st 4 v) 0 st p).2.1, ab_u (w_s z v (st 4 v) 0 st p).2.2 7 v 3) else w_s z v (st 4 v) 0 st p)
  else (0, p, ab_u st 7 v w)
def b_way (st : ps_) (p : Nat) : rs_ :=
  ch_ (c_vo z st (z_e z p)) (z_p z (z_e z p)) st
    (ch_ (if 7 ≤ z_x z (z_e z (z_e z p)) ∧ z_x z (z_e z (z_e z p)) ≤ 10 then 0 else 1) (z_p z (z_e z (z_e z p))) st
      (w_2 z st (fV_ z st (z_e z p)) (z_x z (z_e z (z_e z p)) - 7) (z_e z (z_e z (z_e z p)))))
def b_weight (st : ps_) (p : Nat) : rs_ :=
  ch_ (c_vo z st (z_e z p)) (z_p z (z_e z p)) st
    (ch_ (c_num z 0 9 (z_e z (z_e z p))) (z_p z (z_e z (z_e z p))) st
      (0, z_e z (z_e z (z_e z p)), ab_u st 10 (fV_ z st (z_e z p)) (z_v z (z_e z (z_e z p)))))
/-- most, from p on (behind it) -/
def r_most (st : ps_) (p : Nat) : rs_ :=
  if z_x z p = 13 then ch_ (c_vo z st (z_e z p)) (z_p z (z_e z p)) st (0, z_e z (z_e z p), ab_u (ab_u st 0 2 0) 0 5 (fV_ z st (z_e z p)))
  else (0, p, ab_u (ab_u st 0 2 0) 0 5 7)
def r_need (st : ps_) (p : Nat) : rs_ :=
  ch_ (c_num z 1 81 p) (z_p z p) st
    (ch_ (c_tr z st (z_e z p)) (z_p z (z_e z p)) st
      (ch_ (c_key z 15 (z_e z (z_e z p))) (z_p z (z_e z (z_e z p))) st
        (ch_ (c_tr z st (z_e z (z_e z (z_e z p)))) (z_p z (z_e z (z_e z (z_e z p)))) st
          (0, z_e z (z_e z (z_e z (z_e z p))), ab_u (ab_u (ab_u st 0 2 (z_v z p)) 0 3 (fT_ z st (z_e z p))) 0 4 (fT_ z st (z_e z (z_e z (z_e z p))))))))
def b_rule (st : ps_) (p : Nat) : rs_ :=
  if z_x z (z_e z p) = 12 then r_most z st (z_e z (z_e z p))
  else ch_ (c_key z 14 (z_e z p)) (z_p z (z_e z p)) st (r_need z st (z_e z (z_e z p)))
def b_fin (r : rs_) : rs_ := if r.1 = 0 then ch_ (c_stop z r.2.1) (z_p z r.2.1) r.2.2 (0, z_e z r.2.1, ab_u r.2.2 0 7 (r.2.2 0 7 + 1)) else r
def t_sum (c : Nat → Nat) : Nat → Nat
  | 0 => 0
  | n + 1 => t_sum c n + c n
abbrev t_ok (st : ps_) : Prop := 2 ≤ st 0 0 ∧ t_sum (st 3) (st 0 0) = 20
def b_any (st : ps_) (k p : Nat) : rs_ := if k = 1 then b_voter z st p else if k = 2 then b_loss z st p else if k = 3 then b_way z st p else if k = 4 then b_weight z st p else b_rule z st p
def p_line (st : ps_) (p : Nat) : rs_ :=
  if 5 < z_x z p then (1, z_p z p, st)
  else if z_x z p = 0 then b_fin z (b_truth z st p)
  else ch_ (if st 0 6 = 0 ∧ ¬ t_ok st then 4 else 0) (z_p z p) st (b_fin z (b_any z (ab_u st 0 6 1) (z_x z p) p))
def p_all : Nat → ps_ → Nat → rs_
  | 0, st, _ => (1, 0, st)
  | n + 1, st, p => if z_k z p = 3 then (if st 0 1 = 0 ∨ 700 < z.2 then (1, z_p z p, st) else (0, p, st))
    else if (p_line z st p).1 = 0 then p_all n (p_line z st p).2.2 (p_line z st p).2.1 else p_line z st p
end PARSE
/-! what a store keeps -/
def PA_ (T V b n : Nat) (c : Nat → Nat) : Prop := T ≤ 3 ∧ V ≤ 7 ∧ b ≤ 1 ∧ (0 < V → b = 1) ∧ (b = 0 → n = T) ∧ (b = 1 → T < n ∧ 2 ≤ T ∧ t_sum c T = 20) ∧ ∀ t, t < T → 1 ≤ c t ∧ c t ≤ 19
def PB_ (T V : Nat) (a b : Nat → Nat) : Prop := (∀ t, t < T → gw_ 6 (a t) ∧ a t < 2 ^ 63) ∧ (∀ v, v < V → gw_ 6 (b v) ∧ b v < 2 ^ 63) ∧ (∀ t u, t < T → u < T → a t = a u → t = u) ∧ (∀ v u, v < V → u < V → b v = b u → v = u) ∧ ∀ t v, t < T → v < V → a t ≠ b v
def PC_ (T V : Nat) (S W y h x L : Nat → Nat) : Prop := ∀ v, v < V → (2 ≤ S v ∧ S v ≤ 3) ∧ W v ≤ 9 ∧ y v ≤ 3 ∧ (y v = 2 → 1 ≤ h v ∧ h v ≤ 20) ∧ (y v = 3 → ∀ s, s < S v → x (3 * v + s) < T ∨ x (3 * v + s) = 9) ∧ ∀ t, t < T → (∀ s, s < S v → L (9 * v + 3 * s + t) ≤ 20) ∧ pu_s (fun s => L (9 * v + 3 * s + t)) (S v) = 20
def PD_ (V : Nat) (K : Nat → Nat) : Prop := ∀ w t e, w < V ∨ w = 7 → t < 3 → e < 3 → K (9 * w + 3 * t + e) ≤ 50 ∨ K (9 * w + 3 * t + e) = 99
def PE_ (T V n a b c : Nat) : Prop := n ≤ 81 ∧ (0 < n → a < T ∧ b < T) ∧ (c < V ∨ c = 7)
def PI_ (st : ps_) : Prop := PA_ (st 0 0) (st 0 1) (st 0 6) (st 0 7) (st 3) ∧ PB_ (st 0 0) (st 0 1) (st 1) (st 2) ∧ PC_ (st 0 0) (st 0 1) (st 4) (st 10) (st 7) (st 8) (st 9) (st 5) ∧ PD_ (st 0 1) (st 6) ∧ PE_ (st 0 0) (st 0 1) (st 0 2) (st 0 3) (st 0 4) (st 0 5)
/-- the same ahead of a line's end: the lines are not counted yet -/
def PJ_ (st : ps_) : Prop := (st 0 0 ≤ 3 ∧ st 0 1 ≤ 7 ∧ st 0 6 = 1 ∧ st 0 0 ≤ st 0 7 ∧ 2 ≤ st 0 0 ∧ t_sum (st 3) (st 0 0) = 20 ∧ ∀ t, t < st 0 0 → 1 ≤ st 3 t ∧ st 3 t ≤ 19) ∧ PB_ (st 0 0) (st 0 1) (st 1) (st 2) ∧ PC_ (st 0 0) (st 0 1) (st 4) (st 10) (st 7) (st 8) (st 9) (st 5) ∧ PD_ (st 0 1) (st 6) ∧ PE_ (st 0 0) (st 0 1) (st 0 2) (st 0 3) (st 0 4) (st 0 5)
theorem PI_0 : PI_ ps0 := by
  refine ⟨⟨Nat.zero_le _, Nat.zero_le _, Nat.zero_le _, fun h => absurd h (Nat.lt_irrefl 0), fun _ => rfl, fun h => absurd h (by decide), fun t h => absurd h (Nat.not_lt_zero t)⟩, ⟨fun t h => absurd h (Nat.not_lt_zero t), fun t h => absurd h (Nat.not_lt_zero t), fun t u h => absurd h (Nat.not_lt_zero t), fun t u h => absurd h (Nat.not_lt_zero t), fun t u h => absurd h (Nat.not_lt_zero t)⟩, fun v h => absurd h (Nat.not_lt_zero v), fun w t e _ _ _ => Or.inr rfl, ⟨Nat.zero_le _, fun h => absurd h (Nat.lt_irrefl 0), Or.inr rfl⟩⟩
theorem t_sum_c {c e : Nat → Nat} : ∀ n, (∀ t, t < n → c t = e t) → t_sum c n = t_sum e n := by
  intro n
  induction n with
  | zero => intro _; rfl
  | succ n ih =>
    intro h
    show t_sum c n + c n = t_sum e n + e n
    rw [ih (fun t ht => h t (by omega)), h n (by omega)]
section PINV
variable {z : (Nat → Nat) × Nat} {st : ps_} {p : Nat}
theorem ch_0 {c pl : Nat} {r : rs_} (h : (ch_ c pl st r).1 = 0) : c = 0 ∧ ch_ c pl st r = r := by
  unfold ch_ at h ⊢
  by_cases e : c = 0
  · rw [if_pos e]
    exact ⟨e, rfl⟩
  · rw [if_neg e] at h
    exact absurd h e
theorem c_new0 (h : c_new z st p = 0) : z_k z p = 0 ∧ z_x z p = 16 ∧ fT_ z st p = st 0 0 ∧ fV_ z st p = st 0 1 := by
  unfold c_new at h
  split at h
  · rename_i h1
    split at h
    · rename_i h2
      exact ⟨h1.1, h1.2, h2⟩
    · omega
  · omega
theorem c_tr0 (h : c_tr z st p = 0) : z_k z p = 0 ∧ z_x z p = 16 ∧ fT_ z st p < st 0 0 := by
  unfold c_tr at h
  split at h
  · rename_i h1
    split at h
    · rename_i h2
      exact ⟨h1.1, h1.2, h2⟩
    · omega
  · omega
theorem c_vo0 (h : c_vo z st p = 0) : z_k z p = 0 ∧ z_x z p = 16 ∧ fV_ z st p < st 0 1 := by
  unfold c_vo at h
  split at h
  · rename_i h1
    split at h
    · rename_i h2
      exact ⟨h1.1, h1.2, h2⟩
    · omega
  · omega
theorem c_num0 {a b : Nat} (h : c_num z a b p = 0) : z_k z p = 1 ∧ a ≤ z_v z p ∧ z_v z p ≤ b := by
  unfold c_num at h
  split at h
  · rename_i h1
    split at h
    · rename_i h2
      exact ⟨h1, h2⟩
    · omega
  · omega
theorem c_key0 {k : Nat} (hk : k < 16) (h : c_key z k p = 0) : z_k z p = 0 ∧ z_x z p = k := by
  unfold c_key at h
  split at h
  · rename_i h1
    refine ⟨?_, h1⟩
    unfold z_x at h1
    split at h1
    · rename_i h2
      exact h2
    · omega
  · omega
theorem c_stop0 (h : c_stop z p = 0) : z_k z p = 2 := by
  unfold c_stop at h
  split at h
  · rename_i h1
    exact h1
  · omega
theorem z_x0 (h : z_x z p < 16) : z_k z p = 0 := by
  unfold z_x at h
  split at h
  · rename_i h1
    exact h1
  · omega
end PINV
