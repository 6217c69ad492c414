/-! losses: what deciding loses, the least; both sides -/
section TQJ
variable {d : Nat} {sc : Nat × (Nat → Int32)} {i : Nat → Nat → Int32} {l : Nat → Nat → Int64} {dd : Nat → Nat → Value} {x : Nat}
/-- the first place of the least of 0 .. k -/
def mt_li (f : Nat → Int64) : Nat → Nat
  | 0 => 0
  | k + 1 => if f (k + 1) < f (mt_li f k) then k + 1 else mt_li f k
theorem mt_li_le {f : Nat → Int64} : ∀ k, mt_li f k ≤ k := by
  intro k
  induction k with
  | zero => exact Nat.le_refl 0
  | succ k ih =>
    show (if f (k + 1) < f (mt_li f k) then k + 1 else mt_li f k) ≤ k + 1
    split <;> omega
theorem mt_li_c {f g : Nat → Int64} : ∀ k, (∀ t, t ≤ k → f t = g t) → mt_li f k = mt_li g k := by
  intro k
  induction k with
  | zero => intro _; rfl
  | succ k ih =>
    intro h
    have h1 := ih (fun t ht => h t (by omega))
    have h2 := mt_li_le (f := g) k
    show (if f (k + 1) < f (mt_li f k) then k + 1 else mt_li f k) = (if g (k + 1) < g (mt_li g k) then k + 1 else mt_li g k)
    rw [h1, h (mt_li g k) (by omega), h (k + 1) (by omega)]
/-- the costs of a cell of losses -/
def mt_Lo (i : Nat → Nat → Int32) (q : Nat) (K : Nat → Nat → Nat) : Prop := ∀ t d, t < 3 → d < 3 → i (q + 1) (3 * t + d) = Int32.ofNat (K t d) ∧ K t d ≤ 50
theorem mt_lostAt6 {q a n fr e : Nat} {K : Nat → Nat → Nat} {P : Nat → Nat} (hq : ab_isLo q) (hk : (ab_E0 sc).1 a = .inr (1, n)) (hL : mt_Lo i q K) (hP : ∀ t, t < 3 → l a (fr + t) = Int64.ofNat (P t)) (hn : fr + 3 ≤ n ∧ n < 2 ^ 31) (he : e < 3) {Q : ab_Qt} (hQ : Q (some (some (.long (Int64.ofNat (pu_s (fun t => P t * K t e) 3))))) (i, l, dd, x) (ab_E0 sc)) :
    ∀ r t : Nat, 3 = t + r → ab_Fr MX0_lostAt (d + 1) Q 6 [some (.ref q), some (.int (Int32.ofNat e)), some (.ref a), some (.int (Int32.ofNat fr)), some (.long (Int64.ofNat (pu_s (fun t => P t * K t e) t))), none, some (.int (Int32.ofNat t))] [] (0, 0) (i, l, dd, x) (ab_E0 sc) := by
  intro r
  induction r with
  | zero =>
    intro t ht
    have ht2 : t = 3 := by omega
    refine tMX0_lostAt_6 hq hk ⟨fun _ => by rw [ht2]; exact hQ, fun c => ?_⟩
    simp (disch := omega) only [↓nn_m3, nn_p0, nn_p1, nn_p2, nn_p3, nn_p4, nn_p5, nn_p6, nn_p7, nn_p8, nn_p9, nn_p10, nn_p20, nn_p21, nn_le, nn_lt, nn_eq, nn_cl, nn_in, nn_add, nn_mul, nn_en, nn_ne, nn_mn, nn_64] at c
    omega
  | succ r ih =>
    intro t ht
    have e1 := hP t (by omega)
    obtain ⟨e2, e3⟩ := hL t e (by omega) he
    refine tMX0_lostAt_6 hq hk ⟨fun c => ?_, fun _ => ?_⟩
    · simp (disch := omega) only [↓nn_m3, nn_p0, nn_p1, nn_p2, nn_p3, nn_p4, nn_p5, nn_p6, nn_p7, nn_p8, nn_p9, nn_p10, nn_p20, nn_p21, nn_le, nn_lt, nn_eq, nn_cl, nn_in, nn_add, nn_mul, nn_en, nn_ne, nn_mn, nn_64] at c
      omega
    · simp (disch := omega) only [e1, e2, ↓nn_m3, nn_p0, nn_p1, nn_p2, nn_p3, nn_p4, nn_p5, nn_p6, nn_p7, nn_p8, nn_p9, nn_p10, nn_p20, nn_p21, nn_le, nn_lt, nn_eq, nn_cl, nn_in, nn_add, nn_mul, nn_en, nn_ne, nn_mn, nn_64, nl_p0, nl_p1, nl_p20, nl_add, nl_mul]
      exact ⟨trivial, trivial, ih (t + 1) (by omega)⟩
theorem mt_lostAt {q a n fr e : Nat} {K : Nat → Nat → Nat} {P : Nat → Nat} (hq : ab_isLo q) (hk : (ab_E0 sc).1 a = .inr (1, n)) (hL : mt_Lo i q K) (hP : ∀ t, t < 3 → l a (fr + t) = Int64.ofNat (P t)) (hn : fr + 3 ≤ n ∧ n < 2 ^ 31) (he : e < 3) : ab_Sp MX0_lostAt (d + 1) [.ref q, .int (Int32.ofNat e), .ref a, .int (Int32.ofNat fr)] (i, l, dd, x) (ab_E0 sc) (some (.long (Int64.ofNat (pu_s (fun t => P t * K t e) 3)))) (fun σ => σ = (i, l, dd, x)) := by
  refine ab_ent (n := 3) okMX0_lostAt.1 (fun G => Nat.le_of_ble_eq_true rfl) (fun Q hQ => ?_)
  exact tMX0_lostAt_0 hq hk (mt_lostAt6 hq hk hL hP hn he (hQ _ rfl) 3 0 (by omega))
/-- what deciding loses, as a long -/
def mt_f (P : Nat → Nat) (K : Nat → Nat → Nat) : Nat → Int64 := fun e => Int64.ofNat (pu_s (fun t => P t * K t e) 3)
theorem mt_least15 {q a n fr T : Nat} {K : Nat → Nat → Nat} {P : Nat → Nat} (hq : ab_isLo q) (hk : (ab_E0 sc).1 a = .inr (1, n)) (hL : mt_Lo i q K) (hP : ∀ t, t < 3 → l a (fr + t) = Int64.ofNat (P t)) (hn : fr + 3 ≤ n ∧ n < 2 ^ 31) (hT : 1 ≤ T ∧ T ≤ 3) {Q : ab_Qt} (hQ : Q (some (some (.int (Int32.ofNat (mt_li (mt_f P K) (T - 1)))))) (i, l, dd, x) (ab_E0 sc)) :
    ∀ r t : Nat, T = t + 1 + r → ab_Fr MX0_leastOf (d + 2) Q 15 [some (.ref q), some (.int (Int32.ofNat T)), some (.ref a), some (.int (Int32.ofNat fr)), some (.int (Int32.ofNat (mt_li (mt_f P K) t))), some (.long (mt_f P K (mt_li (mt_f P K) t))), none, some (.int (Int32.ofNat (t + 1))), none, none] [] (0, 0) (i, l, dd, x) (ab_E0 sc) := by
  intro r
  induction r with
  | zero =>
    intro t ht
    have ht2 : T - 1 = t := by omega
    refine tMX0_leastOf_15 (d := d + 1) hq hk ⟨fun _ => by rw [ht2] at hQ; exact hQ, fun c => ?_⟩
    simp (disch := omega) only [↓nn_m3, nn_p0, nn_p1, nn_p2, nn_p3, nn_p4, nn_p5, nn_p6, nn_p7, nn_p8, nn_p9, nn_p10, nn_p20, nn_p21, nn_le, nn_lt, nn_eq, nn_cl, nn_in, nn_add, nn_mul, nn_en, nn_ne, nn_mn, nn_64] at c
    omega
  | succ r ih =>
    intro t ht
    refine tMX0_leastOf_15 (d := d + 1) hq hk ⟨fun c => ?_, fun _ => ⟨_, _, mt_lostAt (d := d) (e := t + 1) hq hk hL hP hn (by omega), ?_⟩⟩
    · simp (disch := omega) only [↓nn_m3, nn_p0, nn_p1, nn_p2, nn_p3, nn_p4, nn_p5, nn_p6, nn_p7, nn_p8, nn_p9, nn_p10, nn_p20, nn_p21, nn_le, nn_lt, nn_eq, nn_cl, nn_in, nn_add, nn_mul, nn_en, nn_ne, nn_mn, nn_64] at c
      omega
    · have ih2 := ih (t + 1) (by omega)
      rintro i6 l7 dd8 x9 ⟨⟩
      rw [la_nx]
      refine ⟨fun c => ?_, fun c => ?_⟩
      · rw [show mt_li (mt_f P K) (t + 1) = mt_li (mt_f P K) t from if_neg c] at ih2
        exact ih2
      · rw [show mt_li (mt_f P K) (t + 1) = t + 1 from if_pos c] at ih2
        exact ih2
theorem mt_leastOf {q a n fr T : Nat} {K : Nat → Nat → Nat} {P : Nat → Nat} (hq : ab_isLo q) (hk : (ab_E0 sc).1 a = .inr (1, n)) (hL : mt_Lo i q K) (hP : ∀ t, t < 3 → l a (fr + t) = Int64.ofNat (P t)) (hn : fr + 3 ≤ n ∧ n < 2 ^ 31) (hT : 1 ≤ T ∧ T ≤ 3) : ab_Sp MX0_leastOf (d + 2) [.ref q, .int (Int32.ofNat T), .ref a, .int (Int32.ofNat fr)] (i, l, dd, x) (ab_E0 sc) (some (.int (Int32.ofNat (mt_li (mt_f P K) (T - 1))))) (fun σ => σ = (i, l, dd, x)) := by
  refine ab_ent (n := 3) okMX0_leastOf.1 (fun G => Nat.le_of_ble_eq_true rfl) (fun Q hQ => ?_)
  refine tMX0_leastOf_0 (d := d + 1) hq hk ⟨_, _, mt_lostAt (d := d) (e := 0) hq hk hL hP hn (by omega), ?_⟩
  rintro i5 l6 dd7 x8 ⟨⟩
  exact mt_least15 hq hk hL hP hn hT (hQ _ rfl) (T - 1) 0 (by omega)
/-- what is lost by a table -/
theorem mt_lostBy5 {q a n : Nat} {K : Nat → Nat → Nat} {F : Nat → Nat → Nat} (hq : ab_isLo q) (hk : (ab_E0 sc).1 a = .inr (1, n)) (hL : mt_Lo i q K) (hP : ∀ t e, t < 3 → e < 3 → l a (3 * t + e) = Int64.ofNat (F t e)) (hn : 9 ≤ n ∧ n < 2 ^ 31) {Q : ab_Qt} (hQ : Q (some (some (.long (Int64.ofNat (pu_s (fun k => F (k / 3) (k % 3) * K (k / 3) (k % 3)) 9))))) (i, l, dd, x) (ab_E0 sc)) :
    ∀ r k : Nat, 9 = k + r → ab_Fr MX0_lostBy (d + 1) Q 5 [some (.ref q), some (.ref a), some (.long (Int64.ofNat (pu_s (fun k => F (k / 3) (k % 3) * K (k / 3) (k % 3)) k))), none, some (.int (Int32.ofNat k))] [] (0, 0) (i, l, dd, x) (ab_E0 sc) := by
  intro r
  induction r with
  | zero =>
    intro t ht
    have ht2 : t = 9 := by omega
    refine tMX0_lostBy_5 hq hk ⟨fun _ => by rw [ht2]; exact hQ, fun c => ?_⟩
    simp (disch := omega) only [↓nn_m3, nn_p0, nn_p1, nn_p2, nn_p3, nn_p4, nn_p5, nn_p6, nn_p7, nn_p8, nn_p9, nn_p10, nn_p20, nn_p21, nn_le, nn_lt, nn_eq, nn_cl, nn_in, nn_add, nn_mul, nn_en, nn_ne, nn_mn, nn_64] at c
    omega
  | succ r ih =>
    intro k hr
    have ek : 3 * (k / 3) + k % 3 = k := Nat.div_add_mod k 3
    have e1 := hP (k / 3) (k % 3) (by omega) (by omega)
    obtain ⟨e2, e3⟩ := hL (k / 3) (k % 3) (by omega) (by omega)
    rw [ek] at e1 e2
    refine tMX0_lostBy_5 hq hk ⟨fun c => ?_, fun _ => ?_⟩
    · simp (disch := omega) only [↓nn_m3, nn_p0, nn_p1, nn_p2, nn_p3, nn_p4, nn_p5, nn_p6, nn_p7, nn_p8, nn_p9, nn_p10, nn_p20, nn_p21, nn_le, nn_lt, nn_eq, nn_cl, nn_in, nn_add, nn_mul, nn_en, nn_ne, nn_mn, nn_64] at c
      omega
    · simp (disch := omega) only [e1, e2, ↓nn_m3, nn_p0, nn_p1, nn_p2, nn_p3, nn_p4, nn_p5, nn_p6, nn_p7, nn_p8, nn_p9, nn_p10, nn_p20, nn_p21, nn_le, nn_lt, nn_eq, nn_cl, nn_in, nn_add, nn_mul, nn_en, nn_ne, nn_mn, nn_64, nl_p0, nl_p1, nl_p20, nl_add, nl_mul]
      exact ⟨trivial, trivial, ih (k + 1) (by omega)⟩
/-- a table's loss: truth so by truth decided -/
def mt_tb (F K : Nat → Nat → Nat) : Nat := pu_s (fun k => F (k / 3) (k % 3) * K (k / 3) (k % 3)) 9
theorem mt_lostBy {q a n : Nat} {K : Nat → Nat → Nat} {F : Nat → Nat → Nat} (hq : ab_isLo q) (hk : (ab_E0 sc).1 a = .inr (1, n)) (hL : mt_Lo i q K) (hP : ∀ t e, t < 3 → e < 3 → l a (3 * t + e) = Int64.ofNat (F t e)) (hn : 9 ≤ n ∧ n < 2 ^ 31) : ab_Sp MX0_lostBy (d + 1) [.ref q, .ref a] (i, l, dd, x) (ab_E0 sc) (some (.long (Int64.ofNat (mt_tb F K)))) (fun σ => σ = (i, l, dd, x)) := by
  refine ab_ent (n := 1) okMX0_lostBy.1 (fun G => Nat.le_of_ble_eq_true rfl) (fun Q hQ => ?_)
  exact tMX0_lostBy_0 hq hk (mt_lostBy5 hq hk hL hP hn (hQ _ rfl) 9 0 (by omega))
theorem mt_tb_s {F K : Nat → Nat → Nat} : mt_tb F K = pu_s (fun t => pu_s (fun e => F t e * K t e) 3) 3 := by
  unfold mt_tb
  rw [show (9 : Nat) = 3 * 3 from rfl, pu_sx]
  refine pu_sc (fun t ht => pu_sc (fun e he => ?_))
  rw [show (t * 3 + e) / 3 = t by omega, show (t * 3 + e) % 3 = e by omega]
/-- a row of longs emptied -/
theorem mt_empty2 {a n : Nat} (hk : (ab_E0 sc).1 a = .inr (1, n)) (hn : n < 2 ^ 31) {l0 : Nat → Nat → Int64} {Q : ab_Qt} (hQ : ∀ l2, fr_o a a l0 l2 → (∀ j, j < n → l2 a j = Int64.ofNat 0) → Q (some none) (i, l2, dd, x) (ab_E0 sc)) :
    ∀ (r k : Nat) (l2 : Nat → Nat → Int64), n = k + r → fr_o a a l0 l2 → (∀ j, j < k → l2 a j = Int64.ofNat 0) → ab_Fr MX11_empty (d + 1) Q 2 [some (.ref a), some (.int (Int32.ofNat k))] [] (0, 0) (i, l2, dd, x) (ab_E0 sc) := by
  intro r
  induction r with
  | zero =>
    intro k l2 hk2 f2 z2
    refine tMX11_empty_2 hk ⟨fun _ => hQ l2 f2 (fun j hj => z2 j (by omega)), fun c => ?_⟩
    simp (disch := omega) only [↓nn_m3, nn_p0, nn_p1, nn_p2, nn_p3, nn_p4, nn_p5, nn_p6, nn_p7, nn_p8, nn_p9, nn_p10, nn_p20, nn_p21, nn_le, nn_lt, nn_eq, nn_cl, nn_in, nn_add, nn_mul, nn_en, nn_ne, nn_mn, nn_64] at c
    omega
  | succ r ih =>
    intro k l2 hk2 f2 z2
    refine tMX11_empty_2 hk ⟨fun c => ?_, fun _ => ?_⟩
    · simp (disch := omega) only [↓nn_m3, nn_p0, nn_p1, nn_p2, nn_p3, nn_p4, nn_p5, nn_p6, nn_p7, nn_p8, nn_p9, nn_p10, nn_p20, nn_p21, nn_le, nn_lt, nn_eq, nn_cl, nn_in, nn_add, nn_mul, nn_en, nn_ne, nn_mn, nn_64] at c
      omega
    · simp (disch := omega) only [↓nn_m3, nn_p0, nn_p1, nn_p2, nn_p3, nn_p4, nn_p5, nn_p6, nn_p7, nn_p8, nn_p9, nn_p10, nn_p20, nn_p21, nn_le, nn_lt, nn_eq, nn_cl, nn_in, nn_add, nn_mul, nn_en, nn_ne, nn_mn, nn_64]
      refine ⟨trivial, ?_⟩
      rintro l3 rfl
      refine ih (k + 1) _ (by omega) (fr_u f2 (by omega)) (fun j hj => ?_)
      by_cases e : j = k
      · rw [e]
        exact uu_e
      · rw [uu_j e]
        exact z2 j (by omega)
theorem mt_emptyL {a n : Nat} (hk : (ab_E0 sc).1 a = .inr (1, n)) (hn : n < 2 ^ 31) : ab_Sp MX11_empty (d + 1) [.ref a] (i, l, dd, x) (ab_E0 sc) none (fun σ => ∃ l2, σ = (i, l2, dd, x) ∧ fr_o a a l l2 ∧ ∀ j, j < n → l2 a j = Int64.ofNat 0) := by
  refine ab_ent (n := 1) okMX11_empty.1 (fun G => Nat.le_of_ble_eq_true rfl) (fun Q hQ => ?_)
  refine tMX11_empty_0 hk (mt_empty2 (l0 := l) hk hn ?_ n 0 l (by omega) fr_r (fun j hj => absurd hj (Nat.not_lt_zero j)))
  intro l2 f2 z2
  exact hQ _ ⟨l2, rfl, f2, z2⟩
end TQJ
