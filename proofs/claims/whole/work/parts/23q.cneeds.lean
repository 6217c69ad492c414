/-! weighed: the first of the least; the class's tryNeeds -/
def wv_ (A : mA_) (n : Nat) : Nat := lx_ A (wt_ (aV_ A) (n / 144)) (n % 144 / 3 % 3) (n % 144 % 3) (n % 144 / 9)
def wd_ (A : mA_) (n : Nat) : Prop := 1 ≤ n % 144 / 9 ∧ n % 144 / 3 % 3 < aT_ A ∧ n % 144 % 3 < aT_ A ∧ n % 144 / 3 % 3 ≠ n % 144 % 3
def wF_ (A : mA_) (N x a : Nat) : Prop := a < N ∧ wd_ A a ∧ wv_ A a = x ∧ (∀ n, n < N → wd_ A n → x ≤ wv_ A n) ∧ ∀ n, n < a → wd_ A n → x < wv_ A n
theorem wF_u {A : mA_} {N x a y b : Nat} (h1 : wF_ A N x a) (h2 : wF_ A N y b) : x = y ∧ a = b := by
  obtain ⟨a1, a2, a3, a4, a5⟩ := h1
  obtain ⟨b1, b2, b3, b4, b5⟩ := h2
  have e1 := a4 b b1 b2
  have e2 := b4 a a1 a2
  have e3 : x = y := by omega
  refine ⟨e3, ?_⟩
  rcases Nat.lt_trichotomy a b with c | c | c
  · have := b5 a c a2
    omega
  · exact c
  · have := a5 b c b2
    omega
theorem wF_sk {A : mA_} {N M x a : Nat} (h : wF_ A N x a) (hle : N ≤ M) (hn : ∀ n, N ≤ n → n < M → ¬ wd_ A n) : wF_ A M x a :=
  ⟨by have := h.1; omega, h.2.1, h.2.2.1, fun n h1 h2 => by
    by_cases c : n < N
    · exact h.2.2.2.1 n c h2
    · exact absurd h2 (hn n (by omega) h1), h.2.2.2.2⟩
theorem wF_no {A : mA_} {N x a : Nat} (h : wF_ A N x a) (hn : ¬ wv_ A N < x) : wF_ A (N + 1) x a :=
  ⟨by have := h.1; omega, h.2.1, h.2.2.1, fun n h1 h2 => by
    by_cases c : n < N
    · exact h.2.2.2.1 n c h2
    · rw [show n = N by omega]
      omega, h.2.2.2.2⟩
theorem wF_ye {A : mA_} {N x a : Nat} (h : wF_ A N x a) (hd : wd_ A N) (hn : wv_ A N < x) : wF_ A (N + 1) (wv_ A N) N :=
  ⟨by omega, hd, rfl, fun n h1 h2 => by
    by_cases c : n < N
    · have := h.2.2.2.1 n c h2
      omega
    · rw [show n = N by omega]
      exact Nat.le_refl _, fun n h1 h2 => by
    have := h.2.2.2.1 n h1 h2
    omega⟩
theorem wF_1 {A : mA_} {N : Nat} (h : ∀ n, n < N → ¬ wd_ A n) (hd : wd_ A N) : wF_ A (N + 1) (wv_ A N) N :=
  ⟨by omega, hd, rfl, fun n h1 h2 => by
    by_cases c : n < N
    · exact absurd h2 (h n c)
    · rw [show n = N by omega]
      exact Nat.le_refl _, fun n h1 h2 => absurd h2 (h n h1)⟩
theorem w_at {q k t e n : Nat} (hk : k ≤ 15) (ht : t < 3) (he : e < 3) (hn : n = q * 144 + 9 * k + 3 * t + e) : n / 144 = q ∧ n % 144 / 9 = k ∧ n % 144 / 3 % 3 = t ∧ n % 144 % 3 = e := by
  have h1 : n / 144 = q := by omega
  have h2 : n % 144 = 9 * k + 3 * t + e := by omega
  have h3 : (9 * k + 3 * t + e) / 3 = 3 * k + t := by omega
  rw [h2, h3]
  exact ⟨h1, by omega, by omega, by omega⟩
/-- what the class keeps -/
def wk_ (A : mA_) (a : Nat) (i : Nat → Nat → Int32) : Prop := (∀ v, v < 5 → i 198 v = if v < aV_ A then Int32.ofNat (wt_ (aV_ A) (a / 144) v) else -1) ∧ i 198 5 = Int32.ofNat (a % 144 / 9) ∧ i 198 6 = Int32.ofNat (a % 144 / 3 % 3) ∧ i 198 7 = Int32.ofNat (a % 144 % 3)
def wC_ (A : mA_) (N : Nat) (i : Nat → Nat → Int32) (l : Nat → Nat → Int64) : Prop := ((∀ n, n < N → ¬ wd_ A n) ∧ l 191 8 = Int64.ofNat 1152921504606846976) ∨ ∃ x a, wF_ A N x a ∧ l 191 8 = Int64.ofNat x ∧ wk_ A a i
theorem wv_B {A : mA_} {n : Nat} (hW : mt_W A) : wv_ A n < 1000000000000000000 := lx_B hW
section TQQ3
variable {d : Nat} {sc : Nat × (Nat → Int32)} {i : Nat → Nat → Int32} {l : Nat → Nat → Int64} {dd : Nat → Nat → Value} {x : Nat}
theorem wC_sk {A : mA_} {N M : Nat} (h : wC_ A N i l) (hle : N ≤ M) (hn : ∀ n, N ≤ n → n < M → ¬ wd_ A n) : wC_ A M i l := by
  rcases h with ⟨h1, h2⟩ | ⟨x, a, h1, h2, h3⟩
  · exact Or.inl ⟨fun n hm => by
      by_cases c : n < N
      · exact h1 n c
      · exact hn n (by omega) hm, h2⟩
  · exact Or.inr ⟨x, a, wF_sk h1 hle hn, h2, h3⟩
theorem wC_no {A : mA_} {N : Nat} (hW : mt_W A) (h : wC_ A N i l) (hd : wd_ A N) (hn : ¬ Int64.ofNat (wv_ A N) < l 191 8) : wC_ A (N + 1) i l := by
  have hB := wv_B (n := N) hW
  rcases h with ⟨h1, h2⟩ | ⟨x, a, h1, h2, h3⟩
  · rw [h2, nl_lt (by omega) (by omega)] at hn
    omega
  · have hB2 := wv_B (n := a) hW
    rw [h1.2.2.1] at hB2
    rw [h2, nl_lt (by omega) (by omega)] at hn
    exact Or.inr ⟨x, a, wF_no h1 hn, h2, h3⟩
theorem wC_ye {A : mA_} {N : Nat} {i2 : Nat → Nat → Int32} {l2 : Nat → Nat → Int64} (hW : mt_W A) (h : wC_ A N i l) (hd : wd_ A N) (hn : Int64.ofNat (wv_ A N) < l 191 8) (hl : l2 191 8 = Int64.ofNat (wv_ A N)) (hk : wk_ A N i2) : wC_ A (N + 1) i2 l2 := by
  have hB := wv_B (n := N) hW
  rcases h with ⟨h1, h2⟩ | ⟨x, a, h1, h2, h3⟩
  · exact Or.inr ⟨_, N, wF_1 h1 hd, hl, hk⟩
  · have hB2 := wv_B (n := a) hW
    rw [h1.2.2.1] at hB2
    rw [h2, nl_lt (by omega) (by omega)] at hn
    exact Or.inr ⟨_, N, wF_ye h1 hd hn, hl, hk⟩
theorem nl_sb {a b c z : Nat} (h : z + c = a + b) : Int64.ofNat a + Int64.ofNat b - Int64.ofNat c = Int64.ofNat z := by
  rw [nl_add, ← h, ← nl_add, Int64.sub_eq_add_neg, Int64.add_assoc, Int64.add_right_neg, Int64.add_zero]
theorem mt_lostV {A : mA_} {g : Nat → Nat} {k t e : Nat} (hT : aT_ A ≤ 3) (hk : k < 16) (ht : t < aT_ A) (he : e < aT_ A) (h196 : ∀ y z e, y < aT_ A → z < 16 → e < aT_ A → l 196 (3 * (y * 16 + z) + e) = Int64.ofNat (av_ A g y z e)) : ab_Sp MX5_lostByNeed (d + 1) [.ref 191, .int (Int32.ofNat k), .int (Int32.ofNat t), .int (Int32.ofNat e)] (i, l, dd, x) (ab_E0 sc) (some (.long (Int64.ofNat (lx_ A g t e k)))) (fun σ => σ = (i, l, dd, x)) := by
  have e1 := h196 t k t ht hk ht
  have e2 := h196 t 0 e ht (by omega) he
  have e3 := h196 t k e ht hk he
  rw [show 3 * (t * 16 + k) + t = 3 * (t * 16) + 3 * k + t by omega] at e1
  rw [show 3 * (t * 16 + 0) + e = 3 * (t * 16) + e by omega] at e2
  rw [show 3 * (t * 16 + k) + e = 3 * (t * 16) + 3 * k + e by omega] at e3
  refine ab_ent (n := 3) okMX5_lostByNeed.1 (fun G => Nat.le_of_ble_eq_true rfl) (fun Q hQ => ?_)
  refine tMX5_lostByNeed_0 ?_
  rw [nn_m3, nn_m3, show (16 : Int32) = Int32.ofNat 16 from rfl, nn_mul, nn_mul, nn_mul, nn_add, nn_add, nn_add, nn_add, nn_cl (by omega), nn_cl (by omega), nn_cl (by omega), e1, e2, e3, nl_sb av_lx]
  exact ⟨la_vp (by omega) (by omega), la_vp (by omega) (by omega), la_vp (by omega) (by omega), hQ _ rfl⟩
theorem mt_keepN {V k t e : Nat} (hV : V ≤ 5) : ab_Sp MX5_keepNeed (d + 1) [.ref 191, .int (Int32.ofNat V), .int (Int32.ofNat k), .int (Int32.ofNat t), .int (Int32.ofNat e)] (i, l, dd, x) (ab_E0 sc) none (fun σ => ∃ i2, σ = (i2, l, dd, x) ∧ fr_o 198 198 i i2 ∧ (∀ v, v < 5 → i2 198 v = if v < V then i 197 v else -1) ∧ i2 198 5 = Int32.ofNat k ∧ i2 198 6 = Int32.ofNat t ∧ i2 198 7 = Int32.ofNat e) := by
  refine ab_ent (n := 4) okMX5_keepNeed.1 (fun G => Nat.le_of_ble_eq_true rfl) (fun Q hQ => ?_)
  refine tMX5_keepNeed_0 ?_
  have go : ∀ (n v : Nat) (i2 : Nat → Nat → Int32), 5 = v + n → fr_o 198 198 i i2 → (∀ y, y < v → i2 198 y = if y < V then i 197 y else -1) → ab_Fr MX5_keepNeed (d + 1) Q 3 [some (.ref 191), some (.int (Int32.ofNat V)), some (.int (Int32.ofNat k)), some (.int (Int32.ofNat t)), some (.int (Int32.ofNat e)), some (.int (Int32.ofNat v))] [] (0, 0) (i2, l, dd, x) (ab_E0 sc) := by
    intro n
    induction n with
    | zero =>
      intro v i2 hv g2 z2
      refine tMX5_keepNeed_3 ⟨fun _ => ?_, fun c => ?_⟩
      · rintro i3 rfl i4 rfl i5 rfl
        refine hQ _ ⟨_, rfl, fr_u (fr_u (fr_u g2 (by omega)) (by omega)) (by omega), fun y hy => ?_, ?_, ?_, uu_e⟩
        · rw [uu_j (by omega), uu_j (by omega), uu_j (by omega)]
          exact z2 y (by omega)
        · rw [uu_j (by omega), uu_j (by omega), uu_e]
        · rw [uu_j (by omega), uu_e]
      · rw [show (5 : Int32) = Int32.ofNat 5 from rfl, nn_le (by omega) (by omega)] at c
        omega
    | succ n ih =>
      intro v i2 hv g2 z2
      refine tMX5_keepNeed_3 ⟨fun c => ?_, fun _ => ⟨fun c => ?_, fun c => ?_⟩⟩
      · rw [show (5 : Int32) = Int32.ofNat 5 from rfl, nn_le (by omega) (by omega)] at c
        omega
      · rw [nn_le (by omega) (by omega)] at c
        rw [nn_cl (by omega), la_nx]
        refine ⟨la_vp (by omega) (by omega), ?_⟩
        rintro i3 rfl
        refine ih (v + 1) _ (by omega) (fr_u g2 (by omega)) (fun y hy => ?_)
        by_cases q : y = v
        · rw [q, uu_e, if_neg (by omega)]
        · rw [uu_j q]
          exact z2 y (by omega)
      · rw [nn_le (by omega) (by omega)] at c
        rw [nn_cl (by omega), la_nx]
        refine ⟨la_vp (by omega) (by omega), la_vp (by omega) (by omega), ?_⟩
        rintro i3 rfl
        refine ih (v + 1) _ (by omega) (fr_u g2 (by omega)) (fun y hy => ?_)
        by_cases q : y = v
        · rw [q, uu_e, if_pos (by omega), g2 197 (by omega)]
        · rw [uu_j q]
          exact z2 y (by omega)
  exact go 5 0 i rfl fr_r (fun y hy => absurd hy (Nat.not_lt_zero y))
/-- stores that differ where the class keeps the best need alone -/
def wE_ (i i2 : Nat → Nat → Int32) (l l2 : Nat → Nat → Int64) : Prop := fr_o 198 198 i i2 ∧ ∀ k j, ¬ (k = 191 ∧ j = 8) → l2 k j = l k j
theorem tn_21 {A : mA_} {m q k t : Nat} (hW : mt_W A) (hV : aV_ A ≤ 5) (hm : ab_isM m) (hk : 1 ≤ k ∧ k ≤ 15) (ht : t < aT_ A) {i0 : Nat → Nat → Int32} {l0 : Nat → Nat → Int64} (hK : mt_K A m i0) (h196 : ∀ y z e, y < aT_ A → z < 16 → e < aT_ A → l0 196 (3 * (y * 16 + z) + e) = Int64.ofNat (av_ A (wt_ (aV_ A) q) y z e)) (h197 : ∀ v, v < aV_ A → i0 197 v = Int32.ofNat (wt_ (aV_ A) q v)) {Q : ab_Qt} (hQ : ∀ i2 l2, wE_ i0 i2 l0 l2 → wC_ A (q * 144 + 9 * k + 3 * (t + 1)) i2 l2 → ab_Fr MX5_tryNeeds (d + 2) Q 10 [some (.ref 191), some (.ref m), some (.int (Int32.ofNat k)), some (.int (Int32.ofNat (t + 1))), none] [] (0, 0) (i2, l2, dd, x) (ab_E0 sc)) :
    ∀ (n e : Nat) (i2 : Nat → Nat → Int32) (l2 : Nat → Nat → Int64), aT_ A = e + n → wE_ i0 i2 l0 l2 → wC_ A (q * 144 + 9 * k + 3 * t + e) i2 l2 → ab_Fr MX5_tryNeeds (d + 2) Q 21 [some (.ref 191), some (.ref m), some (.int (Int32.ofNat k)), some (.int (Int32.ofNat t)), some (.int (Int32.ofNat e))] [] (0, 0) (i2, l2, dd, x) (ab_E0 sc) := by
  intro n
  have w1 := hW.1
  induction n with
  | zero =>
    intro e i2 l2 he g2 c2
    have hK2 : mt_K A m i2 := mt_K_o hm hK g2.1 (by omega) hW
    refine tMX5_tryNeeds_21 (d := d + 1) hm ⟨fun _ => ?_, fun c => ?_⟩
    · rw [la_nx]
      refine hQ i2 l2 g2 (wC_sk c2 (by omega) (fun n h1 h2 h3 => ?_))
      have := h3.2.2.1
      omega
    · rw [hK2.1.1, nn_le (by omega) (by omega)] at c
      omega
  | succ n ih =>
    intro e i2 l2 he g2 c2
    have hK2 : mt_K A m i2 := mt_K_o hm hK g2.1 (by omega) hW
    refine tMX5_tryNeeds_21 (d := d + 1) hm ⟨fun c => ?_, fun _ => ⟨fun c => ?_, fun c => ?_⟩⟩
    · rw [hK2.1.1, nn_le (by omega) (by omega)] at c
      omega
    · rw [nn_eq (by omega) (by omega)] at c
      rw [la_nx]
      refine ih (e + 1) i2 l2 (by omega) g2 (wC_sk c2 (by omega) (fun n h1 h2 h3 => ?_))
      obtain ⟨z1, z2, z3, z4⟩ := w_at (q := q) (k := k) (t := t) (e := e) hk.2 (by omega) (by omega) (show n = _ by omega)
      exact h3.2.2.2 (by rw [z3, z4]; exact c)
    · rw [nn_eq (by omega) (by omega)] at c
      obtain ⟨z1, z2, z3, z4⟩ := w_at (q := q) (k := k) (t := t) (e := e) hk.2 (by omega) (by omega) rfl
      have hd : wd_ A (q * 144 + 9 * k + 3 * t + e) := by
        unfold wd_
        rw [z2, z3, z4]
        omega
      have ev : wv_ A (q * 144 + 9 * k + 3 * t + e) = lx_ A (wt_ (aV_ A) q) t e k := by
        unfold wv_
        rw [z1, z2, z3, z4]
      refine ⟨_, _, mt_lostV (d := d) (g := wt_ (aV_ A) q) (k := k) (t := t) (e := e) w1 (by omega) ht (by omega) (fun y z e hy hz he => by rw [g2.2 196 _ (by omega)]; exact h196 y z e hy hz he), ?_⟩
      rintro i7 l8 dd9 x10 ⟨⟩
      rw [← ev]
      refine ⟨fun c3 => ?_, fun c3 => ?_⟩
      · rw [la_nx]
        exact ih (e + 1) i2 l2 (by omega) g2 (wC_no hW c2 hd c3)
      · refine ⟨_, _, mt_lostV (d := d) (g := wt_ (aV_ A) q) (k := k) (t := t) (e := e) w1 (by omega) ht (by omega) (fun y z e hy hz he => by rw [g2.2 196 _ (by omega)]; exact h196 y z e hy hz he), ?_⟩
        rintro i7 l8 dd9 x10 ⟨⟩
        rintro l22 rfl
        rw [hK2.1.2]
        refine ⟨_, mt_keepN (d := d) hV, ?_⟩
        rintro i7 l9 dd9 x10 ⟨i3, ⟨⟩, f3, k1, k2, k3, k4⟩
        rw [la_nx, ← ev]
        refine ih (e + 1) _ _ (by omega) ⟨fr_t g2.1 f3, fun a b h => (if_neg h).trans (g2.2 a b h)⟩ (wC_ye (N := q * 144 + 9 * k + 3 * t + e) hW c2 hd c3 uu_e ⟨fun v hv => ?_, ?_, ?_, ?_⟩)
        · rw [k1 v hv, z1]
          by_cases c4 : v < aV_ A
          · rw [if_pos c4, if_pos c4, g2.1 197 (by omega)]
            exact h197 v c4
          · rw [if_neg c4, if_neg c4]
        · rw [k2, z2]
        · rw [k3, z3]
        · rw [k4, z4]
theorem wE_t {i2 i3 : Nat → Nat → Int32} {l2 l3 : Nat → Nat → Int64} (h1 : wE_ i i2 l l2) (h2 : wE_ i2 i3 l2 l3) : wE_ i i3 l l3 := ⟨fr_t h1.1 h2.1, fun k j h => (h2.2 k j h).trans (h1.2 k j h)⟩
theorem wE_r : wE_ i i l l := ⟨fr_r, fun _ _ _ => rfl⟩
theorem mt_tryN {A : mA_} {m q : Nat} (hW : mt_W A) (hV : aV_ A ≤ 5) (hm : ab_isM m) (hK : mt_K A m i) (h196 : ∀ y z e, y < aT_ A → z < 16 → e < aT_ A → l 196 (3 * (y * 16 + z) + e) = Int64.ofNat (av_ A (wt_ (aV_ A) q) y z e)) (h197 : ∀ v, v < aV_ A → i 197 v = Int32.ofNat (wt_ (aV_ A) q v)) (hC : wC_ A (q * 144) i l) : ab_Sp MX5_tryNeeds (d + 2) [.ref 191, .ref m] (i, l, dd, x) (ab_E0 sc) none (fun σ => ∃ i2 l2, σ = (i2, l2, dd, x) ∧ wE_ i i2 l l2 ∧ wC_ A ((q + 1) * 144) i2 l2) := by
  have w1 := hW.1
  refine ab_ent (n := 1) okMX5_tryNeeds.1 (fun G => Nat.le_of_ble_eq_true rfl) (fun Q hQ => ?_)
  refine tMX5_tryNeeds_0 (d := d + 1) hm ?_
  have go2 : ∀ (n k : Nat) (i2 : Nat → Nat → Int32) (l2 : Nat → Nat → Int64), 16 = k + n → 1 ≤ k → wE_ i i2 l l2 → wC_ A (q * 144 + 9 * k) i2 l2 → ab_Fr MX5_tryNeeds (d + 2) Q 2 [some (.ref 191), some (.ref m), some (.int (Int32.ofNat k)), none, none] [] (0, 0) (i2, l2, dd, x) (ab_E0 sc) := by
    intro n
    induction n with
    | zero =>
      intro k i2 l2 hk h1 g2 c2
      refine tMX5_tryNeeds_2 (d := d + 1) hm ⟨fun _ => hQ _ ⟨i2, l2, rfl, g2, ?_⟩, fun c => ?_⟩
      · rw [show (q + 1) * 144 = q * 144 + 9 * k by omega]
        exact c2
      · rw [show (16 : Int32) = Int32.ofNat 16 from rfl, nn_le (by omega) (by omega)] at c
        omega
    | succ n ih =>
      intro k i2 l2 hk h1 g2 c2
      refine tMX5_tryNeeds_2 (d := d + 1) hm ⟨fun c => ?_, fun _ => ?_⟩
      · rw [show (16 : Int32) = Int32.ofNat 16 from rfl, nn_le (by omega) (by omega)] at c
        omega
      · have go10 : ∀ (r t : Nat) (i3 : Nat → Nat → Int32) (l3 : Nat → Nat → Int64), aT_ A = t + r → wE_ i i3 l l3 → wC_ A (q * 144 + 9 * k + 3 * t) i3 l3 → ab_Fr MX5_tryNeeds (d + 2) Q 10 [some (.ref 191), some (.ref m), some (.int (Int32.ofNat k)), some (.int (Int32.ofNat t)), none] [] (0, 0) (i3, l3, dd, x) (ab_E0 sc) := by
          intro r
          induction r with
          | zero =>
            intro t i3 l3 ht g3 c3
            have hK2 : mt_K A m i3 := mt_K_o hm hK g3.1 (by omega) hW
            refine tMX5_tryNeeds_10 (d := d + 1) hm ⟨fun _ => ?_, fun c => ?_⟩
            · rw [la_nx]
              refine ih (k + 1) i3 l3 (by omega) (by omega) g3 (wC_sk c3 (by omega) (fun n h1 h2 h3 => ?_))
              have := h3.2.1
              omega
            · rw [hK2.1.1, nn_le (by omega) (by omega)] at c
              omega
          | succ r ihr =>
            intro t i3 l3 ht g3 c3
            have hK2 : mt_K A m i3 := mt_K_o hm hK g3.1 (by omega) hW
            refine tMX5_tryNeeds_10 (d := d + 1) hm ⟨fun c => ?_, fun _ => ?_⟩
            · rw [hK2.1.1, nn_le (by omega) (by omega)] at c
              omega
            · exact tn_21 (d := d) (q := q) (i0 := i3) (l0 := l3) hW hV hm ⟨h1, by omega⟩ (by omega) hK2 (fun y z e hy hz he => by rw [g3.2 196 _ (by omega)]; exact h196 y z e hy hz he) (fun v hv => by rw [g3.1 197 (by omega)]; exact h197 v hv) (fun i4 l4 g4 c4 => ihr (t + 1) i4 l4 (by omega) (wE_t g3 g4) c4) _ 0 i3 l3 (Nat.zero_add _).symm wE_r c3
        exact go10 _ 0 i2 l2 (Nat.zero_add _).symm g2 c2
  refine go2 15 1 i l rfl (Nat.le_refl 1) wE_r (wC_sk hC (by omega) (fun n h1 h2 h3 => ?_))
  have := h3.1
  omega
end TQQ3
