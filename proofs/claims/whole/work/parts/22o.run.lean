/-! run -/
def rn_x (x : Int32) : Int32 := x * 1103515245 + 12345
def rn_d (x : Int32) : Nat := (ab_ushr (rn_x x) 8).toInt.toNat % 20
def rn_i (x : Int32) : Nat → Int32
  | 0 => x
  | k + 1 => rn_x (rn_i x k)
/-- the place picked: r more may be passed, from i on, y left -/
def rn_p (f : Nat → Nat) : Nat → Nat → Nat → Nat
  | 0, i, _ => i
  | r + 1, i, y => if y < f i then i else rn_p f r (i + 1) (y - f i)
theorem rn_p_le {f : Nat → Nat} : ∀ r i y, i ≤ rn_p f r i y ∧ rn_p f r i y ≤ i + r := by
  intro r
  induction r with
  | zero => intro i y; exact ⟨Nat.le_refl i, Nat.le_refl i⟩
  | succ r ih =>
    intro i y
    unfold rn_p
    by_cases c : y < f i
    · rw [if_pos c]
      omega
    · rw [if_neg c]
      have := ih (i + 1) (y - f i)
      omega
theorem rn_us {x : Int32} : 0 ≤ (ab_ushr x 8).toInt ∧ (ab_ushr x 8).toInt < 2 ^ 24 := by
  have h : (ab_ushr x 8).toBitVec.toNat < 2 ^ 24 := by
    unfold ab_ushr
    simp [BitVec.toNat_ushiftRight, Nat.shiftRight_eq_div_pow]
    have := x.toBitVec.isLt
    omega
  have e : (ab_ushr x 8).toInt = ((ab_ushr x 8).toBitVec.toNat : Int) := by
    show (ab_ushr x 8).toBitVec.toInt = _
    rw [BitVec.toInt_eq_toNat_of_lt (by omega)]
  omega
theorem rn_de {x : Int32} : ab_ushr (rn_x x) 8 - ab_ushr (rn_x x) 8 / 20 * 20 = Int32.ofNat (rn_d x) ∧ rn_d x < 20 := by
  obtain ⟨h1, h2⟩ := rn_us (x := rn_x x)
  refine ⟨?_, Nat.mod_lt _ (by decide)⟩
  have e : ab_ushr (rn_x x) 8 = Int32.ofNat (ab_ushr (rn_x x) 8).toInt.toNat := la_inv h1
  unfold rn_d
  generalize hk : (ab_ushr (rn_x x) 8).toInt.toNat = k at *
  rw [e, nn_p20]
  exact la_mod (by omega) (by omega)
section TQO2
variable {d : Nat} {sc : Nat × (Nat → Int32)} {i : Nat → Nat → Int32} {l : Nat → Nat → Int64} {dd : Nat → Nat → Value} {x : Nat}
theorem dw_33 {a n fr cnt y0 : Nat} {f : Nat → Nat} (hk : (ab_E0 sc).1 a = .inr (0, n)) (hn : fr + cnt ≤ n ∧ n < 2 ^ 31) (hc : 1 ≤ cnt ∧ cnt ≤ 3) (hf : ∀ u, u < cnt → i a (fr + u) = Int32.ofNat (f u) ∧ f u ≤ 20) (hy : y0 < 20) {Q : ab_Qt} (hQ : Q (some (some (.int (Int32.ofNat (rn_p f (cnt - 1) 0 y0))))) (i, l, dd, x) (ab_E0 sc)) :
    ∀ r k s : Nat, cnt - 1 = k + r → s ≤ y0 → rn_p f (cnt - 1) 0 y0 = rn_p f r k (y0 - s) → ab_Fr MX6_draw (d + 1) Q 33 [none, some (.ref a), some (.int (Int32.ofNat fr)), some (.int (Int32.ofNat cnt)), some (.int (Int32.ofNat y0)), some (.int (Int32.ofNat s)), some (.int (Int32.ofNat k))] [] (0, 0) (i, l, dd, x) (ab_E0 sc) := by
  intro r
  induction r with
  | zero =>
    intro k s hk2 hs he
    refine tMX6_draw_33 hk ?_
    rw [nn_p1, nn_sub (by omega), nn_le (by omega) (by omega)]
    refine ⟨fun _ => ?_, fun c => absurd c (by omega)⟩
    rw [he] at hQ
    rw [show cnt - 1 = k by omega]
    exact hQ
  | succ r ih =>
    intro k s hk2 hs he
    obtain ⟨e1, e2⟩ := hf k (by omega)
    unfold rn_p at he
    refine tMX6_draw_33 hk ?_
    rw [nn_p1, nn_sub (by omega), nn_le (by omega) (by omega), nn_add, nn_cl (by omega), e1, nn_add, nn_le (by omega) (by omega), nn_add]
    refine ⟨fun c => absurd c (by omega), fun _ => ⟨la_vp (by omega) (by omega), fun c => ?_, fun c => ?_⟩⟩
    · have he2 : rn_p f (cnt - 1) 0 y0 = rn_p f r (k + 1) (y0 - (s + f k)) := by
        refine Eq.trans ?_ (show (if y0 - s < f k then k else rn_p f r (k + 1) (y0 - s - f k)) = _ by rw [if_neg (by omega), Nat.sub_sub])
        cases hcnt : cnt - 1 with
        | zero => omega
        | succ q =>
          rw [hcnt] at he
          exact he
      exact ih (k + 1) (s + f k) (by omega) (by omega) he2
    · have he2 : rn_p f (cnt - 1) 0 y0 = k := by
        refine Eq.trans ?_ (show (if y0 - s < f k then k else rn_p f r (k + 1) (y0 - s - f k)) = _ by rw [if_pos (by omega)])
        cases hcnt : cnt - 1 with
        | zero => omega
        | succ q =>
          rw [hcnt] at he
          exact he
      rw [he2] at hQ
      exact hQ
theorem mt_draw {a n fr cnt : Nat} {f : Nat → Nat} (ha : a ≠ 202) (hk : (ab_E0 sc).1 a = .inr (0, n)) (hn : fr + cnt ≤ n ∧ n < 2 ^ 31) (hc : 1 ≤ cnt ∧ cnt ≤ 3) (hf : ∀ u, u < cnt → i a (fr + u) = Int32.ofNat (f u) ∧ f u ≤ 20) : ab_Sp MX6_draw (d + 1) [.ref 202, .ref a, .int (Int32.ofNat fr), .int (Int32.ofNat cnt)] (i, l, dd, x) (ab_E0 sc) (some (.int (Int32.ofNat (rn_p f (cnt - 1) 0 (rn_d (i 202 0)))))) (fun σ => σ = (ab_u i 202 0 (rn_x (i 202 0)), l, dd, x)) := by
  refine ab_ent (n := 3) okMX6_draw.1 (fun G => Nat.le_of_ble_eq_true rfl) (fun Q hQ => ?_)
  refine tMX6_draw_0 hk ?_
  rintro i1 rfl
  have h := rn_de (x := i 202 0)
  rw [show ab_u i 202 0 (i 202 0 * 1103515245 + 12345) 202 0 = rn_x (i 202 0) from uu_e, h.1]
  exact dw_33 (s := 0) hk hn hc (fun u hu => by rw [uu_k ha]; exact hf u hu) h.2 (hQ _ rfl) (cnt - 1) 0 (by omega) (by omega) (by rw [Nat.sub_zero])
theorem md_draw : ab_Sp MX12_draw (d + 1) [.ref 205] (i, l, dd, x) (ab_E0 sc) (some (.int (Int32.ofNat (rn_d (i 205 69))))) (fun σ => σ = (ab_u i 205 69 (rn_x (i 205 69)), l, dd, x)) := by
  refine ab_ent (n := 0) okMX12_draw.1 (fun G => Nat.le_of_ble_eq_true rfl) (fun Q hQ => ?_)
  refine tMX12_draw_0 ?_
  rintro i1 rfl
  rw [show ab_u i 205 69 (i 205 69 * 1103515245 + 12345) 205 69 = rn_x (i 205 69) from uu_e, rn_de.1]
  exact hQ _ rfl
/-- a case drawn -/
def rn_t (A : mA_) (y : Int32) : Nat := rn_p (aC_ A) (aT_ A - 1) 0 (rn_d y)
def rn_s (A : mA_) (y : Int32) (v : Nat) : Nat := rn_p (fun s => aL_ A v s (rn_t A y)) (aS_ A v - 1) 0 (rn_d (rn_i (rn_x y) v))
/-- after k cases: the seed, how many right -/
def rn_c (A : mA_) (y : Int32) : Nat → Int32 × Nat
  | 0 => (y, 0)
  | k + 1 => (rn_i (rn_x (rn_c A y k).1) (aV_ A), (rn_c A y k).2 + (if cs_d A (aO_ A) (rn_s A (rn_c A y k).1) = rn_t A (rn_c A y k).1 then 1 else 0))
theorem rn_t_lt {A : mA_} {y : Int32} (hW : mt_W A) (hp : 0 < aV_ A) : rn_t A y < aT_ A := by
  have := (rn_p_le (f := aC_ A) (aT_ A - 1) 0 (rn_d y)).2
  have := hW.2.2.2.1 hp
  unfold rn_t
  omega
theorem rn_s_lt {A : mA_} {y : Int32} {v : Nat} (hW : mt_W A) (hv : v < aV_ A) : rn_s A y v < aS_ A v := by
  have := (rn_p_le (f := fun s => aL_ A v s (rn_t A y)) (aS_ A v - 1) 0 (rn_d (rn_i (rn_x y) v))).2
  have := (hW.2.2.2.2.2.2.1 v hv).1
  unfold rn_s
  omega
theorem rn_c_le {A : mA_} {y : Int32} : ∀ k, (rn_c A y k).2 ≤ k := by
  intro k
  induction k with
  | zero => exact Nat.le_refl 0
  | succ k ih =>
    show (rn_c A y k).2 + (if _ then 1 else 0) ≤ k + 1
    split <;> omega
/-- cells that run of the class writes -/
def rn_f (m : Nat) (i i2 : Nat → Nat → Int32) : Prop := (∀ k, k ≠ 202 → k ≠ 203 → k ≠ m + 48 → i2 k = i k) ∧ ∀ j, j ≠ 0 → i2 202 j = i 202 j
theorem rn_ft {m : Nat} {i2 i3 : Nat → Nat → Int32} (h1 : rn_f m i i2) (h2 : rn_f m i2 i3) : rn_f m i i3 := ⟨fun k a b c => (h2.1 k a b c).trans (h1.1 k a b c), fun j h => (h2.2 j h).trans (h1.2 j h)⟩
theorem rn_f2 {m : Nat} {z : Int32} : rn_f m i (ab_u i 202 0 z) := ⟨fun k a _ _ => uu_f a, fun j h => uu_j h⟩
theorem rn_f3 {m j : Nat} {z : Int32} (hm : ab_isM m) : rn_f m i (ab_u i 203 j z) := ⟨fun k _ b _ => uu_f b, fun j h => uu_k (by decide)⟩
theorem rn_f8 {m : Nat} {i2 : Nat → Nat → Int32} (hm : ab_isM m) (h : fr_o (m + 48) (m + 48) i i2) : rn_f m i i2 := ⟨fun k _ _ c => h k (by omega), fun j _ => by rw [h 202 (by rcases hm with rfl | rfl | rfl <;> omega)]⟩
theorem rn_K {A : mA_} {m : Nat} {i2 : Nat → Nat → Int32} (hW : mt_W A) (hm : ab_isM m) (hK : mt_K A m i) (h : rn_f m i i2) : mt_K A m i2 := mt_K_f hm hK (fun k h1 h2 => h.1 k (by rcases hm with rfl | rfl | rfl <;> omega) (by rcases hm with rfl | rfl | rfl <;> omega) (by omega)) hW
theorem rn_35 {A : mA_} {m n k c : Nat} {y : Int32} (hW : mt_W A) (hp : 0 < aV_ A) (hm : ab_isM m) {i0 : Nat → Nat → Int32} (hK : mt_K A m i0) (hk : k < 2 ^ 20) (hc : c < 2 ^ 20) {Q : ab_Qt} (hQ : ∀ i2, rn_f m i0 i2 → i2 202 0 = rn_i (rn_x y) (aV_ A) → ab_Fr MX6_rightOf (d + 3) Q 11 [some (.ref 202), some (.ref m), none, some (.int (Int32.ofNat n)), some (.int (Int32.ofNat (c + (if cs_d A (aO_ A) (rn_s A y) = rn_t A y then 1 else 0)))), some (.int (Int32.ofNat (k + 1))), none, none] [] (0, 0) (i2, l, dd, x) (ab_E0 sc)) :
    ∀ (r v : Nat) (i2 : Nat → Nat → Int32), aV_ A = v + r → rn_f m i0 i2 → i2 202 0 = rn_i (rn_x y) v → (∀ u, u < v → i2 203 u = Int32.ofNat (rn_s A y u)) → ab_Fr MX6_rightOf (d + 3) Q 35 [some (.ref 202), some (.ref m), none, some (.int (Int32.ofNat n)), some (.int (Int32.ofNat c)), some (.int (Int32.ofNat k)), some (.int (Int32.ofNat (rn_t A y))), some (.int (Int32.ofNat v))] [] (0, 0) (i2, l, dd, x) (ab_E0 sc) := by
  intro r
  have w1 := hW.1
  have w2 := hW.2.1
  have htl := rn_t_lt (y := y) hW hp
  have hmm : m + 48 ≠ 203 ∧ m + 48 ≠ 202 := by rcases hm with rfl | rfl | rfl <;> omega
  induction r with
  | zero =>
    intro v i2 hv f2 s2 z2
    have hK2 := rn_K hW hm hK f2
    refine tMX6_rightOf_35 (d := d + 2) hm ⟨fun _ => ⟨_, _, mt_decWS (d := d) (n := 7) (a := 203) (b := rn_s A y) hW hp hm hK2 rfl (by omega) (fun z => hmm.1 z.symm) (fun u hu => ⟨z2 u (by omega), rn_s_lt hW hu⟩), ?_⟩, fun c => ?_⟩
    · rintro i6 l7 dd8 x9 ⟨i3, ⟨⟩, f3⟩
      have hdl : cs_d A (aO_ A) (rn_s A y) < aT_ A := cs_db_lt hW hp
      have hq := hQ i6 (rn_ft f2 (rn_f8 hm f3)) (by rw [f3 202 (by omega), s2, show v = aV_ A by omega])
      rw [nn_eq (by omega) (by omega), la_nx]
      refine ⟨fun c => ?_, fun c => ?_⟩
      · rw [if_neg c, Nat.add_zero] at hq
        exact hq
      · rw [if_pos c] at hq
        rw [la_nx]
        exact hq
    · simp (disch := omega) only [hK2.1.2, ↓nn_m3, nn_p0, nn_p1, nn_p2, nn_p3, nn_p4, nn_p5, nn_p6, nn_p7, nn_p8, nn_p9, nn_p10, nn_p20, nn_p21, nn_le, nn_lt, nn_eq, nn_cl, nn_in, nn_add, nn_mul, nn_en, nn_ne, nn_mn, nn_64] at c
      omega
  | succ r ih =>
    intro v i2 hv f2 s2 z2
    have hK2 := rn_K hW hm hK f2
    have hS := hW.2.2.2.2.2.2.1 v (by omega)
    have e0 := (hK2.2.2.2.2.1 v (by omega)).1
    have hkd := (kd_vc (sc := sc) hm (show v < 7 by omega)).2
    have hdr := mt_draw (d := d + 1) (sc := sc) (i := i2) (l := l) (dd := dd) (x := x) (a := m + 5 + 6 * v + 1) (n := 9) (fr := 3 * rn_t A y) (cnt := aS_ A v) (f := fun s => aL_ A v s (rn_t A y)) (by rcases hm with rfl | rfl | rfl <;> omega) hkd (by omega) (by omega) (fun u hu => ⟨hK2.2.2.2.2.2.1 v u _ (by omega) hu (by omega), (hW.2.2.2.2.2.2.2.1 v u _).1⟩)
    rw [s2] at hdr
    refine tMX6_rightOf_35 (d := d + 2) hm ⟨fun c => ?_, fun _ => ⟨la_vp (by omega) (by omega), la_vp (by omega) (by omega), ?_⟩⟩
    · simp (disch := omega) only [hK2.1.2, ↓nn_m3, nn_p0, nn_p1, nn_p2, nn_p3, nn_p4, nn_p5, nn_p6, nn_p7, nn_p8, nn_p9, nn_p10, nn_p20, nn_p21, nn_le, nn_lt, nn_eq, nn_cl, nn_in, nn_add, nn_mul, nn_en, nn_ne, nn_mn, nn_64] at c
      omega
    · rw [nn_cl (by omega), e0, nn_m3, nn_mul]
      refine ⟨_, _, hdr, ?_⟩
      rintro i6 l7 dd8 x9 ⟨⟩
      refine ⟨la_vp (by omega) (by omega), ?_⟩
      rintro i7 rfl
      rw [la_nx]
      refine ih (v + 1) _ (by omega) (rn_ft f2 (rn_ft rn_f2 (rn_f3 hm))) (by rw [uu_k (by omega)]; exact uu_e) (fun u hu => ?_)
      by_cases e : u = v
      · rw [e]
        exact uu_e
      · rw [uu_j e, uu_k (by omega)]
        exact z2 u (by omega)
theorem rn_11 {A : mA_} {m n : Nat} {y : Int32} (hW : mt_W A) (hp : 0 < aV_ A) (hm : ab_isM m) {i0 : Nat → Nat → Int32} (hK : mt_K A m i0) (hn : n ≤ 1000) {Q : ab_Qt} (hQ : ∀ i2, rn_f m i0 i2 → Q (some (some (.int (Int32.ofNat (rn_c A y n).2)))) (i2, l, dd, x) (ab_E0 sc)) :
    ∀ (r k : Nat) (i2 : Nat → Nat → Int32), n = k + r → rn_f m i0 i2 → i2 202 0 = (rn_c A y k).1 → ab_Fr MX6_rightOf (d + 3) Q 11 [some (.ref 202), some (.ref m), none, some (.int (Int32.ofNat n)), some (.int (Int32.ofNat (rn_c A y k).2)), some (.int (Int32.ofNat k)), none, none] [] (0, 0) (i2, l, dd, x) (ab_E0 sc) := by
  intro r
  have w1 := hW.1
  have w4 := hW.2.2.2.1 hp
  induction r with
  | zero =>
    intro k i2 hk f2 s2
    refine tMX6_rightOf_11 (d := d + 2) hm ⟨fun _ => by rw [show k = n by omega]; exact hQ i2 f2, fun c => ?_⟩
    simp (disch := omega) only [↓nn_m3, nn_p0, nn_p1, nn_p2, nn_p3, nn_p4, nn_p5, nn_p6, nn_p7, nn_p8, nn_p9, nn_p10, nn_p20, nn_p21, nn_le, nn_lt, nn_eq, nn_cl, nn_in, nn_add, nn_mul, nn_en, nn_ne, nn_mn, nn_64] at c
    omega
  | succ r ih =>
    intro k i2 hk f2 s2
    have hK2 := rn_K hW hm hK f2
    have hle := rn_c_le (A := A) (y := y) k
    have hkd : (ab_E0 sc).1 (m + 1) = .inr (0, 3) := by rcases hm with rfl | rfl | rfl <;> rfl
    have hdr := mt_draw (d := d + 1) (sc := sc) (i := i2) (l := l) (dd := dd) (x := x) (a := m + 1) (n := 3) (fr := 0) (cnt := aT_ A) (f := aC_ A) (by rcases hm with rfl | rfl | rfl <;> omega) hkd (by omega) (by omega) (fun u hu => ⟨by rw [Nat.zero_add]; exact hK2.2.2.1 u (by omega), (hW.2.2.2.2.1 u).1⟩)
    rw [s2] at hdr
    refine tMX6_rightOf_11 (d := d + 2) hm ⟨fun c => ?_, fun _ => ?_⟩
    · simp (disch := omega) only [↓nn_m3, nn_p0, nn_p1, nn_p2, nn_p3, nn_p4, nn_p5, nn_p6, nn_p7, nn_p8, nn_p9, nn_p10, nn_p20, nn_p21, nn_le, nn_lt, nn_eq, nn_cl, nn_in, nn_add, nn_mul, nn_en, nn_ne, nn_mn, nn_64] at c
      omega
    · rw [hK2.1.1]
      refine ⟨_, _, hdr, ?_⟩
      rintro i6 l7 dd8 x9 ⟨⟩
      exact rn_35 (d := d) (k := k) (c := (rn_c A y k).2) (y := (rn_c A y k).1) hW hp hm hK (by omega) (by omega) (fun i3 f3 s3 => ih (k + 1) i3 (by omega) f3 s3) (aV_ A) 0 _ (by omega) (rn_ft f2 rn_f2) uu_e (fun u hu => absurd hu (Nat.not_lt_zero u))
theorem mt_run {A : mA_} {m n : Nat} {y : Int32} (hW : mt_W A) (hp : 0 < aV_ A) (hm : ab_isM m) (hK : mt_K A m i) (hn : n ≤ 1000) : ab_Sp MX6_rightOf (d + 3) [.ref 202, .ref m, .int y, .int (Int32.ofNat n)] (i, l, dd, x) (ab_E0 sc) (some (.int (Int32.ofNat (rn_c A y n).2))) (fun σ => ∃ i2, σ = (i2, l, dd, x) ∧ rn_f m i i2) := by
  refine ab_ent (n := 3) okMX6_rightOf.1 (fun G => Nat.le_of_ble_eq_true rfl) (fun Q hQ => ?_)
  refine tMX6_rightOf_0 (d := d + 2) hm ?_
  rintro i1 rfl
  exact rn_11 (d := d) (i0 := i) hW hp hm hK hn (fun i2 f2 => hQ _ ⟨i2, rfl, f2⟩) n 0 _ (by omega) rn_f2 uu_e
end TQO2
