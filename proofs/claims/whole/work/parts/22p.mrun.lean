section TQP2
variable {d : Nat} {sc : Nat × (Nat → Int32)} {i : Nat → Nat → Int32} {l : Nat → Nat → Int64} {dd : Nat → Nat → Value} {x : Nat}
def rm_f (i i2 : Nat → Nat → Int32) : Prop := (∀ k, k ≠ 226 → k ≠ 227 → k ≠ 205 → i2 k = i k) ∧ ∀ j, j ≠ 69 → i2 205 j = i 205 j
theorem rm_t {i2 i3 : Nat → Nat → Int32} (h1 : rm_f i i2) (h2 : rm_f i2 i3) : rm_f i i3 := ⟨fun k a b c => (h2.1 k a b c).trans (h1.1 k a b c), fun j h => (h2.2 j h).trans (h1.2 j h)⟩
theorem rm_9 {z : Int32} : rm_f i (ab_u i 205 69 z) := ⟨fun k _ _ c => uu_f c, fun j h => uu_j h⟩
theorem rm_6 {j : Nat} {z : Int32} : rm_f i (ab_u i 226 j z) := ⟨fun k a _ _ => uu_f a, fun j h => uu_k (by decide)⟩
theorem rm_o {i2 : Nat → Nat → Int32} (h : fr_o 226 227 i i2) : rm_f i i2 := ⟨fun k a b _ => h k (by omega), fun j _ => by rw [h 205 (by omega)]⟩
theorem rm_M {A : mA_} {i2 : Nat → Nat → Int32} (hW : mt_W A) (hM : mt_M A i l) (h : rm_f i i2) : mt_M A i2 l := mt_M_fr hM (fun j a b => h.2 j (by omega)) (fun k a b => h.1 k (by omega) (by omega) (by omega)) (fun j _ => by rw [h.1 225 (by omega) (by omega) (by omega)]) rfl hW
theorem rm_kp {i2 : Nat → Nat → Int32} (h : rm_f i i2) : kp_i i i2 := by
  refine ⟨fun k j hk => ?_, h.1 5 (by decide) (by decide) (by decide), h.1 206 (by decide) (by decide) (by decide), by rw [h.1 4 (by decide) (by decide) (by decide)], h.2 2 (by decide)⟩
  have nq : ∀ q, kp_s q = true → k ≠ q := fun q hq z => by
    rw [z, kp_sw hq] at hk
    cases hk
  by_cases c : k = 205
  · subst c
    refine h.2 j (fun z => ?_)
    rw [z] at hk
    cases hk
  · rw [h.1 k (nq 226 rfl) (nq 227 rfl) c]
theorem rn_pn {f : Nat → Nat} {k y : Nat} {r : Nat} : rn_p f (r + 1) k y = if y < f k then k else rn_p f r (k + 1) (y - f k) := rfl
theorem rm_50 {A : mA_} {n c k y0 : Nat} (hW : mt_W A) (hp : 0 < aV_ A) (hM : mt_M A i l) (hy : y0 < 20) {Q : ab_Qt} (hQ : ab_Fr MX12_run (d + 1) Q 83 [some (.ref 205), none, some (.int (Int32.ofNat n)), some (.int (Int32.ofNat c)), some (.int (Int32.ofNat k)), none, some (.int (Int32.ofNat (rn_p (aC_ A) (aT_ A - 1) 0 y0))), some (.int (Int32.ofNat 0)), none] [] (0, 0) (i, l, dd, x) (ab_E0 sc)) :
    ∀ r t y : Nat, aT_ A = t + 1 + r → y + pu_s (aC_ A) t = y0 → rn_p (aC_ A) (aT_ A - 1) 0 y0 = rn_p (aC_ A) r t y → ab_Fr MX12_run (d + 1) Q 50 [some (.ref 205), none, some (.int (Int32.ofNat n)), some (.int (Int32.ofNat c)), some (.int (Int32.ofNat k)), some (.int (Int32.ofNat y)), some (.int (Int32.ofNat t)), none, none] [] (0, 0) (i, l, dd, x) (ab_E0 sc) := by
  intro r
  have w1 := hW.1
  have w4 := hW.2.2.2.1 hp
  have w6 := hW.2.2.2.2.2.1 hp
  have hsum : pu_s (aC_ A) (aT_ A) = 20 := by
    rw [← pu_s3 w1 (fun t ht => (hW.2.2.2.2.1 t).2 ht)]
    show 0 + aC_ A 0 + aC_ A 1 + aC_ A 2 = 20
    omega
  induction r with
  | zero =>
    intro t y ht hs he
    have e1 := hM.2.2.1 t (by omega)
    have hC := (hW.2.2.2.2.1 t).1
    have h2 : pu_s (aC_ A) (t + 1) = pu_s (aC_ A) t + aC_ A t := rfl
    rw [show t + 1 = aT_ A by omega] at h2
    refine tMX12_run_50 ⟨la_vp (by omega) (by omega), ?_⟩
    rw [nn_cl (by omega), e1, nn_lt (by omega) (by omega)]
    refine ⟨fun _ => ?_, fun g => absurd g (by omega)⟩
    rw [he] at hQ
    exact hQ
  | succ r ih =>
    intro t y ht hs he
    have e1 := hM.2.2.1 t (by omega)
    have hC := (hW.2.2.2.2.1 t).1
    rw [rn_pn] at he
    refine tMX12_run_50 ⟨la_vp (by omega) (by omega), ?_⟩
    rw [nn_cl (by omega), e1, nn_lt (by omega) (by omega)]
    refine ⟨fun g => ?_, fun g => ⟨la_vp (by omega) (by omega), ?_⟩⟩
    · rw [if_pos g] at he
      rw [he] at hQ
      exact hQ
    · rw [if_neg g] at he
      rw [nn_sub (by omega), la_nx]
      refine ih (t + 1) _ (by omega) ?_ he
      show y - aC_ A t + (pu_s (aC_ A) t + aC_ A t) = y0
      omega
theorem rm_101 {A : mA_} {n c k t v y0 : Nat} (hW : mt_W A) (hM : mt_M A i l) (ht : t < aT_ A) (hv : v < aV_ A) (hy : y0 < 20) {Q : ab_Qt} (hQ : ab_Fr MX12_run (d + 1) Q 83 [some (.ref 205), none, some (.int (Int32.ofNat n)), some (.int (Int32.ofNat c)), some (.int (Int32.ofNat k)), none, some (.int (Int32.ofNat t)), some (.int (Int32.ofNat (v + 1))), none] [] (0, 0) (ab_u i 226 v (Int32.ofNat (aO_ A v (rn_p (fun s => aL_ A v s t) (aS_ A v - 1) 0 y0))), l, dd, x) (ab_E0 sc)) :
    ∀ r s y : Nat, aS_ A v = s + 1 + r → y + pu_s (fun s => aL_ A v s t) s = y0 → rn_p (fun s => aL_ A v s t) (aS_ A v - 1) 0 y0 = rn_p (fun s => aL_ A v s t) r s y → ab_Fr MX12_run (d + 1) Q 101 [some (.ref 205), none, some (.int (Int32.ofNat n)), some (.int (Int32.ofNat c)), some (.int (Int32.ofNat k)), some (.int (Int32.ofNat y)), some (.int (Int32.ofNat t)), some (.int (Int32.ofNat v)), some (.int (Int32.ofNat s))] [] (0, 0) (i, l, dd, x) (ab_E0 sc) := by
  intro r
  have w1 := hW.1
  have w2 := hW.2.1
  have hS := hW.2.2.2.2.2.2.1 v hv
  have hsum := gr_L3 hW hv ht
  have hidx : ∀ s : Nat, ((9 : Int32) * Int32.ofNat v + 3 * Int32.ofNat s + Int32.ofNat t) = Int32.ofNat (9 * v + 3 * s + t) := fun s => by
    rw [nn_p9, nn_p3, nn_mul, nn_mul, nn_add, nn_add]
  induction r with
  | zero =>
    intro s y hs hsy he
    have e1 := hM.2.2.2.2.1 v s t hv (by omega) ht
    have eV := hM.2.2.2.2.2.2.1 v s hv (by omega)
    have hL := (hW.2.2.2.2.2.2.2.1 v s t).1
    have h2 : pu_s (fun s => aL_ A v s t) (s + 1) = pu_s (fun s => aL_ A v s t) s + aL_ A v s t := rfl
    rw [show s + 1 = aS_ A v by omega] at h2
    refine tMX12_run_101 ?_
    rw [hidx, nn_cl (by omega), e1, nn_lt (by omega) (by omega), nn_p3, nn_mul, nn_add, nn_cl (by omega), nn_cl (by omega), eV, la_nx]
    refine ⟨la_vp (by omega) (by omega), fun _ => ⟨la_vp (by omega) (by omega), la_vp (by omega) (by omega), ?_⟩, fun g => absurd g (by omega)⟩
    rintro i2 rfl
    rw [he] at hQ
    exact hQ
  | succ r ih =>
    intro s y hs hsy he
    have e1 := hM.2.2.2.2.1 v s t hv (by omega) ht
    have eV := hM.2.2.2.2.2.2.1 v s hv (by omega)
    have hL := (hW.2.2.2.2.2.2.2.1 v s t).1
    have h2 : pu_s (fun s => aL_ A v s t) (s + 1) = pu_s (fun s => aL_ A v s t) s + aL_ A v s t := rfl
    rw [rn_pn] at he
    refine tMX12_run_101 ?_
    rw [hidx, nn_cl (by omega), e1, nn_lt (by omega) (by omega), nn_p3, nn_mul, nn_add, nn_cl (by omega), nn_cl (by omega), eV, la_nx]
    refine ⟨la_vp (by omega) (by omega), fun g => ⟨la_vp (by omega) (by omega), la_vp (by omega) (by omega), ?_⟩, fun g => ⟨la_vp (by omega) (by omega), ?_⟩⟩
    · rintro i2 rfl
      rw [if_pos g] at he
      rw [he] at hQ
      exact hQ
    · rw [if_neg g] at he
      rw [nn_sub (by omega), la_nx]
      refine ih (s + 1) _ (by omega) ?_ he
      omega
theorem rm_83 {A : mA_} {n c k : Nat} {y : Int32} (hW : mt_W A) (hp : 0 < aV_ A) {i0 : Nat → Nat → Int32} (hM : mt_M A i0 l) (hk : k < 2 ^ 20) (hc : c < 2 ^ 20) {Q : ab_Qt} (hQ : ∀ i2, rm_f i0 i2 → i2 205 69 = rn_i (rn_x y) (aV_ A) → ab_Fr MX12_run (d + 2) Q 35 [some (.ref 205), none, some (.int (Int32.ofNat n)), some (.int (Int32.ofNat (c + (if cs_d A (aO_ A) (rn_s A y) = rn_t A y then 1 else 0)))), some (.int (Int32.ofNat (k + 1))), none, none, none, none] [] (0, 0) (i2, l, dd, x) (ab_E0 sc)) :
    ∀ (r v : Nat) (i2 : Nat → Nat → Int32), aV_ A = v + r → rm_f i0 i2 → i2 205 69 = rn_i (rn_x y) v → (∀ u, u < v → i2 226 u = Int32.ofNat (aO_ A u (rn_s A y u))) → ab_Fr MX12_run (d + 2) Q 83 [some (.ref 205), none, some (.int (Int32.ofNat n)), some (.int (Int32.ofNat c)), some (.int (Int32.ofNat k)), none, some (.int (Int32.ofNat (rn_t A y))), some (.int (Int32.ofNat v)), none] [] (0, 0) (i2, l, dd, x) (ab_E0 sc) := by
  intro r
  have w1 := hW.1
  have w2 := hW.2.1
  have htl := rn_t_lt (y := y) hW hp
  induction r with
  | zero =>
    intro v i2 hv f2 s2 z2
    have hM2 := rm_M hW hM f2
    refine tMX12_run_83 (d := d + 1) ⟨fun _ => ⟨_, _, mt_decide (d := d) (bal := fun v => aO_ A v (rn_s A y v)) hW hp hM2 (fun u hu => z2 u (by omega)) (fun u hu => hW.2.2.2.2.2.2.2.2.2.2.1 u _ hu (rn_s_lt hW hu)), ?_⟩, fun g => ?_⟩
    · rintro i6 l7 dd8 x9 ⟨i3, ⟨⟩, f3⟩
      have hdl : cs_d A (aO_ A) (rn_s A y) < aT_ A := cs_db_lt hW hp
      have hq := hQ i6 (rm_t f2 (rm_o (fr_w f3 (by omega)))) (by rw [f3 205 (by omega), s2, show v = aV_ A by omega])
      rw [show mt_db A (fun v => aO_ A v (rn_s A y v)) = cs_d A (aO_ A) (rn_s A y) from rfl, nn_eq (by omega) (by omega), la_nx]
      refine ⟨fun g => ?_, fun g => ?_⟩
      · rw [if_neg g, Nat.add_zero] at hq
        exact hq
      · rw [if_pos g] at hq
        rw [la_nx]
        exact hq
    · simp (disch := omega) only [hM2.1.2.1, ↓nn_m3, nn_p0, nn_p1, nn_p2, nn_p3, nn_p4, nn_p5, nn_p6, nn_p7, nn_p8, nn_p9, nn_p10, nn_p20, nn_p21, nn_le, nn_lt, nn_eq, nn_cl, nn_in, nn_add, nn_mul, nn_en, nn_ne, nn_mn, nn_64] at g
      omega
  | succ r ih =>
    intro v i2 hv f2 s2 z2
    have hM2 := rm_M hW hM f2
    have hS := hW.2.2.2.2.2.2.1 v (by omega)
    refine tMX12_run_83 (d := d + 1) ⟨fun g => ?_, fun _ => ⟨_, _, md_draw (d := d), ?_⟩⟩
    · simp (disch := omega) only [hM2.1.2.1, ↓nn_m3, nn_p0, nn_p1, nn_p2, nn_p3, nn_p4, nn_p5, nn_p6, nn_p7, nn_p8, nn_p9, nn_p10, nn_p20, nn_p21, nn_le, nn_lt, nn_eq, nn_cl, nn_in, nn_add, nn_mul, nn_en, nn_ne, nn_mn, nn_64] at g
      omega
    · rintro i6 l7 dd8 x9 ⟨⟩
      rw [s2]
      have f3 : rm_f i0 (ab_u i2 205 69 (rn_x (rn_i (rn_x y) v))) := rm_t f2 rm_9
      refine rm_101 (d := d + 1) (v := v) (t := rn_t A y) hW (rm_M hW hM f3) htl (by omega) (rn_de (x := rn_i (rn_x y) v)).2 ?_ (aS_ A v - 1) 0 (rn_d (rn_i (rn_x y) v)) (by omega) (Nat.add_zero _) rfl
      refine ih (v + 1) _ (by omega) (rm_t f3 rm_6) (by rw [uu_k (by omega)]; exact uu_e) (fun u hu => ?_)
      by_cases e : u = v
      · rw [e]
        exact uu_e
      · rw [uu_j e, uu_k (by omega)]
        exact z2 u (by omega)
theorem rm_35 {A : mA_} {n : Nat} {y : Int32} (hW : mt_W A) (hp : 0 < aV_ A) {i0 : Nat → Nat → Int32} (hM : mt_M A i0 l) (hn : n ≤ 1000) {Q : ab_Qt} (hQ : ∀ i2, rm_f i0 i2 → Q (some (some (.int (Int32.ofNat (rn_c A y n).2)))) (i2, l, dd, x) (ab_E0 sc)) :
    ∀ (r k : Nat) (i2 : Nat → Nat → Int32), n = k + r → rm_f i0 i2 → i2 205 69 = (rn_c A y k).1 → ab_Fr MX12_run (d + 2) Q 35 [some (.ref 205), none, some (.int (Int32.ofNat n)), some (.int (Int32.ofNat (rn_c A y k).2)), some (.int (Int32.ofNat k)), none, none, none, none] [] (0, 0) (i2, l, dd, x) (ab_E0 sc) := by
  intro r
  have w1 := hW.1
  have w4 := hW.2.2.2.1 hp
  induction r with
  | zero =>
    intro k i2 hk f2 s2
    refine tMX12_run_35 (d := d + 1) ⟨fun _ => by rw [show k = n by omega]; exact hQ i2 f2, fun c => ?_⟩
    simp (disch := omega) only [↓nn_m3, nn_p0, nn_p1, nn_p2, nn_p3, nn_p4, nn_p5, nn_p6, nn_p7, nn_p8, nn_p9, nn_p10, nn_p20, nn_p21, nn_le, nn_lt, nn_eq, nn_cl, nn_in, nn_add, nn_mul, nn_en, nn_ne, nn_mn, nn_64] at c
    omega
  | succ r ih =>
    intro k i2 hk f2 s2
    have hle := rn_c_le (A := A) (y := y) k
    refine tMX12_run_35 (d := d + 1) ⟨fun c => ?_, fun _ => ⟨_, _, md_draw (d := d), ?_⟩⟩
    · simp (disch := omega) only [↓nn_m3, nn_p0, nn_p1, nn_p2, nn_p3, nn_p4, nn_p5, nn_p6, nn_p7, nn_p8, nn_p9, nn_p10, nn_p20, nn_p21, nn_le, nn_lt, nn_eq, nn_cl, nn_in, nn_add, nn_mul, nn_en, nn_ne, nn_mn, nn_64] at c
      omega
    · rintro i6 l7 dd8 x9 ⟨⟩
      rw [s2]
      have f3 : rm_f i0 (ab_u i2 205 69 (rn_x (rn_c A y k).1)) := rm_t f2 rm_9
      refine rm_50 (d := d + 1) hW hp (rm_M hW hM f3) (rn_de (x := (rn_c A y k).1)).2 ?_ (aT_ A - 1) 0 (rn_d (rn_c A y k).1) (by omega) (Nat.add_zero _) rfl
      exact rm_83 (d := d) (k := k) (c := (rn_c A y k).2) (y := (rn_c A y k).1) hW hp hM (by omega) (by omega) (fun i3 g3 s3 => ih (k + 1) i3 (by omega) g3 s3) (aV_ A) 0 _ (by omega) f3 uu_e (fun u hu => absurd hu (Nat.not_lt_zero u))
theorem op_run {R : ab_S → Prop} {A : mA_} (hA : op_A R A) : la_c41 1310 sc (la_I R) := by
  rintro ⟨i, l, dd, x⟩ a1 a2 hI
  obtain ⟨hW, hA2⟩ := hA
  obtain ⟨m, e0, hm, hK, hM⟩ := hA2 _ _ _ _ hI
  have hz := mt_z30 hW hK
  have e1 : ((1 : Int32).toInt) = 1 := rfl
  have e1000 : ((1000 : Int32).toInt) = 1000 := rfl
  by_cases c : 0 < aV_ A ∧ ¬ a2 < 1 ∧ a2 ≤ 1000
  · obtain ⟨hp, c1, c2⟩ := c
    have c1' := c1
    have c2' := c2
    rw [Int32.lt_iff_toInt_lt] at c1'
    rw [Int32.le_iff_toInt_le] at c2'
    obtain ⟨n, hn, rfl⟩ := la_rep (a := a2) (m := 1001) (by omega) (by omega)
    refine ⟨Int32.ofNat (rn_c A a1 n).2, la_I R, ?_, ?_⟩
    · refine ab_ent (n := 2) okMX11_run.1 (fun G => Nat.le_of_ble_eq_true rfl) (fun Q hQ => ?_)
      refine tMX11_run_0 (d := 1310) ⟨m, e0, hm, _, _, mt_empty (d := 1309) hm, ?_⟩
      rintro i5 l6 dd7 x8 ⟨⟩
      rw [if_neg (fun z => by rw [hz] at z; omega)]
      refine ⟨fun z => absurd rfl z, fun _ => ⟨fun z => absurd z c1, fun _ => ⟨fun _ => ⟨m, e0, hm, _, _, mt_run (d := 1307) hW hp hm hK (by omega), ?_⟩, fun z => absurd c2 z⟩⟩⟩
      rintro i5 l6 dd7 x8 ⟨i2, ⟨⟩, f2⟩
      refine hQ _ (kp_I hI ⟨fun k j hk => ?_, ?_, ?_, ?_, ?_⟩ kp_lr kp_dr)
      · have nq : ∀ q, kp_s q = true → k ≠ q := fun q hq z => by
          rw [z, kp_sw hq] at hk
          cases hk
        have n2 : k ≠ 202 := fun z => by
          rw [z] at hk
          simp [la_ws] at hk
        rw [f2.1 k n2 (nq 203 rfl) (nq _ (kp_48s hm).1)]
      · rw [f2.1 5 (by decide) (by decide) (by rcases hm with rfl | rfl | rfl <;> decide)]
      · rw [f2.1 206 (by decide) (by decide) (by rcases hm with rfl | rfl | rfl <;> decide)]
      · rw [f2.1 4 (by decide) (by decide) (by rcases hm with rfl | rfl | rfl <;> decide)]
      · rw [f2.1 205 (by decide) (by decide) (by rcases hm with rfl | rfl | rfl <;> decide)]
    · rintro ⟨i, l, dd, x⟩ hI
      refine ab_ent (n := 2) okMX12_run.1 (fun G => Nat.le_of_ble_eq_true rfl) (fun Q hQ => ?_)
      refine tMX12_run_0 (d := 1310) ?_
      rintro i1 rfl
      have hI2 := la_thr (v := 0) (x2 := x) hI
      obtain ⟨m, e0, hm, hK, hM2⟩ := hA2 _ _ _ _ hI2
      rw [mt_z31 hW hM2]
      refine ⟨fun z => absurd z (by omega), fun _ => ⟨_, _, mn_isIn (d := 1309), ?_⟩⟩
      rintro i5 l6 dd7 x8 ⟨⟩
      rw [if_pos ⟨c1, by rw [Int32.lt_iff_toInt_lt]; omega⟩]
      refine ⟨fun _ => ?_, fun z => absurd z (by decide)⟩
      rintro i3 rfl
      refine rm_35 (d := 1309) (y := a1) (n := n) (i0 := ab_u i 205 0 0) hW hp hM2 (by omega) (fun i4 f4 => hQ _ (kp_I hI2 (rm_kp f4) kp_lr kp_dr)) n 0 _ (by omega) rm_9 uu_e
  · refine ⟨-1, la_I R, ?_, ?_⟩
    · refine ab_ent (n := 2) okMX11_run.1 (fun G => Nat.le_of_ble_eq_true rfl) (fun Q hQ => ?_)
      refine tMX11_run_0 (d := 1310) ⟨m, e0, hm, _, _, mt_empty (d := 1309) hm, ?_⟩
      rintro i5 l6 dd7 x8 ⟨⟩
      refine ⟨fun _ => hQ _ hI, fun g => ⟨fun _ => hQ _ hI, fun g2 => ⟨fun g3 => absurd ⟨?_, g2, g3⟩ c, fun _ => hQ _ hI⟩⟩⟩
      rcases Nat.eq_zero_or_pos (aV_ A) with z | z
      · rw [if_pos (hz.mpr z)] at g
        exact absurd g (by decide)
      · exact z
    · rintro ⟨i, l, dd, x⟩ hI
      refine ab_ent (n := 2) okMX12_run.1 (fun G => Nat.le_of_ble_eq_true rfl) (fun Q hQ => ?_)
      refine tMX12_run_0 (d := 1310) ?_
      rintro i1 rfl
      have hI2 := la_thr (v := 0) (x2 := x) hI
      obtain ⟨m, e0, hm, hK, hM2⟩ := hA2 _ _ _ _ hI2
      rw [mt_z31 hW hM2]
      refine ⟨fun _ => hQ _ hI2, fun g => ⟨_, _, mn_isIn (d := 1309), ?_⟩⟩
      rintro i5 l6 dd7 x8 ⟨⟩
      rw [if_neg (fun q => c ⟨by omega, q.1, by
        have h2 := q.2
        rw [Int32.lt_iff_toInt_lt] at h2
        rw [Int32.le_iff_toInt_le]
        omega⟩)]
      exact ⟨fun z => absurd rfl z, fun _ => hQ _ hI2⟩
end TQP2
