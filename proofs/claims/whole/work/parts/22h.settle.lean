section TQH2
variable {d : Nat} {sc : Nat × (Nat → Int32)} {i : Nat → Nat → Int32} {l : Nat → Nat → Int64} {dd : Nat → Nat → Value} {x : Nat}
/-- the class's votes kept: none where there is no sign -/
def kv_t (A : mA_) (vt : Nat → Nat → Nat) (v s : Nat) : Int32 := if v < aV_ A ∧ s < aS_ A v then Int32.ofNat (vt v s) else -1
theorem kv_11 {A : mA_} {m a n v : Nat} {vt : Nat → Nat → Nat} (hW : mt_W A) (hm : ab_isM m) (hk : (ab_E0 sc).1 a = .inr (0, n)) (hn : 21 ≤ n ∧ n < 2 ^ 31) (ha : 173 < a) (hv : v < 7) {i0 : Nat → Nat → Int32} (hK : mt_K A m i0) (hV : mt_Vc A i0 173 vt) {Q : ab_Qt} (hQ : ∀ i2, fr_o a a i0 i2 → (∀ u w, u < v + 1 → w < 3 → i2 a (3 * u + w) = kv_t A vt u w) → ab_Fr MX3_keepVotes (d + 3) Q 2 [some (.ref 169), some (.ref m), some (.ref a), some (.int (Int32.ofNat (v + 1))), none] [] (0, 0) (i2, l, dd, x) (ab_E0 sc)) :
    ∀ (r s : Nat) (i2 : Nat → Nat → Int32), 3 = s + r → fr_o a a i0 i2 → (∀ u w, u < v → w < 3 → i2 a (3 * u + w) = kv_t A vt u w) → (∀ w, w < s → i2 a (3 * v + w) = kv_t A vt v w) → ab_Fr MX3_keepVotes (d + 3) Q 11 [some (.ref 169), some (.ref m), some (.ref a), some (.int (Int32.ofNat v)), some (.int (Int32.ofNat s))] [] (0, 0) (i2, l, dd, x) (ab_E0 sc) := by
  intro r
  have w2 := hW.2.1
  induction r with
  | zero =>
    intro s i2 hs f2 z2 y2
    refine tMX3_keepVotes_11 (d := d + 2) hm hk ⟨fun _ => ?_, fun c => ?_⟩
    · rw [la_nx]
      refine hQ i2 f2 (fun u w hu hw => ?_)
      by_cases e : u = v
      · rw [e]
        exact y2 w (by omega)
      · exact z2 u w (by omega) hw
    · simp (disch := omega) only [↓nn_m3, nn_p0, nn_p1, nn_p2, nn_p3, nn_p4, nn_p5, nn_p6, nn_p7, nn_p8, nn_p9, nn_p10, nn_p20, nn_p21, nn_le, nn_lt, nn_eq, nn_cl, nn_in, nn_add, nn_mul, nn_en, nn_ne, nn_mn, nn_64] at c
      omega
  | succ r ih =>
    intro s i2 hs f2 z2 y2
    have hmc : m + 47 < a := by rcases hm with rfl | rfl | rfl <;> omega
    have hK2 : mt_K A m i2 := mt_K_f hm hK (fun k h1 h2 => f2 k (by omega)) hW
    have nx : ∀ z, z = kv_t A vt v s → ab_Fr MX3_keepVotes (d + 3) Q 11 [some (.ref 169), some (.ref m), some (.ref a), some (.int (Int32.ofNat v)), some (.int (Int32.ofNat (s + 1)))] [] (0, 0) (ab_u i2 a (3 * v + s) z, l, dd, x) (ab_E0 sc) := by
      intro z hz
      refine ih (s + 1) _ (by omega) (fr_u f2 (by omega)) (fun u w hu hw => ?_) (fun w hw => ?_)
      · rw [uu_j (by omega)]
        exact z2 u w hu hw
      · by_cases e : w = s
        · rw [e, uu_e, hz]
        · rw [uu_j (by omega)]
          exact y2 w (by omega)
    rcases Classical.em (v < aV_ A ∧ s < aS_ A v) with c | c
    · refine tMX3_keepVotes_11 (d := d + 2) hm hk ⟨fun c => ?_, fun _ => ⟨_, _, mt_hasSy (d := d) hW hm hK2 c.1 c.2, ?_⟩⟩
      · simp (disch := omega) only [↓nn_m3, nn_p0, nn_p1, nn_p2, nn_p3, nn_p4, nn_p5, nn_p6, nn_p7, nn_p8, nn_p9, nn_p10, nn_p20, nn_p21, nn_le, nn_lt, nn_eq, nn_cl, nn_in, nn_add, nn_mul, nn_en, nn_ne, nn_mn, nn_64] at c
        omega
      · rintro i6 l7 dd8 x9 ⟨⟩
        rw [nn_m3, nn_mul, nn_add, nn_cl (by omega), la_nx]
        refine ⟨fun z => absurd z (by decide), fun _ => ⟨la_vp (by omega) (by omega), la_vp (by omega) (by omega), ?_⟩⟩
        rintro i14 rfl
        refine nx _ ?_
        rw [f2 173 (by omega), hV v s c.1 c.2]
        exact (if_pos c).symm
    · have hn2 : ¬ cs_S A (Int32.ofNat v) (Int32.ofNat s) := by
        rintro ⟨v2, s2, h1, h2, h3, h4⟩
        have hS2 := hW.2.2.2.2.2.2.1 v2 h1
        rw [nn_eq (by omega) (by omega)] at h3
        rw [nn_eq (by omega) (by omega)] at h4
        exact c ⟨by omega, by rw [h3, h4]; exact h2⟩
      refine tMX3_keepVotes_11 (d := d + 2) hm hk ⟨fun c => ?_, fun _ => ⟨_, _, mt_hasSn (d := d) hW hm hK2 hn2, ?_⟩⟩
      · simp (disch := omega) only [↓nn_m3, nn_p0, nn_p1, nn_p2, nn_p3, nn_p4, nn_p5, nn_p6, nn_p7, nn_p8, nn_p9, nn_p10, nn_p20, nn_p21, nn_le, nn_lt, nn_eq, nn_cl, nn_in, nn_add, nn_mul, nn_en, nn_ne, nn_mn, nn_64] at c
        omega
      · rintro i6 l7 dd8 x9 ⟨⟩
        rw [nn_m3, nn_mul, nn_add, nn_cl (by omega), la_nx]
        refine ⟨fun _ => ⟨la_vp (by omega) (by omega), ?_⟩, fun z => absurd rfl z⟩
        rintro i14 rfl
        exact nx _ (if_neg c).symm
theorem kv_2 {A : mA_} {m a n : Nat} {vt : Nat → Nat → Nat} (hW : mt_W A) (hm : ab_isM m) (hk : (ab_E0 sc).1 a = .inr (0, n)) (hn : 21 ≤ n ∧ n < 2 ^ 31) (ha : 173 < a) {i0 : Nat → Nat → Int32} (hK : mt_K A m i0) (hV : mt_Vc A i0 173 vt) {Q : ab_Qt} (hQ : ∀ i2, fr_o a a i0 i2 → (∀ u w, u < 7 → w < 3 → i2 a (3 * u + w) = kv_t A vt u w) → Q (some none) (i2, l, dd, x) (ab_E0 sc)) :
    ∀ (r v : Nat) (i2 : Nat → Nat → Int32), 7 = v + r → fr_o a a i0 i2 → (∀ u w, u < v → w < 3 → i2 a (3 * u + w) = kv_t A vt u w) → ab_Fr MX3_keepVotes (d + 3) Q 2 [some (.ref 169), some (.ref m), some (.ref a), some (.int (Int32.ofNat v)), none] [] (0, 0) (i2, l, dd, x) (ab_E0 sc) := by
  intro r
  induction r with
  | zero =>
    intro v i2 hv f2 z2
    refine tMX3_keepVotes_2 (d := d + 2) hm hk ⟨fun _ => hQ i2 f2 (fun u w hu hw => z2 u w (by omega) hw), fun c => ?_⟩
    simp (disch := omega) only [↓nn_m3, nn_p0, nn_p1, nn_p2, nn_p3, nn_p4, nn_p5, nn_p6, nn_p7, nn_p8, nn_p9, nn_p10, nn_p20, nn_p21, nn_le, nn_lt, nn_eq, nn_cl, nn_in, nn_add, nn_mul, nn_en, nn_ne, nn_mn, nn_64] at c
    omega
  | succ r ih =>
    intro v i2 hv f2 z2
    have hmc : m + 47 < a := by rcases hm with rfl | rfl | rfl <;> omega
    refine tMX3_keepVotes_2 (d := d + 2) hm hk ⟨fun c => ?_, fun _ => ?_⟩
    · simp (disch := omega) only [↓nn_m3, nn_p0, nn_p1, nn_p2, nn_p3, nn_p4, nn_p5, nn_p6, nn_p7, nn_p8, nn_p9, nn_p10, nn_p20, nn_p21, nn_le, nn_lt, nn_eq, nn_cl, nn_in, nn_add, nn_mul, nn_en, nn_ne, nn_mn, nn_64] at c
      omega
    · exact kv_11 (d := d) (i0 := i2) hW hm hk hn ha (by omega) (mt_K_f hm hK (fun k h1 h2 => f2 k (by omega)) hW) (mt_Vc_o hV f2 (by omega)) (fun i3 f3 z3 => ih (v + 1) i3 (by omega) (fr_t f2 f3) z3) 3 0 i2 (by omega) fr_r z2 (fun w hw => absurd hw (Nat.not_lt_zero w))
theorem mt_keep {A : mA_} {m a n : Nat} {vt : Nat → Nat → Nat} (hW : mt_W A) (hm : ab_isM m) (hk : (ab_E0 sc).1 a = .inr (0, n)) (hn : 21 ≤ n ∧ n < 2 ^ 31) (ha : 173 < a) (hK : mt_K A m i) (hV : mt_Vc A i 173 vt) : ab_Sp MX3_keepVotes (d + 3) [.ref 169, .ref m, .ref a] (i, l, dd, x) (ab_E0 sc) none (fun σ => ∃ i2, σ = (i2, l, dd, x) ∧ fr_o a a i i2 ∧ ∀ u w, u < 7 → w < 3 → i2 a (3 * u + w) = kv_t A vt u w) := by
  refine ab_ent (n := 2) okMX3_keepVotes.1 (fun G => Nat.le_of_ble_eq_true rfl) (fun Q hQ => ?_)
  refine tMX3_keepVotes_0 (d := d + 2) hm hk (kv_2 (d := d) (i0 := i) hW hm hk hn ha hK hV ?_ 7 0 i (by omega) fr_r (fun u w hu _ => absurd hu (Nat.not_lt_zero u)))
  intro i2 f2 z2
  exact hQ _ ⟨i2, rfl, f2, z2⟩
theorem mt_countT {A : mA_} {m : Nat} {vt : Nat → Nat → Nat} (hW : mt_W A) (hp : 0 < aV_ A) (ht : mt_vt A vt) (hm : ab_isM m) (hK : mt_K A m i) (hV : mt_Vc A i 173 vt) : ab_Sp MX3_countTrial (d + 4) [.ref 169, .ref m] (i, l, dd, x) (ab_E0 sc) none (fun σ => ∃ i2 l2, σ = (i2, l2, ab_u dd 160 0 (.ref m), x) ∧ fr_o 161 168 i i2 ∧ rw_h 172 l l2 ∧ ∀ t u, t < 3 → u < 3 → l2 172 (3 * t + u) = Int64.ofNat (cs_cm A vt t u)) := by
  refine ab_ent (n := 1) okMX3_countTrial.1 (fun G => Nat.le_of_ble_eq_true rfl) (fun Q hQ => ?_)
  refine tMX3_countTrial_0 (d := d + 3) hm ⟨_, mt_voting (d := d) (n := 21) hW hm hK rfl (by omega) (by omega) hV (vt_9 hW ht), ?_⟩
  rintro i5 l6 dd7 x8 ⟨i2, ⟨⟩, f2, R2⟩
  refine ⟨_, rw_sumUp (d := d) (n := 9) hW hp hm uu_e (gr_cb hW (vt_9 hW ht)) rfl (by omega) (by omega) (mt_K_o hm hK f2 (by omega) hW) R2, ?_⟩
  rintro i5 l6 dd7 x8 ⟨i3, l3, ⟨⟩, g3, h3, z3⟩
  refine hQ _ ⟨_, _, rfl, fr_t (fr_w f2 (by omega)) (fr_w (rw_g_o g3) (by omega)), h3, fun t u ht2 hu => ?_⟩
  rw [z3 t u ht2 hu]
  exact congrArg Int64.ofNat (gr_sum (lam := aL_ A) hW (fun _ => gr_v))
/-- the round that settles, of n rounds from k on: none, or its number -/
def st_f (A : mA_) : Nat → Nat → Option Nat
  | 0, _ => none
  | n + 1, k => if st_c A (st_n A k) (aV_ A) = 0 then some (k + 1) else st_f A n (k + 1)
/-- ints of the class that settle writes -/
def st_Q (A : mA_) (i : Nat → Nat → Int32) (l : Nat → Nat → Int64) (dd : Nat → Nat → Value) (i2 : Nat → Nat → Int32) (l2 : Nat → Nat → Int64) (d2 : Nat → Nat → Value) (vt : Nat → Nat → Nat) : Prop := (∀ k, ¬ (161 ≤ k ∧ k ≤ 168) → k ≠ 173 → k ≠ 174 → i2 k = i k) ∧ (∀ u w, u < 7 → w < 3 → i2 174 (3 * u + w) = kv_t A vt u w) ∧ (∀ k j, k ≠ 165 → k ≠ 170 → k ≠ 172 → ¬ (k = 169 ∧ (j = 7 ∨ j = 8)) → l2 k j = l k j) ∧ (l2 169 7 = Int64.ofNat (cs_right A vt) ∧ l2 169 8 = Int64.ofNat (cs_lost A vt)) ∧ kp_d dd d2
theorem st_28 {A : mA_} {m : Nat} {F : Option Nat} (hW : mt_W A) (hp : 0 < aV_ A) (hm : ab_isM m) {i0 : Nat → Nat → Int32} {l0 : Nat → Nat → Int64} {d0 : Nat → Nat → Value} (hK : mt_K A m i0) {Q : ab_Qt} (hN : ∀ i2 l2 d2, F = none → st_P m i0 l0 d0 i2 l2 d2 → Q (some (some (.int (-1)))) (i2, l2, d2, x) (ab_E0 sc)) (hS : ∀ r i2 l2 d2, F = some r → st_Q A i0 l0 d0 i2 l2 d2 (st_n A r) → Q (some (some (.int (Int32.ofNat r)))) (i2, l2, d2, x) (ab_E0 sc)) :
    ∀ (n k : Nat) (i2 : Nat → Nat → Int32) (l2 : Nat → Nat → Int64) (d2 : Nat → Nat → Value), 50 = k + n → F = st_f A n k → st_P m i0 l0 d0 i2 l2 d2 → mt_Vc A i2 173 (st_n A k) → ab_Fr MX3_settleVotes (d + 6) Q 28 [some (.ref 169), some (.ref m), some (.int (Int32.ofNat (k + 1)))] [] (0, 0) (i2, l2, d2, x) (ab_E0 sc) := by
  intro n
  induction n with
  | zero =>
    intro k i2 l2 d2 hk he P2 V2
    refine tMX3_settleVotes_28 (d := d + 5) hm ⟨fun _ => hN i2 l2 d2 he P2, fun c => ?_⟩
    rw [show (50 : Int32) = Int32.ofNat 50 from rfl, nn_lt (by omega) (by omega)] at c
    omega
  | succ n ih =>
    intro k i2 l2 d2 hk he P2 V2
    have hK2 := mt_K_o hm hK (st_of P2.1) (by omega) hW
    have ht := st_n_t hW k
    refine tMX3_settleVotes_28 (d := d + 5) hm ⟨fun c => ?_, fun _ => ⟨_, _, mt_changes (d := d) hW ht hm hK2 V2, ?_⟩⟩
    · rw [show (50 : Int32) = Int32.ofNat 50 from rfl, nn_lt (by omega) (by omega)] at c
      omega
    · rintro i5 l6 dd7 x8 ⟨i3, l3, d3, ⟨⟩, P3, V3⟩
      have P4 : st_P m i0 l0 d0 i5 l6 dd7 := ⟨st_ot P2.1 P3.1, fun q a b => (P3.2.1 q a b).trans (P2.2.1 q a b), kp_dt P2.2.2.1 P3.2.2.1, fun h => P3.2.2.2 (P2.2.2.2 h)⟩
      unfold st_f at he
      rcases st_c01 (A := A) (vt := st_n A k) (aV_ A) with z | z
      · rw [z] at he ⊢
        rw [if_pos rfl] at he
        refine ⟨fun y => absurd rfl y, fun _ => ?_⟩
        have hK4 := mt_K_o hm hK (st_of P4.1) (by omega) hW
        have V3' : mt_Vc A i5 173 (st_n A (k + 1)) := V3
        have ht3 := st_n_t hW (k + 1)
        refine ⟨_, mt_keep (d := d + 2) (n := 21) (a := 174) hW hm rfl (by omega) (by omega) hK4 V3', ?_⟩
        rintro i6 l7 dd8 x9 ⟨i7, ⟨⟩, f7, z7⟩
        have hK7 : mt_K A m i6 := mt_K_o hm hK4 f7 (by omega) hW
        refine ⟨_, mt_countT (d := d + 1) hW hp ht3 hm hK7 (mt_Vc_o V3' f7 (by omega)), ?_⟩
        rintro i8 l9 dd10 x11 ⟨i9, l10, ⟨⟩, f9, h9, z9⟩
        refine ⟨_, _, mt_rightOf (d := d + 4) (n := 9) (F := cs_cm A (st_n A (k + 1))) rfl (by omega) z9, ?_⟩
        rintro i12 l13 dd14 x15 ⟨⟩
        rintro l39 rfl
        rw [cs_rt hW hp]
        refine ⟨_, _, mt_lostBy (d := d + 4) (n := 9) (K := aK_ A 7) (F := cs_cm A (st_n A (k + 1))) (Or.inl ⟨m, hm, rfl⟩) rfl (mt_KLo hW (mt_K_o hm hK7 f9 (by omega) hW)) (fun t e ht he => by rw [uu_k (by omega)]; exact z9 t e ht he) (by omega), ?_⟩
        rintro i16 l17 dd18 x19 ⟨⟩
        rintro l50 rfl
        rw [cs_tb hW hp]
        refine hS (k + 1) _ _ _ he ⟨fun q hq hq3 hq4 => ?_, fun u w hu hw => ?_, fun q j a b c e => ?_, ⟨?_, uu_e⟩, kp_dt P4.2.2.1 (kp_160 hm)⟩
        · rw [f9 q (by omega), f7 q (by omega)]
          exact P4.1 q (by omega) hq3
        · rw [f9 174 (by omega)]
          exact z7 u w hu hw
        · have e1 : ∀ (y z : Int64), ab_u (ab_u l9 169 7 y) 169 8 z q j = l9 q j := fun y z => by
            unfold ab_u
            rw [if_neg (fun h => e ⟨h.1, Or.inr h.2⟩), if_neg (fun h => e ⟨h.1, Or.inl h.2⟩)]
          rw [e1, h9 q a c]
          exact congrFun (P4.2.1 q a b) j
        · rw [uu_j (by omega)]
          exact uu_e
      · rw [z] at he ⊢
        rw [if_neg (by omega)] at he
        refine ⟨fun _ => ?_, fun y => absurd y (by decide)⟩
        rw [la_nx]
        exact ih (k + 1) _ _ _ (by omega) he P4 V3
theorem st_2 {A : mA_} {m : Nat} (hW : mt_W A) (hm : ab_isM m) {i0 : Nat → Nat → Int32} (hK : mt_K A m i0) {Q : ab_Qt} (hQ : ∀ i2, fr_o 173 173 i0 i2 → mt_Vc A i2 173 (aO_ A) → ab_Fr MX3_settleVotes (d + 6) Q 28 [some (.ref 169), some (.ref m), some (.int (Int32.ofNat 1))] [] (0, 0) (i2, l, dd, x) (ab_E0 sc)) :
    ∀ (n k : Nat) (i2 : Nat → Nat → Int32), 21 = k + n → fr_o 173 173 i0 i2 → (∀ j, j < k → i2 173 j = i0 (m + 47) j) → ab_Fr MX3_settleVotes (d + 6) Q 2 [some (.ref 169), some (.ref m), some (.int (Int32.ofNat k))] [] (0, 0) (i2, l, dd, x) (ab_E0 sc) := by
  intro n
  have w2 := hW.2.1
  have hmc : m + 47 < 173 := by rcases hm with rfl | rfl | rfl <;> omega
  induction n with
  | zero =>
    intro k i2 hk f2 z2
    refine tMX3_settleVotes_2 (d := d + 5) hm ⟨fun _ => hQ i2 f2 (fun v s hv hs => ?_), fun c => ?_⟩
    · have h7 := hW.2.2.2.2.2.2.1 v hv
      rw [z2 _ (by omega)]
      exact mt_KV hK v s hv hs
    · simp (disch := omega) only [↓nn_m3, nn_p0, nn_p1, nn_p2, nn_p3, nn_p4, nn_p5, nn_p6, nn_p7, nn_p8, nn_p9, nn_p10, nn_p20, nn_p21, nn_le, nn_lt, nn_eq, nn_cl, nn_in, nn_add, nn_mul, nn_en, nn_ne, nn_mn, nn_64] at c
      omega
  | succ n ih =>
    intro k i2 hk f2 z2
    refine tMX3_settleVotes_2 (d := d + 5) hm ⟨fun c => ?_, fun _ => ?_⟩
    · simp (disch := omega) only [↓nn_m3, nn_p0, nn_p1, nn_p2, nn_p3, nn_p4, nn_p5, nn_p6, nn_p7, nn_p8, nn_p9, nn_p10, nn_p20, nn_p21, nn_le, nn_lt, nn_eq, nn_cl, nn_in, nn_add, nn_mul, nn_en, nn_ne, nn_mn, nn_64] at c
      omega
    · simp (disch := omega) only [↓nn_m3, nn_p0, nn_p1, nn_p2, nn_p3, nn_p4, nn_p5, nn_p6, nn_p7, nn_p8, nn_p9, nn_p10, nn_p20, nn_p21, nn_le, nn_lt, nn_eq, nn_cl, nn_in, nn_add, nn_mul, nn_en, nn_ne, nn_mn, nn_64]
      refine ⟨trivial, trivial, ?_⟩
      rintro i3 rfl
      refine ih (k + 1) _ (by omega) (fr_u f2 (by omega)) (fun j hj => ?_)
      by_cases e : j = k
      · rw [e, uu_e, f2 (m + 47) (by omega)]
      · rw [uu_j e]
        exact z2 j (by omega)
end TQH2
