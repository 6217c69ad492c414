/-! LINES, the class: voter -/
section TKJ
variable {d : Nat} {sc : Nat × (Nat → Int32)} {i : Nat → Nat → Int32} {l : Nat → Nat → Int64} {dd : Nat → Nat → Value} {x : Nat}
theorem ct_vbegin {c S : Nat} (hc : ab_isV c) : ab_Sp MX9_begin (d + 1) [.ref c, .int (Int32.ofNat S)] (i, l, dd, x) (ab_E0 sc) none (fun σ => ∃ i2, σ = (i2, l, dd, x) ∧ (∀ k j, ¬ (k = c ∧ j < 3) → k ≠ c + 1 → k ≠ c + 2 → i2 k j = i k j) ∧ i2 c 0 = Int32.ofNat S ∧ i2 c 1 = 1 ∧ i2 c 2 = 0 ∧ (∀ j, j < 9 → i2 (c + 1) j = 0) ∧ ∀ j, j < 9 → i2 (c + 2) j = -1) := by
  refine ab_ent (n := 1) okMX9_begin.1 (fun G => Nat.le_of_ble_eq_true rfl) (fun Q hQ => ?_)
  refine tMX9_begin_0 (d := d) hc ?_
  rintro i1 rfl i3 rfl i5 rfl
  have go : ∀ (n k : Nat) (i2 : Nat → Nat → Int32), 9 = k + n → (∀ a j, ¬ (a = c ∧ j < 3) → a ≠ c + 1 → a ≠ c + 2 → i2 a j = i a j) → i2 c 0 = Int32.ofNat S → i2 c 1 = 1 → i2 c 2 = 0 → (∀ j, j < k → i2 (c + 1) j = 0) → (∀ j, j < k → i2 (c + 2) j = -1) → ab_Fr MX9_begin (d + 1) Q 17 [some (.ref c), none, some (.int (Int32.ofNat k))] [] (0, 0) (i2, l, dd, x) (ab_E0 sc) := by
    intro n
    induction n with
    | zero =>
      intro k i2 hk hF h0 h1 h2 ha hb
      refine tMX9_begin_17 (d := d) hc ⟨fun _ => hQ _ ⟨i2, rfl, hF, h0, h1, h2, fun j hj => ha j (by omega), fun j hj => hb j (by omega)⟩, fun y => ?_⟩
      rw [nn_p9, nn_le (by omega) (by omega)] at y
      omega
    | succ n ih =>
      intro k i2 hk hF h0 h1 h2 ha hb
      refine tMX9_begin_17 (d := d) hc ⟨fun y => ?_, fun _ => ⟨la_vp (by omega) (by omega), ?_⟩⟩
      · rw [nn_p9, nn_le (by omega) (by omega)] at y
        omega
      · rintro i7 rfl
        refine ⟨la_vp (by omega) (by omega), ?_⟩
        rintro i9 rfl
        rw [nn_cl (by omega), la_nx]
        refine ih (k + 1) _ (by omega) (fun a j b1 b2 b3 => by rw [uu_k b3, uu_k b2]; exact hF a j b1 b2 b3) ?_ ?_ ?_ (fun j hj => ?_) (fun j hj => ?_)
        · rw [uu_k (by omega), uu_k (by omega)]; exact h0
        · rw [uu_k (by omega), uu_k (by omega)]; exact h1
        · rw [uu_k (by omega), uu_k (by omega)]; exact h2
        · rw [uu_k (by omega)]
          by_cases e : j = k
          · rw [e, uu_e]
          · rw [uu_j e]
            exact ha j (by omega)
        · by_cases e : j = k
          · rw [e, uu_e]
          · rw [uu_j e, uu_k (by omega)]
            exact hb j (by omega)
  exact go 9 0 _ rfl (fun a j b1 b2 b3 => by
    rw [show ab_u (ab_u (ab_u i c 0 (Int32.ofNat S)) c 1 1) c 2 0 a j = i a j from by
      rw [show ab_u (ab_u (ab_u i c 0 (Int32.ofNat S)) c 1 1) c 2 0 a j = ab_u (ab_u i c 0 (Int32.ofNat S)) c 1 1 a j from if_neg (by omega), show ab_u (ab_u i c 0 (Int32.ofNat S)) c 1 1 a j = ab_u i c 0 (Int32.ofNat S) a j from if_neg (by omega), show ab_u i c 0 (Int32.ofNat S) a j = i a j from if_neg (by omega)]]) (by rw [uu_j (by omega), uu_j (by omega), uu_e]) (by rw [uu_j (by omega), uu_e]) uu_e (fun j hj => absurd hj (Nat.not_lt_zero j)) (fun j hj => absurd hj (Nat.not_lt_zero j))
/-- likes told so far -/
def vL_ (c v S t s : Nat) (st : ps_) (i : Nat → Nat → Int32) : Prop := ∀ u r, u < 3 → r < S → i (c + 1) (3 * u + r) = if u < t ∨ (u = t ∧ r < s) then Int32.ofNat (st 5 (9 * v + 3 * r + u)) else 0
def vF_ (c : Nat) (i i2 : Nat → Nat → Int32) (l l2 : Nat → Nat → Int64) : Prop := (∀ k j, k ≠ c + 1 → ¬ (k = 157 ∧ (j = 0 ∨ 4 ≤ j)) → i2 k j = i k j) ∧ ∀ k j, ¬ (k = 157 ∧ j = 7) → l2 k j = l k j
theorem vF_s {c : Nat} {i2 i3 : Nat → Nat → Int32} {l2 l3 : Nat → Nat → Int64} (h : vF_ c i i2 l l2) (f : sf_ i2 i3 l2 l3) : vF_ c i i3 l l3 := ⟨fun k j a b => (f.1 k j b).trans (h.1 k j a b), fun k j a => (f.2 k j a).trans (h.2 k j a)⟩
theorem vF_u {c j : Nat} {v : Int32} {i2 : Nat → Nat → Int32} {l2 : Nat → Nat → Int64} (h : vF_ c i i2 l l2) : vF_ c i (ab_u i2 (c + 1) j v) l l2 := ⟨fun k q a b => by rw [uu_k a]; exact h.1 k q a b, h.2⟩
/-- a truth's likes -/
theorem cv_106 {z : (Nat → Nat) × Nat} {c v S t : Nat} {i0 : Nat → Nat → Int32} {l0 : Nat → Nat → Int64} {r : rs_} (hT : ct_z z i0) (hc : ab_isV c) (hc7 : c + 5 < 157 ∧ 5 < c) (hS : S ≤ 3) (ht : t < 3) (hS0 : i0 c 0 = Int32.ofNat S) {Q : ab_Qt} (hY : ∀ i2 l2, r.1 = 0 → vF_ c i0 i2 l0 l2 → i2 157 0 = 0 → i2 157 5 = Int32.ofNat r.2.1 → vL_ c v S (t + 1) 0 r.2.2 i2 → ab_Fr MX2_readVoter (d + 4) Q 90 [some (.ref 157), some (.ref c), some (.int (Int32.ofNat (t + 1))), none, none] [] (0, 0) (i2, l2, dd, x) (ab_E0 sc)) (hN : ∀ i2 l2, r.1 ≠ 0 → vF_ c i0 i2 l0 l2 → i2 157 0 = Int32.ofNat r.1 → i2 157 4 = Int32.ofNat r.2.1 → Q (some (some (.int 0))) (i2, l2, dd, x) (ab_E0 sc)) :
    ∀ (n s sum : Nat) (st1 : ps_) (q : Nat) (i2 : Nat → Nat → Int32) (l2 : Nat → Nat → Int64), S = s + (n + 1) → sum ≤ 20 * s → q ≤ z.2 → r = v_s z v t (n + 1) s sum st1 q → vF_ c i0 i2 l0 l2 → i2 157 0 = 0 → i2 157 5 = Int32.ofNat q → vL_ c v S t s st1 i2 → ab_Fr MX2_readVoter (d + 4) Q 106 [some (.ref 157), some (.ref c), some (.int (Int32.ofNat t)), some (.int (Int32.ofNat sum)), some (.int (Int32.ofNat s))] [] (0, 0) (i2, l2, dd, x) (ab_E0 sc) := by
  intro n
  induction n with
  | zero =>
    intro s sum st1 q i2 l2 hs hsum hq er hF h0 h5 hL
    have e0 : i2 c 0 = Int32.ofNat S := by rw [hF.1 _ _ (by omega) (by omega)]; exact hS0
    have hT2 : ct_z z i2 := rf_z hT (fun k j hk => hF.1 k j (by omega) (by omega))
    have e : v_s z v t (0 + 1) s sum st1 q = ch_ (v_c z 0 sum q) (z_p z q) st1 (0, z_e z q, ab_u st1 5 (9 * v + 3 * s + t) (z_v z q)) := rfl
    rw [e] at er
    refine tMX2_readVoter_106 (d := d + 3) hc ⟨fun y => ?_, fun _ => ⟨_, _, ct_num (d := d) (a := 0) (b := 20) hT2 hq h5 (by omega) (by omega), ?_⟩⟩
    · rw [e0, nn_le (by omega) (by omega)] at y
      omega
    · rintro i16 l17 dd18 x19 ⟨i3, l3, ⟨⟩, f3, y3, n3⟩
      by_cases c3 : c_num z 0 20 q = 0
      · rw [c3]
        obtain ⟨k3, w1, w2⟩ := c_num0 c3
        obtain ⟨y30, y31, -, -⟩ := y3 c3
        have g3 := g_e hq (show z_k z q < 3 by omega)
        rw [y31.2.2.2.2.2 k3, nn_p3, nn_mul, nn_add, nn_cl (by omega), Nat.mul_comm t 3]
        refine ⟨fun _ => ⟨la_vp (by omega) (by omega), ?_⟩, fun y => absurd y rc_y⟩
        rintro i22 rfl
        rw [uu_k (by omega), y31.2.2.2.2.2 k3, nn_add, la_nx]
        refine tMX2_readVoter_106 (d := d + 3) hc ⟨fun _ => ?_, fun y => ?_⟩
        · have eN : (20 : Int32) = Int32.ofNat 20 := rfl
          rw [eN, nn_eq (by omega) (by omega), la_nx]
          refine ⟨fun y20 => ?_, fun y20 => ⟨_, _, ct_fail (d := d + 2), ?_⟩⟩
          · have hv : v_c z 0 sum q = 0 := by
              unfold v_c
              rw [if_pos k3, if_pos ⟨w2, fun _ => y20⟩]
            rw [hv] at er
            have er2 : r = (0, z_e z q, ab_u st1 5 (9 * v + 3 * s + t) (z_v z q)) := er
            refine hY _ l17 (by rw [er2]) (vF_u (vF_s hF f3)) ?_ ?_ (fun u r' hu hr' => ?_)
            · rw [uu_k (by omega), y30]
              exact h0
            · rw [uu_k (by omega), er2]
              exact y31.2.2.1 (by omega)
            · rw [er2]
              show _ = if u < t + 1 ∨ (u = t + 1 ∧ r' < 0) then Int32.ofNat (ab_u st1 5 (9 * v + 3 * s + t) (z_v z q) 5 (9 * v + 3 * r' + u)) else 0
              by_cases eu : u = t ∧ r' = s
              · obtain ⟨rfl, rfl⟩ := eu
                rw [uu_e, uu_e, if_pos (by omega)]
              · rw [uu_j (by omega), uu_j (by omega), f3.1 _ _ (by omega), hL u r' hu hr']
                by_cases eu2 : u < t ∨ (u = t ∧ r' < s)
                · rw [if_pos eu2, if_pos (by omega)]
                · rw [if_neg eu2, if_neg (by omega)]
          · rintro i7 l8 dd9 x10 ⟨⟩
            have hv : v_c z 0 sum q = 2 := by
              unfold v_c
              rw [if_pos k3, if_neg (fun y => y20 (y.2 rfl))]
            rw [hv] at er
            have er2 : r = (2, z_p z q, st1) := er
            refine ⟨Or.inl rfl, hN _ l17 (by rw [er2]; omega) (vF_s (vF_u (vF_s hF f3)) (sf_u sf_r (Or.inl rfl))) ?_ ?_⟩
            · rw [uu_e, er2]
              rfl
            · rw [uu_j (by omega), uu_k (by omega), er2]
              exact y31.1
        · rw [uu_k (by omega), f3.1 c 0 (by omega), e0, nn_le (by omega) (by omega)] at y
          omega
      · rw [rc_n c3]
        have hv : v_c z 0 sum q = c_num z 0 20 q := by
          unfold v_c c_num at *
          by_cases k3 : z_k z q = 1
          · rw [if_pos k3] at c3 ⊢
            rw [if_pos k3]
            by_cases w : 0 ≤ z_v z q ∧ z_v z q ≤ 20
            · rw [if_pos w] at c3
              exact absurd rfl c3
            · rw [if_neg w, if_neg (by omega)]
          · rw [if_neg k3, if_neg k3]
        rw [hv] at er
        have er2 : r = (c_num z 0 20 q, z_p z q, st1) := er.trans (if_neg c3)
        refine ⟨fun y => absurd rfl y, fun _ => hN i16 l17 (by rw [er2]; exact c3) (vF_s hF f3) ?_ ?_⟩
        · rw [er2]; exact (n3 c3).1
        · rw [er2]; exact (n3 c3).2
  | succ n ih =>
    intro s sum st1 q i2 l2 hs hsum hq er hF h0 h5 hL
    have e0 : i2 c 0 = Int32.ofNat S := by rw [hF.1 _ _ (by omega) (by omega)]; exact hS0
    have hT2 : ct_z z i2 := rf_z hT (fun k j hk => hF.1 k j (by omega) (by omega))
    have e : v_s z v t (n + 1 + 1) s sum st1 q = ch_ (v_c z (n + 1) sum q) (z_p z q) st1 (v_s z v t (n + 1) (s + 1) (sum + z_v z q) (ab_u st1 5 (9 * v + 3 * s + t) (z_v z q)) (z_e z q)) := rfl
    rw [e] at er
    have hv : v_c z (n + 1) sum q = c_num z 0 20 q := by
      unfold v_c c_num
      by_cases k3 : z_k z q = 1
      · rw [if_pos k3, if_pos k3]
        by_cases w : 0 ≤ z_v z q ∧ z_v z q ≤ 20
        · rw [if_pos w, if_pos ⟨w.2, fun y => by omega⟩]
        · rw [if_neg w, if_neg (by omega)]
      · rw [if_neg k3, if_neg k3]
    rw [hv] at er
    refine tMX2_readVoter_106 (d := d + 3) hc ⟨fun y => ?_, fun _ => ⟨_, _, ct_num (d := d) (a := 0) (b := 20) hT2 hq h5 (by omega) (by omega), ?_⟩⟩
    · rw [e0, nn_le (by omega) (by omega)] at y
      omega
    · rintro i16 l17 dd18 x19 ⟨i3, l3, ⟨⟩, f3, y3, n3⟩
      by_cases c3 : c_num z 0 20 q = 0
      · have er2 := er.trans (if_pos c3)
        rw [c3]
        obtain ⟨k3, w1, w2⟩ := c_num0 c3
        obtain ⟨y30, y31, -, -⟩ := y3 c3
        have g3 := g_e hq (show z_k z q < 3 by omega)
        rw [y31.2.2.2.2.2 k3, nn_p3, nn_mul, nn_add, nn_cl (by omega), Nat.mul_comm t 3]
        refine ⟨fun _ => ⟨la_vp (by omega) (by omega), ?_⟩, fun y => absurd y rc_y⟩
        rintro i22 rfl
        rw [uu_k (by omega), y31.2.2.2.2.2 k3, nn_add, la_nx]
        refine ih (s + 1) (sum + z_v z q) (ab_u st1 5 (9 * v + 3 * s + t) (z_v z q)) (z_e z q) _ l17 (by omega) (by omega) g3.2 er2 (vF_u (vF_s hF f3)) ?_ ?_ (fun u r' hu hr' => ?_)
        · rw [uu_k (by omega), y30]
          exact h0
        · rw [uu_k (by omega)]
          exact y31.2.2.1 (by omega)
        · by_cases eu : u = t ∧ r' = s
          · obtain ⟨rfl, rfl⟩ := eu
            rw [uu_e, uu_e, if_pos (by omega)]
          · rw [uu_j (by omega), uu_j (by omega), f3.1 _ _ (by omega), hL u r' hu hr']
            by_cases eu2 : u < t ∨ (u = t ∧ r' < s)
            · rw [if_pos eu2, if_pos (by omega)]
            · rw [if_neg eu2, if_neg (by omega)]
      · rw [rc_n c3]
        have er2 : r = (c_num z 0 20 q, z_p z q, st1) := er.trans (if_neg c3)
        refine ⟨fun y => absurd rfl y, fun _ => hN i16 l17 (by rw [er2]; exact c3) (vF_s hF f3) ?_ ?_⟩
        · rw [er2]; exact (n3 c3).1
        · rw [er2]; exact (n3 c3).2
/-- all truths' likes, the voter counted, the stop -/
theorem cv_90 {z : (Nat → Nat) × Nat} {m v S T : Nat} {i0 : Nat → Nat → Int32} {l0 : Nat → Nat → Int64} {r : rs_} (hT : ct_z z i0) (hm : ab_isM m) (hd : dd 157 2 = .ref m) (hv : v < 7) (hS : 2 ≤ S ∧ S ≤ 3) (hT3 : T ≤ 3) (hS0 : i0 (m + 5 + 6 * v) 0 = Int32.ofNat S) (hm0 : i0 m 0 = Int32.ofNat T) {Q : ab_Qt} (hY : ∀ i2 l2, r.1 = 0 → r.2.1 ≤ z.2 → vF_ (m + 5 + 6 * v) i0 i2 l0 l2 → i2 157 0 = 0 → i2 157 5 = Int32.ofNat r.2.1 → vL_ (m + 5 + 6 * v) v S T 0 r.2.2 i2 → ∀ i4, i4 = ab_u i2 m 1 ((i2 m 1) + 1) → ∃ (r6 : Int32) (P7 : ab_S → Prop), ab_Sp MX2_stop (d + 3) [.ref 157] (i4, l2, dd, x) (ab_E0 sc) (some (.int r6)) P7 ∧ ∀ i10 l11 dd12 x13, P7 (i10, l11, dd12, x13) → (r6 = 0 ∨ r6 = 1) ∧ Q (some (some (.int r6))) (i10, l11, dd12, x13) (ab_E0 sc)) (hN : ∀ i2 l2, r.1 ≠ 0 → vF_ (m + 5 + 6 * v) i0 i2 l0 l2 → i2 157 0 = Int32.ofNat r.1 → i2 157 4 = Int32.ofNat r.2.1 → Q (some (some (.int 0))) (i2, l2, dd, x) (ab_E0 sc)) :
    ∀ (n t : Nat) (st1 : ps_) (q : Nat) (i2 : Nat → Nat → Int32) (l2 : Nat → Nat → Int64), T = t + n → q ≤ z.2 → r = v_t z v S n t st1 q → vF_ (m + 5 + 6 * v) i0 i2 l0 l2 → i2 157 0 = 0 → i2 157 5 = Int32.ofNat q → vL_ (m + 5 + 6 * v) v S t 0 st1 i2 → ab_Fr MX2_readVoter (d + 4) Q 90 [some (.ref 157), some (.ref (m + 5 + 6 * v)), some (.int (Int32.ofNat t)), none, none] [] (0, 0) (i2, l2, dd, x) (ab_E0 sc) := by
  intro n
  have hm7 : m + 46 < 157 ∧ 5 < m := by rcases hm with rfl | rfl | rfl <;> omega
  have hc : ab_isV (m + 5 + 6 * v) := ⟨m, v, hm, hv, rfl⟩
  induction n with
  | zero =>
    intro t st1 q i2 l2 ht hq er hF h0 h5 hL
    have e0 : i2 m 0 = Int32.ofNat T := by rw [hF.1 _ _ (by omega) (by omega)]; exact hm0
    have er2 : r = (0, q, st1) := er
    rw [show t = T by omega] at hL ⊢
    refine tMX2_readVoter_90 (d := d + 3) hc ⟨m, hd, hm, fun _ => ?_, fun y => ?_⟩
    · exact hY i2 l2 (by rw [er2]) (by rw [er2]; exact hq) hF h0 (by rw [er2]; exact h5) (by rw [er2]; exact hL)
    · rw [e0, nn_le (by omega) (by omega)] at y
      omega
  | succ n ih =>
    intro t st1 q i2 l2 ht hq er hF h0 h5 hL
    have e0 : i2 m 0 = Int32.ofNat T := by rw [hF.1 _ _ (by omega) (by omega)]; exact hm0
    have e : v_t z v S (n + 1) t st1 q = if (v_s z v t S 0 0 st1 q).1 = 0 then v_t z v S n (t + 1) (v_s z v t S 0 0 st1 q).2.2 (v_s z v t S 0 0 st1 q).2.1 else v_s z v t S 0 0 st1 q := rfl
    rw [e] at er
    obtain ⟨S', rfl⟩ : ∃ S', S = S' + 1 := ⟨S - 1, by omega⟩
    refine tMX2_readVoter_90 (d := d + 3) hc ⟨m, hd, hm, fun y => ?_, fun _ => ?_⟩
    · rw [e0, nn_le (by omega) (by omega)] at y
      omega
    · have hvs := v_s_p (z := z) (v := v) (t := t) (S' + 1) 0 0 st1 q hq
      refine cv_106 (d := d) (S := S' + 1) (r := v_s z v t (S' + 1) 0 0 st1 q) hT hc (by omega) hS.2 (by omega) hS0 (fun i3 l3 r0 F3 h03 h53 L3 => ?_) (fun i3 l3 r0 F3 h03 h43 => ?_) S' 0 0 st1 q i2 l2 (by omega) (by omega) hq rfl hF h0 h5 hL
      · rw [if_pos r0] at er
        exact ih (t + 1) _ _ i3 l3 (by omega) (hvs r0).2.1 er F3 h03 h53 L3
      · rw [if_neg r0] at er
        exact hN i3 l3 (by rw [er]; exact r0) F3 (by rw [er]; exact h03) (by rw [er]; exact h43)
theorem ct_voter {z : (Nat → Nat) × Nat} {st : ps_} {m p : Nat} (hT : ct_z z i) (hp : p ≤ z.2) (hk : z_k z p < 3) (hm : ab_isM m) (hd : dd 157 2 = .ref m) (hJ : PJ_ st) (hR : cR_ st m i l) (h0 : i 157 0 = 0) (k : ck_ z p i l) : ab_Sp MX2_readVoter (d + 4) [.ref 157] (i, l, dd, x) (ab_E0 sc) (some (.int (rc_ (b_fin z (b_voter z st p)).1))) (cl_ m (b_fin z (b_voter z st p)) i l dd x) := by
  obtain ⟨⟨a1, a2, a3, a4, a5, a6, a7⟩, hB, hC, hD, hE⟩ := hJ
  have hm7 : m + 46 < 157 ∧ 5 < m := by rcases hm with rfl | rfl | rfl <;> omega
  have g1 := g_e hp hk
  refine ab_ent (n := 0) okMX2_readVoter.1 (fun G => Nat.le_of_ble_eq_true rfl) (fun Q hQ => ?_)
  unfold b_voter at hQ
  have hN := cN_of hR a1 a2 hB
  refine tMX2_readVoter_0 (d := d + 3) ⟨m, hd, hm, ?_⟩
  rw [hR.1.2, nn_p7, nn_lt (by omega) (by omega)]
  refine ⟨fun c1 => ?_, fun c1 => ⟨_, _, ct_fail (d := d + 2), ?_⟩⟩
  · rw [bf_y (if_pos c1)] at hQ
    refine ⟨_, _, ct_name (d := d) (st := st) (s := 1) hT g1.2 (k.2.2.1 hk) hm hd hN (Or.inl rfl), ?_⟩
    rw [c_nam1]
    rintro i8 l9 dd10 x11 ⟨i2, l2, ⟨⟩, f2, y2, n2⟩
    have hR2 := cR_s hm hR a2 f2
    by_cases c2 : c_new z st (z_e z p) = 0
    · rw [bf_y c2] at hQ
      rw [c2]
      obtain ⟨k1, x1, t1, v1⟩ := c_new0 c2
      obtain ⟨y20, y21, -, -⟩ := y2 c2
      have g2 := g_e g1.2 (show z_k z (z_e z p) < 3 by omega)
      refine ⟨fun _ => ⟨m, hd, hm, ?_⟩, fun y => absurd y rc_y⟩
      rw [hR2.1.2, nn_cl (by omega), y21.2.2.2.2.1 k1]
      refine ⟨la_vp (by omega) (by omega), ?_⟩
      rintro l16 rfl
      refine ⟨_, _, ct_key (d := d) (w := 6) (sf_z hT f2) g2.2 (y21.2.2.1 (by omega)) (by omega), ?_⟩
      rintro i22 l23 dd24 x25 ⟨i3, l3, ⟨⟩, f3, y3, n3⟩
      have hF3 : lf_ m i i22 l l23 := lf_t (lf_l (lf_s f2) (Or.inr rfl)) (lf_s f3)
      by_cases c3 : c_key z 6 (z_e z (z_e z p)) = 0
      · rw [bf_y c3] at hQ
        rw [c3]
        obtain ⟨k3, x3⟩ := c_key0 (by omega) c3
        obtain ⟨y30, y31, -, -⟩ := y3 c3
        have g3 := g_e g2.2 (show z_k z (z_e z (z_e z p)) < 3 by omega)
        refine ⟨fun y => absurd y rc_y, fun _ => ⟨_, _, ct_num (d := d) (a := 2) (b := 3) (lf_z hm hT hF3) g3.2 (y31.2.2.1 (by omega)) (by omega) (by omega), ?_⟩⟩
        rintro i32 l33 dd34 x35 ⟨i4, l4, ⟨⟩, f4, y4, n4⟩
        have hF4 : lf_ m i i32 l l33 := lf_t hF3 (lf_s f4)
        by_cases c4 : c_num z 2 3 (z_e z (z_e z (z_e z p))) = 0
        · rw [bf_y c4] at hQ
          rw [c4]
          obtain ⟨k4, w1, w2⟩ := c_num0 c4
          obtain ⟨y40, y41, -, -⟩ := y4 c4
          have g4 := g_e g3.2 (show z_k z (z_e z (z_e z (z_e z p))) < 3 by omega)
          have hi : ∀ a j, a ≠ 157 → i32 a j = i a j := fun a j ha => by rw [f4.1 a j (by omega), f3.1 a j (by omega), f2.1 a j (by omega)]
          have e1 : i32 m 1 = Int32.ofNat (st 0 1) := by rw [hi m 1 (by omega)]; exact hR.1.2
          have h05 : i32 157 0 = 0 := by rw [y40, y30, y20]; exact h0
          have h3x : i32 157 3 = i 157 3 := by rw [f4.1 157 3 (by omega), f3.1 157 3 (by omega), f2.1 157 3 (by omega)]
          have hl9 : ∀ j, l33 159 j = ab_u l 159 (st 0 1) (Int64.ofNat (z_w z (z_e z p))) 159 j := fun j => by
            rw [f4.2 159 j (by omega), f3.2 159 j (by omega)]
            by_cases e : j = st 0 1
            · rw [e, uu_e, uu_e]
            · rw [uu_j e, uu_j e, f2.2 159 j (by omega)]
          have hl8 : ∀ j, l33 158 j = l 158 j := fun j => by
            rw [f4.2 158 j (by omega), f3.2 158 j (by omega), uu_k (by omega), f2.2 158 j (by omega)]
          refine ⟨fun _ => ⟨m, hd, hm, ?_⟩, fun y => absurd y rc_y⟩
          rw [e1, nn_cl (by omega), y41.2.2.2.2.2 k4]
          refine ⟨la_vp (by omega) (by omega), _, ct_vbegin (d := d + 2) ⟨m, st 0 1, hm, c1, rfl⟩, ?_⟩
          rintro i44 l45 dd46 x47 ⟨i5, ⟨⟩, f5, b0, b1, b2, b3, b4⟩
          have h55 := y41.2.2.1 (show z_k z (z_e z (z_e z (z_e z p))) < 3 by omega)
          have hvt := v_t_p (z := z) (v := st 0 1) (S := z_v z (z_e z (z_e z (z_e z p)))) ⟨w1, w2⟩ (st 0 0) 0 (v_0 st (st 0 1) (z_w z (z_e z p)) (z_v z (z_e z (z_e z (z_e z p))))) (z_e z (z_e z (z_e z (z_e z p)))) g4.2 (by omega)
          have hF5 : lf_ m i i44 l l33 := ⟨fun a j q1 q2 => by rw [f5 a j (by omega) (by omega) (by omega)]; exact hF4.1 a j q1 q2, hF4.2⟩
          have hL0 : vL_ (m + 5 + 6 * st 0 1) (st 0 1) (z_v z (z_e z (z_e z (z_e z p)))) 0 0 (v_0 st (st 0 1) (z_w z (z_e z p)) (z_v z (z_e z (z_e z (z_e z p))))) i44 := fun u r' hu hr' => by
            rw [if_neg (by omega)]
            exact b3 _ (by omega)
          generalize hwn : z_w z (z_e z p) = wn at *
          generalize hSn : z_v z (z_e z (z_e z (z_e z p))) = S at *
          generalize hp4 : z_e z (z_e z (z_e z (z_e z p))) = p4 at *
          generalize hRv : v_t z (st 0 1) S (st 0 0) 0 (v_0 st (st 0 1) wn S) p4 = R at *
          refine cv_90 (d := d) (T := st 0 0) (r := R) (i0 := i44) (l0 := l33) (lf_z hm hT hF5) hm hd c1 ⟨w1, w2⟩ a1 b0 (by rw [f5 m 0 (by omega) (by omega) (by omega), hi m 0 (by omega)]; exact hR.1.1) (fun i6 l6 r0 rp F6 h06 h56 L6 i4' e4' => ?_) (fun i6 l6 r0 F6 h06 h46 => ?_) (st 0 0) 0 (v_0 st (st 0 1) wn S) p4 i44 l33 (Nat.zero_add _).symm g4.2 hRv.symm ⟨fun _ _ _ _ => rfl, fun _ _ _ => rfl⟩ (by rw [f5 157 0 (by omega) (by omega) (by omega)]; exact h05) (by rw [f5 157 5 (by omega) (by omega) (by omega)]; exact h55) hL0
          · rw [if_pos r0] at hQ
            obtain ⟨q1, q2, q3, q4, q5, q6⟩ := hvt r0
            have j : ∀ a j', a ≠ m + 5 + 6 * st 0 1 + 1 → ¬ (a = m + 5 + 6 * st 0 1 ∧ j' < 3) → a ≠ m + 5 + 6 * st 0 1 + 2 → a ≠ 157 → ¬ (a = m ∧ j' = 1) → i4' a j' = i a j' := fun a j' x1 x2 x3 x4 x5 => by
              rw [e4', show ab_u i6 m 1 (i6 m 1 + 1) a j' = i6 a j' from if_neg x5, F6.1 a j' x1 (by omega), f5 a j' x2 x1 x3, hi a j' x4]
            have e6m : i6 m 1 = Int32.ofNat (st 0 1) := by rw [F6.1 m 1 (by omega) (by omega), f5 m 1 (by omega) (by omega) (by omega), e1]
            have hF6 : lf_ m i i4' l l6 := by
              rw [e4']
              refine lf_m (lf_t hF5 ⟨fun a j' y1 y2 => F6.1 a j' (by omega) (by omega), fun a y1 _ _ => funext fun j' => F6.2 a j' (by omega)⟩) (by omega)
            refine cl_stop (d := d) (r := (0, R.2.1, ab_u R.2.2 0 1 (st 0 1 + 1))) (lf_z hm hT hF6) hm ?_ rfl rp hF6 ?_ ?_ ?_ hQ
            · show st 0 1 + 1 ≤ 7
              omega
            · rw [e4', uu_k (by omega)]; exact h06
            · rw [e4', uu_k (by omega)]; exact h56
            · have j0 : R.2.2 0 = st 0 := by rw [q3 0 (by omega)]; rfl
              have j1 : R.2.2 1 = st 1 := by rw [q3 1 (by omega)]; rfl
              have j2 : R.2.2 2 = ab_u st 2 (st 0 1) wn 2 := by rw [q3 2 (by omega)]; rfl
              have j3 : R.2.2 3 = st 3 := by rw [q3 3 (by omega)]; rfl
              have j4 : R.2.2 4 = ab_u st 4 (st 0 1) S 4 := by rw [q3 4 (by omega)]; rfl
              have j7 : R.2.2 7 = ab_u st 7 (st 0 1) 0 7 := by rw [q3 7 (by omega)]; rfl
              have j8 : R.2.2 8 = st 8 := by rw [q3 8 (by omega)]; rfl
              have j9 : R.2.2 9 = st 9 := by rw [q3 9 (by omega)]; rfl
              have j10 : R.2.2 10 = ab_u st 10 (st 0 1) 1 10 := by rw [q3 10 (by omega)]; rfl
              have j6 : ∀ b, R.2.2 6 b = if 9 * st 0 1 ≤ b ∧ b < 9 * st 0 1 + 9 then 99 else st 6 b := fun b => by
                rw [q3 6 (by omega)]
                show (if 6 = 6 ∧ 9 * st 0 1 ≤ b ∧ b < 9 * st 0 1 + 9 then 99 else _) = _
                by_cases g : 9 * st 0 1 ≤ b ∧ b < 9 * st 0 1 + 9
                · rw [if_pos g, if_pos ⟨rfl, g⟩]
                · rw [if_neg g, if_neg (fun y => g y.2)]
                  rfl
              have j5 : ∀ b, (b < 9 * st 0 1 ∨ 9 * st 0 1 + 9 ≤ b) → R.2.2 5 b = st 5 b := fun b hb => by rw [q4 b hb]; rfl
              have hcell : ∀ j', j' < 3 → i4' (m + 5 + 6 * st 0 1) j' = i44 (m + 5 + 6 * st 0 1) j' := fun j' _ => by rw [e4', uu_k (by omega), F6.1 _ _ (by omega) (by omega)]
              obtain ⟨⟨r1, r1'⟩, r2, r3, r4, r5, r6, r7, r8, r9, r10, r11⟩ := id hR
              show (i4' m 0 = Int32.ofNat (R.2.2 0 0) ∧ i4' m 1 = Int32.ofNat (st 0 1 + 1)) ∧ (i4' m 2 = Int32.ofNat (R.2.2 0 2) ∧ (0 < R.2.2 0 2 → i4' m 3 = Int32.ofNat (R.2.2 0 3) ∧ i4' m 4 = Int32.ofNat (R.2.2 0 4)) ∧ i4' m 5 = mt_h (R.2.2 0 5)) ∧
                (∀ t, t < 3 → i4' (m + 1) t = if t < R.2.2 0 0 then Int32.ofNat (R.2.2 3 t) else 0) ∧ (∀ t e, t < 3 → e < 3 → i4' (m + 3) (3 * t + e) = Int32.ofNat (kr_ (R.2.2 6) t e)) ∧
                (∀ v, v < st 0 1 + 1 → i4' (m + 5 + 6 * v) 0 = Int32.ofNat (R.2.2 4 v) ∧ i4' (m + 5 + 6 * v) 1 = Int32.ofNat (R.2.2 10 v) ∧ i4' (m + 5 + 6 * v) 2 = Int32.ofNat (R.2.2 7 v) ∧ (R.2.2 7 v = 2 → i4' (m + 5 + 6 * v) 3 = Int32.ofNat (R.2.2 8 v))) ∧
                (∀ v s t, v < st 0 1 + 1 → s < R.2.2 4 v → t < 3 → i4' (m + 5 + 6 * v + 1) (3 * t + s) = if t < R.2.2 0 0 then Int32.ofNat (R.2.2 5 (9 * v + 3 * s + t)) else 0) ∧
                (∀ v t e, v < st 0 1 + 1 → t < 3 → e < 3 → i4' (m + 5 + 6 * v + 2) (3 * t + e) = kt_ (R.2.2 6 (9 * v + 3 * t + e))) ∧
                (∀ v s, v < st 0 1 + 1 → R.2.2 7 v = 3 → s < R.2.2 4 v → i4' (m + 5 + 6 * v + 5) s = Int32.ofNat (R.2.2 9 (3 * v + s))) ∧
                (∀ t, t < R.2.2 0 0 → l6 158 t = Int64.ofNat (R.2.2 1 t)) ∧ (∀ v, v < st 0 1 + 1 → l6 159 v = Int64.ofNat (R.2.2 2 v)) ∧ i4' 157 3 = Int32.ofNat (R.2.2 0 6)
              rw [j0, j1, j2, j3, j4, j7, j8, j9, j10]
              refine ⟨⟨?_, ?_⟩, ⟨?_, fun y => ⟨?_, ?_⟩, ?_⟩, fun t ht => ?_, fun t e ht he => ?_, fun u hu => ?_, fun u s t hu hs ht => ?_, fun u t e hu ht he => ?_, fun u s hu h7 hs => ?_, fun t ht => ?_, fun u hu => ?_, ?_⟩
              · rw [j m 0 (by omega) (by omega) (by omega) (by omega) (by omega)]; exact r1
              · rw [e4', uu_e, e6m, la_nx]
              · rw [j m 2 (by omega) (by omega) (by omega) (by omega) (by omega)]; exact r2.1
              · rw [j m 3 (by omega) (by omega) (by omega) (by omega) (by omega)]; exact (r2.2.1 y).1
              · rw [j m 4 (by omega) (by omega) (by omega) (by omega) (by omega)]; exact (r2.2.1 y).2
              · rw [j m 5 (by omega) (by omega) (by omega) (by omega) (by omega)]; exact r2.2.2
              · rw [j _ t (by omega) (by omega) (by omega) (by omega) (by omega)]; exact r3 t ht
              · rw [j _ _ (by omega) (by omega) (by omega) (by omega) (by omega), r4 t e ht he]
                have e63 : R.2.2 6 (63 + 3 * t + e) = st 6 (63 + 3 * t + e) := by rw [j6, if_neg (by omega)]
                unfold kr_
                rw [e63]
              · by_cases e : u = st 0 1
                · rw [e, hcell 0 (by omega), hcell 1 (by omega), hcell 2 (by omega), b0, b1, b2, uu_e, uu_e, uu_e]
                  exact ⟨rfl, rfl, rfl, fun y => absurd y (by decide)⟩
                · rw [uu_j e, uu_j e, uu_j e, j _ 0 (by omega) (by omega) (by omega) (by omega) (by omega), j _ 1 (by omega) (by omega) (by omega) (by omega) (by omega), j _ 2 (by omega) (by omega) (by omega) (by omega) (by omega), j _ 3 (by omega) (by omega) (by omega) (by omega) (by omega)]
                  exact r5 u (by omega)
              · by_cases e : u = st 0 1
                · subst e
                  rw [uu_e] at hs
                  rw [e4', uu_k (by omega), L6 t s ht hs]
                  by_cases e2 : t < st 0 0
                  · rw [if_pos (Or.inl e2), if_pos e2]
                  · rw [if_neg (by omega), if_neg e2]
                · rw [uu_j e] at hs
                  have := (hC u (by omega)).1.2
                  rw [j _ _ (by omega) (by omega) (by omega) (by omega) (by omega), r6 u s t (by omega) hs ht]
                  by_cases e2 : t < st 0 0
                  · rw [if_pos e2, if_pos e2, j5 _ (by omega)]
                  · rw [if_neg e2, if_neg e2]
              · rw [j6]
                by_cases e' : u = st 0 1
                · subst e'
                  rw [if_pos (by omega), e4', uu_k (by omega), F6.1 _ _ (by omega) (by omega), b4 _ (by omega)]
                  rfl
                · rw [if_neg (by omega), j _ _ (by omega) (by omega) (by omega) (by omega) (by omega)]
                  exact r7 u t e (by omega) ht he
              · by_cases e' : u = st 0 1
                · rw [e', uu_e] at h7
                  exact absurd h7 (by decide)
                · rw [uu_j e'] at h7 hs
                  rw [j _ _ (by omega) (by omega) (by omega) (by omega) (by omega)]
                  exact r8 u s (by omega) h7 hs
              · rw [F6.2 158 t (by omega), hl8]
                exact r9 t ht
              · rw [F6.2 159 u (by omega), hl9]
                by_cases e' : u = st 0 1
                · rw [e', uu_e, uu_e]
                · rw [uu_j e', uu_j e']
                  exact r10 u (by omega)
              · rw [e4', uu_k (by omega), F6.1 157 3 (by omega) (by omega), f5 157 3 (by omega) (by omega) (by omega), h3x]
                exact r11
          · rw [if_neg r0] at hQ
            have e2 : b_fin z R = R := if_neg r0
            rw [e2, rc_n r0] at hQ
            exact hQ _ ⟨i6, l6, rfl, lf_t hF5 ⟨fun a j' y1 y2 => F6.1 a j' (by omega) (by omega), fun a y1 _ _ => funext fun j' => F6.2 a j' (by omega)⟩, fun h => absurd h r0, fun _ => ⟨h06, h46⟩⟩
        · rw [rc_n c4]
          exact ⟨fun y => absurd rfl y, fun _ => cl_no c4 hF4 (n4 c4) hQ⟩
      · rw [rc_n c3]
        exact ⟨fun _ => cl_no c3 hF3 (n3 c3) hQ, fun y => absurd rfl y⟩
    · rw [rc_n c2]
      exact ⟨fun y => absurd rfl y, fun _ => cl_no c2 (lf_s f2) (n2 c2) hQ⟩
  · rintro i53 l54 dd55 x56 ⟨⟩
    refine ⟨Or.inl rfl, cl_no (c := if st 0 1 < 7 then 0 else 4) (by rw [if_neg c1]; omega) (lf_s (sf_u sf_r (Or.inl rfl))) ⟨?_, ?_⟩ hQ⟩
    · rw [uu_e, if_neg c1]
      rfl
    · rw [uu_j (by omega)]
      exact k.1
end TKJ
