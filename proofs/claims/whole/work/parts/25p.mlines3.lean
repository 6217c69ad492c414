/-! LINES, the model: voter, a line, all lines -/
section TKP
variable {d : Nat} {sc : Nat × (Nat → Int32)} {i : Nat → Nat → Int32} {l : Nat → Nat → Int64} {dd : Nat → Nat → Value} {x : Nat}
/-- likes told so far -/
def dL_ (v S t s : Nat) (st : ps_) (i : Nat → Nat → Int32) : Prop := ∀ u r, r < S → (u < t ∨ (u = t ∧ r < s)) → i 213 (63 + 9 * v + 3 * r + u) = Int32.ofNat (st 5 (9 * v + 3 * r + u))
def mF_ (v : Nat) (i i2 : Nat → Nat → Int32) (l l2 : Nat → Nat → Int64) : Prop := (∀ k j, ¬ (k = 205 ∧ (4 ≤ j ∧ j ≤ 9 ∨ j = 28)) → ¬ (k = 213 ∧ 63 + 9 * v ≤ j ∧ j < 72 + 9 * v) → i2 k j = i k j) ∧ ∀ k j, ¬ (k = 205 ∧ j = 10) → l2 k j = l k j
theorem mF_h {v : Nat} {i2 i3 : Nat → Nat → Int32} {l2 l3 : Nat → Nat → Int64} (h : mF_ v i i2 l l2) (f : hf_ i2 i3 l2 l3) : mF_ v i i3 l l3 := ⟨fun k j a b => (f.1 k j a).trans (h.1 k j a b), fun k j a => (f.2 k j a).trans (h.2 k j a)⟩
theorem mF_u {v j : Nat} {w : Int32} {i2 : Nat → Nat → Int32} {l2 : Nat → Nat → Int64} (h : mF_ v i i2 l l2) (hj : 63 + 9 * v ≤ j ∧ j < 72 + 9 * v) : mF_ v i (ab_u i2 213 j w) l l2 := ⟨fun k q a b => by
  rw [show ab_u i2 213 j w k q = i2 k q from if_neg (by omega)]
  exact h.1 k q a b, h.2⟩
theorem mF_n {v : Nat} {i2 : Nat → Nat → Int32} {l2 : Nat → Nat → Int64} (h : mF_ v i i2 l l2) : nq_ i i2 l l2 := ⟨fun k j hk => h.1 k j (by unfold nqP at hk; omega) (by unfold nqP at hk; omega), fun k j hk => h.2 k j (by omega)⟩
theorem mv_109 {z : (Nat → Nat) × Nat} {v S t : Nat} {i0 : Nat → Nat → Int32} {l0 : Nat → Nat → Int64} {R : rs_} (hT : dt_z z i0) (hv : v < 7) (hS : S ≤ 3) (ht : t < 3) (hS0 : i0 212 (7 + v) = Int32.ofNat S) {Q : ab_Qt} (hY : ∀ i2 l2, R.1 = 0 → mF_ v i0 i2 l0 l2 → i2 205 8 = 0 → dk_ z R.2.1 i2 l2 → dL_ v S (t + 1) 0 R.2.2 i2 → ab_Fr MX12_readVoterLine (d + 6) Q 94 [some (.ref 205), some (.int (Int32.ofNat v)), some (.int (Int32.ofNat (t + 1))), none, none] [] (0, 0) (i2, l2, dd, x) (ab_E0 sc)) (hNo : ∀ i2 l2, R.1 ≠ 0 → mF_ v i0 i2 l0 l2 → i2 205 8 = Int32.ofNat R.1 → i2 205 9 = Int32.ofNat R.2.1 → Q (some (some (.int 0))) (i2, l2, dd, x) (ab_E0 sc)) :
    ∀ (n s sum : Nat) (st1 : ps_) (q : Nat) (i2 : Nat → Nat → Int32) (l2 : Nat → Nat → Int64), S = s + n → sum ≤ 20 * s → q ≤ z.2 → R = v_s z v t n s sum st1 q → mF_ v i0 i2 l0 l2 → i2 205 8 = 0 → dk_ z q i2 l2 → dL_ v S t s st1 i2 → ab_Fr MX12_readVoterLine (d + 6) Q 109 [some (.ref 205), some (.int (Int32.ofNat v)), some (.int (Int32.ofNat t)), some (.int (Int32.ofNat sum)), some (.int (Int32.ofNat s))] [] (0, 0) (i2, l2, dd, x) (ab_E0 sc) := by
  intro n
  induction n with
  | zero =>
    intro s sum st1 q i2 l2 hs hsum hq er hF h0 hk hL
    have e0 : i2 212 (7 + v) = Int32.ofNat S := by rw [hF.1 _ _ (by omega) (by omega)]; exact hS0
    have er2 : R = (0, q, st1) := er
    refine tMX12_readVoterLine_109 (d := d + 5) ?_
    rw [nn_p7, nn_add, nn_cl (by omega), e0, nn_le (by omega) (by omega)]
    refine ⟨la_vp (by omega) (by omega), fun _ => ?_, fun y => absurd (show S ≤ s by omega) y⟩
    rw [la_nx]
    exact hY i2 l2 (by rw [er2]) hF h0 (by rw [er2]; exact hk) (fun u r hr hc => by rw [er2]; exact hL u r hr (by omega))
  | succ n ih =>
    intro s sum st1 q i2 l2 hs hsum hq er hF h0 hk hL
    have e0 : i2 212 (7 + v) = Int32.ofNat S := by rw [hF.1 _ _ (by omega) (by omega)]; exact hS0
    have hT2 : dt_z z i2 := gf_z hT (fun k j hk => hF.1 k j (by omega) (by omega))
    have hm := mkk_l (z := z) (k := z_k z q)
    have e : v_s z v t (n + 1) s sum st1 q = ch_ (v_c z n sum q) (z_p z q) st1 (v_s z v t n (s + 1) (sum + z_v z q) (ab_u st1 5 (9 * v + 3 * s + t) (z_v z q)) (z_e z q)) := rfl
    rw [e] at er
    refine tMX12_readVoterLine_109 (d := d + 5) ?_
    rw [nn_p7, nn_add, nn_cl (by omega), e0, nn_le (by omega) (by omega), hk.2.1, nn_p3, nn_eq (by omega) (by omega), mkk_3]
    refine ⟨la_vp (by omega) (by omega), fun y => absurd y (by omega), fun _ => ⟨fun k3 => ?_, fun k3 => ⟨_, _, md_bad (d := d + 4) (c := 1) hk (Or.inl rfl), ?_⟩⟩⟩
    · have hv9 := z_vl hq k3
      have g3 := g_e hq (show z_k z q < 3 by omega)
      have h175 : v_c z n sum q = 2 → ab_Fr MX12_readVoterLine (d + 6) Q 175 [some (.ref 205), none, none, none, none] [] (0, 0) (i2, l2, dd, x) (ab_E0 sc) := fun c2 => by
        rw [c2] at er
        have er2 : R = (2, z_p z q, st1) := er
        refine tMX12_readVoterLine_175 (d := d + 5) ⟨_, _, md_bad (d := d + 4) (c := 2) hk (Or.inr (by omega)), ?_⟩
        rintro i5 l6 dd7 x8 ⟨⟩
        exact ⟨Or.inl rfl, hNo _ l2 (by rw [er2]; omega) (mF_h hF (hf_u (hf_u hf_r (by omega)) (by omega))) (by rw [uu_j (by omega), uu_e, er2]) (by rw [uu_e, er2])⟩
      have h181 : v_c z n sum q = 0 → z_v z q ≤ 20 → ab_Fr MX12_readVoterLine (d + 6) Q 181 [some (.ref 205), some (.int (Int32.ofNat v)), some (.int (Int32.ofNat t)), some (.int (Int32.ofNat (sum + z_v z q))), some (.int (Int32.ofNat s))] [] (0, 0) (i2, l2, dd, x) (ab_E0 sc) := fun c0 w2 => by
        rw [ch_y c0] at er
        refine tMX12_readVoterLine_181 (d := d + 5) ?_
        rw [show (63 : Int32) = Int32.ofNat 63 from rfl, nn_p9, nn_p3, nn_mul, nn_mul, nn_add, nn_add, nn_add, nn_cl (by omega), hk.2.2.2.2 k3]
        refine ⟨la_vp (by omega) (by omega), ?_⟩
        rintro i3 rfl
        have F3 : mF_ v i0 (ab_u i2 213 (63 + 9 * v + 3 * s + t) (Int32.ofNat (z_v z q))) l0 l2 := mF_u hF (by omega)
        refine ⟨_, md_tok (d := d + 3) (gf_z hT (fun k j hk => F3.1 k j (by omega) (by omega))) g3.2 (by rw [uu_k (by omega)]; exact hk.2.2.1 (by omega)), ?_⟩
        rintro i7 l8 dd9 x10 ⟨i4, l4, ⟨⟩, f4, k4⟩
        rw [la_nx]
        refine ih (s + 1) (sum + z_v z q) (ab_u st1 5 (9 * v + 3 * s + t) (z_v z q)) (z_e z q) i7 l8 (by omega) (by omega) g3.2 er (mF_h F3 (hf_of f4)) ?_ k4 (fun u r hr hc => ?_)
        · rw [f4.1 205 8 (by omega), uu_k (by omega)]
          exact h0
        · rw [f4.1 213 _ (by omega)]
          by_cases eu : u = t ∧ r = s
          · obtain ⟨rfl, rfl⟩ := eu
            rw [uu_e, uu_e]
          · rw [uu_j (by omega), uu_j (by omega)]
            exact hL u r hr (by omega)
      rw [hk.2.2.2.2 k3, show (20 : Int32) = Int32.ofNat 20 from rfl, nn_lt (by omega) (by omega), nn_add]
      refine ⟨fun c => h175 ?_, fun c => ⟨la_vp (by omega) (by omega), ?_⟩⟩
      · unfold v_c
        rw [if_pos k3, if_neg (by omega)]
      · rw [show Int32.ofNat S - 1 = Int32.ofNat (S - 1) from nn_sub (b := 1) (by omega), nn_eq (by omega) (by omega), nn_eq (by omega) (by omega)]
        refine ⟨fun c2 => h181 ?_ (by omega), fun c2 => ⟨fun c4 => h181 ?_ (by omega), fun c4 => h175 ?_⟩⟩
        · unfold v_c
          rw [if_pos k3, if_pos ⟨by omega, fun y => by omega⟩]
        · unfold v_c
          rw [if_pos k3, if_pos ⟨by omega, fun _ => c4⟩]
        · unfold v_c
          rw [if_pos k3, if_neg (fun y => c4 (y.2 (by omega)))]
    · have c1 : v_c z n sum q = 1 := if_neg k3
      rw [c1] at er
      have er2 : R = (1, z_p z q, st1) := er
      rintro i10 l11 dd12 x13 ⟨⟩
      exact ⟨Or.inl rfl, hNo _ l2 (by rw [er2]; omega) (mF_h hF (hf_u (hf_u hf_r (by omega)) (by omega))) (by rw [uu_j (by omega), uu_e, er2]) (by rw [uu_e, er2])⟩
theorem mv_94 {z : (Nat → Nat) × Nat} {v S T : Nat} {i0 : Nat → Nat → Int32} {l0 : Nat → Nat → Int64} {R : rs_} (hT : dt_z z i0) (hv : v < 7) (hS : S ≤ 3) (hT3 : T ≤ 3) (hS0 : i0 212 (7 + v) = Int32.ofNat S) (hm0 : i0 209 1 = Int32.ofNat T) {Q : ab_Qt} (hY : ∀ i2 l2, R.1 = 0 → mF_ v i0 i2 l0 l2 → i2 205 8 = 0 → dk_ z R.2.1 i2 l2 → dL_ v S T 0 R.2.2 i2 → ∀ i4, i4 = ab_u (ab_u i2 215 (7 + v) 0) 218 (7 + v) 1 → ab_Fr MX12_readVoterLine (d + 6) Q 242 [some (.ref 205), some (.int (Int32.ofNat v)), some (.int 0), none, none] [] (0, 0) (i4, l2, dd, x) (ab_E0 sc)) (hNo : ∀ i2 l2, R.1 ≠ 0 → mF_ v i0 i2 l0 l2 → i2 205 8 = Int32.ofNat R.1 → i2 205 9 = Int32.ofNat R.2.1 → Q (some (some (.int 0))) (i2, l2, dd, x) (ab_E0 sc)) :
    ∀ (n t : Nat) (st1 : ps_) (q : Nat) (i2 : Nat → Nat → Int32) (l2 : Nat → Nat → Int64), T = t + n → q ≤ z.2 → R = v_t z v S n t st1 q → mF_ v i0 i2 l0 l2 → i2 205 8 = 0 → dk_ z q i2 l2 → dL_ v S t 0 st1 i2 → ab_Fr MX12_readVoterLine (d + 6) Q 94 [some (.ref 205), some (.int (Int32.ofNat v)), some (.int (Int32.ofNat t)), none, none] [] (0, 0) (i2, l2, dd, x) (ab_E0 sc) := by
  intro n
  induction n with
  | zero =>
    intro t st1 q i2 l2 ht hq er hF h0 hk hL
    have e0 : i2 209 1 = Int32.ofNat T := by rw [hF.1 _ _ (by omega) (by omega)]; exact hm0
    have er2 : R = (0, q, st1) := er
    rw [show t = T by omega] at hL ⊢
    refine tMX12_readVoterLine_94 (d := d + 5) ⟨fun _ => ?_, fun y => ?_⟩
    · rw [nn_p7, nn_add, nn_cl (by omega)]
      refine ⟨la_vp (by omega) (by omega), ?_⟩
      rintro i3 rfl
      refine ⟨la_vp (by omega) (by omega), ?_⟩
      rintro i4 rfl
      exact hY i2 l2 (by rw [er2]) hF h0 (by rw [er2]; exact hk) (by rw [er2]; exact hL) _ rfl
    · rw [e0, nn_le (by omega) (by omega)] at y
      omega
  | succ n ih =>
    intro t st1 q i2 l2 ht hq er hF h0 hk hL
    have e0 : i2 209 1 = Int32.ofNat T := by rw [hF.1 _ _ (by omega) (by omega)]; exact hm0
    have e : v_t z v S (n + 1) t st1 q = if (v_s z v t S 0 0 st1 q).1 = 0 then v_t z v S n (t + 1) (v_s z v t S 0 0 st1 q).2.2 (v_s z v t S 0 0 st1 q).2.1 else v_s z v t S 0 0 st1 q := rfl
    rw [e] at er
    have hvs := v_s_p (z := z) (v := v) (t := t) S 0 0 st1 q hq
    refine tMX12_readVoterLine_94 (d := d + 5) ⟨fun y => ?_, fun _ => ?_⟩
    · rw [e0, nn_le (by omega) (by omega)] at y
      omega
    · refine mv_109 (d := d) (S := S) (R := v_s z v t S 0 0 st1 q) hT hv hS (by omega) hS0 (fun i3 l3 r0 F3 h03 k3 L3 => ?_) (fun i3 l3 r0 F3 h03 h93 => ?_) S 0 0 st1 q i2 l2 (by omega) (by omega) hq rfl hF h0 hk hL
      · rw [if_pos r0] at er
        exact ih (t + 1) _ _ i3 l3 (by omega) (hvs r0).2.1 er F3 h03 k3 L3
      · rw [if_neg r0] at er
        exact hNo i3 l3 (by rw [er]; exact r0) F3 (by rw [er]; exact h03) (by rw [er]; exact h93)
theorem mb_voter {z : (Nat → Nat) × Nat} {st : ps_} {p : Nat} (hT : dt_z z i) (hp : p ≤ z.2) (hk : z_k z p < 3) (hJ : PJ_ st) (hR : dR_ st i l) (h0 : i 205 8 = 0) (k : dk_ z p i l) : ab_Sp MX12_readVoterLine (d + 6) [.ref 205] (i, l, dd, x) (ab_E0 sc) (some (.int (rc_ (b_voter z st p).1))) (db_ z (b_voter z st p) i l dd x) := by
  obtain ⟨⟨a1, a2, a3, a4, a5, a6, a7⟩, hB, hC, hD, hE⟩ := hJ
  have g1 := g_e hp hk
  have hN := dN_of hR a1 a2 hB
  refine ab_ent (n := 0) okMX12_readVoterLine.1 (fun G => Nat.le_of_ble_eq_true rfl) (fun Q hQ => ?_)
  unfold b_voter at hQ
  refine tMX12_readVoterLine_0 (d := d + 5) ?_
  rw [hR.1.2, nn_p7, nn_eq (by omega) (by omega), nn_add]
  refine ⟨fun c1 => ?_, fun c1 => ?_⟩
  · rw [ch_y (if_pos (by omega))] at hQ
    refine ⟨_, md_tok (d := d + 3) hT g1.2 (k.2.2.1 hk), ?_⟩
    rintro i6 l7 dd8 x9 ⟨i2, l2, ⟨⟩, f2, k2⟩
    have hF2 := hf_of f2
    refine ⟨_, _, md_new (d := d) (st := st) g1.2 (dN_h hN hF2) k2, ?_⟩
    rintro i15 l16 dd17 x18 ⟨i3, ⟨⟩, f3, y3, n3⟩
    by_cases c2 : c_new z st (z_e z p) = 0
    · rw [ch_y c2] at hQ
      rw [c2]
      have e3' := y3 c2
      subst e3'
      obtain ⟨k1, x1, t1, v1⟩ := c_new0 c2
      have g2 := g_e g1.2 (show z_k z (z_e z p) < 3 by omega)
      refine ⟨fun _ => ?_, fun y => absurd y rc_y⟩
      rw [nn_cl (by omega), k2.2.2.2.1 k1]
      refine ⟨la_vp (by omega) (by omega), ?_⟩
      rintro l21 rfl
      have hFl : nq_ i i15 l (ab_u l7 208 (7 + st 0 1) (Int64.ofNat (cv_ 6 (z_w z (z_e z p))))) := nq_l (nq_h hF2) (Or.inr rfl)
      refine ⟨_, md_tok (d := d + 3) (nq_z hT hFl) g2.2 (k2.2.2.1 (by omega)), ?_⟩
      rintro i27 l28 dd29 x30 ⟨i4, l4, ⟨⟩, f4, k4⟩
      have hF4 : nq_ i i27 l l28 := nq_t hFl (nq_h (hf_of f4))
      refine ⟨_, _, md_spelt (d := d + 4), ?_⟩
      rintro i36 l37 dd38 x39 ⟨⟩
      rw [show sp5 115 101 101 115 0 = kq_ 6 by decide +kernel]
      refine ⟨_, _, md_key (d := d + 2) (w := 6) (nq_z hT hF4) g2.2 k4 (by omega), ?_⟩
      rintro i45 l46 dd47 x48 ⟨i5, l5, ⟨⟩, f5, y5, n5⟩
      have hF5 : nq_ i i45 l l46 := nq_t hF4 (nq_h f5)
      by_cases c3 : c_key z 6 (z_e z (z_e z p)) = 0
      · rw [ch_y c3] at hQ
        rw [c3]
        obtain ⟨q3, x3⟩ := c_key0 (by omega) c3
        obtain ⟨y50, y51⟩ := y5 c3
        have g3 := g_e g2.2 (show z_k z (z_e z (z_e z p)) < 3 by omega)
        refine ⟨fun y => absurd y rc_y, fun _ => ⟨_, _, md_num (d := d + 2) (a := 2) (b := 3) (nq_z hT hF5) g3.2 y51 (by omega) (by omega), ?_⟩⟩
        rintro i55 l56 dd57 x58 ⟨i6', l6', ⟨⟩, f6, y6, n6⟩
        have hF6 : nq_ i i55 l l56 := nq_t hF5 (nq_h f6)
        by_cases c4 : c_num z 2 3 (z_e z (z_e z (z_e z p))) = 0
        · rw [ch_y c4] at hQ
          rw [c4]
          obtain ⟨q4, w1, w2⟩ := c_num0 c4
          obtain ⟨y60, y61, y62⟩ := y6 c4
          have g4 := g_e g3.2 (show z_k z (z_e z (z_e z (z_e z p))) < 3 by omega)
          have hi : ∀ a j, 209 ≤ a → i55 a j = i a j := fun a j ha => by rw [f6.1 a j (by omega), f5.1 a j (by omega), f4.1 a j (by omega), f2.1 a j (by omega)]
          have h27 : i55 205 27 = i 205 27 := by rw [f6.1 205 27 (by omega), f5.1 205 27 (by omega), f4.1 205 27 (by omega), f2.1 205 27 (by omega)]
          have h05 : i55 205 8 = 0 := by rw [y60, y50, f4.1 205 8 (by omega), f2.1 205 8 (by omega)]; exact h0
          have hl8 : ∀ j, l56 208 j = ab_u l 208 (7 + st 0 1) (Int64.ofNat (cv_ 6 (z_w z (z_e z p)))) 208 j := fun j => by
            rw [f6.2 208 j (by omega), f5.2 208 j (by omega), f4.2 208 j (by omega)]
            by_cases e : j = 7 + st 0 1
            · rw [e, uu_e, uu_e]
            · rw [uu_j e, uu_j e, f2.2 208 j (by omega)]
          have hl7 : ∀ j, l56 207 j = l 207 j := fun j => by
            rw [f6.2 207 j (by omega), f5.2 207 j (by omega), f4.2 207 j (by omega), uu_k (by omega), f2.2 207 j (by omega)]
          have hvt := v_t_p (z := z) (v := st 0 1) (S := z_v z (z_e z (z_e z (z_e z p)))) ⟨w1, w2⟩ (st 0 0) 0 (v_0 st (st 0 1) (z_w z (z_e z p)) (z_v z (z_e z (z_e z (z_e z p))))) (z_e z (z_e z (z_e z (z_e z p)))) g4.2 (by omega)
          refine ⟨fun _ => ?_, fun y => absurd y rc_y⟩
          rw [y62]
          refine ⟨la_vp (by omega) (by omega), ?_⟩
          rintro i61 rfl
          have hF7 : nq_ i (ab_u i55 212 (7 + st 0 1) (Int32.ofNat (z_v z (z_e z (z_e z (z_e z p)))))) l l56 := nq_u hF6 (by unfold nqP; omega)
          have k7 := dk_u (k := 212) (j := 7 + st 0 1) (v := Int32.ofNat (z_v z (z_e z (z_e z (z_e z p))))) y61 (by omega)
          generalize hwn : z_w z (z_e z p) = wn at *
          generalize hSn : z_v z (z_e z (z_e z (z_e z p))) = S at *
          generalize hp4 : z_e z (z_e z (z_e z (z_e z p))) = p4 at *
          generalize hRv : v_t z (st 0 1) S (st 0 0) 0 (v_0 st (st 0 1) wn S) p4 = R at *
          refine mv_94 (d := d) (T := st 0 0) (R := R) (i0 := ab_u i55 212 (7 + st 0 1) (Int32.ofNat S)) (l0 := l56) (nq_z hT hF7) (by omega) w2 a1 uu_e (by rw [uu_k (by omega), hi 209 1 (by omega)]; exact hR.1.1) (fun i8 l8 r0 F8 h08 k8 L8 i9 e9 => ?_) (fun i8 l8 r0 F8 h08 h98 => ?_) (st 0 0) 0 (v_0 st (st 0 1) wn S) p4 _ l56 (Nat.zero_add _).symm g4.2 hRv.symm ⟨fun _ _ _ _ => rfl, fun _ _ _ => rfl⟩ (by rw [uu_k (by omega)]; exact h05) k7 (fun u r hr hc => by omega)
          · rw [if_pos r0] at hQ
            obtain ⟨q1, q2, q3, q4', q5, q6⟩ := hvt r0
            have hF9 : nq_ i i9 l l8 := by
              rw [e9]
              exact nq_u (nq_u (nq_t hF7 (mF_n F8)) (by unfold nqP; omega)) (by unfold nqP; omega)
            have k9 : dk_ z R.2.1 i9 l8 := by
              rw [e9]
              exact dk_u (dk_u k8 (by omega)) (by omega)
            have h09 : i9 205 8 = 0 := by rw [e9, uu_k (by omega), uu_k (by omega)]; exact h08
            have go : ∀ (n c : Nat) (i2 : Nat → Nat → Int32), 9 = c + n → (∀ a j, ¬ (a = 214 ∧ 72 + 9 * st 0 1 ≤ j ∧ j < 81 + 9 * st 0 1) → i2 a j = i9 a j) → (∀ j, j < c → i2 214 (72 + 9 * st 0 1 + j) = -1) → ab_Fr MX12_readVoterLine (d + 6) Q 242 [some (.ref 205), some (.int (Int32.ofNat (st 0 1))), some (.int (Int32.ofNat c)), none, none] [] (0, 0) (i2, l8, dd, x) (ab_E0 sc) := by
              intro n
              induction n with
              | zero =>
                intro c i2 hc hf hz
                refine tMX12_readVoterLine_242 (d := d + 5) ⟨fun _ => ?_, fun y => ?_⟩
                · rintro i3 rfl
                  have e210 : i2 210 1 = Int32.ofNat (st 0 1) := by
                    rw [hf 210 1 (by omega), e9, uu_k (by omega), uu_k (by omega), F8.1 210 1 (by omega) (by omega), uu_k (by omega), hi 210 1 (by omega)]
                    exact hR.1.2
                  rw [e210, la_nx]
                  have hn2 : nq_ i9 i2 l8 l8 := ⟨fun a j hk => hf a j (by unfold nqP at hk; omega), fun _ _ _ => rfl⟩
                  refine dl_yes (nq_u (nq_t hF9 hn2) (by unfold nqP; omega)) ?_ ?_ ?_ hQ
                  · rw [uu_k (by omega), hf 205 8 (by omega)]; exact h09
                  · refine dk_u ?_ (by omega)
                    obtain ⟨b1, b2, b3, b4, b5⟩ := k9
                    refine ⟨?_, ?_, fun y => ?_, b4, fun y => ?_⟩
                    · rw [hf 205 5 (by omega)]; exact b1
                    · rw [hf 205 6 (by omega)]; exact b2
                    · rw [hf 205 4 (by omega)]; exact b3 y
                    · rw [hf 205 7 (by omega)]; exact b5 y
                  · have j0 : R.2.2 0 = st 0 := by rw [q3 0 (by omega)]; rfl
                    have j1 : R.2.2 1 = st 1 := by rw [q3 1 (by omega)]; rfl
                    have j2 : R.2.2 2 = ab_u st 2 (st 0 1) wn 2 := by rw [q3 2 (by omega)]; rfl
                    have j3 : R.2.2 3 = st 3 := by rw [q3 3 (by omega)]; rfl
                    have j4 : R.2.2 4 = ab_u st 4 (st 0 1) S 4 := by rw [q3 4 (by omega)]; rfl
                    have j7 : R.2.2 7 = ab_u st 7 (st 0 1) 0 7 := by rw [q3 7 (by omega)]; rfl
                    have j8 : R.2.2 8 = st 8 := by rw [q3 8 (by omega)]; rfl
                    have j9 : R.2.2 9 = st 9 := by rw [q3 9 (by omega)]; rfl
                    have j10 : R.2.2 10 = ab_u st 10 (st 0 1) 1 10 := by rw [q3 10 (by omega)]; rfl
                    have j6 : ∀ b, R.2.2 6 b = if 9 * st 0 1 ≤ b ∧ b < 9 * st 0 1 + 9 then 99 else st 6 b := fun b => by
                      rw [q3 6 (by omega)]
                      show (if 6 = 6 ∧ 9 * st 0 1 ≤ b ∧ b < 9 * st 0 1 + 9 then 99 else _) = _
                      by_cases g : 9 * st 0 1 ≤ b ∧ b < 9 * st 0 1 + 9
                      · rw [if_pos g, if_pos ⟨rfl, g⟩]
                      · rw [if_neg g, if_neg (fun y => g y.2)]
                        rfl
                    have j5 : ∀ b, (b < 9 * st 0 1 ∨ 9 * st 0 1 + 9 ≤ b) → R.2.2 5 b = st 5 b := fun b hb => by rw [q4' b hb]; rfl
                    -- where nothing of this voter lies
                    have hb : ∀ a j, 209 ≤ a → a ≤ 222 → ¬ (a = 210 ∧ j = 1) → ¬ ((a = 212 ∨ a = 215 ∨ a = 218) ∧ j = 7 + st 0 1) → ¬ (a = 213 ∧ 63 + 9 * st 0 1 ≤ j ∧ j < 72 + 9 * st 0 1) → ¬ (a = 214 ∧ 72 + 9 * st 0 1 ≤ j ∧ j < 81 + 9 * st 0 1) → ab_u i2 210 1 (Int32.ofNat (st 0 1 + 1)) a j = i a j := fun a j h1 h2 h3 h4 h5 h6 => by
                      rw [show ab_u i2 210 1 (Int32.ofNat (st 0 1 + 1)) a j = i2 a j from if_neg h3, hf a j h6, e9, show ab_u (ab_u i8 215 (7 + st 0 1) 0) 218 (7 + st 0 1) 1 a j = ab_u i8 215 (7 + st 0 1) 0 a j from if_neg (by omega), show ab_u i8 215 (7 + st 0 1) 0 a j = i8 a j from if_neg (by omega), F8.1 a j (by omega) h5, show ab_u i55 212 (7 + st 0 1) (Int32.ofNat S) a j = i55 a j from if_neg (by omega), hi a j h1]
                    obtain ⟨⟨r1, r1'⟩, ⟨r2, r2', r2''⟩, r3, r4, r5, r6, r7, r8, r9, r10⟩ := id hR
                    show (ab_u i2 210 1 (Int32.ofNat (st 0 1 + 1)) 209 1 = Int32.ofNat (R.2.2 0 0) ∧ ab_u i2 210 1 (Int32.ofNat (st 0 1 + 1)) 210 1 = Int32.ofNat (st 0 1 + 1)) ∧ (ab_u i2 210 1 (Int32.ofNat (st 0 1 + 1)) 219 1 = Int32.ofNat (R.2.2 0 2) ∧ (0 < R.2.2 0 2 → ab_u i2 210 1 (Int32.ofNat (st 0 1 + 1)) 220 1 = Int32.ofNat (R.2.2 0 3) ∧ ab_u i2 210 1 (Int32.ofNat (st 0 1 + 1)) 221 1 = Int32.ofNat (R.2.2 0 4)) ∧ ab_u i2 210 1 (Int32.ofNat (st 0 1 + 1)) 222 1 = mt_h (R.2.2 0 5)) ∧
                      (∀ t, t < R.2.2 0 0 → ab_u i2 210 1 (Int32.ofNat (st 0 1 + 1)) 211 (3 + t) = Int32.ofNat (R.2.2 3 t)) ∧ (∀ w t e, w < st 0 1 + 1 ∨ w = 7 → t < 3 → e < 3 → ab_u i2 210 1 (Int32.ofNat (st 0 1 + 1)) 214 (72 + 9 * w + 3 * t + e) = kt_ (R.2.2 6 (9 * w + 3 * t + e))) ∧
                      (∀ v, v < st 0 1 + 1 → ab_u i2 210 1 (Int32.ofNat (st 0 1 + 1)) 212 (7 + v) = Int32.ofNat (R.2.2 4 v) ∧ ab_u i2 210 1 (Int32.ofNat (st 0 1 + 1)) 218 (7 + v) = Int32.ofNat (R.2.2 10 v) ∧ ab_u i2 210 1 (Int32.ofNat (st 0 1 + 1)) 215 (7 + v) = Int32.ofNat (R.2.2 7 v) ∧ (R.2.2 7 v = 2 → ab_u i2 210 1 (Int32.ofNat (st 0 1 + 1)) 216 (7 + v) = Int32.ofNat (R.2.2 8 v))) ∧
                      (∀ v s t, v < st 0 1 + 1 → s < R.2.2 4 v → t < R.2.2 0 0 → ab_u i2 210 1 (Int32.ofNat (st 0 1 + 1)) 213 (63 + 9 * v + 3 * s + t) = Int32.ofNat (R.2.2 5 (9 * v + 3 * s + t))) ∧
                      (∀ v s, v < st 0 1 + 1 → R.2.2 7 v = 3 → s < R.2.2 4 v → ab_u i2 210 1 (Int32.ofNat (st 0 1 + 1)) 217 (3 * (7 + v) + s) = Int32.ofNat (R.2.2 9 (3 * v + s))) ∧
                      (∀ t, t < R.2.2 0 0 → l8 207 (3 + t) = Int64.ofNat (cv_ 6 (R.2.2 1 t))) ∧ (∀ v, v < st 0 1 + 1 → l8 208 (7 + v) = Int64.ofNat (cv_ 6 (R.2.2 2 v))) ∧ ab_u i2 210 1 (Int32.ofNat (st 0 1 + 1)) 205 27 = Int32.ofNat (R.2.2 0 7)
                    rw [j0, j1, j2, j3, j4, j7, j8, j9, j10]
                    refine ⟨⟨?_, uu_e⟩, ⟨?_, fun y => ⟨?_, ?_⟩, ?_⟩, fun t ht => ?_, fun w t e hw ht he => ?_, fun u hu => ?_, fun u s t hu hs ht => ?_, fun u s hu h7 hs => ?_, fun t ht => ?_, fun u hu => ?_, ?_⟩
                    · rw [hb _ _ (by omega) (by omega) (by omega) (by omega) (by omega) (by omega)]; exact r1
                    · rw [hb _ _ (by omega) (by omega) (by omega) (by omega) (by omega) (by omega)]; exact r2
                    · rw [hb _ _ (by omega) (by omega) (by omega) (by omega) (by omega) (by omega)]; exact (r2' y).1
                    · rw [hb _ _ (by omega) (by omega) (by omega) (by omega) (by omega) (by omega)]; exact (r2' y).2
                    · rw [hb _ _ (by omega) (by omega) (by omega) (by omega) (by omega) (by omega)]; exact r2''
                    · rw [hb _ _ (by omega) (by omega) (by omega) (by omega) (by omega) (by omega)]; exact r3 t ht
                    · rw [j6]
                      by_cases ew : w = st 0 1
                      · subst ew
                        rw [if_pos (by omega), uu_k (by omega), show 72 + 9 * st 0 1 + 3 * t + e = 72 + 9 * st 0 1 + (3 * t + e) by omega, hz _ (by omega)]
                        rfl
                      · rw [if_neg (by omega), hb _ _ (by omega) (by omega) (by omega) (by omega) (by omega) (by omega)]
                        exact r4 w t e (by omega) ht he
                    · by_cases eu : u = st 0 1
                      · rw [eu, uu_e, uu_e, uu_e]
                        refine ⟨?_, ?_, ?_, fun y => absurd y (by decide)⟩
                        · rw [uu_k (by omega), hf 212 _ (by omega), e9, uu_k (by omega), uu_k (by omega), F8.1 212 _ (by omega) (by omega), uu_e]
                        · rw [uu_k (by omega), hf 218 _ (by omega), e9, uu_e]
                          rfl
                        · rw [uu_k (by omega), hf 215 _ (by omega), e9, uu_k (by omega), uu_e]
                          rfl
                      · rw [uu_j eu, uu_j eu, uu_j eu, hb _ _ (by omega) (by omega) (by omega) (by omega) (by omega) (by omega), hb _ _ (by omega) (by omega) (by omega) (by omega) (by omega) (by omega), hb _ _ (by omega) (by omega) (by omega) (by omega) (by omega) (by omega), hb _ _ (by omega) (by omega) (by omega) (by omega) (by omega) (by omega)]
                        exact r5 u (by omega)
                    · by_cases eu : u = st 0 1
                      · subst eu
                        rw [uu_e] at hs
                        rw [uu_k (by omega), hf 213 _ (by omega), e9, uu_k (by omega), uu_k (by omega)]
                        exact L8 t s hs (Or.inl ht)
                      · rw [uu_j eu] at hs
                        have := (hC u (by omega)).1.2
                        rw [hb _ _ (by omega) (by omega) (by omega) (by omega) (by omega) (by omega), j5 _ (by omega)]
                        exact r6 u s t (by omega) hs ht
                    · by_cases eu : u = st 0 1
                      · rw [eu, uu_e] at h7
                        exact absurd h7 (by decide)
                      · rw [uu_j eu] at h7 hs
                        rw [hb _ _ (by omega) (by omega) (by omega) (by omega) (by omega) (by omega)]
                        exact r7 u s (by omega) h7 hs
                    · rw [F8.2 207 _ (by omega), hl7]
                      exact r8 t ht
                    · rw [F8.2 208 _ (by omega), hl8]
                      by_cases eu : u = st 0 1
                      · rw [eu, uu_e, uu_e]
                      · rw [uu_j (by omega), uu_j eu]
                        exact r9 u (by omega)
                    · rw [uu_k (by omega), hf 205 27 (by omega), e9, uu_k (by omega), uu_k (by omega), F8.1 205 27 (by omega) (by omega), uu_k (by omega), h27]
                      exact r10
                · rw [nn_p9, nn_le (by omega) (by omega)] at y
                  omega
              | succ n ih =>
                intro c i2 hc hf hz
                refine tMX12_readVoterLine_242 (d := d + 5) ⟨fun y => ?_, fun _ => ?_⟩
                · rw [nn_p9, nn_le (by omega) (by omega)] at y
                  omega
                · rw [show (72 : Int32) = Int32.ofNat 72 from rfl, nn_p9, nn_mul, nn_add, nn_add, nn_cl (by omega), la_nx]
                  refine ⟨la_vp (by omega) (by omega), ?_⟩
                  rintro i4 rfl
                  refine ih (c + 1) _ (by omega) (fun a j h => ?_) (fun j hj => ?_)
                  · rw [show ab_u i2 214 (72 + 9 * st 0 1 + c) (-1) a j = i2 a j from if_neg (by omega)]
                    exact hf a j h
                  · by_cases ej : j = c
                    · rw [ej, uu_e]
                    · rw [uu_j (by omega)]
                      exact hz j (by omega)
            exact go 9 0 i9 rfl (fun _ _ _ => rfl) (fun j hj => absurd hj (Nat.not_lt_zero j))
          · rw [if_neg r0] at hQ
            rw [rc_n r0] at hQ
            exact hQ _ ⟨i8, l8, rfl, nq_t hF7 (mF_n F8), fun h => absurd h r0, fun _ => ⟨h08, h98⟩⟩
        · rw [rc_n c4]
          exact ⟨fun y => absurd rfl y, fun _ => dl_no c4 hF6 (n6 c4) hQ⟩
      · rw [rc_n c3]
        exact ⟨fun _ => dl_no c3 hF5 (n5 c3) hQ, fun y => absurd rfl y⟩
    · rw [rc_n c2]
      exact ⟨fun y => absurd rfl y, fun _ => dl_no c2 (nq_h (hf_t hF2 f3)) (n3 c2) hQ⟩
  · rw [if_neg (by omega)] at hQ
    exact mb_bad (d := d + 4) (c := 4) (by omega) nq_r k rfl (Or.inr (by omega)) hQ
end TKP
