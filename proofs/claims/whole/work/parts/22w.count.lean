/-! fits: the class counts -/
/-- tables before c: how many fit, the best of them -/
def cf_ (A : mA_) : Nat → Nat × Nat
  | 0 => (0, 0)
  | c + 1 => if cs_fit A (fb_v A c) = 0 then cf_ A c else ((cf_ A c).1 + 1, if (cf_ A c).1 = 0 then c else if Int64.ofNat (cs_lost A (fb_v A c)) < Int64.ofNat (cs_lost A (fb_v A (cf_ A c).2)) then c else (cf_ A c).2)
theorem cf_le {A : mA_} : ∀ c, (cf_ A c).1 ≤ c := by
  intro c
  induction c with
  | zero => exact Nat.le_refl 0
  | succ c ih =>
    unfold cf_
    split
    · omega
    · show (cf_ A c).1 + 1 ≤ c + 1
      omega
def cf_l (A : mA_) (c : Nat) : Int64 := if (cf_ A c).1 = 0 then 0 else Int64.ofNat (cs_lost A (fb_v A (cf_ A c).2))
/-- the table kept -/
def cf_k (A : mA_) (i0 i2 : Nat → Nat → Int32) (c : Nat) : Prop := (0 < (cf_ A c).1 → ∀ u w, u < 7 → w < 3 → i2 175 (3 * u + w) = kv_t A (fb_v A (cf_ A c).2) u w) ∧ ((cf_ A c).1 = 0 → i2 175 = i0 175)
def cf_o (i i2 : Nat → Nat → Int32) : Prop := (∀ k, ¬ (161 ≤ k ∧ k ≤ 168) → k ≠ 169 → k ≠ 173 → k ≠ 175 → k ≠ 176 → k ≠ 177 → k ≠ 178 → i2 k = i k) ∧ ∀ j, j ≠ 12 → i2 169 j = i 169 j
def cf_h (l l2 : Nat → Nat → Int64) : Prop := ∀ k, k ≠ 165 → k ≠ 170 → k ≠ 172 → l2 k = l k
section TQW2
variable {d : Nat} {sc : Nat × (Nat → Int32)} {i : Nat → Nat → Int32} {l : Nat → Nat → Int64} {dd : Nat → Nat → Value} {x : Nat}
theorem cf_ot {i2 i3 : Nat → Nat → Int32} (h1 : cf_o i i2) (h2 : cf_o i2 i3) : cf_o i i3 := ⟨fun k a b c e f g h => (h2.1 k a b c e f g h).trans (h1.1 k a b c e f g h), fun j h => (h2.2 j h).trans (h1.2 j h)⟩
theorem cf_of {i2 : Nat → Nat → Int32} (h : fr_o 161 168 i i2) : cf_o i i2 := ⟨fun k a _ _ _ _ _ _ => h k (by omega), fun j _ => by rw [h 169 (by omega)]⟩
theorem cf_on {i2 : Nat → Nat → Int32} (h : nr_o i i2) : cf_o i i2 := ⟨fun k a _ _ _ _ _ g => h k a g, fun j _ => by rw [h 169 (by omega) (by omega)]⟩
theorem cf_oq {i2 : Nat → Nat → Int32} (h : fr_o 175 175 i i2) : cf_o i i2 := ⟨fun k _ _ _ e _ _ _ => h k (by omega), fun j _ => by rw [h 169 (by omega)]⟩
theorem cf_ob {i2 : Nat → Nat → Int32} (h : fb_o i i2) : cf_o i i2 := ⟨fun k _ b c _ f g _ => h.1 k b c f g, fun j hj => h.2 j hj⟩
theorem cf_ht {l2 l3 : Nat → Nat → Int64} (h1 : cf_h l l2) (h2 : cf_h l2 l3) : cf_h l l3 := fun k a b c => (h2 k a b c).trans (h1 k a b c)
theorem cf_K {A : mA_} {m : Nat} {i2 : Nat → Nat → Int32} (hW : mt_W A) (hm : ab_isM m) (hK : mt_K A m i) (h : cf_o i i2) : mt_K A m i2 :=
  mt_K_o (lo := 155) (hi := 178) hm hK (fun k hk => h.1 k (by omega) (by omega) (by omega) (by omega) (by omega) (by omega) (by omega)) (by omega) hW
theorem fb_Plf {A : mA_} {i2 : Nat → Nat → Int32} (h : fb_Pl A i) (h1 : i2 169 12 = i 169 12) (h2 : i2 176 = i 176) : fb_Pl A i2 := ⟨h1.trans h.1, fun v s hv hs => by rw [h2]; exact h.2 v s hv hs⟩
theorem fb_Dif {A : mA_} {f : Nat → Nat} {i2 : Nat → Nat → Int32} (h : fb_Di A i f) (h1 : i2 177 = i 177) (h2 : i2 173 = i 173) : fb_Di A i2 f := fun v s hv hs => by rw [h1, h2]; exact h v s hv hs
/-- the last voter's replies are noted -/
def cf_N (A : mA_) (c : Nat) (i : Nat → Nat → Int32) : Prop := ∀ s, s < aS_ A (aV_ A - 1) → i 178 s = nb_u (aT_ A + 1) (nf_ A (fb_v A c) (aV_ A - 1) s)
/-- all of it, at table c -/
def cf_Z (A : mA_) (m c : Nat) (i0 : Nat → Nat → Int32) (l0 : Nat → Nat → Int64) (d0 : Nat → Nat → Value) (i2 : Nat → Nat → Int32) (l2 : Nat → Nat → Int64) (d2 : Nat → Nat → Value) : Prop := cf_o i0 i2 ∧ cf_h l0 l2 ∧ kp_d d0 d2 ∧ d2 169 1 = .ref m ∧ fb_Pl A i2 ∧ fb_Di A i2 (fb_d A c)
theorem cF_21 {A : mA_} {m : Nat} (hW : mt_W A) (hp : 0 < aV_ A) (hm : ab_isM m) (hN : fb_N A ≤ 6) {i0 : Nat → Nat → Int32} {l0 : Nat → Nat → Int64} {d0 : Nat → Nat → Value} (hK : mt_K A m i0) (hT : (aT_ A + 1) ^ fb_N A ≤ 4096) {Q : ab_Qt} (hQ : ∀ i2 l2 d2, cf_o i0 i2 → cf_h l0 l2 → kp_d d0 d2 → cf_k A i0 i2 ((aT_ A + 1) ^ fb_N A) → Q (some (some (.int (Int32.ofNat (cf_ A ((aT_ A + 1) ^ fb_N A)).1)))) (i2, l2, d2, x) (ab_E0 sc)) :
    ∀ (r c : Nat) (i2 : Nat → Nat → Int32) (l2 : Nat → Nat → Int64) (d2 : Nat → Nat → Value) (a6 : Int32), (aT_ A + 1) ^ fb_N A = c + r → cf_Z A m c i0 l0 d0 i2 l2 d2 → cf_k A i0 i2 c → (a6 = 0 → cf_N A c i2) → ab_Fr MX3_countFits (d + 6) Q 21 [some (.ref 169), none, some (.int (Int32.ofNat ((aT_ A + 1) ^ fb_N A))), some (.int (Int32.ofNat (cf_ A c).1)), some (.long (cf_l A c)), none, some (.int a6), some (.int (Int32.ofNat c)), none, none] [] (0, 0) (i2, l2, d2, x) (ab_E0 sc) := by
  intro r
  have w1 := hW.1
  have w2 := hW.2.1
  induction r with
  | zero =>
    intro c i2 l2 d2 a6 hc Z2 k2 _
    refine tMX3_countFits_21 (d := d + 5) ⟨fun _ => ?_, fun g => ?_⟩
    · have hq := hQ i2 l2 d2 Z2.1 Z2.2.1 Z2.2.2.1
      rw [show c = (aT_ A + 1) ^ fb_N A by omega] at k2 ⊢
      exact hq k2
    · rw [nn_le (by omega) (by omega)] at g
      omega
  | succ r ih =>
    intro c i2 l2 d2 a6 hc Z2 k2 n2
    have hcl := cf_le (A := A) c
    have hv : aV_ A - 1 < aV_ A := by omega
    have hS := hW.2.2.2.2.2.2.1 (aV_ A - 1) hv
    have ht : mt_vt A (fb_v A c) := fb_vt
    have e1 : cf_ A (c + 1) = if cs_fit A (fb_v A c) = 0 then cf_ A c else ((cf_ A c).1 + 1, if (cf_ A c).1 = 0 then c else if Int64.ofNat (cs_lost A (fb_v A c)) < Int64.ofNat (cs_lost A (fb_v A (cf_ A c).2)) then c else (cf_ A c).2) := rfl
    -- the next table
    have h131 : ∀ i3 l3 d3, cf_Z A m c i0 l0 d0 i3 l3 d3 → cf_k A i0 i3 (c + 1) → cf_N A c i3 → ab_Fr MX3_countFits (d + 6) Q 131 [some (.ref 169), none, some (.int (Int32.ofNat ((aT_ A + 1) ^ fb_N A))), some (.int (Int32.ofNat (cf_ A (c + 1)).1)), some (.long (cf_l A (c + 1))), none, none, some (.int (Int32.ofNat c)), none, none] [] (0, 0) (i3, l3, d3, x) (ab_E0 sc) := by
      intro i3 l3 d3 Z3 k3 n3
      refine tMX3_countFits_131 (d := d + 5) ⟨_, _, mt_next (d := d + 3) (c := c) hW hp hm Z3.2.2.2.1 (cf_K hW hm hK Z3.1) hN Z3.2.2.2.2.1 Z3.2.2.2.2.2, ?_⟩
      rintro i5 l6 dd7 x8 ⟨i4, ⟨⟩, o4, P4, D4, b4, q4⟩
      rw [la_nx]
      refine ih (c + 1) _ _ _ _ (by omega) ⟨cf_ot Z3.1 (cf_ob o4), Z3.2.1, Z3.2.2.1, Z3.2.2.2.1, P4, D4⟩ ⟨fun h u w hu hw => ?_, fun h => ?_⟩ (fun z s hs => ?_)
      · rw [o4.1 175 (by decide) (by decide) (by decide) (by decide)]
        exact k3.1 h u w hu hw
      · rw [o4.1 175 (by decide) (by decide) (by decide) (by decide)]
        exact k3.2 h
      · rw [o4.1 178 (by decide) (by decide) (by decide) (by decide), n3 s hs, nf_c (vt := fb_v A c) (v2 := fb_v A (c + 1)) hW (fun u w hu hu2 hw => by
          unfold fb_v
          rw [q4 z _ (fb_lt hw (by omega))])]
    -- a table noted
    have h45 : ∀ i3 l3 d3, cf_Z A m c i0 l0 d0 i3 l3 d3 → cf_k A i0 i3 c → cf_N A c i3 → ab_Fr MX3_countFits (d + 6) Q 45 [some (.ref 169), none, some (.int (Int32.ofNat ((aT_ A + 1) ^ fb_N A))), some (.int (Int32.ofNat (cf_ A c).1)), some (.long (cf_l A c)), none, none, some (.int (Int32.ofNat c)), none, none] [] (0, 0) (i3, l3, d3, x) (ab_E0 sc) := by
      intro i3 l3 d3 Z3 k3 n3
      have hK3 := cf_K hW hm hK Z3.1
      have hno : cs_fit A (fb_v A c) = 0 → ∀ i4 l4 d4, cf_Z A m c i0 l0 d0 i4 l4 d4 → cf_k A i0 i4 c → cf_N A c i4 → ab_Fr MX3_countFits (d + 6) Q 131 [some (.ref 169), none, some (.int (Int32.ofNat ((aT_ A + 1) ^ fb_N A))), some (.int (Int32.ofNat (cf_ A c).1)), some (.long (cf_l A c)), none, none, some (.int (Int32.ofNat c)), none, none] [] (0, 0) (i4, l4, d4, x) (ab_E0 sc) := by
        intro h0 i4 l4 d4 Z4 k4 n4
        rw [if_pos h0] at e1
        have h := h131 i4 l4 d4 Z4
        unfold cf_k cf_l at h
        rw [e1] at h
        exact h k4 n4
      refine tMX3_countFits_45 (d := d + 5) ⟨m, Z3.2.2.2.1, hm, ?_⟩
      rw [hK3.1.2, nn_p1, nn_sub (by omega)]
      refine ⟨_, _, mt_noted (d := d + 3) (g := fun s => fb_d A c (fb_P A (aV_ A - 1) + s)) (f := nf_ A (fb_v A c) (aV_ A - 1)) hW hm Z3.2.2.2.1 hK3 hv (fun s hs => ⟨fb_dl, (Z3.2.2.2.2.2 _ s hv hs).2⟩) n3, ?_⟩
      rintro i5 l6 dd7 x8 ⟨⟩
      by_cases cn : ∀ s, s < aS_ A (aV_ A - 1) → nf_ A (fb_v A c) (aV_ A - 1) s (fb_d A c (fb_P A (aV_ A - 1) + s)) = true
      case neg =>
        rw [if_neg cn]
        refine ⟨fun _ => hno ?_ _ _ _ Z3 k3 n3, fun z => absurd rfl z⟩
        refine if_neg (fun q => cn (fun s hs => ?_))
        rw [nf_y (show fb_v A c (aV_ A - 1) s = mt_wx A (fb_d A c (fb_P A (aV_ A - 1) + s)) from rfl)]
        exact decide_eq_true (q _ hv s hs)
      rw [if_pos cn]
      refine ⟨fun z => absurd z (by decide), fun _ => ⟨m, Z3.2.2.2.1, hm, _, _, mt_isFit (d := d) (n := 21) (a := 173) (vt := fb_v A c) hW hm hK3 rfl (by omega) (by omega) (fun v s hv hs => (Z3.2.2.2.2.2 v s hv hs).2) (vt_9 hW ht), ?_⟩⟩
      rintro i5 l6 dd7 x8 ⟨i4, l4, d4, ⟨⟩, f4, h4, kd4, r4⟩
      have Z4 : cf_Z A m c i0 l0 d0 i5 l6 dd7 := ⟨cf_ot Z3.1 (cf_of f4), cf_ht Z3.2.1 (fun k a b _ => h4 k a b), kp_dt Z3.2.2.1 kd4, r4 Z3.2.2.2.1, fb_Plf Z3.2.2.2.2.1 (by rw [f4 169 (by omega)]) (f4 176 (by omega)), fb_Dif Z3.2.2.2.2.2 (f4 177 (by omega)) (f4 173 (by omega))⟩
      have k4 : cf_k A i0 i5 c := ⟨fun h u w hu hw => by rw [f4 175 (by omega)]; exact k3.1 h u w hu hw, fun h => by rw [f4 175 (by omega)]; exact k3.2 h⟩
      have n4 : cf_N A c i5 := fun s hs => by rw [f4 178 (by omega)]; exact n3 s hs
      rcases cs_fit01 (A := A) (vt := fb_v A c) with z | z
      · rw [z]
        exact ⟨fun _ => hno z _ _ _ Z4 k4 n4, fun y => absurd rfl y⟩
      · rw [z]
        have hK4 := cf_K hW hm hK Z4.1
        have V4 : mt_Vc A i5 173 (fb_v A c) := fun v s hv hs => (Z4.2.2.2.2.2 v s hv hs).2
        refine ⟨fun y => absurd y (by decide), fun _ => ⟨m, Z4.2.2.2.1, hm, _, mt_countT (d := d + 1) hW hp ht hm hK4 V4, ?_⟩⟩
        rintro i8 l9 dd10 x11 ⟨i9, l10, ⟨⟩, f9, h9, z9⟩
        have Z9 : cf_Z A m c i0 l0 d0 i8 l9 (ab_u dd7 160 0 (.ref m)) := ⟨cf_ot Z4.1 (cf_of f9), cf_ht Z4.2.1 (fun k a _ b => h9 k a b), kp_dt Z4.2.2.1 (kp_160 hm), by rw [uu_k (by decide)]; exact Z4.2.2.2.1, fb_Plf Z4.2.2.2.2.1 (by rw [f9 169 (by omega)]) (f9 176 (by omega)), fb_Dif Z4.2.2.2.2.2 (f9 177 (by omega)) (f9 173 (by omega))⟩
        have k9 : cf_k A i0 i8 c := ⟨fun h u w hu hw => by rw [f9 175 (by omega)]; exact k4.1 h u w hu hw, fun h => by rw [f9 175 (by omega)]; exact k4.2 h⟩
        have n9 : cf_N A c i8 := fun s hs => by rw [f9 178 (by omega)]; exact n4 s hs
        have hK9 := cf_K hW hm hK Z9.1
        refine ⟨m, Z9.2.2.2.1, hm, _, _, mt_lostBy (d := d + 4) (n := 9) (K := aK_ A 7) (F := cs_cm A (fb_v A c)) (Or.inl ⟨m, hm, rfl⟩) rfl (mt_KLo hW hK9) z9 (by omega), ?_⟩
        rintro i12 l13 dd14 x15 ⟨⟩
        rw [cs_tb hW hp]
        rw [if_neg (by omega)] at e1
        -- the table is the best so far
        have h112 : (cf_ A (c + 1)).1 = (cf_ A c).1 + 1 → (cf_ A (c + 1)).2 = c → ab_Fr MX3_countFits (d + 6) Q 112 [some (.ref 169), none, some (.int (Int32.ofNat ((aT_ A + 1) ^ fb_N A))), some (.int (Int32.ofNat (cf_ A c).1)), none, none, none, some (.int (Int32.ofNat c)), some (.long (Int64.ofNat (cs_lost A (fb_v A c)))), none] [] (0, 0) (i8, l9, ab_u dd7 160 0 (.ref m), x) (ab_E0 sc) := by
          intro ha hb
          refine tMX3_countFits_112 (d := d + 5) ⟨m, Z9.2.2.2.1, hm, _, mt_keep (d := d + 2) (n := 21) (a := 175) (vt := fb_v A c) hW hm rfl (by omega) (by omega) hK9 (fun v s hv hs => (Z9.2.2.2.2.2 v s hv hs).2), ?_⟩
          rintro i12 l13 dd14 x15 ⟨i13, ⟨⟩, f13, z13⟩
          refine tMX3_countFits_128 (d := d + 5) ?_
          rw [la_nx]
          have h := h131 i12 l9 (ab_u dd7 160 0 (.ref m)) ⟨cf_ot Z9.1 (cf_oq f13), Z9.2.1, Z9.2.2.1, Z9.2.2.2.1, fb_Plf Z9.2.2.2.2.1 (by rw [f13 169 (by omega)]) (f13 176 (by omega)), fb_Dif Z9.2.2.2.2.2 (f13 177 (by omega)) (f13 173 (by omega))⟩ ⟨fun _ u w hu hw => by rw [hb]; exact z13 u w hu hw, fun y => by omega⟩ (fun s hs => by rw [f13 178 (by omega)]; exact n9 s hs)
          have el : cf_l A (c + 1) = Int64.ofNat (cs_lost A (fb_v A c)) := by
            unfold cf_l
            rw [hb, if_neg (by omega)]
          rw [el, ha] at h
          exact h
        have a1 : (cf_ A (c + 1)).1 = (cf_ A c).1 + 1 := by rw [e1]
        rw [nn_p0, nn_eq (by omega) (by omega)]
        refine ⟨fun g => h112 a1 (by rw [e1]; exact if_pos g), fun g => ?_⟩
        have el : cf_l A c = Int64.ofNat (cs_lost A (fb_v A (cf_ A c).2)) := if_neg g
        rw [el]
        refine ⟨fun g2 => ?_, fun g2 => h112 a1 (by rw [e1]; exact (if_neg g).trans (if_pos g2))⟩
        have a2 : (cf_ A (c + 1)).2 = (cf_ A c).2 := by rw [e1]; exact (if_neg g).trans (if_neg g2)
        refine tMX3_countFits_128 (d := d + 5) ?_
        rw [la_nx]
        have h := h131 i8 l9 (ab_u dd7 160 0 (.ref m)) Z9 ⟨fun _ u w hu hw => by rw [a2]; exact k9.1 (by omega) u w hu hw, fun y => by omega⟩ n9
        have el2 : cf_l A (c + 1) = Int64.ofNat (cs_lost A (fb_v A (cf_ A c).2)) := by
          unfold cf_l
          rw [a2, if_neg (by omega)]
        rw [el2, a1] at h
        exact h
    have hK2 := cf_K hW hm hK Z2.1
    refine tMX3_countFits_21 (d := d + 5) ⟨fun g => ?_, fun _ => ⟨fun g => h45 _ _ _ Z2 k2 (n2 g), fun g => ⟨m, Z2.2.2.2.1, hm, ?_⟩⟩⟩
    · rw [nn_le (by omega) (by omega)] at g
      omega
    · rw [hK2.1.2, nn_p1, nn_sub (by omega)]
      refine ⟨_, mt_note (d := d) (vt := fb_v A c) hW hm Z2.2.2.2.1 hK2 (fun v s hv hs => (Z2.2.2.2.2.2 v s hv hs).2) (vt_9 hW ht) hv, ?_⟩
      rintro i9 l10 dd11 x12 ⟨i3, l3, ⟨⟩, o3, h3, z3⟩
      refine h45 _ _ _ ⟨cf_ot Z2.1 (cf_on o3), cf_ht Z2.2.1 (fun k a b _ => h3 k a b), kp_dt Z2.2.2.1 (kp_dt (kp_169 hm) (kp_160 hm)), by rw [uu_k (by decide)]; exact uu_e, fb_Plf Z2.2.2.2.2.1 (by rw [o3 169 (by omega) (by omega)]) (o3 176 (by omega) (by omega)), fb_Dif Z2.2.2.2.2.2 (o3 177 (by omega) (by omega)) (o3 173 (by omega) (by omega))⟩ ⟨fun h u w hu hw => by rw [o3 175 (by omega) (by omega)]; exact k2.1 h u w hu hw, fun h => by rw [o3 175 (by omega) (by omega)]; exact k2.2 h⟩ z3
theorem fb_TN {A : mA_} (hW : mt_W A) (hN : fb_N A ≤ 6) : (aT_ A + 1) ^ fb_N A ≤ 4096 := by
  have w1 := hW.1
  have h1 : (aT_ A + 1) ^ fb_N A ≤ 4 ^ fb_N A := Nat.pow_le_pow_left (by omega) _
  have h2 : 4 ^ fb_N A ≤ 4 ^ 6 := Nat.pow_le_pow_right (by omega) hN
  have h3 : (4 : Nat) ^ 6 = 4096 := rfl
  omega
theorem mt_countF {A : mA_} {m : Nat} (hW : mt_W A) (hp : 0 < aV_ A) (hm : ab_isM m) (hK : mt_K A m i) (hN : fb_N A ≤ 6) : ab_Sp MX3_countFits (d + 6) [.ref 169, .ref m] (i, l, dd, x) (ab_E0 sc) (some (.int (Int32.ofNat (cf_ A ((aT_ A + 1) ^ fb_N A)).1))) (fun σ => ∃ i2 l2 d2, σ = (i2, l2, d2, x) ∧ cf_o i i2 ∧ cf_h l l2 ∧ kp_d dd d2 ∧ cf_k A i i2 ((aT_ A + 1) ^ fb_N A)) := by
  refine ab_ent (n := 1) okMX3_countFits.1 (fun G => Nat.le_of_ble_eq_true rfl) (fun Q hQ => ?_)
  refine tMX3_countFits_0 (d := d + 5) hm ?_
  rintro dd1 rfl
  refine ⟨_, _, mt_lay (d := d + 4) hW hp hm uu_e hK hN, ?_⟩
  rintro i7 l8 dd9 x10 ⟨i2, ⟨⟩, o2, P2, D2⟩
  exact cF_21 (d := d) (i0 := i) (l0 := l) (d0 := dd) hW hp hm hN hK (fb_TN hW hN) (fun i3 l3 d3 o3 h3 kd3 k3 => hQ _ ⟨i3, l3, d3, rfl, o3, h3, kd3, k3⟩) ((aT_ A + 1) ^ fb_N A) 0 _ _ _ 1 (Nat.zero_add _).symm ⟨cf_ob o2, fun _ _ _ _ => rfl, kp_169 hm, uu_e, P2, D2⟩ ⟨fun h => absurd h (Nat.lt_irrefl 0), fun _ => o2.1 175 (by decide) (by decide) (by decide) (by decide)⟩ (fun h => absurd h (by decide))
end TQW2
