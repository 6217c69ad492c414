/-! THE MATTER is laid: the model's votes -/
section TKT
variable {d : Nat} {sc : Nat × (Nat → Int32)} {i : Nat → Nat → Int32} {l : Nat → Nat → Int64} {dd : Nat → Nat → Value} {x : Nat}
theorem mk_least {T : Nat} {f : Nat → Int64} {a b c : Int64} (hT : 2 ≤ T ∧ T ≤ 3) (r1 : i 205 29 = Int32.ofNat T) (h0 : f 0 = a) (h1 : f 1 = b) (h2 : T = 3 → f 2 = c) : ab_Sp MX12_least (d + 1) [.ref 205, .long a, .long b, .long c] (i, l, dd, x) (ab_E0 sc) (some (.int (Int32.ofNat (mt_li f (T - 1))))) (fun σ => σ = (i, l, dd, x)) := by
  refine ab_ent (n := 3) okMX12_least.1 (fun G => Nat.le_of_ble_eq_true rfl) (fun Q hQ => ?_)
  have e1 : mt_li f 1 = if b < a then 1 else 0 := by
    show (if f 1 < f 0 then 1 else 0) = _
    rw [h0, h1]
  have go : ∀ s : Nat, mt_li f 1 = s → s < 2 → ab_Fr MX12_least (d + 1) Q 11 [some (.ref 205), some (.long a), none, some (.long b), none, some (.long c), none, none] [.int (Int32.ofNat s)] (0, 0) (i, l, dd, x) (ab_E0 sc) := by
    intro s hs hs2
    refine tMX12_least_11 ?_
    rw [r1, nn_p3, nn_p1, nn_eq (by omega) (by omega), nn_eq (by omega) (by omega)]
    refine ⟨fun g => ?_, fun g => ?_⟩
    · rw [show T - 1 = 1 by omega, hs] at hQ
      exact hQ _ rfl
    · rw [show T - 1 = 2 by omega] at hQ
      have e2 : mt_li f 2 = if c < f s then 2 else s := by
        show (if f 2 < f (mt_li f 1) then 2 else mt_li f 1) = _
        rw [hs, h2 g]
      rw [e2] at hQ
      refine ⟨fun g2 => tMX12_least_34 ?_, fun g2 => tMX12_least_34 ?_⟩
      · rw [show s = 0 by omega] at hQ ⊢
        rw [h0] at hQ
        refine ⟨fun g3 => ?_, fun g3 => ?_⟩
        · rw [if_neg g3] at hQ
          exact hQ _ rfl
        · rw [if_pos g3] at hQ
          exact hQ _ rfl
      · rw [g2] at hQ ⊢
        rw [h1] at hQ
        refine ⟨fun g3 => ?_, fun g3 => ?_⟩
        · rw [if_neg g3] at hQ
          exact hQ _ rfl
        · rw [if_pos g3] at hQ
          exact hQ _ rfl
  refine tMX12_least_0 ⟨fun g => go 0 ?_ (by omega), fun g => go 1 ?_ (by omega)⟩
  · rw [e1, if_neg g]
  · rw [e1, if_pos g]
theorem mv_w {st : ps_} {v s t : Nat} (hI : PI_ st) (hR : dS_ st i) (hv : v < st 0 1) (hs : s < st 4 v) (ht : t < st 0 0) : ab_Sp MX12_weightOf (d + 1) [.ref 205, .int (Int32.ofNat v), .int (Int32.ofNat s), .int (Int32.ofNat t)] (i, l, dd, x) (ab_E0 sc) (some (.long (Int64.ofNat (A_C st t * A_L st v s t)))) (fun σ => σ = (i, l, dd, x)) := by
  have hT := hI.1.1
  have hV := hI.1.2.1
  have hC := hI.2.2.1 v hv
  have h3 := hI.1.2.2.2.2.2.2 t ht
  have hL := (hC.2.2.2.2.2 t ht).1 s hs
  have eC : A_C st t = st 3 t := if_pos ht
  have eL : A_L st v s t = st 5 (9 * v + 3 * s + t) := if_pos ⟨hv, hs, ht⟩
  rw [eC, eL]
  refine ab_ent (n := 3) okMX12_weightOf.1 (fun G => Nat.le_of_ble_eq_true rfl) (fun Q hQ => ?_)
  refine tMX12_weightOf_0 ?_
  rw [show (9 : Int32) = Int32.ofNat 9 from rfl, nn_p3, nn_mul, nn_mul, nn_add, nn_add, nn_cl (by omega), nn_cl (by omega), hR.2.2.1 t ht, hR.2.2.2.2.2.1 v s t hv hs ht, nn_64 (by omega), nn_64 (by omega), nl_mul]
  exact ⟨la_vp (by omega) (by omega), la_vp (by omega) (by omega), hQ _ rfl⟩
theorem mv_l {st : ps_} {v t e : Nat} (hI : PI_ st) (hR : dS_ st i) (hv : v < st 0 1) (ht : t < 3) (he : e < 3) : ab_Sp MX12_loss (d + 1) [.ref 205, .int (Int32.ofNat v), .int (Int32.ofNat t), .int (Int32.ofNat e)] (i, l, dd, x) (ab_E0 sc) (some (.int (Int32.ofNat (A_K st v t e)))) (fun σ => σ = (i, l, dd, x)) := by
  have hV := hI.1.2.1
  have hD := hI.2.2.2.1
  have d1 := hD v t e (Or.inl hv) ht he
  have d7 := hD 7 t e (Or.inr rfl) ht he
  have g1 := hR.2.2.2.1 v t e (Or.inl hv) ht he
  have g7 := hR.2.2.2.1 7 t e (Or.inr rfl) ht he
  rw [show 9 * 7 + 3 * t + e = 63 + 3 * t + e by omega] at d7 g7
  have eA : A_K st v t e = if st 6 (9 * v + 3 * t + e) ≠ 99 then st 6 (9 * v + 3 * t + e) else kr_ (st 6) t e := by
    unfold A_K
    rw [if_pos ⟨ht, he⟩]
    by_cases c : st 6 (9 * v + 3 * t + e) ≠ 99
    · rw [if_pos ⟨hv, c⟩, if_pos c]
    · rw [if_neg (fun y => c y.2), if_neg c]
  rw [eA]
  refine ab_ent (n := 3) okMX12_loss.1 (fun G => Nat.le_of_ble_eq_true rfl) (fun Q hQ => ?_)
  have hQ2 := hQ _ rfl
  refine tMX12_loss_0 ?_
  rw [show (9 : Int32) = Int32.ofNat 9 from rfl, show (63 : Int32) = Int32.ofNat 63 from rfl, nn_p3, nn_mul, nn_mul, nn_add, nn_add, nn_add, nn_add, nn_cl (by omega), nn_cl (by omega), g1, g7, kt_m d1, kt_m d7, nn_eq (by omega) (by omega)]
  refine ⟨la_vp (by omega) (by omega), fun c => ⟨la_vp (by omega) (by omega), fun c7 => ⟨fun cn => ?_, fun cn => ?_⟩, fun c7 => ?_⟩, fun c => ?_⟩
  · rw [if_neg (fun y => y c)] at hQ2
    unfold kr_ at hQ2
    rw [if_pos c7, if_neg cn] at hQ2
    exact hQ2
  · rw [if_neg (fun y => y c)] at hQ2
    unfold kr_ at hQ2
    rw [if_pos c7, if_pos cn] at hQ2
    exact hQ2
  · rw [if_neg (fun y => y c)] at hQ2
    unfold kr_ at hQ2
    rw [if_neg c7] at hQ2
    unfold kt_
    rw [if_neg c7]
    exact hQ2
  · rw [if_pos c] at hQ2
    unfold kt_
    rw [if_neg c]
    exact hQ2
theorem mv_t3 {st : ps_} {g : Nat → Nat} (hT : 2 ≤ st 0 0 ∧ st 0 0 ≤ 3) : pu_s (fun t => A_C st t * g t) (st 0 0) = pu_s (fun t => A_C st t * g t) 3 := by
  rcases (show st 0 0 = 2 ∨ st 0 0 = 3 by omega) with y | y
  · rw [y]
    have e : A_C st 2 = 0 := if_neg (by omega)
    show _ = pu_s (fun t => A_C st t * g t) 2 + A_C st 2 * g 2
    rw [e, Nat.zero_mul, Nat.add_zero]
  · rw [y]
theorem mv_lo {st : ps_} {v s e : Nat} (hI : PI_ st) (h29 : i 205 29 = Int32.ofNat (st 0 0)) (hR : dS_ st i) (hv : v < st 0 1) (hs : s < st 4 v) (he : e < 3) : ab_Sp MX12_losing (d + 2) [.ref 205, .int (Int32.ofNat v), .int (Int32.ofNat s), .int (Int32.ofNat e)] (i, l, dd, x) (ab_E0 sc) (some (.long (Int64.ofNat (pu_s (fun t => A_C st t * A_L st v s t * A_K st v t e) 3)))) (fun σ => σ = (i, l, dd, x)) := by
  have hT : 2 ≤ st 0 0 ∧ st 0 0 ≤ 3 := ⟨by have := hI.1.2.2.2.2.2.1 (hI.1.2.2.2.1 (by omega)); omega, hI.1.1⟩
  have e3 : pu_s (fun t => A_C st t * A_L st v s t * A_K st v t e) (st 0 0) = pu_s (fun t => A_C st t * A_L st v s t * A_K st v t e) 3 := by
    have h := mv_t3 (g := fun t => A_L st v s t * A_K st v t e) hT
    rw [pu_sc (g := fun t => A_C st t * (A_L st v s t * A_K st v t e)) (fun t _ => Nat.mul_assoc _ _ _), h]
    exact pu_sc (fun t _ => (Nat.mul_assoc _ _ _).symm)
  rw [← e3]
  refine ab_ent (n := 3) okMX12_losing.1 (fun G => Nat.le_of_ble_eq_true rfl) (fun Q hQ => ?_)
  refine tMX12_losing_0 (d := d + 1) ?_
  have go : ∀ n t : Nat, st 0 0 = t + n → ab_Fr MX12_losing (d + 2) Q 6 [some (.ref 205), some (.int (Int32.ofNat v)), some (.int (Int32.ofNat s)), some (.int (Int32.ofNat e)), some (.long (Int64.ofNat (pu_s (fun t => A_C st t * A_L st v s t * A_K st v t e) t))), none, some (.int (Int32.ofNat t))] [] (0, 0) (i, l, dd, x) (ab_E0 sc) := by
    intro n
    induction n with
    | zero =>
      intro t ht
      refine tMX12_losing_6 (d := d + 1) ⟨fun _ => ?_, fun y => ?_⟩
      · rw [show t = st 0 0 by omega]
        exact hQ _ rfl
      · rw [h29, nn_le (by omega) (by omega)] at y
        omega
    | succ n ih =>
      intro t ht
      refine tMX12_losing_6 (d := d + 1) ⟨fun y => ?_, fun _ => ⟨_, _, mv_w (d := d) hI hR hv hs (by omega), ?_⟩⟩
      · rw [h29, nn_le (by omega) (by omega)] at y
        omega
      · rintro i6 l7 dd8 x9 ⟨⟩
        refine ⟨_, _, mv_l (d := d) hI hR hv (show t < 3 by omega) he, ?_⟩
        rintro i15 l16 dd17 x18 ⟨⟩
        have := A_Kb (w := v) (t := t) (e := e) hI.2.2.2.1
        rw [nn_64 (by omega), nl_mul, nl_add, la_nx]
        exact ih (t + 1) (by omega)
  exact go (st 0 0) 0 (Nat.zero_add _).symm
theorem mv_ho {st : ps_} {v s : Nat} (hI : PI_ st) (h29 : i 205 29 = Int32.ofNat (st 0 0)) (hR : dS_ st i) (hv : v < st 0 1) (hs : s < st 4 v) : ab_Sp MX12_honest (d + 3) [.ref 205, .int (Int32.ofNat v), .int (Int32.ofNat s)] (i, l, dd, x) (ab_E0 sc) (some (.int (Int32.ofNat (A_h st v s)))) (fun σ => σ = (i, l, dd, x)) := by
  have hT : 2 ≤ st 0 0 ∧ st 0 0 ≤ 3 := ⟨by have := hI.1.2.2.2.2.2.1 (hI.1.2.2.2.1 (by omega)); omega, hI.1.1⟩
  have hW := A_W hI (by omega)
  have hb : ∀ e, pu_s (fun t => A_C st t * A_L st v s t * A_K st v t e) 3 < 2 ^ 63 := fun e => by
    have h : pu_s (fun t => A_C st t * A_L st v s t * A_K st v t e) 3 ≤ pu_s (fun _ => 20 * 20 * 50) 3 := pu_sle (fun t _ => Nat.mul_le_mul (Nat.mul_le_mul (hW.2.2.2.2.1 t).1 (hW.2.2.2.2.2.2.2.1 v s t).1) (A_Kb hI.2.2.2.1))
    have h2 : pu_s (fun _ => 20 * 20 * 50) 3 = 60000 := rfl
    omega
  have eh : mt_li (fun e => Int64.ofNat (pu_s (fun t => A_C st t * A_L st v s t * A_K st v t e) 3)) (st 0 0 - 1) = A_h st v s := mt_li_n _ (fun e _ => hb e)
  refine ab_ent (n := 2) okMX12_honest.1 (fun G => Nat.le_of_ble_eq_true rfl) (fun Q hQ => ?_)
  have h34 : ∀ (c : Int64), (st 0 0 = 3 → Int64.ofNat (pu_s (fun t => A_C st t * A_L st v s t * A_K st v t 2) 3) = c) → ab_Fr MX12_honest (d + 3) Q 34 [none, none, none] [.long c, .long (Int64.ofNat (pu_s (fun t => A_C st t * A_L st v s t * A_K st v t 1) 3)), .long (Int64.ofNat (pu_s (fun t => A_C st t * A_L st v s t * A_K st v t 0) 3)), .ref 205] (0, 0) (i, l, dd, x) (ab_E0 sc) := fun c hc => by
    refine tMX12_honest_34 (d := d + 2) ⟨_, _, mk_least (d := d + 1) (f := fun e => Int64.ofNat (pu_s (fun t => A_C st t * A_L st v s t * A_K st v t e) 3)) hT h29 rfl rfl hc, ?_⟩
    rintro i5 l6 dd7 x8 ⟨⟩
    rw [eh]
    exact hQ _ rfl
  refine tMX12_honest_0 (d := d + 2) ⟨_, _, mv_lo (d := d) (e := 0) hI h29 hR hv hs (by omega), ?_⟩
  rintro i5 l6 dd7 x8 ⟨⟩
  refine ⟨_, _, mv_lo (d := d) (e := 1) hI h29 hR hv hs (by omega), ?_⟩
  rintro i14 l15 dd16 x17 ⟨⟩
  rw [h29, nn_p3, nn_eq (by omega) (by omega)]
  refine ⟨fun c => h34 _ (fun y => absurd y c), fun c => ⟨_, _, mv_lo (d := d) (e := 2) hI h29 hR hv hs (by omega), ?_⟩⟩
  rintro i24 l25 dd26 x27 ⟨⟩
  exact h34 _ (fun _ => rfl)
theorem mv_to {st : ps_} {v s : Nat} (hI : PI_ st) (h29 : i 205 29 = Int32.ofNat (st 0 0)) (hR : dS_ st i) (hv : v < st 0 1) (hs : s < st 4 v) : ab_Sp MX12_told (d + 4) [.ref 205, .int (Int32.ofNat v), .int (Int32.ofNat s)] (i, l, dd, x) (ab_E0 sc) (some (.int (Int32.ofNat (A_O st v s)))) (fun σ => σ = (i, l, dd, x)) := by
  have hT : 2 ≤ st 0 0 ∧ st 0 0 ≤ 3 := ⟨by have := hI.1.2.2.2.2.2.1 (hI.1.2.2.2.1 (by omega)); omega, hI.1.1⟩
  have hV := hI.1.2.1
  have hW := A_W hI (by omega)
  obtain ⟨hS, hw9, hy3, hh, hx9, hL⟩ := hI.2.2.1 v hv
  have hy := (hR.2.2.2.2.1 v hv).2.2.1
  refine ab_ent (n := 2) okMX12_told.1 (fun G => Nat.le_of_ble_eq_true rfl) (fun Q hQ => ?_)
  have hQ2 := hQ _ rfl
  unfold A_O at hQ2
  refine tMX12_told_0 (d := d + 3) ?_
  rw [nn_cl (by omega), hy, nn_p3, nn_p1, nn_p0, nn_eq (by omega) (by omega), nn_eq (by omega) (by omega)]
  refine ⟨la_vp (by omega) (by omega), fun c3 => ⟨la_vp (by omega) (by omega), fun c1 => ⟨_, _, mv_ho (d := d) hI h29 hR hv hs, ?_⟩, fun c1 => ?_⟩, fun c3 => ?_⟩
  · rintro i7 l8 dd9 x10 ⟨⟩
    rw [if_neg c3, if_neg c1] at hQ2
    rw [hy, nn_eq (by omega) (by omega)]
    have hAh := A_hl (st := st) (v := v) (s := s) hT.1
    refine ⟨la_vp (by omega) (by omega), fun c0 => ?_, fun c0 => ?_⟩
    · have h2 : st 7 v = 2 := by omega
      rw [if_pos h2] at hQ2
      have h8 := (hR.2.2.2.2.1 v hv).2.2.2 h2
      have hh2 := hh h2
      have hCL : ∀ t, A_C st t * A_L st v s t ≤ 20 * 20 := fun t => Nat.mul_le_mul (hW.2.2.2.2.1 t).1 (hW.2.2.2.2.2.2.2.1 v s t).1
      have hsum : pu_s (fun t => A_C st t * A_L st v s t) 3 ≤ 1200 := by
        have h : pu_s (fun t => A_C st t * A_L st v s t) 3 ≤ pu_s (fun _ => 20 * 20) 3 := pu_sle (fun t _ => hCL t)
        have h2 : pu_s (fun _ => 20 * 20) 3 = 1200 := rfl
        omega
      have hm8 : st 8 v * pu_s (fun t => A_C st t * A_L st v s t) 3 ≤ 20 * 1200 := Nat.mul_le_mul hh2.2 hsum
      have go : ∀ n t : Nat, st 0 0 = t + n → ab_Fr MX12_told (d + 4) Q 114 [some (.ref 205), some (.int (Int32.ofNat v)), some (.int (Int32.ofNat s)), some (.int (Int32.ofNat (A_h st v s))), some (.long (Int64.ofNat (pu_s (fun t => A_C st t * A_L st v s t) t))), none, some (.int (Int32.ofNat t))] [] (0, 0) (i, l, dd, x) (ab_E0 sc) := by
        intro n
        induction n with
        | zero =>
          intro t ht
          refine tMX12_told_114 (d := d + 3) ⟨fun _ => ⟨_, _, mv_w (d := d + 2) hI hR hv hs hAh, ?_⟩, fun y => ?_⟩
          · rintro i6 l7 dd8 x9 ⟨⟩
            have hc := hCL (A_h st v s)
            rw [show t = st 0 0 by omega, mv_t3 hT, nn_cl (by omega), h8, nn_64 (by omega), nl_p20, nl_mul, nl_mul, nl_lt (by omega) (by omega), Nat.mul_comm 20]
            refine ⟨la_vp (by omega) (by omega), fun c => ?_, fun c => ?_⟩
            · rw [if_pos c] at hQ2
              exact hQ2
            · rw [if_neg c] at hQ2
              exact hQ2
          · rw [h29, nn_le (by omega) (by omega)] at y
            omega
        | succ n ih =>
          intro t ht
          refine tMX12_told_114 (d := d + 3) ⟨fun y => ?_, fun _ => ⟨_, _, mv_w (d := d + 2) hI hR hv hs (show t < st 0 0 by omega), ?_⟩⟩
          · rw [h29, nn_le (by omega) (by omega)] at y
            omega
          · rintro i6 l7 dd8 x9 ⟨⟩
            rw [nl_add, la_nx]
            exact ih (t + 1) (by omega)
      exact go (st 0 0) 0 (Nat.zero_add _).symm
    · rw [if_neg (by omega)] at hQ2
      exact hQ2
  · rw [if_neg c3, if_pos c1] at hQ2
    have hl : ∀ t, t < st 0 0 → i 213 (9 * v + 3 * s + t) = Int32.ofNat (A_L st v s t) := fun t ht => by
      rw [hR.2.2.2.2.2.1 v s t hv hs ht, show A_L st v s t = st 5 (9 * v + 3 * s + t) from if_pos ⟨hv, hs, ht⟩]
    have hLb := fun t => (hW.2.2.2.2.2.2.2.1 v s t).1
    have go : ∀ n k : Nat, st 0 0 = k + 1 + n → ab_Fr MX12_told (d + 4) Q 36 [some (.ref 205), some (.int (Int32.ofNat v)), some (.int (Int32.ofNat s)), some (.int (Int32.ofNat (mt_am (fun t => A_L st v s t) k))), some (.int (Int32.ofNat (k + 1))), none, none] [] (0, 0) (i, l, dd, x) (ab_E0 sc) := by
      intro n
      induction n with
      | zero =>
        intro k hk
        refine tMX12_told_36 (d := d + 3) ⟨fun _ => ?_, fun y => ?_⟩
        · rw [show k = st 0 0 - 1 by omega]
          exact hQ2
        · rw [h29, nn_le (by omega) (by omega)] at y
          omega
      | succ n ih =>
        intro k hk
        have ha := mt_am_le (f := fun t => A_L st v s t) k
        have e : mt_am (fun t => A_L st v s t) (k + 1) = if A_L st v s (mt_am (fun t => A_L st v s t) k) < A_L st v s (k + 1) then k + 1 else mt_am (fun t => A_L st v s t) k := rfl
        have h1 : A_L st v s (k + 1) ≤ 20 := hLb (k + 1)
        have h2 : A_L st v s (mt_am (fun t => A_L st v s t) k) ≤ 20 := hLb _
        have hi := ih (k + 1) (by omega)
        refine tMX12_told_36 (d := d + 3) ⟨fun y => ?_, fun _ => ?_⟩
        · rw [h29, nn_le (by omega) (by omega)] at y
          omega
        · rw [show (9 : Int32) = Int32.ofNat 9 from rfl, nn_p3, nn_mul, nn_mul, nn_add, nn_add, nn_add, nn_cl (by omega), nn_cl (by omega), hl (k + 1) (by omega), hl _ (by omega), nn_le (by omega) (by omega), la_nx]
          refine ⟨la_vp (by omega) (by omega), la_vp (by omega) (by omega), fun c => ?_, fun c => ?_⟩
          · rw [e, if_neg (by omega)] at hi
            exact hi
          · rw [e, if_pos (by omega)] at hi
            exact hi
    exact go (st 0 0 - 1) 0 (by omega)
  · rw [if_pos c3] at hQ2
    rw [nn_mul, nn_add, nn_cl (by omega), hR.2.2.2.2.2.2 v s hv c3 hs]
    exact ⟨la_vp (by omega) (by omega), hQ2⟩
theorem mv_all {st : ps_} (hI : PI_ st) (hp : 0 < st 0 1) (hR : dS_ st i) (hL : dW_ st i l) : ab_Sp MX12_layVotes (d + 5) [.ref 205] (i, l, dd, x) (ab_E0 sc) none (fun σ => ∃ i2, σ = (i2, l, dd, x) ∧ (∀ k j, ¬ (k = 225 ∧ j < 21) → i2 k j = i k j) ∧ ∀ v s, v < st 0 1 → s < st 4 v → i2 225 (3 * v + s) = Int32.ofNat (A_O st v s)) := by
  have hV := hI.1.2.1
  have hC := hI.2.2.1
  refine ab_ent (n := 0) okMX12_layVotes.1 (fun G => Nat.le_of_ble_eq_true rfl) (fun Q hQ => ?_)
  refine tMX12_layVotes_0 (d := d + 4) ?_
  have hF : ∀ i2 : Nat → Nat → Int32, (∀ k j, ¬ (k = 225 ∧ j < 21) → i2 k j = i k j) → dS_ st i2 ∧ i2 205 29 = Int32.ofNat (st 0 0) ∧ i2 205 30 = Int32.ofNat (st 0 1) := fun i2 F2 => ⟨dS_f hR (fun k j h1 h2 => F2 k j (by omega)), by rw [F2 205 29 (by omega)]; exact hL.1.1, by rw [F2 205 30 (by omega)]; exact hL.1.2.1⟩
  have p12 : ∀ v, v < st 0 1 → (∀ i3, (∀ k j, ¬ (k = 225 ∧ j < 21) → i3 k j = i k j) → (∀ u s, u < v + 1 → s < st 4 u → i3 225 (3 * u + s) = Int32.ofNat (A_O st u s)) → ab_Fr MX12_layVotes (d + 5) Q 2 [some (.ref 205), some (.int (Int32.ofNat (v + 1))), none] [] (0, 0) (i3, l, dd, x) (ab_E0 sc)) → ∀ (n s : Nat) (i2 : Nat → Nat → Int32), st 4 v = s + n → (∀ k j, ¬ (k = 225 ∧ j < 21) → i2 k j = i k j) → (∀ u r, (u < v ∨ u = v ∧ r < s) → r < st 4 u → i2 225 (3 * u + r) = Int32.ofNat (A_O st u r)) → ab_Fr MX12_layVotes (d + 5) Q 12 [some (.ref 205), some (.int (Int32.ofNat v)), some (.int (Int32.ofNat s))] [] (0, 0) (i2, l, dd, x) (ab_E0 sc) := by
    intro v hv hY n
    have hS := (hC v hv).1
    induction n with
    | zero =>
      intro s i2 hs F2 z2
      obtain ⟨R2, -, -⟩ := hF i2 F2
      refine tMX12_layVotes_12 (d := d + 4) ?_
      rw [nn_cl (by omega), (R2.2.2.2.2.1 v hv).1, nn_le (by omega) (by omega), la_nx]
      exact ⟨la_vp (by omega) (by omega), fun _ => hY i2 F2 (fun u r hu hr => z2 u r (by rcases Nat.lt_or_ge u v with h | h; exact Or.inl h; exact Or.inr ⟨by omega, by rw [show u = v by omega] at hr; omega⟩) hr), fun y => by omega⟩
    | succ n ih =>
      intro s i2 hs F2 z2
      obtain ⟨R2, R29, -⟩ := hF i2 F2
      refine tMX12_layVotes_12 (d := d + 4) ?_
      rw [nn_cl (by omega), (R2.2.2.2.2.1 v hv).1, nn_le (by omega) (by omega), la_nx]
      refine ⟨la_vp (by omega) (by omega), fun y => by omega, fun _ => ⟨_, _, mv_to (d := d) hI R29 R2 hv (show s < st 4 v by omega), ?_⟩⟩
      rintro i6 l7 dd8 x9 ⟨⟩
      rw [nn_p3, nn_mul, nn_add, nn_cl (by omega), la_nx]
      refine ⟨la_vp (by omega) (by omega), ?_⟩
      rintro i11 rfl
      refine ih (s + 1) _ (by omega) (fun k j hk => ?_) (fun u r hu hr => ?_)
      · rw [show ab_u i2 225 (3 * v + s) (Int32.ofNat (A_O st v s)) k j = i2 k j from if_neg (by omega)]
        exact F2 k j hk
      · by_cases c : u = v ∧ r = s
        · rw [c.1, c.2, uu_e]
        · have hSu : r < 3 := by
            rcases hu with h | h
            · have := (hC u (by omega)).1
              omega
            · omega
          rw [uu_j (by omega)]
          exact z2 u r (by omega) hr
  have go : ∀ (n v : Nat) (i2 : Nat → Nat → Int32), st 0 1 = v + n → (∀ k j, ¬ (k = 225 ∧ j < 21) → i2 k j = i k j) → (∀ u s, u < v → s < st 4 u → i2 225 (3 * u + s) = Int32.ofNat (A_O st u s)) → ab_Fr MX12_layVotes (d + 5) Q 2 [some (.ref 205), some (.int (Int32.ofNat v)), none] [] (0, 0) (i2, l, dd, x) (ab_E0 sc) := by
    intro n
    induction n with
    | zero =>
      intro v i2 hv F2 z2
      obtain ⟨-, -, R30⟩ := hF i2 F2
      refine tMX12_layVotes_2 (d := d + 4) ⟨fun _ => hQ _ ⟨i2, rfl, F2, fun u s hu hs => z2 u s (by omega) hs⟩, fun y => ?_⟩
      rw [R30, nn_le (by omega) (by omega)] at y
      omega
    | succ n ih =>
      intro v i2 hv F2 z2
      obtain ⟨-, -, R30⟩ := hF i2 F2
      refine tMX12_layVotes_2 (d := d + 4) ⟨fun y => ?_, fun _ => p12 v (by omega) (fun i3 F3 z3 => ih (v + 1) i3 (by omega) F3 z3) (st 4 v) 0 i2 (Nat.zero_add _).symm F2 (fun u r hu hr => z2 u r (by omega) hr)⟩
      rw [R30, nn_le (by omega) (by omega)] at y
      omega
  exact go (st 0 1) 0 i (Nat.zero_add _).symm (fun _ _ _ => rfl) (fun u s hu => absurd hu (Nat.not_lt_zero u))
/-- the model holds what the store tells -/
theorem mv_M {st : ps_} (hI : PI_ st) (hp : 0 < st 0 1) (hR : dS_ st i) (hL : dW_ st i l) (hO : ∀ v s, v < st 0 1 → s < st 4 v → i 225 (3 * v + s) = Int32.ofNat (A_O st v s)) : mt_M (A_of st) i l := by
  have hT := hI.1.1
  have hV := hI.1.2.1
  have hD := hI.2.2.2.1
  obtain ⟨⟨r1, r1'⟩, r2, r3, r4, r5, r6, r7⟩ := hR
  obtain ⟨l1, l2, l3⟩ := hL
  refine ⟨⟨l1.1, l1.2.1, fun _ => l1.2.2⟩, ⟨r2.1, r2.2.1, fun _ => r2.2.2⟩, fun t ht => ?_, fun v hv => ⟨(r5 v hv).1, ?_, l2 v hv⟩, fun v s t hv hs ht => ?_, fun w t e hw ht he => ?_, hO, l3⟩
  · show _ = Int32.ofNat (A_C st t)
    rw [show A_C st t = st 3 t from if_pos ht]
    exact r3 t ht
  · show _ = Int32.ofNat (if v < st 0 1 then st 10 v else 0)
    rw [if_pos (show v < st 0 1 from hv)]
    exact (r5 v hv).2.1
  · show _ = Int32.ofNat (A_L st v s t)
    rw [show A_L st v s t = st 5 (9 * v + 3 * s + t) from if_pos (show v < st 0 1 ∧ s < st 4 v ∧ t < st 0 0 from ⟨hv, hs, ht⟩)]
    exact r6 v s t hv hs ht
  · show mt_lo i w t e = Int32.ofNat (A_K st w t e)
    have hw : w < st 0 1 ∨ w = 7 := hw
    have ht3 : t < 3 := Nat.lt_of_lt_of_le ht hT
    have he3 : e < 3 := Nat.lt_of_lt_of_le he hT
    have g1 := r4 w t e hw ht3 he3
    have g7 := r4 7 t e (Or.inr rfl) ht3 he3
    have d1 := hD w t e hw ht3 he3
    have d7 := hD 7 t e (Or.inr rfl) ht3 he3
    rw [show 9 * 7 + 3 * t + e = 63 + 3 * t + e by omega] at g7 d7
    unfold mt_lo A_K
    rw [g1, g7, if_pos (show t < 3 ∧ e < 3 from ⟨ht3, he3⟩)]
    by_cases c : st 6 (9 * w + 3 * t + e) = 99
    · rw [if_pos (show kt_ (st 6 (9 * w + 3 * t + e)) = -1 from if_pos c), if_neg (show ¬ (w < st 0 1 ∧ st 6 (9 * w + 3 * t + e) ≠ 99) from fun y => y.2 c)]
      unfold kr_
      by_cases c7 : st 6 (63 + 3 * t + e) = 99
      · rw [if_pos (show kt_ (st 6 (63 + 3 * t + e)) = -1 from if_pos c7), if_pos c7]
        split <;> rfl
      · rw [if_neg (show ¬ kt_ (st 6 (63 + 3 * t + e)) = -1 from fun y => c7 ((kt_m d7).mp y)), if_neg c7]
        exact if_neg c7
    · rw [if_neg (show ¬ kt_ (st 6 (9 * w + 3 * t + e)) = -1 from fun y => c ((kt_m d1).mp y))]
      rcases hw with h | h
      · rw [if_pos ⟨h, c⟩]
        exact if_neg c
      · rw [h, show 9 * 7 + 3 * t + e = 63 + 3 * t + e by omega] at c ⊢
        rw [if_neg (by omega)]
        unfold kr_
        rw [if_neg c]
        exact if_neg c
end TKT
