/-! LINES, the class: a line, all lines -/
section TKK
variable {d : Nat} {sc : Nat × (Nat → Int32)} {i : Nat → Nat → Int32} {l : Nat → Nat → Int64} {dd : Nat → Nat → Value} {x : Nat}
theorem z_pl {z : (Nat → Nat) × Nat} (hN : z.2 ≤ 740) {p : Nat} : z_p z p ≤ 740 := by
  unfold z_p
  split
  · split <;> omega
  · omega
/-- codes and places are small -/
def okr (r : rs_) : Prop := r.1 ≤ 4 ∧ (r.1 ≠ 0 → r.2.1 ≤ 740)
theorem ok_0 {q : Nat} {st : ps_} : okr (0, q, st) := ⟨Nat.zero_le _, fun h => absurd rfl h⟩
theorem ok_ch {z : (Nat → Nat) × Nat} (hN : z.2 ≤ 740) {c p : Nat} {st : ps_} {r : rs_} (hc : c ≤ 4) (hr : okr r) : okr (ch_ c (z_p z p) st r) := by
  unfold ch_
  split
  · exact hr
  · exact ⟨hc, fun _ => z_pl hN⟩
theorem c_l4 {z : (Nat → Nat) × Nat} {st : ps_} {p a b k n : Nat} : c_new z st p ≤ 4 ∧ c_tr z st p ≤ 4 ∧ c_vo z st p ≤ 4 ∧ c_num z a b p ≤ 4 ∧ c_key z k p ≤ 4 ∧ c_stop z p ≤ 4 ∧ v_c z n a p ≤ 4 := by
  unfold c_new c_tr c_vo c_num c_key c_stop v_c
  refine ⟨?_, ?_, ?_, ?_, ?_, ?_, ?_⟩ <;> (repeat' split) <;> omega
theorem ok_vs {z : (Nat → Nat) × Nat} (hN : z.2 ≤ 740) {v t : Nat} : ∀ n s sum st p, okr (v_s z v t n s sum st p) := by
  intro n
  induction n with
  | zero => intro s sum st p; exact ok_0
  | succ n ih =>
    intro s sum st p
    exact ok_ch hN (c_l4 (st := st) (b := 0) (k := 0)).2.2.2.2.2.2 (ih _ _ _ _)
theorem ok_vt {z : (Nat → Nat) × Nat} (hN : z.2 ≤ 740) {v S : Nat} : ∀ n t st p, okr (v_t z v S n t st p) := by
  intro n
  induction n with
  | zero => intro t st p; exact ok_0
  | succ n ih =>
    intro t st p
    show okr (if (v_s z v t S 0 0 st p).1 = 0 then v_t z v S n (t + 1) (v_s z v t S 0 0 st p).2.2 (v_s z v t S 0 0 st p).2.1 else v_s z v t S 0 0 st p)
    split
    · exact ih _ _ _
    · exact ok_vs hN _ _ _ _ _
theorem ok_ws {z : (Nat → Nat) × Nat} (hN : z.2 ≤ 740) {v : Nat} : ∀ n s st p, okr (w_s z v n s st p) := by
  intro n
  induction n with
  | zero => intro s st p; exact ok_0
  | succ n ih =>
    intro s st p
    show okr (if z_x z p = 11 then w_s z v n (s + 1) (ab_u st 9 (3 * v + s) 9) (z_e z p) else ch_ (c_tr z st p) (z_p z p) st (w_s z v n (s + 1) (ab_u st 9 (3 * v + s) (fT_ z st p)) (z_e z p)))
    split
    · exact ih _ _ _
    · exact ok_ch hN (c_l4 (a := 0) (b := 0) (k := 0) (n := 0)).2.1 (ih _ _ _)
theorem ok_line {z : (Nat → Nat) × Nat} (hN : z.2 ≤ 740) {st : ps_} {p : Nat} : okr (p_line z st p) := by
  have hfin : ∀ r, okr r → okr (b_fin z r) := fun r hr => by
    unfold b_fin
    split
    · exact ok_ch hN (c_l4 (st := st) (a := 0) (b := 0) (k := 0) (n := 0)).2.2.2.2.2.1 ok_0
    · exact hr
  have hc : ∀ (st : ps_) (p a b k n : Nat), c_new z st p ≤ 4 ∧ c_tr z st p ≤ 4 ∧ c_vo z st p ≤ 4 ∧ c_num z a b p ≤ 4 ∧ c_key z k p ≤ 4 ∧ c_stop z p ≤ 4 ∧ v_c z n a p ≤ 4 := fun _ _ _ _ _ _ => c_l4
  have hl2 : ∀ (st : ps_) w p, okr (l_2 z st w p) := fun st w p => by
    unfold l_2
    exact ok_ch hN (hc _ _ 0 0 0 0).2.1 (ok_ch hN (hc _ _ 0 0 0 0).2.1 (ok_ch hN (hc st _ _ _ 0 0).2.2.2.1 ok_0))
  have hw2 : ∀ (st : ps_) v w p, okr (w_2 z st v w p) := fun st v w p => by
    unfold w_2
    split
    · exact ok_ch hN (hc st _ _ _ 0 0).2.2.2.1 ok_0
    · split
      · split
        · exact ok_0
        · exact ok_ws hN _ _ _ _
      · exact ok_0
  have hneed : ∀ (st : ps_) p, okr (r_need z st p) := fun st p => by
    unfold r_need
    exact ok_ch hN (hc st _ _ _ 0 0).2.2.2.1 (ok_ch hN (hc _ _ 0 0 0 0).2.1 (ok_ch hN (hc st _ 0 0 _ 0).2.2.2.2.1 (ok_ch hN (hc _ _ 0 0 0 0).2.1 ok_0)))
  unfold p_line
  split
  · exact ⟨by show 1 ≤ 4; omega, fun _ => z_pl hN⟩
  · split
    · refine hfin _ ?_
      unfold b_truth
      exact ok_ch hN (by split <;> omega) (ok_ch hN (hc _ _ 0 0 0 0).1 (ok_ch hN (hc st _ _ _ 0 0).2.2.2.1 ok_0))
    · refine ok_ch hN (by split <;> omega) (hfin _ ?_)
      unfold b_any
      split
      · unfold b_voter
        refine ok_ch hN (by split <;> omega) (ok_ch hN (hc _ _ 0 0 0 0).1 (ok_ch hN (hc st _ 0 0 _ 0).2.2.2.2.1 (ok_ch hN (hc st _ _ _ 0 0).2.2.2.1 ?_)))
        split
        · exact ok_0
        · exact ok_vt hN _ _ _ _
      · split
        · unfold b_loss
          refine ok_ch hN (by split <;> omega) ?_
          split
          · exact hl2 _ _ _
          · exact hl2 _ _ _
        · split
          · unfold b_way
            exact ok_ch hN (hc _ _ 0 0 0 0).2.2.1 (ok_ch hN (by split <;> omega) (hw2 _ _ _ _))
          · split
            · unfold b_weight
              exact ok_ch hN (hc _ _ 0 0 0 0).2.2.1 (ok_ch hN (hc st _ _ _ 0 0).2.2.2.1 ok_0)
            · unfold b_rule
              split
              · unfold r_most
                split
                · exact ok_ch hN (hc _ _ 0 0 0 0).2.2.1 ok_0
                · exact ok_0
              · exact ok_ch hN (hc st _ 0 0 _ 0).2.2.2.2.1 (hneed _ _)
theorem ok_all {z : (Nat → Nat) × Nat} (hN : z.2 ≤ 740) : ∀ n st p, okr (p_all z n st p) := by
  intro n
  induction n with
  | zero => intro st p; exact ⟨by show 1 ≤ 4; omega, fun _ => Nat.zero_le _⟩
  | succ n ih =>
    intro st p
    show okr (if z_k z p = 3 then (if st 0 1 = 0 ∨ 700 < z.2 then (1, z_p z p, st) else (0, p, st)) else if (p_line z st p).1 = 0 then p_all z n (p_line z st p).2.2 (p_line z st p).2.1 else p_line z st p)
    split
    · split
      · exact ⟨by show 1 ≤ 4; omega, fun _ => z_pl hN⟩
      · exact ok_0
    · split
      · exact ih _ _
      · exact ok_line hN
theorem PJ_of {st : ps_} (hI : PI_ st) (h : ¬ (st 0 6 = 0 ∧ ¬ t_ok st)) : PJ_ (ab_u st 0 6 1) := by
  obtain ⟨⟨a1, a2, a3, a4, a5, a6, a7⟩, hB, hC, hD, hE⟩ := hI
  have hb : st 0 0 ≤ st 0 7 ∧ t_ok st := by
    by_cases y : st 0 6 = 0
    · have := a5 y
      exact ⟨by omega, Classical.byContradiction (fun n => h ⟨y, n⟩)⟩
    · have := a6 (by omega)
      exact ⟨by omega, this.2⟩
  exact ⟨⟨a1, a2, rfl, hb.1, hb.2.1, hb.2.2, a7⟩, hB, hC, hD, hE⟩
theorem t_sl {c : Nat → Nat} : ∀ n, (∀ t, t < n → c t ≤ 19) → t_sum c n ≤ 19 * n := by
  intro n
  induction n with
  | zero => intro _; exact Nat.le_refl 0
  | succ n ih =>
    intro h
    have h1 := ih (fun t ht => h t (by omega))
    have h2 := h n (by omega)
    show t_sum c n + c n ≤ 19 * (n + 1)
    omega
theorem ct_stand {st : ps_} {m : Nat} (hm : ab_isM m) (hd : dd 157 2 = .ref m) (hI : PI_ st) (hR : cR_ st m i l) : ab_Sp MX2_truthsStand (d + 1) [.ref 157] (i, l, dd, x) (ab_E0 sc) (some (.int (if t_ok st then 1 else 0))) (fun σ => σ = (i, l, dd, x)) := by
  obtain ⟨⟨a1, a2, a3, a4, a5, a6, a7⟩, -⟩ := hI
  refine ab_ent (n := 0) okMX2_truthsStand.1 (fun G => Nat.le_of_ble_eq_true rfl) (fun Q hQ => ?_)
  refine tMX2_truthsStand_0 (d := d) ?_
  have go : ∀ n k : Nat, st 0 0 = k + n → ab_Fr MX2_truthsStand (d + 1) Q 4 [some (.ref 157), some (.int (Int32.ofNat (t_sum (st 3) k))), some (.int (Int32.ofNat k))] [] (0, 0) (i, l, dd, x) (ab_E0 sc) := by
    intro n
    induction n with
    | zero =>
      intro k hk
      have hs := t_sl (c := st 3) k (fun t ht => (a7 t (by omega)).2)
      refine tMX2_truthsStand_4 (d := d) ⟨m, hd, hm, fun _ => ?_, fun y => ?_⟩
      · rw [hR.1.1, show (20 : Int32) = Int32.ofNat 20 from rfl, nn_p2, nn_lt (by omega) (by omega), nn_eq (by omega) (by omega)]
        rw [show k = st 0 0 by omega]
        refine ⟨fun c => ?_, fun c => ⟨fun c2 => ?_, fun c2 => ?_⟩⟩
        · rw [if_neg (fun y => by have := y.1; omega)] at hQ
          exact hQ _ rfl
        · rw [if_neg (fun y => c2 y.2)] at hQ
          exact hQ _ rfl
        · rw [if_pos ⟨by omega, c2⟩] at hQ
          exact hQ _ rfl
      · rw [hR.1.1, nn_le (by omega) (by omega)] at y
        omega
    | succ n ih =>
      intro k hk
      refine tMX2_truthsStand_4 (d := d) ⟨m, hd, hm, fun y => ?_, fun _ => ⟨la_vp (by omega) (by omega), ?_⟩⟩
      · rw [hR.1.1, nn_le (by omega) (by omega)] at y
        omega
      · rw [nn_cl (by omega), hR.2.2.1 k (by omega), if_pos (by omega), nn_add, la_nx]
        exact ih (k + 1) (by omega)
  exact go (st 0 0) 0 (Nat.zero_add _).symm
theorem cR_3 {st : ps_} {m : Nat} (hm : ab_isM m) (hV : st 0 1 ≤ 7) (hR : cR_ st m i l) : cR_ (ab_u st 0 6 1) m (ab_u i 157 3 1) l := by
  have hm7 : m + 46 < 157 := by rcases hm with rfl | rfl | rfl <;> omega
  obtain ⟨r1, r2, r3, r4, r5, r6, r7, r8, r9, r10, r11⟩ := hR
  have e' : ∀ k, k ≠ 157 → ab_u i 157 3 1 k = i k := fun k h => uu_f h
  refine ⟨?_, ?_, fun t ht => ?_, fun t e ht he => ?_, fun v hv => ?_, fun v s t hv hs ht => ?_, fun v t e hv ht he => ?_, fun v s hv h7 hs => ?_, r9, r10, uu_e⟩
  · rw [e' m (by omega)]; exact r1
  · rw [e' m (by omega)]; exact r2
  · rw [e' (m + 1) (by omega)]; exact r3 t ht
  · rw [e' (m + 3) (by omega)]; exact r4 t e ht he
  · have hv' : v < st 0 1 := hv
    rw [e' (m + 5 + 6 * v) (by omega)]; exact r5 v hv
  · have hv' : v < st 0 1 := hv
    rw [e' (m + 5 + 6 * v + 1) (by omega)]; exact r6 v s t hv hs ht
  · have hv' : v < st 0 1 := hv
    rw [e' (m + 5 + 6 * v + 2) (by omega)]; exact r7 v t e hv ht he
  · have hv' : v < st 0 1 := hv
    rw [e' (m + 5 + 6 * v + 5) (by omega)]; exact r8 v s hv h7 hs
theorem cku_3 {z : (Nat → Nat) × Nat} {p : Nat} {v : Int32} (k : ck_ z p i l) : ck_ z p (ab_u i 157 3 v) l := by
  obtain ⟨k1, k2, k3, k4, k5, k6⟩ := k
  refine ⟨?_, ?_, fun h => ?_, ?_, k5, fun h => ?_⟩
  · rw [uu_j (by omega)]; exact k1
  · rw [uu_j (by omega)]; exact k2
  · rw [uu_j (by omega)]; exact k3 h
  · rw [uu_j (by omega)]; exact k4
  · rw [uu_j (by omega)]; exact k6 h
theorem cl_w {m : Nat} {r : rs_} {i2 : Nat → Nat → Int32} {l2 : Nat → Nat → Int64} {σ : ab_S} (hf : lf_ m i i2 l l2) (h : cl_ m r i2 l2 dd x σ) : cl_ m r i l dd x σ := by
  obtain ⟨i3, l3, e, f, y⟩ := h
  exact ⟨i3, l3, e, lf_t hf f, y⟩
theorem ct_line {z : (Nat → Nat) × Nat} {st : ps_} {m p : Nat} (hT : ct_z z i) (hp : p ≤ z.2) (hm : ab_isM m) (hd : dd 157 2 = .ref m) (hI : PI_ st) (hR : cR_ st m i l) (h0 : i 157 0 = 0) (k : ck_ z p i l) : ab_Sp MX2_readLine (d + 6) [.ref 157] (i, l, dd, x) (ab_E0 sc) (some (.int (rc_ (p_line z st p).1))) (cl_ m (p_line z st p) i l dd x) := by
  have hxl := z_xl (z := z) (p := p)
  have hV := hI.1.2.1
  have hm7 : m + 46 < 157 := by rcases hm with rfl | rfl | rfl <;> omega
  refine ab_ent (n := 0) okMX2_readLine.1 (fun G => Nat.le_of_ble_eq_true rfl) (fun Q hQ => ?_)
  unfold p_line at hQ
  have h15 : 5 < z_x z p → ab_Fr MX2_readLine (d + 6) Q 15 [some (.ref 157)] [] (0, 0) (i, l, dd, x) (ab_E0 sc) := fun c => by
    rw [if_pos c] at hQ
    refine tMX2_readLine_15 (d := d + 5) ⟨_, _, ct_fail (d := d + 4), ?_⟩
    rintro i5 l6 dd7 x8 ⟨⟩
    refine ⟨Or.inl rfl, hQ _ ⟨_, l, rfl, lf_s (sf_u sf_r (Or.inl rfl)), fun h => absurd (show 1 = 0 from h) (by decide), fun _ => ⟨uu_e, by rw [uu_j (by omega)]; exact k.1⟩⟩⟩
  refine tMX2_readLine_0 (d := d + 5) ?_
  rw [k.2.2.2.1]
  by_cases c5 : 5 < z_x z p
  · refine ⟨fun _ => h15 c5, fun c1 => ⟨fun c2 => ?_, fun _ => h15 c5⟩⟩
    by_cases c16 : z_x z p = 16
    · rw [show kx_ (z_x z p) = -1 from if_pos c16] at c1
      exact absurd (by decide) c1
    · rw [show kx_ (z_x z p) = Int32.ofNat (z_x z p) from if_neg c16, nn_p5, nn_le (by omega) (by omega)] at c2
      omega
  · rw [if_neg c5] at hQ
    have k0 := z_x0 (show z_x z p < 16 by omega)
    rw [show kx_ (z_x z p) = Int32.ofNat (z_x z p) from if_neg (by omega), nn_p5, nn_le (by omega) (by omega), nn_p0, nn_eq (by omega) (by omega)]
    refine ⟨fun c => absurd c (la_nn (by omega)).1, fun _ => ⟨fun _ => ⟨fun c0 => ?_, fun c0 => ?_⟩, fun y => absurd (show z_x z p ≤ 5 by omega) y⟩⟩
    · rw [if_neg c0] at hQ
      have h53 : ¬ (st 0 6 = 0 ∧ ¬ t_ok st) → ab_Fr MX2_readLine (d + 6) Q 53 [some (.ref 157)] [] (0, 0) (i, l, dd, x) (ab_E0 sc) := fun cb => by
        rw [show ch_ (if st 0 6 = 0 ∧ ¬ t_ok st then 4 else 0) (z_p z p) st (b_fin z (b_any z (ab_u st 0 6 1) (z_x z p) p)) = b_fin z (b_any z (ab_u st 0 6 1) (z_x z p) p) from if_pos (if_neg cb)] at hQ
        have hJ := PJ_of hI cb
        have hR3 := cR_3 hm hV hR
        have hk3 : ck_ z p (ab_u i 157 3 1) l := cku_3 k
        have hF : lf_ m i (ab_u i 157 3 1) l l := ⟨fun a j _ y => if_neg (fun e => y ⟨e.1, by omega⟩), fun _ _ _ _ => rfl⟩
        have hT3 : ct_z z (ab_u i 157 3 1) := lf_z hm hT hF
        have h03 : (ab_u i 157 3 1) 157 0 = 0 := by rw [uu_j (by omega)]; exact h0
        refine tMX2_readLine_53 (d := d + 5) ?_
        rintro i1 rfl
        rw [uu_j (by omega), k.2.2.2.1, kx_i hxl, if_neg (by omega)]
        unfold b_any at hQ
        refine ⟨fun y => ?_, fun y => ?_, fun y => ?_, fun y => ?_, fun y => ?_⟩
        · rw [if_neg (by omega), if_neg (by omega), if_neg (by omega), if_neg (by omega)] at hQ
          have g1 := g_e hp (show z_k z p < 3 by omega)
          refine ⟨_, ct_tok (d := d + 3) hT3 g1.2 (hk3.2.2.1 (by omega)), ?_⟩
          rintro i8 l9 dd10 x11 ⟨i2, l2, ⟨⟩, f2, k2⟩
          have hF2 : lf_ m i i8 l l9 := lf_t hF (lf_s (sf_of f2))
          have hR2 := cR_s hm hR3 hV (sf_of f2)
          have h02 : i8 157 0 = 0 := by rw [f2.1 157 0 (by omega)]; exact h03
          rw [k2.2.2.2.1, show (14 : Int32) = Int32.ofNat 14 from rfl, kx_e (by omega) z_xl]
          refine ⟨fun c14 => ⟨_, _, ct_most (d := d + 1) (lf_z hm hT hF2) g1.2 c14 hm hd hJ hR2 h02 k2, ?_⟩, fun c14 => ⟨_, _, ct_need (d := d + 1) (lf_z hm hT hF2) (g_e g1.2 (by have := z_x0 (show z_x z (z_e z p) < 16 by omega); omega)).2 (k2.2.2.1 (by have := z_x0 (show z_x z (z_e z p) < 16 by omega); omega)) hm hd hJ hR2 h02, ?_⟩⟩
          · rintro i18 l19 dd20 x21 hcl
            refine ⟨rc_01, ?_⟩
            obtain ⟨i3, l3, ⟨⟩, f3, y3⟩ := hcl
            exact hQ _ ⟨i18, l19, rfl, lf_t hF2 f3, y3⟩
          · rintro i18 l19 dd20 x21 hcl
            refine ⟨rc_01, ?_⟩
            have e14 : b_rule z (ab_u st 0 6 1) p = r_need z (ab_u st 0 6 1) (z_e z (z_e z p)) := by
              unfold b_rule
              rw [if_neg (by omega)]
              exact if_pos (if_pos c14)
            rw [e14] at hQ
            obtain ⟨i3, l3, ⟨⟩, f3, y3⟩ := hcl
            exact hQ _ ⟨i18, l19, rfl, lf_t hF2 f3, y3⟩
        · rw [if_pos (by omega)] at hQ
          refine ⟨_, _, ct_voter (d := d + 1) hT3 hp (by omega) hm hd hJ hR3 h03 hk3, ?_⟩
          rintro i18 l19 dd20 x21 ⟨i3, l3, ⟨⟩, f3, y3⟩
          exact ⟨rc_01, hQ _ ⟨i18, l19, rfl, lf_t hF f3, y3⟩⟩
        · rw [if_neg (by omega), if_pos (by omega)] at hQ
          refine ⟨_, _, ct_loss (d := d + 1) hT3 hp (by omega) hm hd hJ hR3 h03 hk3, ?_⟩
          rintro i18 l19 dd20 x21 ⟨i3, l3, ⟨⟩, f3, y3⟩
          exact ⟨rc_01, hQ _ ⟨i18, l19, rfl, lf_t hF f3, y3⟩⟩
        · rw [if_neg (by omega), if_neg (by omega), if_pos (by omega)] at hQ
          refine ⟨_, _, ct_way (d := d) hT3 hp (by omega) hm hd hJ hR3 h03 hk3, ?_⟩
          rintro i18 l19 dd20 x21 ⟨i3, l3, ⟨⟩, f3, y3⟩
          exact ⟨rc_01, hQ _ ⟨i18, l19, rfl, lf_t hF f3, y3⟩⟩
        · rw [if_neg (by omega), if_neg (by omega), if_neg (by omega), if_pos (by omega)] at hQ
          refine ⟨_, _, ct_weight (d := d + 1) hT3 hp (by omega) hm hd hJ hR3 h03 hk3, ?_⟩
          rintro i18 l19 dd20 x21 ⟨i3, l3, ⟨⟩, f3, y3⟩
          exact ⟨rc_01, hQ _ ⟨i18, l19, rfl, lf_t hF f3, y3⟩⟩
      have hb1 := hI.1.2.2.1
      rw [hR.2.2.2.2.2.2.2.2.2.2, nn_eq (by omega) (by omega)]
      refine ⟨fun cb => h53 (fun y => cb y.1), fun cb => ⟨_, _, ct_stand (d := d + 4) hm hd hI hR, ?_⟩⟩
      rintro i9 l10 dd11 x12 ⟨⟩
      by_cases ct : t_ok st
      · rw [if_pos ct]
        exact ⟨fun _ => h53 (fun y => y.2 ct), fun y => absurd y (by decide)⟩
      · rw [if_neg ct]
        refine ⟨fun y => absurd rfl y, fun _ => ⟨_, _, ct_fail (d := d + 4), ?_⟩⟩
        rintro i19 l20 dd21 x22 ⟨⟩
        rw [show ch_ (if st 0 6 = 0 ∧ ¬ t_ok st then 4 else 0) (z_p z p) st (b_fin z (b_any z (ab_u st 0 6 1) (z_x z p) p)) = (4, z_p z p, st) by rw [if_pos ⟨cb, ct⟩]; rfl] at hQ
        refine ⟨Or.inl rfl, hQ _ ⟨_, l, rfl, lf_s (sf_u sf_r (Or.inl rfl)), fun h => absurd (show 4 = 0 from h) (by decide), fun _ => ⟨uu_e, by rw [uu_j (by omega)]; exact k.1⟩⟩⟩
    · rw [if_pos c0] at hQ
      refine ⟨_, _, ct_truth (d := d + 1) hT hp (by omega) hm hd hI hR h0 k, ?_⟩
      rintro i28 l29 dd30 x31 hcl
      exact ⟨rc_01, hQ _ hcl⟩
/-- a matter begun -/
theorem ct_plain {q : Nat} (hq : ab_isLo q) : ab_Sp MX0_becomePlain (d + 1) [.ref q] (i, l, dd, x) (ab_E0 sc) none (fun σ => ∃ i2, σ = (i2, l, dd, x) ∧ fr_o (q + 1) (q + 1) i i2 ∧ ∀ t e, t < 3 → e < 3 → i2 (q + 1) (3 * t + e) = Int32.ofNat (if t = e then 0 else 1)) := by
  refine ab_ent (n := 0) okMX0_becomePlain.1 (fun G => Nat.le_of_ble_eq_true rfl) (fun Q hQ => ?_)
  refine tMX0_becomePlain_0 (d := d) hq ?_
  have go : ∀ (n t : Nat) (i2 : Nat → Nat → Int32), 3 = t + n → fr_o (q + 1) (q + 1) i i2 → (∀ u e, u < t → e < 3 → i2 (q + 1) (3 * u + e) = Int32.ofNat (if u = e then 0 else 1)) → ab_Fr MX0_becomePlain (d + 1) Q 2 [some (.ref q), some (.int (Int32.ofNat t)), none] [] (0, 0) (i2, l, dd, x) (ab_E0 sc) := by
    intro n
    induction n with
    | zero =>
      intro t i2 ht f2 z2
      refine tMX0_becomePlain_2 (d := d) hq ⟨fun _ => hQ _ ⟨i2, rfl, f2, fun u e hu he => z2 u e (by omega) he⟩, fun y => ?_⟩
      rw [nn_p3, nn_le (by omega) (by omega)] at y
      omega
    | succ n ih =>
      intro t i2 ht f2 z2
      refine tMX0_becomePlain_2 (d := d) hq ⟨fun y => ?_, fun _ => ?_⟩
      · rw [nn_p3, nn_le (by omega) (by omega)] at y
        omega
      · have go2 : ∀ (n2 e : Nat) (i3 : Nat → Nat → Int32), 3 = e + n2 → fr_o (q + 1) (q + 1) i i3 → (∀ u y, u < 3 → y < 3 → (u < t ∨ (u = t ∧ y < e)) → i3 (q + 1) (3 * u + y) = Int32.ofNat (if u = y then 0 else 1)) → ab_Fr MX0_becomePlain (d + 1) Q 9 [some (.ref q), some (.int (Int32.ofNat t)), some (.int (Int32.ofNat e))] [] (0, 0) (i3, l, dd, x) (ab_E0 sc) := by
          intro n2
          induction n2 with
          | zero =>
            intro e i3 he f3 z3
            refine tMX0_becomePlain_9 (d := d) hq ⟨fun _ => ?_, fun y => ?_⟩
            · rw [la_nx]
              exact ih (t + 1) i3 (by omega) f3 (fun u y hu hy => z3 u y (by omega) hy (by omega))
            · rw [nn_p3, nn_le (by omega) (by omega)] at y
              omega
          | succ n2 ih2 =>
            intro e i3 he f3 z3
            have key : ∀ w : Nat, w = (if t = e then 0 else 1) → ab_Fr MX0_becomePlain (d + 1) Q 9 [some (.ref q), some (.int (Int32.ofNat t)), some (.int (Int32.ofNat (e + 1)))] [] (0, 0) (ab_u i3 (q + 1) (3 * t + e) (Int32.ofNat w), l, dd, x) (ab_E0 sc) := fun w hw => by
              refine ih2 (e + 1) _ (by omega) (fr_u f3 (by omega)) (fun u y hu hy c => ?_)
              by_cases c2 : u = t ∧ y = e
              · obtain ⟨rfl, rfl⟩ := c2
                rw [uu_e, hw]
              · rw [uu_j (by omega)]
                exact z3 u y hu hy (by omega)
            refine tMX0_becomePlain_9 (d := d) hq ⟨fun y => ?_, fun _ => ?_⟩
            · rw [nn_p3, nn_le (by omega) (by omega)] at y
              omega
            · rw [nn_eq (by omega) (by omega), nn_p3, nn_mul, nn_add, nn_cl (by omega), Nat.mul_comm t 3, la_nx]
              refine ⟨fun c => ⟨la_vp (by omega) (by omega), ?_⟩, fun c => ⟨la_vp (by omega) (by omega), ?_⟩⟩
              · rintro i4 rfl
                exact key 1 (if_neg c).symm
              · rintro i4 rfl
                exact key 0 (if_pos c).symm
        exact go2 3 0 i2 rfl f2 (fun u y hu hy c => z2 u y (by omega) hy)
  exact go 3 0 i rfl fr_r (fun u e hu => absurd hu (Nat.not_lt_zero u))
theorem ct_mbegin {m : Nat} (hm : ab_isM m) : ab_Sp MX1_begin (d + 2) [.ref m] (i, l, dd, x) (ab_E0 sc) none (fun σ => ∃ i2, σ = (i2, l, dd, x) ∧ fr_o m (m + 3) i i2 ∧ (i2 m 0 = 0 ∧ i2 m 1 = 0 ∧ i2 m 2 = 0 ∧ i2 m 5 = -1) ∧ (∀ t, t < 3 → i2 (m + 1) t = 0) ∧ ∀ t e, t < 3 → e < 3 → i2 (m + 3) (3 * t + e) = Int32.ofNat (if t = e then 0 else 1)) := by
  refine ab_ent (n := 0) okMX1_begin.1 (fun G => Nat.le_of_ble_eq_true rfl) (fun Q hQ => ?_)
  refine tMX1_begin_0 (d := d + 1) hm ?_
  rintro i1 rfl i3 rfl i5 rfl i7 rfl
  refine ⟨_, ct_plain (d := d) (isM_2 hm), ?_⟩
  rintro i13 l14 dd15 x16 ⟨i2, ⟨⟩, f2, z2⟩
  have go : ∀ (n t : Nat) (i3 : Nat → Nat → Int32), 3 = t + n → fr_o (m + 1) (m + 1) i13 i3 → (∀ u, u < t → i3 (m + 1) u = 0) → ab_Fr MX1_begin (d + 2) Q 29 [some (.ref m), some (.int (Int32.ofNat t))] [] (0, 0) (i3, l, dd, x) (ab_E0 sc) := by
    intro n
    induction n with
    | zero =>
      intro t i3 ht f3 z3
      refine tMX1_begin_29 (d := d + 1) hm ⟨fun _ => hQ _ ⟨i3, rfl, fun k hk => ?_, ⟨?_, ?_, ?_, ?_⟩, fun u hu => z3 u (by omega), fun t e ht he => ?_⟩, fun y => ?_⟩
      · rw [f3 k (by omega), f2 k (by omega), uu_f (by omega), uu_f (by omega), uu_f (by omega), uu_f (by omega)]
      · rw [f3 m (by omega), f2 m (by omega), uu_j (by omega), uu_j (by omega), uu_j (by omega), uu_e]
      · rw [f3 m (by omega), f2 m (by omega), uu_j (by omega), uu_j (by omega), uu_e]
      · rw [f3 m (by omega), f2 m (by omega), uu_j (by omega), uu_e]
      · rw [f3 m (by omega), f2 m (by omega), uu_e]
      · rw [f3 (m + 3) (by omega)]
        exact z2 t e ht he
      · rw [nn_p3, nn_le (by omega) (by omega)] at y
        omega
    | succ n ih =>
      intro t i3 ht f3 z3
      refine tMX1_begin_29 (d := d + 1) hm ⟨fun y => ?_, fun _ => ⟨la_vp (by omega) (by omega), ?_⟩⟩
      · rw [nn_p3, nn_le (by omega) (by omega)] at y
        omega
      · rintro i4 rfl
        rw [nn_cl (by omega), la_nx]
        refine ih (t + 1) _ (by omega) (fr_u f3 (by omega)) (fun u hu => ?_)
        by_cases e : u = t
        · rw [e, uu_e]
        · rw [uu_j e]
          exact z3 u (by omega)
  exact go 3 0 i13 rfl fr_r (fun u hu => absurd hu (Nat.not_lt_zero u))
/-- the answer of a reading -/
def rd_a (R : rs_) : Int32 := if R.1 = 0 then Int32.ofNat (R.2.2 0 7) else -1 - Int32.ofNat R.2.1
def cz_ (m : Nat) (R : rs_) (i : Nat → Nat → Int32) (l : Nat → Nat → Int64) (d2 : Nat → Nat → Value) (x : Nat) (σ : ab_S) : Prop := ∃ i2 l2, σ = (i2, l2, d2, x) ∧ lf_ m i i2 l l2 ∧ i2 157 0 = Int32.ofNat R.1 ∧ (R.1 = 0 → cR_ R.2.2 m i2 l2)
theorem ct_read {z : (Nat → Nat) × Nat} {m : Nat} (hT : ct_z z i) (hm : ab_isM m) : ab_Sp MX2_read (d + 7) [.ref 157, .ref m] (i, l, dd, x) (ab_E0 sc) (some (.int (rd_a (p_all z 741 ps0 0)))) (cz_ m (p_all z 741 ps0 0) i l (ab_u dd 157 2 (.ref m)) x) := by
  have hN := hT.1
  have hm7 : m + 46 < 157 := by rcases hm with rfl | rfl | rfl <;> omega
  refine ab_ent (n := 1) okMX2_read.1 (fun G => Nat.le_of_ble_eq_true rfl) (fun Q hQ => ?_)
  refine tMX2_read_0 (d := d + 6) hm ?_
  rintro dd1 rfl
  refine ⟨m, uu_e, hm, _, ct_mbegin (d := d + 4) hm, ?_⟩
  rintro i9 l10 dd11 x12 ⟨i2, ⟨⟩, f2, ⟨b0, b1, b2, b5⟩, b3, b4⟩
  rintro i14 rfl i16 rfl i18 rfl
  -- the end
  have h101 : ∀ (R : rs_) (n : Nat) (i3 : Nat → Nat → Int32) (l3 : Nat → Nat → Int64), p_all z 741 ps0 0 = R → lf_ m i i3 l l3 → i3 157 0 = Int32.ofNat R.1 → (R.1 ≠ 0 → i3 157 4 = Int32.ofNat R.2.1) → (R.1 = 0 → cR_ R.2.2 m i3 l3 ∧ n = R.2.2 0 7) → ab_Fr MX2_read (d + 7) Q 101 [some (.ref 157), none, some (.int (Int32.ofNat n))] [] (0, 0) (i3, l3, ab_u dd 157 2 (.ref m), x) (ab_E0 sc) := by
    intro R n i3 l3 eR hF h0 h4 hR
    have ok := ok_all hN 741 ps0 0
    rw [eR] at ok hQ
    refine tMX2_read_101 (d := d + 6) ?_
    rw [h0, nn_p0, nn_eq (by have := ok.1; omega) (by omega)]
    refine ⟨fun c => ?_, fun c => ?_⟩
    · rw [h4 c]
      have := hQ _ ⟨i3, l3, rfl, hF, h0, fun y => absurd y c⟩
      unfold rd_a at this
      rw [if_neg c] at this
      exact this
    · obtain ⟨c1, c2⟩ := hR c
      have := hQ _ ⟨i3, l3, rfl, hF, h0, fun _ => c1⟩
      unfold rd_a at this
      rw [if_pos c, ← c2] at this
      exact this
  have go : ∀ (n : Nat) (st : ps_) (p : Nat) (i3 : Nat → Nat → Int32) (l3 : Nat → Nat → Int64), 741 ≤ p + n → p ≤ z.2 → PI_ st → st 0 7 ≤ p → p_all z 741 ps0 0 = p_all z n st p → lf_ m i i3 l l3 → i3 157 0 = 0 → cR_ st m i3 l3 → ck_ z p i3 l3 → ab_Fr MX2_read (d + 7) Q 33 [some (.ref 157), none, some (.int (Int32.ofNat (st 0 7)))] [] (0, 0) (i3, l3, ab_u dd 157 2 (.ref m), x) (ab_E0 sc) := by
    intro n
    induction n with
    | zero => intro st p i3 l3 hn hp; omega
    | succ n ih =>
      intro st p i3 l3 hn hp hI hlp eR hF h0 hR hk
      have hT3 := lf_z hm hT hF
      have hkl := z_kl (z := z) (p := p)
      have e : p_all z (n + 1) st p = if z_k z p = 3 then (if st 0 1 = 0 ∨ 700 < z.2 then (1, z_p z p, st) else (0, p, st)) else if (p_line z st p).1 = 0 then p_all z n (p_line z st p).2.2 (p_line z st p).2.1 else p_line z st p := rfl
      rw [e] at eR
      have hV := hI.1.2.1
      have h65 : z_k z p = 3 → ab_Fr MX2_read (d + 7) Q 65 [some (.ref 157), none, some (.int (Int32.ofNat (st 0 7)))] [] (0, 0) (i3, l3, ab_u dd 157 2 (.ref m), x) (ab_E0 sc) := fun c => by
        rw [if_pos c] at eR
        have h95 : (st 0 1 = 0 ∨ 700 < z.2) → ab_Fr MX2_read (d + 7) Q 95 [some (.ref 157), none, some (.int (Int32.ofNat (st 0 7)))] [] (0, 0) (i3, l3, ab_u dd 157 2 (.ref m), x) (ab_E0 sc) := fun c2 => by
          rw [if_pos c2] at eR
          refine tMX2_read_95 (d := d + 6) ⟨_, _, ct_fail (d := d + 5), ?_⟩
          rintro i5 l6 dd7 x8 ⟨⟩
          exact h101 _ _ _ l3 eR (lf_t hF (lf_s (sf_u sf_r (Or.inl rfl)))) uu_e (fun _ => by rw [uu_j (by omega)]; exact hk.1) (fun h => absurd (show 1 = 0 from h) (by decide))
        refine tMX2_read_65 (d := d + 6) ⟨fun y => absurd h0 y, fun _ => ⟨m, uu_e, hm, _, _, mt_empty (d := d + 5) hm, ?_⟩⟩
        rintro i8 l9 dd10 x11 ⟨⟩
        by_cases c1 : st 0 1 = 0
        · rw [if_pos (by rw [hR.1.2, c1]; rfl)]
          exact ⟨fun _ => h95 (Or.inl c1), fun y => absurd y (by decide)⟩
        · rw [if_neg (by rw [hR.1.2, nn_p0, nn_eq (by omega) (by omega)]; exact c1), hT3.2.1, nk_700, nn_le (by omega) (by omega)]
          refine ⟨fun y => absurd rfl y, fun _ => ⟨fun c2 => ?_, fun c2 => h95 (Or.inr (by omega))⟩⟩
          rw [if_neg (by omega)] at eR
          exact h101 _ _ i3 l3 eR hF h0 (fun h => absurd rfl h) (fun _ => ⟨hR, rfl⟩)
      refine tMX2_read_33 (d := d + 6) ?_
      rw [nk_700, hk.2.1, nn_p3, nn_lt (by omega) (by omega), nn_eq (by omega) (by omega)]
      have hpl : z_k z p ≠ 3 → st 0 7 ≤ 699 := fun c => by
        have hq := z_ql (z := z) (z.2 - p) p (by omega)
        have : ¬ (z.2 ≤ z_q z p ∨ 700 ≤ z_q z p) := fun y => c (if_pos y)
        omega
      refine ⟨fun c => h65 (Classical.byContradiction (fun y => by have := hpl y; omega)), fun c => ⟨h65, fun c3 => ⟨_, _, ct_line (d := d) (st := st) hT3 hp hm uu_e hI hR h0 hk, ?_⟩⟩⟩
      rintro i7 l8 dd9 x10 ⟨i4, l4, ⟨⟩, f4, y4, n4⟩
      rw [if_neg c3] at eR
      have hF4 := lf_t hF f4
      by_cases c4 : (p_line z st p).1 = 0
      · rw [if_pos c4] at eR
        rw [c4]
        obtain ⟨y40, y41, y42⟩ := y4 c4
        obtain ⟨g1, g2, g3, g4⟩ := PI_line hp hI c4
        refine ⟨fun y => absurd y rc_y, fun _ => ⟨_, ct_tok (d := d + 4) (lf_z hm hT hF4) g1.2 y42, ?_⟩⟩
        rintro i17 l18 dd19 x20 ⟨i5, l5, ⟨⟩, f5, k5⟩
        rw [la_nx, ← g3]
        have hV2 := g2.1.2.1
        exact ih _ _ i17 l18 (by have := g1.1; omega) g1.2 g2 (by have := g1.1; omega) eR (lf_t hF4 (lf_s (sf_of f5))) (by rw [f5.1 157 0 (by omega)]; exact y40) (cR_s hm y41 hV2 (sf_of f5)) k5
      · rw [if_neg c4] at eR
        rw [rc_n c4]
        obtain ⟨n40, n41⟩ := n4 c4
        have ok := ok_line (st := st) (p := p) hN
        refine ⟨fun _ => tMX2_read_65 (d := d + 6) ⟨fun _ => h101 _ _ i7 l8 eR hF4 n40 (fun _ => n41) (fun h => absurd h c4), fun y => ?_⟩, fun y => absurd rfl y⟩
        rw [n40, nn_p0, nn_eq (by have := ok.1; omega) (by omega)] at y
        exact absurd y c4
  have hF0 : lf_ m i (ab_u (ab_u (ab_u i9 157 3 0) 157 5 0) 157 0 0) l l := ⟨fun k j a b => by
    rw [show ab_u (ab_u (ab_u i9 157 3 0) 157 5 0) 157 0 0 k j = i9 k j from by
      rw [show ab_u (ab_u (ab_u i9 157 3 0) 157 5 0) 157 0 0 k j = ab_u (ab_u i9 157 3 0) 157 5 0 k j from if_neg (by omega), show ab_u (ab_u i9 157 3 0) 157 5 0 k j = ab_u i9 157 3 0 k j from if_neg (by omega), show ab_u i9 157 3 0 k j = i9 k j from if_neg (by omega)], f2 k (by omega)], fun _ _ _ _ => rfl⟩
  have e9 : ∀ k, k ≠ 157 → ab_u (ab_u (ab_u i9 157 3 0) 157 5 0) 157 0 0 k = i9 k := fun k hk => by rw [uu_f hk, uu_f hk, uu_f hk]
  have hR0 : cR_ ps0 m (ab_u (ab_u (ab_u i9 157 3 0) 157 5 0) 157 0 0) l := by
    refine ⟨⟨?_, ?_⟩, ⟨?_, fun y => absurd y (Nat.lt_irrefl 0), ?_⟩, fun t ht => ?_, fun t e ht he => ?_, fun v hv => absurd hv (Nat.not_lt_zero v), fun v s t hv => absurd hv (Nat.not_lt_zero v), fun v t e hv => absurd hv (Nat.not_lt_zero v), fun v s hv => absurd hv (Nat.not_lt_zero v), fun t ht => absurd ht (Nat.not_lt_zero t), fun v hv => absurd hv (Nat.not_lt_zero v), ?_⟩
    · rw [e9 m (by omega)]; exact b0
    · rw [e9 m (by omega)]; exact b1
    · rw [e9 m (by omega)]; exact b2
    · rw [e9 m (by omega)]; exact b5
    · rw [e9 (m + 1) (by omega), b3 t ht]
      exact (if_neg (Nat.not_lt_zero t)).symm
    · rw [e9 (m + 3) (by omega)]
      exact b4 t e ht he
    · rw [uu_j (by omega), uu_j (by omega), uu_e]
      rfl
  refine ⟨_, ct_tok (d := d + 4) (lf_z hm hT hF0) (Nat.zero_le _) (by rw [uu_j (by omega), uu_e]; rfl), ?_⟩
  rintro i24 l25 dd26 x27 ⟨i5, l5, ⟨⟩, f5, k5⟩
  exact go 741 ps0 0 i24 l25 (by omega) (Nat.zero_le _) PI_0 (Nat.zero_le _) rfl (lf_t hF0 (lf_s (sf_of f5))) (by rw [f5.1 157 0 (by omega)]; exact uu_e) (cR_s hm hR0 (Nat.zero_le _) (sf_of f5)) k5
end TKK
