/-! LINES, the model: a line, all lines -/
section TKQ
variable {d : Nat} {sc : Nat × (Nat → Int32)} {i : Nat → Nat → Int32} {l : Nat → Nat → Int64} {dd : Nat → Nat → Value} {x : Nat}
theorem md_stand {st : ps_} (hI : PI_ st) (hR : dR_ st i l) : ab_Sp MX12_areTruths (d + 1) [.ref 205] (i, l, dd, x) (ab_E0 sc) (some (.int (if t_ok st then 1 else 0))) (fun σ => σ = (i, l, dd, x)) := by
  obtain ⟨⟨a1, a2, a3, a4, a5, a6, a7⟩, -⟩ := hI
  refine ab_ent (n := 0) okMX12_areTruths.1 (fun G => Nat.le_of_ble_eq_true rfl) (fun Q hQ => ?_)
  refine tMX12_areTruths_0 (d := d) ?_
  have go : ∀ n k : Nat, st 0 0 = k + n → ab_Fr MX12_areTruths (d + 1) Q 4 [some (.ref 205), some (.int (Int32.ofNat (t_sum (st 3) k))), some (.int (Int32.ofNat k))] [] (0, 0) (i, l, dd, x) (ab_E0 sc) := by
    intro n
    induction n with
    | zero =>
      intro k hk
      have hs := t_sl (c := st 3) k (fun t ht => (a7 t (by omega)).2)
      refine tMX12_areTruths_4 (d := d) ⟨fun _ => ?_, fun y => ?_⟩
      · rw [hR.1.1, show (20 : Int32) = Int32.ofNat 20 from rfl, nn_p1, nn_le (by omega) (by omega), nn_eq (by omega) (by omega)]
        rw [show k = st 0 0 by omega]
        refine ⟨fun c => ?_, fun c => ⟨fun c2 => ?_, fun c2 => ?_⟩⟩
        · rw [if_neg (fun y => by have := y.1; omega)] at hQ
          exact hQ _ rfl
        · rw [if_neg (fun y => c2 y.2)] at hQ
          exact hQ _ rfl
        · rw [if_pos ⟨by omega, c2⟩] at hQ
          exact hQ _ rfl
      · rw [hR.1.1, nn_le (by omega) (by omega)] at y
        omega
    | succ n ih =>
      intro k hk
      refine tMX12_areTruths_4 (d := d) ⟨fun y => ?_, fun _ => ?_⟩
      · rw [hR.1.1, nn_le (by omega) (by omega)] at y
        omega
      · rw [nn_p3, nn_add, nn_cl (by omega), hR.2.2.1 k (by omega), nn_add, la_nx]
        exact ⟨la_vp (by omega) (by omega), ih (k + 1) (by omega)⟩
  exact go (st 0 0) 0 (Nat.zero_add _).symm
theorem dR_7 {st : ps_} {n : Nat} (hR : dR_ st i l) : dR_ (ab_u st 0 7 n) (ab_u i 205 27 (Int32.ofNat n)) l := by
  have hi : ∀ k j, 209 ≤ k → ab_u i 205 27 (Int32.ofNat n) k j = i k j := fun k j h => uu_k (by omega)
  obtain ⟨⟨r1, r1'⟩, ⟨r2, r2', r2''⟩, r3, r4, r5, r6, r7, r8, r9, r10⟩ := hR
  refine ⟨⟨?_, ?_⟩, ⟨?_, fun y => ⟨?_, ?_⟩, ?_⟩, fun t ht => ?_, fun w t e hw ht he => ?_, fun u hu => ⟨?_, ?_, ?_, fun y => ?_⟩, fun u s t hu hs ht => ?_, fun u s hu h7 hs => ?_, r8, r9, uu_e⟩
  · rw [hi _ _ (by omega)]; exact r1
  · rw [hi _ _ (by omega)]; exact r1'
  · rw [hi _ _ (by omega)]; exact r2
  · rw [hi _ _ (by omega)]; exact (r2' y).1
  · rw [hi _ _ (by omega)]; exact (r2' y).2
  · rw [hi _ _ (by omega)]; exact r2''
  · rw [hi _ _ (by omega)]; exact r3 t ht
  · rw [hi _ _ (by omega)]; exact r4 w t e hw ht he
  · rw [hi _ _ (by omega)]; exact (r5 u hu).1
  · rw [hi _ _ (by omega)]; exact (r5 u hu).2.1
  · rw [hi _ _ (by omega)]; exact (r5 u hu).2.2.1
  · rw [hi _ _ (by omega)]; exact (r5 u hu).2.2.2 y
  · rw [hi _ _ (by omega)]; exact r6 u s t hu hs ht
  · rw [hi _ _ (by omega)]; exact r7 u s hu h7 hs
/-- a line's end: the stop -/
theorem ml_163 {z : (Nat → Nat) × Nat} {r : rs_} {i0 : Nat → Nat → Int32} {l0 : Nat → Nat → Int64} (hT : dt_z z i0) (hF : nq_ i0 i l0 l) (hp : r.1 = 0 → r.2.1 ≤ z.2) (hy : r.1 = 0 → i 205 8 = 0 ∧ dk_ z r.2.1 i l ∧ dR_ r.2.2 i l) (hn : r.1 ≠ 0 → i 205 8 = Int32.ofNat r.1 ∧ i 205 9 = Int32.ofNat r.2.1) {Q : ab_Qt} (hQ : ∀ σ, db_ z (b_fin z r) i0 l0 dd x σ → Q (some (some (.int (rc_ (b_fin z r).1)))) σ (ab_E0 sc)) : ab_Fr MX12_readLine (d + 7) Q 163 [some (.ref 205), none, some (.int (rc_ r.1)), none] [] (0, 0) (i, l, dd, x) (ab_E0 sc) := by
  by_cases c : r.1 = 0
  · obtain ⟨y1, y2, y3⟩ := hy c
    have hm := mkk_l (z := z) (k := z_k z r.2.1)
    have e : b_fin z r = ch_ (c_stop z r.2.1) (z_p z r.2.1) r.2.2 (0, z_e z r.2.1, ab_u r.2.2 0 7 (r.2.2 0 7 + 1)) := if_pos c
    rw [e] at hQ
    refine tMX12_readLine_163 (d := d + 6) ⟨fun _ => ?_, fun y => absurd y (by rw [c]; exact rc_y)⟩
    rw [y2.2.1, nn_p4, nn_eq (by omega) (by omega), mkk_4]
    refine ⟨fun c2 => ?_, fun c2 => ?_⟩
    · rw [ch_y (show c_stop z r.2.1 = 0 from if_pos c2)] at hQ
      have g := g_e (hp c) (show z_k z r.2.1 < 3 by omega)
      rintro i3 rfl
      rw [y3.2.2.2.2.2.2.2.2.2, la_nx]
      have hF3 : nq_ i0 (ab_u i 205 27 (Int32.ofNat (r.2.2 0 7 + 1))) l0 l := nq_u hF (by unfold nqP; omega)
      refine ⟨_, md_tok (d := d + 4) (nq_z hT hF3) g.2 (by rw [uu_j (by omega)]; exact y2.2.2.1 (by omega)), ?_⟩
      rintro i9 l10 dd11 x12 ⟨i4, l4, ⟨⟩, f4, k4⟩
      refine dl_yes (nq_t hF3 (nq_h (hf_of f4))) ?_ k4 (dR_hf (dR_7 y3) (hf_of f4)) hQ
      rw [f4.1 205 8 (by omega), uu_j (by omega)]
      exact y1
    · have c1 : c_stop z r.2.1 = 1 := if_neg c2
      rw [c1] at hQ
      exact mb_bad (d := d + 5) (c := 1) (by omega) hF y2 rfl (Or.inl rfl) hQ
  · have e : b_fin z r = r := if_neg c
    rw [e, rc_n c] at hQ
    exact tMX12_readLine_163 (d := d + 6) ⟨fun y => absurd (rc_n c) y, fun _ => hQ _ ⟨i, l, rfl, hF, fun h => absurd h c, fun _ => hn c⟩⟩
theorem ml_line {z : (Nat → Nat) × Nat} {st : ps_} {p : Nat} (hT : dt_z z i) (hp : p ≤ z.2) (hI : PI_ st) (hl7 : st 0 7 ≤ 740) (hR : dR_ st i l) (h0 : i 205 8 = 0) (k : dk_ z p i l) : ab_Sp MX12_readLine (d + 7) [.ref 205] (i, l, dd, x) (ab_E0 sc) (some (.int (rc_ (p_line z st p).1))) (db_ z (p_line z st p) i l dd x) := by
  have hxl := z_xl (z := z) (p := p)
  have hT3 := hI.1.1
  refine ab_ent (n := 0) okMX12_readLine.1 (fun G => Nat.le_of_ble_eq_true rfl) (fun Q hQ => ?_)
  unfold p_line at hQ
  refine tMX12_readLine_0 (d := d + 6) ⟨_, _, md_line (d := d + 3) hp k, ?_⟩
  rintro i5 l6 dd7 x8 ⟨⟩
  by_cases c5 : 5 < z_x z p
  · rw [if_pos c5] at hQ
    rw [if_neg (by omega)]
    refine ⟨fun y => absurd rfl y, fun _ => ⟨_, _, md_bad (d := d + 5) (c := 1) k (Or.inl rfl), ?_⟩⟩
    rintro i36 l37 dd38 x39 ⟨⟩
    exact ⟨Or.inl rfl, hQ _ ⟨_, l, rfl, nq_h (hf_u (hf_u hf_r (by omega)) (by omega)), fun h => absurd (show 1 = 0 from h) (by decide), fun _ => ⟨by rw [uu_j (by omega), uu_e], uu_e⟩⟩⟩
  · rw [if_neg c5] at hQ
    have k0 := z_x0 (show z_x z p < 16 by omega)
    rw [if_pos (by omega), nn_em (by omega)]
    refine ⟨fun _ => ?_, fun y => y.elim⟩
    rw [nn_p0, nn_le (by omega) (by omega)]
    have h46 : (z_x z p = 0 ∨ ¬ (st 0 6 = 0 ∧ ¬ t_ok st)) → ab_Fr MX12_readLine (d + 7) Q 46 [some (.ref 205), some (.int (Int32.ofNat (z_x z p))), none, none] [] (0, 0) (i, l, dd, x) (ab_E0 sc) := fun cb => by
      refine tMX12_readLine_46 (d := d + 6) ?_
      rw [la_nat (by omega)]
      by_cases c0 : z_x z p = 0
      · rw [if_pos c0] at hQ
        refine ⟨fun y => by omega, fun _ => ⟨_, _, mb_truth (d := d) hT hp (by omega) hI hl7 hR h0 k, ?_⟩, fun y => by omega, fun y => by omega, fun y => by omega, fun y => by omega⟩
        rintro i15 l16 dd17 x18 ⟨i2, l2, ⟨⟩, f2, y2, n2⟩
        exact ml_163 (d := d) hT f2 (fun h => (PI_truth hp (by omega) hI h).1.2) y2 n2 hQ
      · rw [if_neg c0, ch_y (if_neg (cb.resolve_left c0))] at hQ
        have hJ := PJ_of hI (cb.resolve_left c0)
        have hR6 : dR_ (ab_u st 0 6 1) i l := hR
        unfold b_any at hQ
        refine ⟨fun y => ?_, fun y => by omega, fun y => ?_, fun y => ?_, fun y => ?_, fun y => ?_⟩
        · rw [if_neg (by omega), if_neg (by omega), if_neg (by omega), if_neg (by omega)] at hQ
          refine ⟨_, _, mb_rule (d := d) hT hp (by omega) hJ hR6 h0 k, ?_⟩
          rintro i15 l16 dd17 x18 ⟨i2, l2, ⟨⟩, f2, y2, n2⟩
          exact ml_163 (d := d) hT f2 (fun h => (PJ_rule hp (by omega) hJ h).1.2) y2 n2 hQ
        · rw [if_pos (by omega)] at hQ
          refine ⟨_, _, mb_voter (d := d) hT hp (by omega) hJ hR6 h0 k, ?_⟩
          rintro i15 l16 dd17 x18 ⟨i2, l2, ⟨⟩, f2, y2, n2⟩
          exact ml_163 (d := d) hT f2 (fun h => (PJ_voter hp (by omega) hJ h).1.2) y2 n2 hQ
        · rw [if_neg (by omega), if_pos (by omega)] at hQ
          refine ⟨_, _, mb_loss (d := d) hT hp (by omega) hJ hR6 h0 k, ?_⟩
          rintro i15 l16 dd17 x18 ⟨i2, l2, ⟨⟩, f2, y2, n2⟩
          exact ml_163 (d := d) hT f2 (fun h => (PJ_loss hp (by omega) hJ h).1.2) y2 n2 hQ
        · rw [if_neg (by omega), if_neg (by omega), if_pos (by omega)] at hQ
          refine ⟨_, _, mb_way (d := d) hT hp (by omega) hJ hR6 h0 k, ?_⟩
          rintro i15 l16 dd17 x18 ⟨i2, l2, ⟨⟩, f2, y2, n2⟩
          exact ml_163 (d := d) hT f2 (fun h => (PJ_way hp (by omega) hJ h).1.2) y2 n2 hQ
        · rw [if_neg (by omega), if_neg (by omega), if_neg (by omega), if_pos (by omega)] at hQ
          exact mb_weight (d := d) (a1 := 0) hT hp (by omega) hJ hR6 h0 k (fun i2 l2 f2 y2 n2 => ml_163 (d := d) hT f2 (fun h => (PJ_weight hp (by omega) hJ h).1.2) y2 n2 hQ)
    refine ⟨fun c => h46 (Or.inl (by omega)), fun c => ?_⟩
    have ha := hI.1
    rw [hR.2.2.2.2.2.2.2.2.2, hR.1.1, nn_eq (by omega) (by omega)]
    refine ⟨fun c2 => h46 (Or.inr (fun y => c2 (ha.2.2.2.2.1 y.1))), fun c2 => ⟨_, _, md_stand (d := d + 5) hI hR, ?_⟩⟩
    rintro i17 l18 dd19 x20 ⟨⟩
    have hb : st 0 6 = 0 := by
      rcases Nat.eq_zero_or_pos (st 0 6) with y | y
      · exact y
      · have := ha.2.2.2.2.2.1 (by have := ha.2.2.1; omega)
        omega
    by_cases ct : t_ok st
    · rw [if_pos ct]
      exact ⟨fun _ => h46 (Or.inr (fun y => y.2 ct)), fun y => absurd y (by decide)⟩
    · rw [if_neg ct]
      rw [if_neg (show ¬ z_x z p = 0 by omega), if_pos ⟨hb, ct⟩] at hQ
      exact ⟨fun y => absurd rfl y, fun _ => mb_bad (d := d + 5) (c := 4) (by omega) nq_r k rfl (Or.inr (by omega)) hQ⟩
/-- all lines: from the first token on -/
theorem ml_85 {z : (Nat → Nat) × Nat} {i0 : Nat → Nat → Int32} {l0 : Nat → Nat → Int64} {R : rs_} (hT : dt_z z i0) {Q : ab_Qt} (hY : ∀ i2 l2, R.1 = 0 → nq_ i0 i2 l0 l2 → i2 205 8 = 0 → dR_ R.2.2 i2 l2 → PI_ R.2.2 → 0 < R.2.2 0 1 → ∃ (P4 : ab_S → Prop), ab_Sp MX12_keep (d + 7) [.ref 205] (i2, l2, dd, x) (ab_E0 sc) none P4 ∧ ∀ i7 l8 dd9 x10, P4 (i7, l8, dd9, x10) → ∃ (P13 : ab_S → Prop), ab_Sp MX12_layRows (d + 7) [.ref 205] (i7, l8, dd9, x10) (ab_E0 sc) none P13 ∧ ∀ i16 l17 dd18 x19, P13 (i16, l17, dd18, x19) → ∃ (P22 : ab_S → Prop), ab_Sp MX12_layVotes (d + 7) [.ref 205] (i16, l17, dd18, x19) (ab_E0 sc) none P22 ∧ ∀ i25 l26 dd27 x28, P22 (i25, l26, dd27, x28) → Q (some (some (.int (i25 205 27)))) (i25, l26, dd27, x28) (ab_E0 sc)) (hNo : ∀ i2 l2, R.1 ≠ 0 → nq_ i0 i2 l0 l2 → i2 205 8 = Int32.ofNat R.1 → i2 205 9 = Int32.ofNat R.2.1 → Q (some (some (.int ((-1) - Int32.ofNat R.2.1)))) (i2, l2, dd, x) (ab_E0 sc)) :
    ∀ (n : Nat) (st : ps_) (p : Nat) (i2 : Nat → Nat → Int32) (l2 : Nat → Nat → Int64), 741 ≤ p + n → p ≤ z.2 → PI_ st → st 0 7 ≤ p → R = p_all z n st p → nq_ i0 i2 l0 l2 → i2 205 8 = 0 → dR_ st i2 l2 → dk_ z p i2 l2 → ab_Fr MX12_matter (d + 8) Q 85 [some (.ref 205), none] [] (0, 0) (i2, l2, dd, x) (ab_E0 sc) := by
  intro n
  have hN := hT.1
  induction n with
  | zero => intro st p i2 l2 hn hp; omega
  | succ n ih =>
    intro st p i2 l2 hn hp hI hlp eR hF h0 hR hk
    have hm := mkk_l (z := z) (k := z_k z p)
    have hT2 := nq_z hT hF
    have e : p_all z (n + 1) st p = if z_k z p = 3 then (if st 0 1 = 0 ∨ 700 < z.2 then (1, z_p z p, st) else (0, p, st)) else if (p_line z st p).1 = 0 then p_all z n (p_line z st p).2.2 (p_line z st p).2.1 else p_line z st p := rfl
    rw [e] at eR
    have hV := hI.1.2.1
    refine tMX12_matter_85 (d := d + 7) ?_
    rw [hk.2.1, nn_p0, nn_eq (by omega) (by omega), hR.1.2, nn_eq (by omega) (by omega)]
    have hmk : mkk z (z_k z p) = 0 ↔ z_k z p = 3 ∧ ¬ 700 < z.2 := by
      unfold mkk
      (repeat' split) <;> omega
    refine ⟨fun c => ?_, fun c => ⟨_, _, ml_line (d := d) hT2 hp hI (by omega) hR h0 hk, ?_⟩⟩
    · have c' := hmk.mp c
      rw [if_pos c'.1] at eR
      refine ⟨fun cv => ?_, fun cv => ?_⟩
      · rw [if_neg (by omega)] at eR
        exact hY i2 l2 (by rw [eR]) hF h0 (by rw [eR]; exact hR) (by rw [eR]; exact hI) (by rw [eR]; show 0 < st 0 1; omega)
      · rw [if_pos (Or.inl cv)] at eR
        refine ⟨_, _, md_bad (d := d + 6) (c := 1) hk (Or.inl rfl), ?_⟩
        rintro i34 l35 dd36 x37 ⟨⟩
        have h := hNo (ab_u (ab_u i2 205 8 (Int32.ofNat 1)) 205 9 (Int32.ofNat (z_p z p))) l2 (by rw [eR]; omega) (nq_t hF (nq_h (hf_u (hf_u hf_r (by omega)) (by omega)))) (by rw [uu_j (by omega), uu_e, eR]) (by rw [uu_e, eR])
        rw [eR] at h
        rw [uu_e]
        exact h
    · rintro i43 l44 dd45 x46 ⟨i3, l3, ⟨⟩, f3, y3, n3⟩
      have hF3 := nq_t hF f3
      -- what the line tells
      have hline : (p_line z st p).1 = 0 → z_k z p ≠ 3 := fun h y => by
        have := (PI_line hp hI h).2.2.2
        omega
      by_cases c4 : (p_line z st p).1 = 0
      · rw [if_neg (hline c4), if_pos c4] at eR
        rw [c4]
        obtain ⟨y30, y31, y32⟩ := y3 c4
        obtain ⟨g1, g2, g3, g4⟩ := PI_line hp hI c4
        refine ⟨fun _ => ih _ _ i43 l44 (by have := g1.1; omega) g1.2 g2 (by have := g1.1; omega) eR hF3 y30 y32 y31, fun y => absurd y rc_y⟩
      · rw [rc_n c4]
        obtain ⟨n30, n31⟩ := n3 c4
        refine ⟨fun y => absurd rfl y, fun _ => ?_⟩
        have eR2 : R.1 = (p_line z st p).1 ∧ R.2.1 = (p_line z st p).2.1 := by
          by_cases c3 : z_k z p = 3
          · have hx : 5 < z_x z p := by
              unfold z_x
              rw [if_neg (by omega)]
              omega
            have el : p_line z st p = (1, z_p z p, st) := if_pos hx
            rw [if_pos c3, if_pos (Or.inr (Classical.byContradiction (fun y => c (hmk.mpr ⟨c3, y⟩))))] at eR
            rw [el, eR]
            exact ⟨rfl, rfl⟩
          · rw [if_neg c3, if_neg c4] at eR
            rw [eR]
            exact ⟨rfl, rfl⟩
        have h := hNo i43 l44 (by rw [eR2.1]; exact c4) hF3 (by rw [eR2.1]; exact n30) (by rw [eR2.2]; exact n31)
        rw [n31, ← eR2.2]
        exact h
end TKQ
