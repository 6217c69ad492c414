/-! bar: the class's sortByWeights -/
def sw_p (A : mA_) (t e w : Nat) (k : Nat) : Nat := pu_s (fun k => if rw_w A (gr_cv A (aO_ A)) (pu_d (rw_N (gr_cv A (aO_ A))) (aV_ A) k) (aV_ A) t = w then kc_w A (pu_d (rw_N (gr_cv A (aO_ A))) (aV_ A) k) e else 0) k
def sl_h (l l2 : Nat → Nat → Int64) : Prop := ∀ k, k ≠ 165 → k ≠ 192 → k ≠ 193 → l2 k = l k
theorem sw_all {A : mA_} {t e w : Nat} (hW : mt_W A) (ht : t < aT_ A) : sw_p A t e w (mt_rad (rw_N (gr_cv A (aO_ A))) (aV_ A)) = bw_ A t w e := by
  rw [← bw_k hW ht]
  exact pu_dn (G := fun c => if rw_w A (gr_cv A (aO_ A)) c (aV_ A) t = w then kc_w A c e else 0) (fun v hv => ((gr_cb hW (mt_O9 hW)) v hv).1.1)
section TQD3
variable {d : Nat} {sc : Nat × (Nat → Int32)} {i : Nat → Nat → Int32} {l : Nat → Nat → Int64} {dd : Nat → Nat → Value} {x : Nat}
theorem sw_38 {A : mA_} {m t e : Nat} {a4 : Int32} (hW : mt_W A) (hp : 0 < aV_ A) (hm : ab_isM m) (hd : dd 160 0 = .ref m) (ht : t < aT_ A) (he : e < aT_ A) {i0 : Nat → Nat → Int32} {l0 : Nat → Nat → Int64} (hK : mt_K A m i0) (hR : rw_R (aV_ A) (gr_cv A (aO_ A)) i0) (h4 : a4 = Int32.ofNat (mt_rad (rw_N (gr_cv A (aO_ A))) (aV_ A))) {Q : ab_Qt} (hQ : ∀ i2 l2, rw_g i0 i2 → sl_h l0 l2 → (∀ w, w < 64 → l2 192 w = Int64.ofNat (bw_ A t w t) ∧ l2 193 w = Int64.ofNat (bw_ A t w e)) → Q (some none) (i2, l2, dd, x) (ab_E0 sc)) :
    ∀ (n k : Nat) (i2 : Nat → Nat → Int32) (l2 : Nat → Nat → Int64), mt_rad (rw_N (gr_cv A (aO_ A))) (aV_ A) = k + n → rw_g i0 i2 → sl_h l0 l2 → (0 < n → rw_s A (gr_cv A (aO_ A)) (pu_d (rw_N (gr_cv A (aO_ A))) (aV_ A) k) i2 l2) → (∀ w, w < 64 → l2 192 w = Int64.ofNat (sw_p A t t w k) ∧ l2 193 w = Int64.ofNat (sw_p A t e w k)) → ab_Fr MX5_sortByWeights (d + 4) Q 38 [some (.ref 191), none, some (.int (Int32.ofNat t)), some (.int (Int32.ofNat e)), some (.int a4), some (.int (Int32.ofNat k)), none] [] (0, 0) (i2, l2, dd, x) (ab_E0 sc) := by
  subst h4
  intro n
  have w1 := hW.1
  have hc := gr_cb hW (mt_O9 hW)
  have hcnt := (rw_cnt hW hc (aV_ A) (Nat.le_refl _)).2
  induction n with
  | zero =>
    intro k i2 l2 hk g2 h2 s2 z2
    refine tMX5_sortByWeights_38 (d := d + 3) ⟨fun _ => hQ i2 l2 g2 h2 (fun w hw => ?_), fun c => ?_⟩
    · rw [(z2 w hw).1, (z2 w hw).2, show k = mt_rad (rw_N (gr_cv A (aO_ A))) (aV_ A) by omega, sw_all hW ht, sw_all hW ht]
      exact ⟨rfl, rfl⟩
    · rw [nn_le (by omega) (by omega)] at c
      omega
  | succ n ih =>
    intro k i2 l2 hk g2 h2 s2 z2
    have s2 := s2 (by omega)
    have hK2 := mt_K_o hm hK (rw_g_o g2) (by omega) hW
    have hwB := rw_wB (c := pu_d (rw_N (gr_cv A (aO_ A))) (aV_ A) k) (t := t) hW
    refine tMX5_sortByWeights_38 (d := d + 3) ⟨fun c => ?_, fun _ => ⟨_, _, rw_weightNow (d := d + 2) (t := t) hW hm hd hK2 s2 (by omega), ?_⟩⟩
    · rw [nn_le (by omega) (by omega)] at c
      omega
    · rintro i6 l7 dd8 x9 ⟨⟩
      refine ⟨fun c => absurd c (la_nn (by omega)).1, fun _ => ⟨fun c => ?_, fun _ => ?_⟩⟩
      · rw [show (64 : Int32) = Int32.ofNat 64 from rfl, nn_le (by omega) (by omega)] at c
        omega
      · rw [nn_cl (by omega)]
        refine ⟨la_vp (by omega) (by omega), _, _, rw_lostNow (d := d + 1) (e := t) hW hm hd hK2 s2 (by omega), ?_⟩
        rintro i6 l7 dd8 x9 ⟨⟩
        refine ⟨la_vp (by omega) (by omega), ?_⟩
        rintro l22 rfl
        refine ⟨la_vp (by omega) (by omega), _, _, rw_lostNow (d := d + 1) (e := e) hW hm hd hK2 (rw_s_l s2 (uu_f (by decide))) (by omega), ?_⟩
        rintro i6 l7 dd8 x9 ⟨⟩
        refine ⟨la_vp (by omega) (by omega), ?_⟩
        rintro l33 rfl
        refine tMX5_sortByWeights_103 (d := d + 3) ⟨_, rw_step (d := d + 1) hW hp hm hd hK2 (rw_R_g hR g2) hc (rw_s_l s2 ((uu_f (by decide)).trans (uu_f (by decide)))) (rw_dlt hc), ?_⟩
        rintro i6 l7 dd8 x9 ⟨i3, l3, ⟨⟩, f3, g3, s3⟩
        rw [la_nx]
        refine ih (k + 1) _ _ (by omega) (rw_g_t g2 (rw_g_f f3)) (fun q a b c => ?_) (fun hn => by rw [← pu_ds (N := rw_N (gr_cv A (aO_ A))) (fun v hv => (hc v hv).1.1) (by omega)]; exact s3) (fun w hw => ?_)
        · rw [g3 q (by omega), uu_f c, uu_f b]
          exact h2 q a b c
        · rw [g3 192 (by omega), g3 193 (by omega)]
          have es : ∀ y, sw_p A t y w (k + 1) = sw_p A t y w k + (if rw_w A (gr_cv A (aO_ A)) (pu_d (rw_N (gr_cv A (aO_ A))) (aV_ A) k) (aV_ A) t = w then kc_w A (pu_d (rw_N (gr_cv A (aO_ A))) (aV_ A) k) y else 0) := fun _ => rfl
          rw [es, es, uu_k (by decide)]
          by_cases c : w = rw_w A (gr_cv A (aO_ A)) (pu_d (rw_N (gr_cv A (aO_ A))) (aV_ A) k) (aV_ A) t
          · rw [if_pos c.symm, if_pos c.symm, c, uu_e, uu_e, uu_k (by decide), (z2 _ (by omega)).1, (z2 _ (by omega)).2, nl_add, nl_add]
            exact ⟨rfl, rfl⟩
          · rw [if_neg (fun q => c q.symm), if_neg (fun q => c q.symm), uu_j c, uu_j c, uu_k (by decide), Nat.add_zero, Nat.add_zero]
            exact z2 w hw
theorem mt_sortW {A : mA_} {m t e : Nat} (hW : mt_W A) (hp : 0 < aV_ A) (hm : ab_isM m) (hK : mt_K A m i) (ht : t < aT_ A) (he : e < aT_ A) : ab_Sp MX5_sortByWeights (d + 4) [.ref 191, .ref m, .int (Int32.ofNat t), .int (Int32.ofNat e)] (i, l, dd, x) (ab_E0 sc) none (fun σ => ∃ i2 l2, σ = (i2, l2, ab_u dd 160 0 (.ref m), x) ∧ kp_i i i2 ∧ sl_h l l2 ∧ ∀ w, w < 64 → l2 192 w = Int64.ofNat (bw_ A t w t) ∧ l2 193 w = Int64.ofNat (bw_ A t w e)) := by
  refine ab_ent (n := 3) okMX5_sortByWeights.1 (fun G => Nat.le_of_ble_eq_true rfl) (fun Q hQ => ?_)
  refine tMX5_sortByWeights_0 (d := d + 3) hm ⟨_, mt_emptyL (d := d + 2) (a := 192) (n := 64) rfl (by omega), ?_⟩
  rintro i5 l6 dd7 x8 ⟨l2, ⟨⟩, f2, z2⟩
  refine ⟨_, mt_emptyL (d := d + 2) (a := 193) (n := 64) rfl (by omega), ?_⟩
  rintro i5 l6 dd7 x8 ⟨l3, ⟨⟩, f3, z3⟩
  refine ⟨_, mt_votedT (d := d) hW hm hK, ?_⟩
  rintro i5 l6 dd7 x8 ⟨i3, ⟨⟩, k3, R3⟩
  have hK3 := mt_K_kp hW hm hK k3
  refine ⟨_, _, rw_first (d := d + 1) hW hm uu_e hK3 R3 (gr_cb hW (mt_O9 hW)), ?_⟩
  rintro i7 l8 dd9 x10 ⟨i4, l4, ⟨⟩, f4, g4, s4⟩
  refine sw_38 (d := d) (i0 := i7) (l0 := l8) hW hp hm uu_e ht he (mt_K_o hm hK3 (rw_g_o (rw_g_f f4)) (by omega) hW) (rw_R_g R3 (rw_g_f f4)) rfl (fun i6 l9 g6 h6 z6 => hQ _ ⟨i6, l9, rfl, kp_it k3 (kp_it (kp_g (rw_g_f f4)) (kp_g g6)), fun q a b c => ?_, z6⟩) _ 0 i7 l8 (Nat.zero_add _).symm (fun _ _ _ _ _ => rfl) (fun _ _ _ _ => rfl) (fun _ => by rw [pu_d0]; exact s4) (fun w hw => ?_)
  · rw [h6 q a b c, g4 q (by omega), f3 q (by omega), f2 q (by omega)]
  · rw [g4 192 (by omega), g4 193 (by omega), f3 192 (by omega), z2 w hw, z3 w hw]
    exact ⟨rfl, rfl⟩
end TQD3
