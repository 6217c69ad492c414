/-! LINES, the class: weight, loss, rule -/
section TKH
variable {d : Nat} {sc : Nat × (Nat → Int32)} {i : Nat → Nat → Int32} {l : Nat → Nat → Int64} {dd : Nat → Nat → Value} {x : Nat}
theorem fx_y {n k : Nat} (h : k < n) : fx_ n k = Int32.ofNat k := if_pos h
theorem cR_w {st : ps_} {m v w : Nat} (hv : v < st 0 1) (hR : cR_ st m i l) (hm : ab_isM m) (hV : st 0 1 ≤ 7) : cR_ (ab_u st 10 v w) m (ab_u i (m + 5 + 6 * v) 1 (Int32.ofNat w)) l := by
  have hm7 : m + 46 < 157 := by rcases hm with rfl | rfl | rfl <;> omega
  obtain ⟨r1, r2, r3, r4, r5, r6, r7, r8, r9, r10, r11⟩ := hR
  refine ⟨⟨?_, ?_⟩, ⟨?_, fun y => ⟨?_, ?_⟩, ?_⟩, fun t ht => ?_, fun t e ht he => ?_, fun u hu => ⟨?_, ?_, ?_, fun y => ?_⟩, fun u s t hu hs ht => ?_, fun u t e hu ht he => ?_, fun u s hu h7 hs => ?_, r9, r10, ?_⟩
  · rw [uu_k (by omega)]; exact r1.1
  · rw [uu_k (by omega)]; exact r1.2
  · rw [uu_k (by omega)]; exact r2.1
  · rw [uu_k (by omega)]; exact (r2.2.1 y).1
  · rw [uu_k (by omega)]; exact (r2.2.1 y).2
  · rw [uu_k (by omega)]; exact r2.2.2
  · rw [uu_k (by omega)]; exact r3 t ht
  · rw [uu_k (by omega)]; exact r4 t e ht he
  · rw [uu_j (by omega)]; exact (r5 u hu).1
  · by_cases e : u = v
    · subst e
      rw [uu_e]
      show _ = Int32.ofNat (ab_u st 10 u w 10 u)
      rw [uu_e]
    · rw [uu_k (by omega)]
      show _ = Int32.ofNat (ab_u st 10 v w 10 u)
      rw [uu_j e]
      exact (r5 u hu).2.1
  · rw [uu_j (by omega)]; exact (r5 u hu).2.2.1
  · rw [uu_j (by omega)]; exact (r5 u hu).2.2.2 y
  · rw [uu_k (by omega)]; exact r6 u s t hu hs ht
  · rw [uu_k (by omega)]; exact r7 u t e hu ht he
  · rw [uu_k (by omega)]; exact r8 u s hu h7 hs
  · rw [uu_k (by omega)]; exact r11
theorem ct_weight {z : (Nat → Nat) × Nat} {st : ps_} {m p : Nat} (hT : ct_z z i) (hp : p ≤ z.2) (hk : z_k z p < 3) (hm : ab_isM m) (hd : dd 157 2 = .ref m) (hJ : PJ_ st) (hR : cR_ st m i l) (h0 : i 157 0 = 0) (k : ck_ z p i l) : ab_Sp MX2_readWeight (d + 4) [.ref 157] (i, l, dd, x) (ab_E0 sc) (some (.int (rc_ (b_fin z (b_weight z st p)).1))) (cl_ m (b_fin z (b_weight z st p)) i l dd x) := by
  obtain ⟨⟨a1, a2, a3, a4, a5, a6, a7⟩, hB, hC, hD, hE⟩ := hJ
  have g1 := g_e hp hk
  refine ab_ent (n := 0) okMX2_readWeight.1 (fun G => Nat.le_of_ble_eq_true rfl) (fun Q hQ => ?_)
  unfold b_weight at hQ
  have hN := cN_of hR a1 a2 hB
  refine tMX2_readWeight_0 (d := d + 3) ⟨_, _, ct_name (d := d) (st := st) (s := 4) hT g1.2 (k.2.2.1 hk) hm hd hN (by omega), ?_⟩
  rw [c_nam4]
  rintro i9 l10 dd11 x12 ⟨i2, l2, ⟨⟩, f2, y2, n2⟩
  by_cases c3 : c_vo z st (z_e z p) = 0
  · rw [bf_y c3] at hQ
    rw [c3]
    obtain ⟨k1, x1, t1⟩ := c_vo0 c3
    obtain ⟨y20, y21, y22, y23⟩ := y2 c3
    have g2 := g_e g1.2 (show z_k z (z_e z p) < 3 by omega)
    refine ⟨fun y => absurd y rc_y, fun _ => ⟨_, _, ct_num (d := d) (a := 0) (b := 9) (sf_z hT f2) g2.2 (y21.2.2.1 (by omega)) (by omega) (by omega), ?_⟩⟩
    rintro i23 l24 dd25 x26 ⟨i3, l3, ⟨⟩, f3, y3, n3⟩
    have f23 := sf_t f2 f3
    by_cases c4 : c_num z 0 9 (z_e z (z_e z p)) = 0
    · rw [bf_y c4] at hQ
      rw [c4]
      obtain ⟨k2, w1, w2⟩ := c_num0 c4
      obtain ⟨y30, y31, -, y33⟩ := y3 c4
      have g3 := g_e g2.2 (show z_k z (z_e z (z_e z p)) < 3 by omega)
      refine ⟨fun _ => ⟨m, hd, hm, ?_⟩, fun y => absurd y rc_y⟩
      rw [y33, y23, fx_y t1, nn_cl (by omega), y31.2.2.2.2.2 k2]
      refine ⟨la_vp (by omega) (by omega), ?_⟩
      rintro i31 rfl
      have hF : lf_ m i (ab_u i23 (m + 5 + 6 * fV_ z st (z_e z p)) 1 (Int32.ofNat (z_v z (z_e z (z_e z p))))) l l24 := lf_m (lf_s f23) (by omega)
      have hm7 : m + 46 < 157 := by rcases hm with rfl | rfl | rfl <;> omega
      refine cl_stop (d := d) (r := (0, z_e z (z_e z (z_e z p)), ab_u st 10 (fV_ z st (z_e z p)) (z_v z (z_e z (z_e z p))))) (lf_z hm hT hF) hm a2 rfl g3.2 hF ?_ ?_ (cR_w t1 (cR_s hm hR a2 f23) hm a2) hQ
      · rw [uu_k (by omega), y30, y20]
        exact h0
      · rw [uu_k (by omega)]
        exact y31.2.2.1 (by omega)
    · rw [rc_n c4]
      exact ⟨fun y => absurd rfl y, fun _ => cl_no c4 (lf_s f23) (n3 c4) hQ⟩
  · rw [rc_n c3]
    exact ⟨fun _ => cl_no c3 (lf_s f2) (n2 c3) hQ, fun y => absurd rfl y⟩
/-- a loss told -/
theorem cR_o {st : ps_} {m who t0 e0 w : Nat} (hw : who < st 0 1 ∨ who = 7) (ht0 : t0 < 3) (he0 : e0 < 3) (hw5 : w ≤ 50) (hR : cR_ st m i l) (hm : ab_isM m) (hV : st 0 1 ≤ 7) : cR_ (ab_u st 6 (9 * who + 3 * t0 + e0) w) m (ab_u i (if who = 7 then m + 3 else m + 5 + 6 * who + 2) (3 * t0 + e0) (Int32.ofNat w)) l := by
  have hm7 : m + 46 < 157 := by rcases hm with rfl | rfl | rfl <;> omega
  obtain ⟨r1, r2, r3, r4, r5, r6, r7, r8, r9, r10, r11⟩ := hR
  have hc : ∀ k, (k < m + 3 ∨ m + 3 < k) → (∀ u, u < 7 → k ≠ m + 5 + 6 * u + 2) → k ≠ (if who = 7 then m + 3 else m + 5 + 6 * who + 2) := fun k h1 h2 y => by
    split at y
    · omega
    · exact h2 who (by omega) y
  refine ⟨⟨?_, ?_⟩, ⟨?_, fun y => ⟨?_, ?_⟩, ?_⟩, fun t ht => ?_, fun t e ht he => ?_, fun u hu => ⟨?_, ?_, ?_, fun y => ?_⟩, fun u s t hu hs ht => ?_, fun u t e hu ht he => ?_, fun u s hu h7 hs => ?_, r9, r10, ?_⟩
  · rw [uu_k (hc _ (by omega) (fun u _ => by omega))]; exact r1.1
  · rw [uu_k (hc _ (by omega) (fun u _ => by omega))]; exact r1.2
  · rw [uu_k (hc _ (by omega) (fun u _ => by omega))]; exact r2.1
  · rw [uu_k (hc _ (by omega) (fun u _ => by omega))]; exact (r2.2.1 y).1
  · rw [uu_k (hc _ (by omega) (fun u _ => by omega))]; exact (r2.2.1 y).2
  · rw [uu_k (hc _ (by omega) (fun u _ => by omega))]; exact r2.2.2
  · rw [uu_k (hc _ (by omega) (fun u _ => by omega))]; exact r3 t ht
  · show _ = Int32.ofNat (kr_ (ab_u st 6 (9 * who + 3 * t0 + e0) w 6) t e)
    by_cases c : who = 7
    · rw [if_pos c]
      by_cases c2 : t = t0 ∧ e = e0
      · obtain ⟨rfl, rfl⟩ := c2
        rw [uu_e]
        unfold kr_
        rw [show 63 + 3 * t + e = 9 * who + 3 * t + e by omega, uu_e, if_neg (by omega)]
      · rw [uu_j (by omega), r4 t e ht he]
        unfold kr_
        rw [uu_j (by omega)]
    · rw [if_neg c, uu_k (by omega), r4 t e ht he]
      unfold kr_
      rw [uu_j (by omega)]
  · rw [uu_k (hc _ (by omega) (fun u _ => by omega))]; exact (r5 u hu).1
  · rw [uu_k (hc _ (by omega) (fun u _ => by omega))]; exact (r5 u hu).2.1
  · rw [uu_k (hc _ (by omega) (fun u _ => by omega))]; exact (r5 u hu).2.2.1
  · rw [uu_k (hc _ (by omega) (fun u _ => by omega))]; exact (r5 u hu).2.2.2 y
  · rw [uu_k (hc _ (by omega) (fun u _ => by omega))]; exact r6 u s t hu hs ht
  · show _ = kt_ (ab_u st 6 (9 * who + 3 * t0 + e0) w 6 (9 * u + 3 * t + e))
    have hu : u < st 0 1 := hu
    by_cases c : who = 7
    · rw [if_pos c, uu_k (by omega), uu_j (by omega)]
      exact r7 u t e hu ht he
    · rw [if_neg c]
      by_cases c3 : u = who
      · subst c3
        by_cases c2 : t = t0 ∧ e = e0
        · obtain ⟨rfl, rfl⟩ := c2
          rw [uu_e, uu_e]
          exact (if_neg (by omega)).symm
        · rw [uu_j (by omega), uu_j (by omega)]
          exact r7 u t e hu ht he
      · rw [uu_k (by omega), uu_j (by omega)]
        exact r7 u t e hu ht he
  · rw [uu_k (hc _ (by omega) (fun u _ => by omega))]; exact r8 u s hu h7 hs
  · rw [uu_k (hc _ (by omega) (fun u _ => by omega))]; exact r11
/-- a loss from its second truth on -/
theorem ct_l56 {z : (Nat → Nat) × Nat} {st : ps_} {m q who so a1 : Nat} {i0 : Nat → Nat → Int32} {l0 : Nat → Nat → Int64} (hT : ct_z z i) (hq : q ≤ z.2) (h5 : i 157 5 = Int32.ofNat q) (hm : ab_isM m) (hd : dd 157 2 = .ref m) (hJ : PJ_ st) (hR : cR_ st m i l) (h0 : i 157 0 = 0) (hw : who < st 0 1 ∨ who = 7) (hs : so < st 0 0) (h10 : i 157 10 = Int32.ofNat so) (ha : a1 = if who = 7 then m + 3 else m + 5 + 6 * who + 2) (hn : (ab_E0 sc).1 a1 = .inr (0, 9)) (hf : lf_ m i0 i l0 l) {Q : ab_Qt} (hQ : ∀ σ, cl_ m (b_fin z (ch_ (c_tr z st q) (z_p z q) st (ch_ (c_num z 0 50 (z_e z q)) (z_p z (z_e z q)) st (0, z_e z (z_e z q), ab_u st 6 (9 * who + 3 * so + fT_ z st q) (z_v z (z_e z q)))))) i0 l0 dd x σ → Q (some (some (.int (rc_ (b_fin z (ch_ (c_tr z st q) (z_p z q) st (ch_ (c_num z 0 50 (z_e z q)) (z_p z (z_e z q)) st (0, z_e z (z_e z q), ab_u st 6 (9 * who + 3 * so + fT_ z st q) (z_v z (z_e z q)))))).1)))) σ (ab_E0 sc)) : ab_Fr MX2_readLoss (d + 4) Q 56 [some (.ref 157), some (.ref a1), none, none] [] (0, 0) (i, l, dd, x) (ab_E0 sc) := by
  obtain ⟨⟨a1', a2, a3, a4, a5, a6, a7⟩, hB, hC, hD, hE⟩ := hJ
  have hN := cN_of hR a1' a2 hB
  refine tMX2_readLoss_56 (d := d + 3) hn ⟨_, _, ct_name (d := d) (st := st) (s := 2) hT hq h5 hm hd hN (by omega), ?_⟩
  rw [c_nam2]
  rintro i9 l10 dd11 x12 ⟨i2, l2, ⟨⟩, f2, y2, n2⟩
  by_cases c3 : c_tr z st q = 0
  · rw [bf_y c3] at hQ
    rw [c3]
    obtain ⟨k1, x1, t1⟩ := c_tr0 c3
    obtain ⟨y20, y21, y22, y23⟩ := y2 c3
    have g2 := g_e hq (show z_k z q < 3 by omega)
    refine ⟨fun _ => ⟨_, _, ct_num (d := d) (a := 0) (b := 50) (sf_z hT f2) g2.2 (y21.2.2.1 (by omega)) (by omega) (by omega), ?_⟩, fun y => absurd y rc_y⟩
    rintro i23 l24 dd25 x26 ⟨i3, l3, ⟨⟩, f3, y3, n3⟩
    have f23 := sf_t f2 f3
    by_cases c4 : c_num z 0 50 (z_e z q) = 0
    · rw [bf_y c4] at hQ
      rw [c4]
      obtain ⟨k2, w1, w2⟩ := c_num0 c4
      obtain ⟨y30, y31, -, -⟩ := y3 c4
      have g3 := g_e g2.2 (show z_k z (z_e z q) < 3 by omega)
      rw [h10, y22, fx_y t1, y31.2.2.2.2.2 k2, nn_p3, nn_mul, nn_add, nn_cl (by omega), Nat.mul_comm so 3]
      refine ⟨fun _ => ⟨la_vp (by omega) (by omega), ?_⟩, fun y => absurd y rc_y⟩
      rintro i31 rfl
      have ha46 : m ≤ a1 ∧ a1 ≤ m + 46 := by
        rw [ha]
        split <;> omega
      have hF : lf_ m i0 (ab_u i23 a1 (3 * so + fT_ z st q) (Int32.ofNat (z_v z (z_e z q)))) l0 l24 := lf_m (lf_t hf (lf_s f23)) ha46
      have hm7 : m + 46 < 157 := by rcases hm with rfl | rfl | rfl <;> omega
      have hR2 := cR_o (who := who) (t0 := so) (e0 := fT_ z st q) (w := z_v z (z_e z q)) hw (by omega) (by omega) w2 (cR_s hm hR a2 f23) hm a2
      rw [← ha] at hR2
      refine cl_stop (d := d) (r := (0, z_e z (z_e z q), ab_u st 6 (9 * who + 3 * so + fT_ z st q) (z_v z (z_e z q)))) (rf_z (i := i23) (sf_z hT f23) (fun k j hk => uu_k (by rcases hm with rfl | rfl | rfl <;> omega))) hm a2 rfl g3.2 hF ?_ ?_ hR2 hQ
      · rw [uu_k (by omega), y30, y20]
        exact h0
      · rw [uu_k (by omega)]
        exact y31.2.2.1 (by omega)
    · rw [rc_n c4]
      exact ⟨fun y => absurd rfl y, fun _ => cl_no c4 (lf_t hf (lf_s f23)) (n3 c4) hQ⟩
  · rw [rc_n c3]
    exact ⟨fun y => absurd rfl y, fun _ => cl_no c3 (lf_t hf (lf_s f2)) (n2 c3) hQ⟩
theorem ct_loss {z : (Nat → Nat) × Nat} {st : ps_} {m p : Nat} (hT : ct_z z i) (hp : p ≤ z.2) (hk : z_k z p < 3) (hm : ab_isM m) (hd : dd 157 2 = .ref m) (hJ : PJ_ st) (hR : cR_ st m i l) (h0 : i 157 0 = 0) (k : ck_ z p i l) : ab_Sp MX2_readLoss (d + 4) [.ref 157] (i, l, dd, x) (ab_E0 sc) (some (.int (rc_ (b_fin z (b_loss z st p)).1))) (cl_ m (b_fin z (b_loss z st p)) i l dd x) := by
  obtain ⟨⟨a1, a2, a3, a4, a5, a6, a7⟩, hB, hC, hD, hE⟩ := id hJ
  have g1 := g_e hp hk
  refine ab_ent (n := 0) okMX2_readLoss.1 (fun G => Nat.le_of_ble_eq_true rfl) (fun Q hQ => ?_)
  unfold b_loss at hQ
  have hN := cN_of hR a1 a2 hB
  obtain ⟨fv1, fv2, fv3⟩ := fi_l (f := st 2) (w := z_w z (z_e z p)) (st 0 1)
  refine tMX2_readLoss_0 (d := d + 3) ⟨_, _, ct_name (d := d) (st := st) (s := 6) hT g1.2 (k.2.2.1 hk) hm hd hN (by omega), ?_⟩
  rintro i9 l10 dd11 x12 ⟨i2, l2, ⟨⟩, f2, y2, n2⟩
  by_cases c1 : zN_ z (z_e z p)
  · rw [bf_y (if_pos c1)] at hQ
    have g2 := g_e g1.2 (show z_k z (z_e z p) < 3 by have := c1.1; omega)
    by_cases c2 : fV_ z st (z_e z p) < st 0 1
    · rw [if_pos c2] at hQ
      have cN6 : c_nam z st 6 (z_e z p) = 0 := by
        unfold c_nam
        rw [if_pos c1, if_pos (Or.inr (Or.inr ⟨Or.inr rfl, c2⟩))]
      rw [cN6]
      obtain ⟨y20, y21, y22, y23⟩ := y2 cN6
      refine ⟨fun _ => ⟨m, hd, hm, ?_⟩, fun y => absurd y rc_y⟩
      rw [y23, fx_y c2, nn_em (by omega), nn_cl (by omega)]
      refine ⟨fun y => y.elim, fun _ => ⟨la_vp (by omega) (by omega), _, _, ct_name (d := d) (st := st) (s := 2) (sf_z hT f2) g2.2 (y21.2.2.1 (by omega)) hm hd (cN_s hm hN f2) (by omega), ?_⟩⟩
      rw [c_nam2]
      rintro i23 l24 dd25 x26 ⟨i3, l3, ⟨⟩, f3, y3, n3⟩
      have f23 := sf_t f2 f3
      unfold l_2 at hQ
      by_cases c3 : c_tr z st (z_e z (z_e z p)) = 0
      · rw [bf_y c3] at hQ
        rw [c3]
        obtain ⟨k1, x1, t1⟩ := c_tr0 c3
        obtain ⟨y30, y31, y32, -⟩ := y3 c3
        have g3 := g_e g2.2 (show z_k z (z_e z (z_e z p)) < 3 by omega)
        exact ⟨fun _ => ct_l56 (d := d) (who := fV_ z st (z_e z p)) (sf_z hT f23) g3.2 (y31.2.2.1 (by omega)) hm hd hJ (cR_s hm hR a2 f23) (by rw [y30, y20]; exact h0) (Or.inl c2) t1 (y32.trans (fx_y t1)) (if_neg (by omega)).symm (kV_2 ⟨m, _, hm, by omega, rfl⟩) (lf_s f23) hQ, fun y => absurd y rc_y⟩
      · rw [rc_n c3]
        exact ⟨fun y => absurd rfl y, fun _ => cl_no c3 (lf_s f23) (n3 c3) hQ⟩
    · rw [if_neg c2] at hQ
      have c2' : fV_ z st (z_e z p) = st 0 1 := by unfold fV_ at c2 ⊢; omega
      have cN6 : c_nam z st 6 (z_e z p) = c_tr z st (z_e z p) := by
        unfold c_nam c_tr
        rw [if_pos c1, if_pos c1]
        by_cases c3 : fT_ z st (z_e z p) < st 0 0
        · rw [if_pos c3, if_pos (Or.inr (Or.inl ⟨Or.inr rfl, c3⟩))]
        · rw [if_neg c3, if_neg (by rintro (h | h | h) <;> omega)]
      rw [cN6] at y2 n2 ⊢
      unfold l_2 at hQ
      by_cases c3 : c_tr z st (z_e z p) = 0
      · rw [bf_y c3] at hQ
        rw [c3]
        obtain ⟨k1, x1, t1⟩ := c_tr0 c3
        obtain ⟨y20, y21, y22, y23⟩ := y2 c3
        refine ⟨fun _ => ⟨m, hd, hm, ?_⟩, fun y => absurd y rc_y⟩
        rw [y23, show fx_ (st 0 1) (fV_ z st (z_e z p)) = -1 from if_neg c2]
        exact ⟨fun _ => ct_l56 (d := d) (who := 7) (sf_z hT f2) g2.2 (y21.2.2.1 (by omega)) hm hd hJ (cR_s hm hR a2 f2) (by rw [y20]; exact h0) (Or.inr rfl) t1 (y22.trans (fx_y t1)) (if_pos rfl).symm (kM_3 hm) (lf_s f2) hQ, fun y => absurd rfl y⟩
      · rw [rc_n c3]
        exact ⟨fun y => absurd rfl y, fun _ => cl_no c3 (lf_s f2) (n2 c3) hQ⟩
  · have cN6 : c_nam z st 6 (z_e z p) = 1 := if_neg c1
    rw [cN6] at n2 ⊢
    refine ⟨fun y => absurd rfl y, fun _ => cl_no (c := if zN_ z (z_e z p) then 0 else 1) (by rw [if_neg c1]; omega) (lf_s f2) ?_ hQ⟩
    rw [if_neg c1]
    exact n2 (by omega)
/-- the rule alone changes -/
theorem cR_g {st st' : ps_} {m : Nat} {i2 : Nat → Nat → Int32} (hm : ab_isM m) (hV : st 0 1 ≤ 7) (hR : cR_ st m i l) (hs : ∀ g, g ≠ 0 → st' g = st g) (hs0 : st' 0 0 = st 0 0 ∧ st' 0 1 = st 0 1 ∧ st' 0 6 = st 0 6) (hi : ∀ k j, ¬ (k = m ∧ 2 ≤ j ∧ j ≤ 5) → i2 k j = i k j) (h : i2 m 2 = Int32.ofNat (st' 0 2) ∧ (0 < st' 0 2 → i2 m 3 = Int32.ofNat (st' 0 3) ∧ i2 m 4 = Int32.ofNat (st' 0 4)) ∧ i2 m 5 = mt_h (st' 0 5)) : cR_ st' m i2 l := by
  have hm7 : m + 46 < 157 := by rcases hm with rfl | rfl | rfl <;> omega
  obtain ⟨r1, r2, r3, r4, r5, r6, r7, r8, r9, r10, r11⟩ := hR
  unfold cR_
  rw [hs0.1, hs0.2.1, hs0.2.2, hs 1 (by omega), hs 2 (by omega), hs 3 (by omega), hs 4 (by omega), hs 5 (by omega), hs 6 (by omega), hs 7 (by omega), hs 8 (by omega), hs 9 (by omega), hs 10 (by omega)]
  refine ⟨⟨?_, ?_⟩, h, fun t ht => ?_, fun t e ht he => ?_, fun u hu => ⟨?_, ?_, ?_, fun y => ?_⟩, fun u s t hu hs ht => ?_, fun u t e hu ht he => ?_, fun u s hu h7 hs => ?_, r9, r10, ?_⟩
  · rw [hi _ _ (by omega)]; exact r1.1
  · rw [hi _ _ (by omega)]; exact r1.2
  · rw [hi _ _ (by omega)]; exact r3 t ht
  · rw [hi _ _ (by omega)]; exact r4 t e ht he
  · rw [hi _ _ (by omega)]; exact (r5 u hu).1
  · rw [hi _ _ (by omega)]; exact (r5 u hu).2.1
  · rw [hi _ _ (by omega)]; exact (r5 u hu).2.2.1
  · rw [hi _ _ (by omega)]; exact (r5 u hu).2.2.2 y
  · rw [hi _ _ (by omega)]; exact r6 u s t hu hs ht
  · rw [hi _ _ (by omega)]; exact r7 u t e hu ht he
  · rw [hi _ _ (by omega)]; exact r8 u s hu h7 hs
  · rw [hi _ _ (by omega)]; exact r11
theorem cN_u {st : ps_} {m k j : Nat} {v : Int32} (h : cN_ st m i l) (hk : ¬ (k = m ∧ j < 2)) : cN_ st m (ab_u i k j v) l := by
  obtain ⟨⟨a1, a2, m0, m1⟩, h2⟩ := h
  refine ⟨⟨a1, a2, ?_, ?_⟩, h2⟩
  · rw [show ab_u i k j v m 0 = i m 0 from if_neg (fun y => hk ⟨y.1.symm, by omega⟩)]
    exact m0
  · rw [show ab_u i k j v m 1 = i m 1 from if_neg (fun y => hk ⟨y.1.symm, by omega⟩)]
    exact m1
theorem lf_zu {z : (Nat → Nat) × Nat} {m k j : Nat} {v : Int32} (hm : ab_isM m) (hT : ct_z z i) (hk : m ≤ k ∧ k ≤ m + 46) : ct_z z (ab_u i k j v) := rf_z hT (fun a b _ => uu_k (by rcases hm with rfl | rfl | rfl <;> omega))
theorem ct_need {z : (Nat → Nat) × Nat} {st : ps_} {m p : Nat} (hT : ct_z z i) (hp : p ≤ z.2) (h5 : i 157 5 = Int32.ofNat p) (hm : ab_isM m) (hd : dd 157 2 = .ref m) (hJ : PJ_ st) (hR : cR_ st m i l) (h0 : i 157 0 = 0) : ab_Sp MX2_readNeed (d + 4) [.ref 157] (i, l, dd, x) (ab_E0 sc) (some (.int (rc_ (b_fin z (r_need z st p)).1))) (cl_ m (b_fin z (r_need z st p)) i l dd x) := by
  obtain ⟨⟨a1, a2, a3, a4, a5, a6, a7⟩, hB, hC, hD, hE⟩ := hJ
  have hm7 : m + 46 < 157 := by rcases hm with rfl | rfl | rfl <;> omega
  have hN := cN_of hR a1 a2 hB
  refine ab_ent (n := 0) okMX2_readNeed.1 (fun G => Nat.le_of_ble_eq_true rfl) (fun Q hQ => ?_)
  unfold r_need at hQ
  refine tMX2_readNeed_0 (d := d + 3) ⟨_, _, ct_num (d := d) (a := 1) (b := 81) hT hp h5 (by omega) (by omega), ?_⟩
  rintro i5 l6 dd7 x8 ⟨i2, l2, ⟨⟩, f2, y2, n2⟩
  by_cases c1 : c_num z 1 81 p = 0
  · rw [bf_y c1] at hQ
    rw [c1]
    obtain ⟨k1, w1, w2⟩ := c_num0 c1
    obtain ⟨y20, y21, -, -⟩ := y2 c1
    have g1 := g_e hp (show z_k z p < 3 by omega)
    refine ⟨fun _ => ⟨m, hd, hm, ?_⟩, fun y => absurd y rc_y⟩
    rintro i13 rfl
    rw [y21.2.2.2.2.2 k1]
    refine ⟨_, _, ct_name (d := d) (st := st) (s := 2) (lf_zu hm (sf_z hT f2) (by omega)) g1.2 (by rw [uu_k (by omega)]; exact y21.2.2.1 (by omega)) hm hd (cN_u (cN_s hm hN f2) (by omega)) (by omega), ?_⟩
    rw [c_nam2]
    rintro i19 l20 dd21 x22 ⟨i3, l3, ⟨⟩, f3, y3, n3⟩
    have hF3 : lf_ m i i19 l l20 := lf_t (lf_m (lf_s f2) (by omega)) (lf_s f3)
    by_cases c2 : c_tr z st (z_e z p) = 0
    · rw [bf_y c2] at hQ
      rw [c2]
      obtain ⟨k2, x2, t2⟩ := c_tr0 c2
      obtain ⟨y30, y31, y32, -⟩ := y3 c2
      have g2 := g_e g1.2 (show z_k z (z_e z p) < 3 by omega)
      have hN3 : cN_ st m i19 l20 := cN_s hm (cN_u (cN_s hm hN f2) (by omega)) f3
      have hT3 := lf_z hm hT hF3
      refine ⟨fun _ => ⟨m, hd, hm, ?_⟩, fun y => absurd y rc_y⟩
      rintro i27 rfl
      rw [y32, fx_y t2]
      refine ⟨_, _, ct_key (d := d) (w := 15) (lf_zu hm hT3 (by omega)) g2.2 (by rw [uu_k (by omega)]; exact y31.2.2.1 (by omega)) (by omega), ?_⟩
      rintro i33 l34 dd35 x36 ⟨i4, l4, ⟨⟩, f4, y4, n4⟩
      have hF4 : lf_ m i i33 l l34 := lf_t (lf_m hF3 (by omega)) (lf_s f4)
      by_cases c3 : c_key z 15 (z_e z (z_e z p)) = 0
      · rw [bf_y c3] at hQ
        rw [c3]
        obtain ⟨k3, x3⟩ := c_key0 (by omega) c3
        obtain ⟨y40, y41, -, -⟩ := y4 c3
        have g3 := g_e g2.2 (show z_k z (z_e z (z_e z p)) < 3 by omega)
        have hT4 := lf_z hm hT hF4
        have hN4 : cN_ st m i33 l34 := cN_s hm (cN_u hN3 (by omega)) f4
        refine ⟨fun y => absurd y rc_y, fun _ => ⟨_, _, ct_name (d := d) (st := st) (s := 2) hT4 g3.2 (y41.2.2.1 (by omega)) hm hd hN4 (by omega), ?_⟩⟩
        rw [c_nam2]
        rintro i43 l44 dd45 x46 ⟨i6, l6', ⟨⟩, f6, y6, n6⟩
        have hF6 : lf_ m i i43 l l44 := lf_t hF4 (lf_s f6)
        by_cases c4 : c_tr z st (z_e z (z_e z (z_e z p))) = 0
        · rw [bf_y c4] at hQ
          rw [c4]
          obtain ⟨k4, x4, t4⟩ := c_tr0 c4
          obtain ⟨y60, y61, y62, -⟩ := y6 c4
          have g4 := g_e g3.2 (show z_k z (z_e z (z_e z (z_e z p))) < 3 by omega)
          refine ⟨fun _ => ⟨m, hd, hm, ?_⟩, fun y => absurd y rc_y⟩
          rintro i51 rfl
          rw [y62, fx_y t4]
          have hF : lf_ m i (ab_u i43 m 4 (Int32.ofNat (fT_ z st (z_e z (z_e z (z_e z p)))))) l l44 := lf_m hF6 (by omega)
          have hi : ∀ k j, ¬ (k = m ∧ 2 ≤ j ∧ j ≤ 5) → k ≠ 157 → ab_u i43 m 4 (Int32.ofNat (fT_ z st (z_e z (z_e z (z_e z p))))) k j = i k j := fun k j hkj hk => by
            rw [show ab_u i43 m 4 (Int32.ofNat (fT_ z st (z_e z (z_e z (z_e z p))))) k j = i43 k j from if_neg (by omega), f6.1 k j (by omega), f4.1 k j (by omega), show ab_u i19 m 3 (Int32.ofNat (fT_ z st (z_e z p))) k j = i19 k j from if_neg (by omega), f3.1 k j (by omega), show ab_u i5 m 2 (Int32.ofNat (z_v z p)) k j = i5 k j from if_neg (by omega), f2.1 k j (by omega)]
          have e2 : ab_u i43 m 4 (Int32.ofNat (fT_ z st (z_e z (z_e z (z_e z p))))) m 2 = Int32.ofNat (z_v z p) := by rw [uu_j (by omega), f6.1 m 2 (by omega), f4.1 m 2 (by omega), uu_j (by omega), f3.1 m 2 (by omega), uu_e]
          have e3 : ab_u i43 m 4 (Int32.ofNat (fT_ z st (z_e z (z_e z (z_e z p))))) m 3 = Int32.ofNat (fT_ z st (z_e z p)) := by rw [uu_j (by omega), f6.1 m 3 (by omega), f4.1 m 3 (by omega), uu_e]
          have e5 : ab_u i43 m 4 (Int32.ofNat (fT_ z st (z_e z (z_e z (z_e z p))))) m 5 = mt_h (st 0 5) := by rw [uu_j (by omega), f6.1 m 5 (by omega), f4.1 m 5 (by omega), uu_j (by omega), f3.1 m 5 (by omega), uu_j (by omega), f2.1 m 5 (by omega)]; exact hR.2.1.2.2
          have e157 : ∀ j, j = 3 → ab_u i43 m 4 (Int32.ofNat (fT_ z st (z_e z (z_e z (z_e z p))))) 157 j = i 157 j := fun j hj => by
            rw [uu_k (by omega), f6.1 157 j (by omega), f4.1 157 j (by omega), uu_k (by omega), f3.1 157 j (by omega), uu_k (by omega), f2.1 157 j (by omega)]
          have hl : ∀ k, k = 158 ∨ k = 159 → l44 k = l k := fun k hk => funext fun j => by
            rw [f6.2 k j (by omega), f4.2 k j (by omega), f3.2 k j (by omega), f2.2 k j (by omega)]
          have hR0 : cR_ st m (fun k j => if k = m ∧ 2 ≤ j ∧ j ≤ 5 then i k j else ab_u i43 m 4 (Int32.ofNat (fT_ z st (z_e z (z_e z (z_e z p))))) k j) l44 := by
            refine cR_f hR a2 (fun k h1 h2 => funext fun j => ?_) ?_ ⟨hl 158 (Or.inl rfl), hl 159 (Or.inr rfl)⟩
            · by_cases c : k = m ∧ 2 ≤ j ∧ j ≤ 5
              · rw [if_pos c]
              · rw [if_neg c]
                exact hi k j c (by omega)
            · rw [if_neg (by omega)]
              exact e157 3 rfl
          refine cl_stop (d := d) (r := (0, z_e z (z_e z (z_e z (z_e z p))), ab_u (ab_u (ab_u st 0 2 (z_v z p)) 0 3 (fT_ z st (z_e z p))) 0 4 (fT_ z st (z_e z (z_e z (z_e z p)))))) (lf_z hm hT hF) hm a2 rfl g4.2 hF ?_ ?_ (cR_g hm a2 hR0 (show ∀ g, g ≠ 0 → ab_u (ab_u (ab_u st 0 2 (z_v z p)) 0 3 (fT_ z st (z_e z p))) 0 4 (fT_ z st (z_e z (z_e z (z_e z p)))) g = st g from fun g hg => by rw [uu_f hg, uu_f hg, uu_f hg]) ⟨rfl, rfl, rfl⟩ (fun k j hkj => (if_neg hkj).symm) ⟨e2, fun _ => ⟨e3, uu_e⟩, e5⟩) hQ
          · rw [uu_k (by omega), y60, y40, uu_k (by omega), y30, uu_k (by omega), y20]
            exact h0
          · rw [uu_k (by omega)]
            exact y61.2.2.1 (by omega)
        · rw [rc_n c4]
          exact ⟨fun y => absurd rfl y, fun _ => cl_no c4 hF6 (n6 c4) hQ⟩
      · rw [rc_n c3]
        exact ⟨fun _ => cl_no c3 hF4 (n4 c3) hQ, fun y => absurd rfl y⟩
    · rw [rc_n c2]
      exact ⟨fun y => absurd rfl y, fun _ => cl_no c2 hF3 (n3 c2) hQ⟩
  · rw [rc_n c1]
    exact ⟨fun y => absurd rfl y, fun _ => cl_no c1 (lf_s f2) (n2 c1) hQ⟩
/-- a rule most ends -/
theorem ct_69 {z : (Nat → Nat) × Nat} {st : ps_} {m q : Nat} {i0 : Nat → Nat → Int32} {l0 : Nat → Nat → Int64} (hf : lf_ m i0 i l0 l) (h0 : i 157 0 = 0) (hR : cR_ st m i l) (k : ck_ z q i l) {Q : ab_Qt} (hQ : ∀ σ, cl_ m (b_fin z (0, q, st)) i0 l0 dd x σ → Q (some (some (.int (rc_ (b_fin z (0, q, st)).1)))) σ (ab_E0 sc)) : ab_Fr MX2_readMost (d + 4) Q 69 [some (.ref 157)] [] (0, 0) (i, l, dd, x) (ab_E0 sc) := by
  have hk := z_kl (z := z) (p := q)
  have e : b_fin z (0, q, st) = ch_ (c_stop z q) (z_p z q) st (0, z_e z q, ab_u st 0 7 (st 0 7 + 1)) := if_pos rfl
  refine tMX2_readMost_69 (d := d + 3) ?_
  rw [k.2.1, nn_p2, nn_eq (by omega) (by omega)]
  refine ⟨fun c => ?_, fun c => ⟨_, _, ct_fail (d := d + 2), ?_⟩⟩
  · have e2 : b_fin z (0, q, st) = (0, z_e z q, ab_u st 0 7 (st 0 7 + 1)) := e.trans (if_pos (if_pos c))
    rw [e2] at hQ
    exact hQ _ ⟨i, l, rfl, hf, fun _ => ⟨h0, cR_l hR, k.2.2.1 (by omega)⟩, fun h => absurd rfl h⟩
  · rintro i6 l7 dd8 x9 ⟨⟩
    have c1 : c_stop z q = 1 := if_neg c
    have e2 : b_fin z (0, q, st) = (1, z_p z q, st) := e.trans (by rw [c1]; rfl)
    rw [e2] at hQ
    exact ⟨fun _ => hQ _ ⟨_, l, rfl, lf_t hf (lf_s (sf_u sf_r (Or.inl rfl))), fun h => absurd (show 1 = 0 from h) (by decide), fun _ => ⟨uu_e, by rw [uu_j (by omega)]; exact k.1⟩⟩, fun y => absurd rfl y⟩
theorem ct_most {z : (Nat → Nat) × Nat} {st : ps_} {m p : Nat} (hT : ct_z z i) (hp : p ≤ z.2) (hn : z_x z p ≠ 14) (hm : ab_isM m) (hd : dd 157 2 = .ref m) (hJ : PJ_ st) (hR : cR_ st m i l) (h0 : i 157 0 = 0) (k : ck_ z p i l) : ab_Sp MX2_readMost (d + 4) [.ref 157] (i, l, dd, x) (ab_E0 sc) (some (.int (rc_ (b_fin z (if z_x z p = 12 then r_most z st (z_e z p) else ch_ (c_key z 14 p) (z_p z p) st (r_need z st (z_e z p)))).1))) (cl_ m (b_fin z (if z_x z p = 12 then r_most z st (z_e z p) else ch_ (c_key z 14 p) (z_p z p) st (r_need z st (z_e z p)))) i l dd x) := by
  obtain ⟨⟨a1, a2, a3, a4, a5, a6, a7⟩, hB, hC, hD, hE⟩ := hJ
  have hm7 : m + 46 < 157 := by rcases hm with rfl | rfl | rfl <;> omega
  have hN := cN_of hR a1 a2 hB
  refine ab_ent (n := 0) okMX2_readMost.1 (fun G => Nat.le_of_ble_eq_true rfl) (fun Q hQ => ?_)
  refine tMX2_readMost_0 (d := d + 3) ?_
  rw [k.2.2.2.1, show (12 : Int32) = Int32.ofNat 12 from rfl, kx_e (by omega) z_xl]
  refine ⟨fun c => ⟨m, hd, hm, ?_⟩, fun c => ⟨_, _, ct_fail (d := d + 2), ?_⟩⟩
  · rw [if_pos c] at hQ
    have k1 := z_x0 (show z_x z p < 16 by omega)
    have g1 := g_e hp (show z_k z p < 3 by omega)
    rintro i4 rfl i6 rfl
    have hT6 : ct_z z (ab_u (ab_u i m 2 0) m 5 (-1)) := lf_zu hm (lf_zu hm hT (by omega)) (by omega)
    have hF6 : lf_ m i (ab_u (ab_u i m 2 0) m 5 (-1)) l l := lf_m (lf_m lf_r (by omega)) (by omega)
    have hN6 : cN_ st m (ab_u (ab_u i m 2 0) m 5 (-1)) l := cN_u (cN_u hN (by omega)) (by omega)
    refine ⟨_, ct_tok (d := d + 1) hT6 g1.2 (by rw [uu_k (by omega), uu_k (by omega)]; exact k.2.2.1 (by omega)), ?_⟩
    rintro i12 l13 dd14 x15 ⟨i2, l2, ⟨⟩, f2, k2⟩
    have hF2 : lf_ m i i12 l l13 := lf_t hF6 (lf_s (sf_of f2))
    have h02 : i12 157 0 = 0 := by rw [f2.1 157 0 (by omega), uu_k (by omega), uu_k (by omega)]; exact h0
    have hl2 : ∀ k, k = 158 ∨ k = 159 → l13 k = l k := fun k hk => funext fun j => f2.2 k j (by omega)
    -- the store with another chair
    have hRc : ∀ (i3 : Nat → Nat → Int32) (l3 : Nat → Nat → Int64) (c : Nat), (∀ k j, ¬ (k = m ∧ 2 ≤ j ∧ j ≤ 5) → k ≠ 157 → i3 k j = i k j) → i3 157 3 = i 157 3 → (∀ k, k = 158 ∨ k = 159 → l3 k = l k) → i3 m 2 = 0 → i3 m 5 = mt_h c → cR_ (ab_u (ab_u st 0 2 0) 0 5 c) m i3 l3 := fun i3 l3 c hi h3 hl e2 e5 => by
      have hR0 : cR_ st m (fun k j => if k = m ∧ 2 ≤ j ∧ j ≤ 5 then i k j else i3 k j) l3 := by
        refine cR_f hR a2 (fun k h1 h2 => funext fun j => ?_) ?_ ⟨hl 158 (Or.inl rfl), hl 159 (Or.inr rfl)⟩
        · by_cases c : k = m ∧ 2 ≤ j ∧ j ≤ 5
          · rw [if_pos c]
          · rw [if_neg c]
            exact hi k j c (by omega)
        · rw [if_neg (by omega)]
          exact h3
      exact cR_g hm a2 hR0 (fun g hg => by rw [uu_f hg, uu_f hg]) ⟨rfl, rfl, rfl⟩ (fun k j hkj => (if_neg hkj).symm) ⟨e2, fun y => absurd y (Nat.lt_irrefl 0), e5⟩
    have hi2 : ∀ k j, ¬ (k = m ∧ 2 ≤ j ∧ j ≤ 5) → k ≠ 157 → i12 k j = i k j := fun k j hkj hk => by
      rw [f2.1 k j (by omega), show ab_u (ab_u i m 2 0) m 5 (-1) k j = ab_u i m 2 0 k j from if_neg (by omega), show ab_u i m 2 0 k j = i k j from if_neg (by omega)]
    have h23 : i12 157 3 = i 157 3 := by rw [f2.1 157 3 (by omega), uu_k (by omega), uu_k (by omega)]
    have e22 : i12 m 2 = 0 := by rw [f2.1 m 2 (by omega), uu_j (by omega), uu_e]
    have e25 : i12 m 5 = -1 := by rw [f2.1 m 5 (by omega), uu_e]
    unfold r_most at hQ
    rw [k2.2.2.2.1, show (13 : Int32) = Int32.ofNat 13 from rfl, kx_e (by omega) z_xl]
    refine ⟨fun c2 => ?_, fun c2 => ?_⟩
    · rw [if_neg c2] at hQ
      exact ct_69 (d := d) (q := z_e z p) hF2 h02 (hRc _ _ 7 hi2 h23 hl2 e22 e25) k2 hQ
    · rw [if_pos c2] at hQ
      have k3 := z_x0 (show z_x z (z_e z p) < 16 by omega)
      have g2 := g_e g1.2 (show z_k z (z_e z p) < 3 by omega)
      have hT2 := lf_z hm hT hF2
      refine ⟨_, _, ct_name (d := d) (st := st) (s := 4) hT2 g2.2 (k2.2.2.1 (by omega)) hm hd (cN_s hm hN6 (sf_of f2)) (by omega), ?_⟩
      rw [c_nam4]
      rintro i22 l23 dd24 x25 ⟨i3, l3, ⟨⟩, f3, y3, n3⟩
      have hF3 : lf_ m i i22 l l23 := lf_t hF2 (lf_s f3)
      by_cases c4 : c_vo z st (z_e z (z_e z p)) = 0
      · rw [bf_y c4] at hQ
        rw [c4]
        obtain ⟨k4, x4, t4⟩ := c_vo0 c4
        obtain ⟨y30, y31, -, y33⟩ := y3 c4
        have g3 := g_e g2.2 (show z_k z (z_e z (z_e z p)) < 3 by omega)
        refine ⟨fun _ => ⟨m, hd, hm, ?_⟩, fun y => absurd y rc_y⟩
        rintro i30 rfl
        rw [y33, fx_y t4]
        refine ⟨_, ct_tok (d := d + 1) (lf_zu hm (lf_z hm hT hF3) (by omega)) g3.2 (by rw [uu_k (by omega)]; exact y31.2.2.1 (by omega)), ?_⟩
        rintro i36 l37 dd38 x39 ⟨i5, l5, ⟨⟩, f5, k5⟩
        refine ct_69 (d := d) (q := z_e z (z_e z (z_e z p))) (lf_t (lf_m hF3 (by omega)) (lf_s (sf_of f5))) ?_ (hRc _ _ (fV_ z st (z_e z (z_e z p))) (fun k j hkj hk => ?_) ?_ (fun k hk => ?_) ?_ ?_) k5 hQ
        · rw [f5.1 157 0 (by omega), uu_k (by omega), y30]
          exact h02
        · rw [f5.1 k j (by omega), show ab_u i22 m 5 (Int32.ofNat (fV_ z st (z_e z (z_e z p)))) k j = i22 k j from if_neg (by omega), f3.1 k j (by omega)]
          exact hi2 k j hkj hk
        · rw [f5.1 157 3 (by omega), uu_k (by omega), f3.1 157 3 (by omega)]
          exact h23
        · rw [← hl2 k hk]
          exact funext fun j => by rw [f5.2 k j (by omega), f3.2 k j (by omega)]
        · rw [f5.1 m 2 (by omega), uu_j (by omega), f3.1 m 2 (by omega)]
          exact e22
        · rw [f5.1 m 5 (by omega), uu_e]
          exact (if_neg (by omega)).symm
      · rw [rc_n c4]
        exact ⟨fun y => absurd rfl y, fun _ => cl_no c4 hF3 (n3 c4) hQ⟩
  · rw [if_neg c] at hQ
    rintro i45 l46 dd47 x48 ⟨⟩
    have c14 : c_key z 14 p = 1 := if_neg hn
    refine ⟨Or.inl rfl, cl_no (c := c_key z 14 p) (by omega) (lf_s (sf_u sf_r (Or.inl rfl))) ⟨?_, ?_⟩ hQ⟩
    · rw [uu_e, c14]
      rfl
    · rw [uu_j (by omega)]
      exact k.1
end TKH
