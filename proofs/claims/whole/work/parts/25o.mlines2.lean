/-! LINES, the model: way, rule, voter -/
section TKO
variable {d : Nat} {sc : Nat × (Nat → Int32)} {i : Nat → Nat → Int32} {l : Nat → Nat → Int64} {dd : Nat → Nat → Value} {x : Nat}
theorem dR_v {st st' : ps_} {v : Nat} {i2 : Nat → Nat → Int32} {l2 : Nat → Nat → Int64} (hS : ∀ u, u < st 0 1 → st 4 u ≤ 3) (hR : dR_ st i l) (hs : ∀ g, g ≠ 7 → g ≠ 8 → g ≠ 9 → st' g = st g) (hu0 : ∀ u, u ≠ v → st' 7 u = st 7 u ∧ st' 8 u = st 8 u ∧ ∀ s, s < 3 → st' 9 (3 * u + s) = st 9 (3 * u + s)) (hi : ∀ k j, 209 ≤ k → k ≤ 222 → ¬ ((k = 215 ∨ k = 216) ∧ j = 7 + v) → ¬ (k = 217 ∧ 3 * (7 + v) ≤ j ∧ j < 3 * (7 + v) + 3) → i2 k j = i k j) (h27 : i2 205 27 = i 205 27) (hl : ∀ k j, k = 207 ∨ k = 208 → l2 k j = l k j) (h2 : i2 215 (7 + v) = Int32.ofNat (st' 7 v)) (h3 : st' 7 v = 2 → i2 216 (7 + v) = Int32.ofNat (st' 8 v)) (h5 : st' 7 v = 3 → ∀ s, s < st 4 v → i2 217 (3 * (7 + v) + s) = Int32.ofNat (st' 9 (3 * v + s))) : dR_ st' i2 l2 := by
  obtain ⟨⟨r1, r1'⟩, ⟨r2, r2', r2''⟩, r3, r4, r5, r6, r7, r8, r9, r10⟩ := hR
  unfold dR_
  rw [hs 0 (by omega) (by omega) (by omega), hs 1 (by omega) (by omega) (by omega), hs 2 (by omega) (by omega) (by omega), hs 3 (by omega) (by omega) (by omega), hs 4 (by omega) (by omega) (by omega), hs 5 (by omega) (by omega) (by omega), hs 6 (by omega) (by omega) (by omega), hs 10 (by omega) (by omega) (by omega)]
  refine ⟨⟨?_, ?_⟩, ⟨?_, fun y => ⟨?_, ?_⟩, ?_⟩, fun t ht => ?_, fun w t e hw ht he => ?_, fun u hu => ⟨?_, ?_, ?_, fun y => ?_⟩, fun u s t hu hs ht => ?_, fun u s hu h7 hs => ?_, fun t ht => ?_, fun u hu => ?_, ?_⟩
  · rw [hi _ _ (by omega) (by omega) (by omega) (by omega)]; exact r1
  · rw [hi _ _ (by omega) (by omega) (by omega) (by omega)]; exact r1'
  · rw [hi _ _ (by omega) (by omega) (by omega) (by omega)]; exact r2
  · rw [hi _ _ (by omega) (by omega) (by omega) (by omega)]; exact (r2' y).1
  · rw [hi _ _ (by omega) (by omega) (by omega) (by omega)]; exact (r2' y).2
  · rw [hi _ _ (by omega) (by omega) (by omega) (by omega)]; exact r2''
  · rw [hi _ _ (by omega) (by omega) (by omega) (by omega)]; exact r3 t ht
  · rw [hi _ _ (by omega) (by omega) (by omega) (by omega)]; exact r4 w t e hw ht he
  · rw [hi _ _ (by omega) (by omega) (by omega) (by omega)]; exact (r5 u hu).1
  · rw [hi _ _ (by omega) (by omega) (by omega) (by omega)]; exact (r5 u hu).2.1
  · by_cases e : u = v
    · rw [e]; exact h2
    · rw [hi _ _ (by omega) (by omega) (by omega) (by omega), (hu0 u e).1]; exact (r5 u hu).2.2.1
  · by_cases e : u = v
    · rw [e] at y ⊢; exact h3 y
    · rw [(hu0 u e).1] at y
      rw [hi _ _ (by omega) (by omega) (by omega) (by omega), (hu0 u e).2.1]; exact (r5 u hu).2.2.2 y
  · rw [hi _ _ (by omega) (by omega) (by omega) (by omega)]; exact r6 u s t hu hs ht
  · have := hS u hu
    by_cases e : u = v
    · rw [e] at h7 hs ⊢; exact h5 h7 s hs
    · rw [(hu0 u e).1] at h7
      rw [hi _ _ (by omega) (by omega) (by omega) (by omega), (hu0 u e).2.2 s (by omega)]; exact r7 u s hu h7 hs
  · rw [hl _ _ (by omega)]; exact r8 t ht
  · rw [hl _ _ (by omega)]; exact r9 u hu
  · rw [h27]; exact r10
theorem dN_i {st : ps_} {i2 : Nat → Nat → Int32} {l2 : Nat → Nat → Int64} (hN : dN_ st i l) (h0 : i2 209 1 = i 209 1) (h1 : i2 210 1 = i 210 1) (hl : ∀ k j, k = 207 ∨ k = 208 → l2 k j = l k j) : dN_ st i2 l2 := by
  obtain ⟨⟨a1, a2, m0, m1⟩, nt, nv, hB⟩ := hN
  exact ⟨⟨a1, a2, h0.trans m0, h1.trans m1⟩, fun t ht => by rw [hl _ _ (by omega)]; exact nt t ht, fun v hv => by rw [hl _ _ (by omega)]; exact nv v hv, hB⟩
/-- a set's frame -/
def sF_ (v : Nat) (i i2 : Nat → Nat → Int32) (l l2 : Nat → Nat → Int64) : Prop := (∀ k j, ¬ (k = 205 ∧ (4 ≤ j ∧ j ≤ 9 ∨ j = 28)) → ¬ (k = 217 ∧ 3 * (7 + v) ≤ j ∧ j < 3 * (7 + v) + 3) → i2 k j = i k j) ∧ ∀ k j, ¬ (k = 205 ∧ j = 10) → l2 k j = l k j
theorem sF_h {v : Nat} {i2 i3 : Nat → Nat → Int32} {l2 l3 : Nat → Nat → Int64} (h : sF_ v i i2 l l2) (f : hf_ i2 i3 l2 l3) : sF_ v i i3 l l3 := ⟨fun k j a b => (f.1 k j a).trans (h.1 k j a b), fun k j a => (f.2 k j a).trans (h.2 k j a)⟩
theorem sF_n {v : Nat} {i2 : Nat → Nat → Int32} {l2 : Nat → Nat → Int64} (h : sF_ v i i2 l l2) : nq_ i i2 l l2 := ⟨fun k j hk => h.1 k j (by unfold nqP at hk; omega) (by unfold nqP at hk; omega), fun k j hk => h.2 k j (by omega)⟩
theorem mw_75 {z : (Nat → Nat) × Nat} {st : ps_} {v S : Nat} {i0 : Nat → Nat → Int32} {l0 : Nat → Nat → Int64} {R : rs_} (hT : dt_z z i0) (hN : dN_ st i0 l0) (hv : v < 7) (hS : S ≤ 3) (hS0 : i0 212 (7 + v) = Int32.ofNat S) {Q : ab_Qt} (hY : ∀ i2 l2, R.1 = 0 → sF_ v i0 i2 l0 l2 → i2 205 8 = 0 → dk_ z R.2.1 i2 l2 → (∀ s, s < S → i2 217 (3 * (7 + v) + s) = Int32.ofNat (R.2.2 9 (3 * v + s))) → Q (some (some (.int 1))) (ab_u i2 215 (7 + v) (Int32.ofNat 3), l2, dd, x) (ab_E0 sc)) (hNo : ∀ i2 l2, R.1 ≠ 0 → sF_ v i0 i2 l0 l2 → i2 205 8 = Int32.ofNat R.1 → i2 205 9 = Int32.ofNat R.2.1 → Q (some (some (.int 0))) (i2, l2, dd, x) (ab_E0 sc)) :
    ∀ (n s : Nat) (st1 : ps_) (q : Nat) (i2 : Nat → Nat → Int32) (l2 : Nat → Nat → Int64), S = s + n → q ≤ z.2 → R = w_s z v n s st1 q → (∀ g, g ≠ 9 → st1 g = st g) → sF_ v i0 i2 l0 l2 → i2 205 8 = 0 → dk_ z q i2 l2 → (∀ k, k < s → i2 217 (3 * (7 + v) + k) = Int32.ofNat (st1 9 (3 * v + k))) → ab_Fr MX12_readWay (d + 6) Q 75 [some (.ref 205), some (.int (Int32.ofNat (7 + v))), some (.int (Int32.ofNat 3)), some (.int (Int32.ofNat s))] [] (0, 0) (i2, l2, dd, x) (ab_E0 sc) := by
  intro n
  induction n with
  | zero =>
    intro s st1 q i2 l2 hs hq er hst hF h0 hk hset
    have e0 : i2 212 (7 + v) = Int32.ofNat S := by rw [hF.1 _ _ (by omega) (by omega)]; exact hS0
    have er2 : R = (0, q, st1) := er
    refine tMX12_readWay_75 (d := d + 5) ⟨fun y => absurd rfl y, fun _ => ?_⟩
    rw [nn_cl (by omega), e0, nn_le (by omega) (by omega)]
    refine ⟨la_vp (by omega) (by omega), fun _ => ⟨la_vp (by omega) (by omega), ?_⟩, fun y => absurd (show S ≤ s by omega) y⟩
    rintro i5 rfl
    exact hY i2 l2 (by rw [er2]) hF h0 (by rw [er2]; exact hk) (fun k hk => by rw [er2]; exact hset k (by omega))
  | succ n ih =>
    intro s st1 q i2 l2 hs hq er hst hF h0 hk hset
    have e0 : i2 212 (7 + v) = Int32.ofNat S := by rw [hF.1 _ _ (by omega) (by omega)]; exact hS0
    have hT2 : dt_z z i2 := gf_z hT (fun k j hk => hF.1 k j (by omega) (by omega))
    have hN2 : dN_ st i2 l2 := dN_i hN (hF.1 209 1 (by omega) (by omega)) (hF.1 210 1 (by omega) (by omega)) (fun k j hk => hF.2 k j (by omega))
    obtain ⟨ef1, ef2, ef3, ef4⟩ := fT_c (z := z) (st := st) (st' := st1) (p := q) (hst 0 (by omega)) (hst 1 (by omega)) (hst 2 (by omega))
    have e : w_s z v (n + 1) s st1 q = if z_x z q = 11 then w_s z v n (s + 1) (ab_u st1 9 (3 * v + s) 9) (z_e z q) else ch_ (c_tr z st1 q) (z_p z q) st1 (w_s z v n (s + 1) (ab_u st1 9 (3 * v + s) (fT_ z st1 q)) (z_e z q)) := rfl
    rw [e] at er
    have key : ∀ (y : Nat) (i3 : Nat → Nat → Int32) (l3 : Nat → Nat → Int64), z_e z q ≤ z.2 → R = w_s z v n (s + 1) (ab_u st1 9 (3 * v + s) y) (z_e z q) → hf_ i2 i3 l2 l3 → i3 205 8 = 0 → dk_ z (z_e z q) i3 l3 → i3 205 28 = Int32.ofNat y → ab_Fr MX12_readWay (d + 6) Q 122 [some (.ref 205), some (.int (Int32.ofNat (7 + v))), some (.int (Int32.ofNat 3)), some (.int (Int32.ofNat s))] [] (0, 0) (i3, l3, dd, x) (ab_E0 sc) := by
      intro y i3 l3 hq2 er2 f3 h03 k3 e28
      refine tMX12_readWay_122 (d := d + 5) ?_
      rw [nn_p3, nn_mul, nn_add, nn_cl (by omega), e28, la_nx]
      refine ⟨la_vp (by omega) (by omega), ?_⟩
      rintro i4 rfl
      refine ih (s + 1) (ab_u st1 9 (3 * v + s) y) (z_e z q) _ l3 (by omega) hq2 er2 (fun g hg => by rw [uu_f hg, hst g hg]) ⟨fun k j a b => ?_, fun k j a => ?_⟩ ?_ (dk_u k3 (by omega)) (fun k hk => ?_)
      · rw [show ab_u i3 217 (3 * (7 + v) + s) (Int32.ofNat y) k j = i3 k j from if_neg (by omega), f3.1 k j a, hF.1 k j a b]
      · rw [f3.2 k j a, hF.2 k j a]
      · rw [uu_k (by omega)]; exact h03
      · by_cases ek : k = s
        · rw [ek, uu_e, uu_e]
        · rw [uu_j (by omega), uu_j (by omega), f3.1 _ _ (by omega)]
          exact hset k (by omega)
    refine tMX12_readWay_75 (d := d + 5) ⟨fun y => absurd rfl y, fun _ => ?_⟩
    rw [nn_cl (by omega), e0, nn_le (by omega) (by omega)]
    refine ⟨la_vp (by omega) (by omega), fun y => absurd (show S ≤ s from y) (by omega), fun _ => ⟨_, _, md_none (d := d + 3), ?_⟩⟩
    rintro i11 l12 dd13 x14 ⟨⟩
    refine ⟨_, _, md_isKey (d := d + 4) hq (by omega) hk, ?_⟩
    rintro i20 l21 dd22 x23 ⟨⟩
    rw [if10]
    refine ⟨fun c => ⟨_, _, md_rTruth (d := d) (st := st) hT2 hq hN2 hk, ?_⟩, fun c => ?_⟩
    · rw [if_neg c, ef3, ef1] at er
      rintro i30 l31 dd32 x33 ⟨i5, l5, ⟨⟩, f5, y5, n5⟩
      by_cases c2 : c_tr z st q = 0
      · rw [ch_y c2] at er
        rw [c2]
        obtain ⟨k1, x1, t1⟩ := c_tr0 c2
        obtain ⟨y50, y51, y52⟩ := y5 c2
        have g1 := g_e hq (show z_k z q < 3 by omega)
        exact ⟨fun _ => key _ i30 l31 g1.2 er f5 (by rw [y50]; exact h0) y51 y52, fun y => absurd y rc_y⟩
      · rw [show ch_ (c_tr z st q) (z_p z q) st1 (w_s z v n (s + 1) (ab_u st1 9 (3 * v + s) (fT_ z st q)) (z_e z q)) = (c_tr z st q, z_p z q, st1) from if_neg c2] at er
        rw [rc_n c2]
        exact ⟨fun y => absurd rfl y, fun _ => hNo i30 l31 (by rw [er]; exact c2) (sF_h hF f5) (by rw [er]; exact (n5 c2).1) (by rw [er]; exact (n5 c2).2)⟩
    · have c' : z_x z q = 11 := Classical.byContradiction (fun y => c y)
      rw [if_pos c'] at er
      have k1 := z_x0 (show z_x z q < 16 by omega)
      have g1 := g_e hq (show z_k z q < 3 by omega)
      rintro i36 rfl
      have F9 : hf_ i2 (ab_u i2 205 28 9) l2 l2 := hf_u hf_r (Or.inr rfl)
      refine ⟨_, md_tok (d := d + 3) (hf_z hT2 F9) g1.2 (by rw [uu_j (by omega)]; exact hk.2.2.1 (by omega)), ?_⟩
      rintro i42 l43 dd44 x45 ⟨i5, l5, ⟨⟩, f5, k5⟩
      exact key 9 i42 l43 g1.2 er (hf_t F9 (hf_of f5)) (by rw [f5.1 205 8 (by omega), uu_j (by omega)]; exact h0) k5 (by rw [f5.1 205 28 (by omega), uu_e]; rfl)
theorem mb_way {z : (Nat → Nat) × Nat} {st : ps_} {p : Nat} (hT : dt_z z i) (hp : p ≤ z.2) (hk : z_k z p < 3) (hJ : PJ_ st) (hR : dR_ st i l) (h0 : i 205 8 = 0) (k : dk_ z p i l) : ab_Sp MX12_readWay (d + 6) [.ref 205] (i, l, dd, x) (ab_E0 sc) (some (.int (rc_ (b_way z st p).1))) (db_ z (b_way z st p) i l dd x) := by
  obtain ⟨⟨a1, a2, a3, a4, a5, a6, a7⟩, hB, hC, hD, hE⟩ := hJ
  have g1 := g_e hp hk
  have hN := dN_of hR a1 a2 hB
  have hS3 : ∀ u, u < st 0 1 → st 4 u ≤ 3 := fun u hu => (hC u hu).1.2
  refine ab_ent (n := 0) okMX12_readWay.1 (fun G => Nat.le_of_ble_eq_true rfl) (fun Q hQ => ?_)
  unfold b_way at hQ
  refine tMX12_readWay_0 (d := d + 5) ⟨_, md_tok (d := d + 3) hT g1.2 (k.2.2.1 hk), ?_⟩
  rintro i5 l6 dd7 x8 ⟨i2, l2, ⟨⟩, f2, k2⟩
  have hF2 := hf_of f2
  refine ⟨_, _, md_rVoter (d := d) (st := st) (hf_z hT hF2) g1.2 (dN_h hN hF2) k2, ?_⟩
  rintro i14 l15 dd16 x17 ⟨i3, l3, ⟨⟩, f3, y3, n3⟩
  have hF3 := hf_t hF2 f3
  by_cases c3 : c_vo z st (z_e z p) = 0
  · rw [ch_y c3] at hQ
    rw [c3]
    obtain ⟨k1, x1, t1⟩ := c_vo0 c3
    obtain ⟨y30, y31, y32⟩ := y3 c3
    have g2 := g_e g1.2 (show z_k z (z_e z p) < 3 by omega)
    refine ⟨fun _ => ⟨_, _, md_wayAt (d := d + 2) g2.2 y31, ?_⟩, fun y => absurd y rc_y⟩
    rintro i24 l25 dd26 x27 ⟨⟩
    rw [y32, nn_p7, nn_add]
    have h03 : i14 205 8 = 0 := by rw [y30, f2.1 205 8 (by omega)]; exact h0
    by_cases c4 : 7 ≤ z_x z (z_e z (z_e z p)) ∧ z_x z (z_e z (z_e z p)) ≤ 10
    · rw [ch_y (if_pos c4)] at hQ
      rw [if_pos c4, nn_em (by omega)]
      have k4 := z_x0 (show z_x z (z_e z (z_e z p)) < 16 by omega)
      have g3 := g_e g2.2 (show z_k z (z_e z (z_e z p)) < 3 by omega)
      have h43 := y31.2.2.1 (show z_k z (z_e z (z_e z p)) < 3 by omega)
      refine ⟨fun _ => ⟨_, md_tok (d := d + 3) (hf_z hT hF3) g3.2 h43, ?_⟩, fun y => y.elim⟩
      rintro i34 l35 dd36 x37 ⟨i4, l4, ⟨⟩, f4, k5⟩
      have hF4 := hf_t hF3 (hf_of f4)
      have h04 : i34 205 8 = 0 := by rw [f4.1 205 8 (by omega)]; exact h03
      have hR4 := dR_hf hR hF4
      generalize fV_ z st (z_e z p) = v at *
      generalize ew : z_x z (z_e z (z_e z p)) - 7 = w at *
      generalize z_e z (z_e z (z_e z p)) = p3 at *
      have hw3 : w ≤ 3 := by omega
      unfold w_2 at hQ
      rw [nn_p2, nn_eq (by omega) (by omega)]
      refine ⟨fun cw => ?_, fun cw => ⟨_, _, md_num (d := d + 2) (a := 1) (b := 20) (hf_z hT hF4) g3.2 k5 (by omega) (by omega), ?_⟩⟩
      · rw [if_neg cw] at hQ
        refine tMX12_readWay_58 (d := d + 5) ⟨fun _ => tMX12_readWay_73 (d := d + 5) ?_, fun y => ?_⟩
        · by_cases cw3 : w = 3
          · rw [if_pos cw3] at hQ
            rw [cw3]
            have hwp := w_s_p (z := z) (v := v) (T := st 0 0) (st 4 v) 0 st p3 g3.2 rfl
            generalize hRd : w_s z v (st 4 v) 0 st p3 = R at *
            refine mw_75 (d := d) (S := st 4 v) (R := R) (i0 := i34) (l0 := l35) (hf_z hT hF4) (dN_h hN hF4) (by omega) (hS3 v t1) (hR4.2.2.2.2.1 v t1).1 (fun i6 l6 r0 F6 h06 k6 s6 => ?_) (fun i6 l6 r0 F6 h06 h96 => ?_) (st 4 v) 0 st p3 i34 l35 (Nat.zero_add _).symm g3.2 hRd.symm (fun _ _ => rfl) ⟨fun _ _ _ _ => rfl, fun _ _ _ => rfl⟩ h04 k5 (fun q hq => absurd hq (Nat.not_lt_zero q))
            · rw [if_pos r0] at hQ
              obtain ⟨q1, q2, q3, q4, q5⟩ := hwp r0
              refine dl_yes (nq_u (nq_t (nq_h hF4) (sF_n F6)) (by unfold nqP; omega)) ?_ (dk_u k6 (by omega)) ?_ hQ
              · rw [uu_k (by omega)]; exact h06
              · refine dR_v (st := st) (st' := ab_u R.2.2 7 v 3) hS3 hR4 (fun g x1 _ x3 => by rw [uu_f x1, q3 g x3]) (fun u hu => ⟨by rw [uu_j hu, q3 7 (by omega)], by rw [uu_k (by omega), q3 8 (by omega)], fun s hs => ?_⟩) (fun a j b1 b2 b3 b4 => ?_) ?_ (fun a j b => F6.2 a j (by omega)) (by rw [uu_e, uu_e]) (fun y => ?_) (fun _ s hs => ?_)
                · have := hS3 v t1
                  rw [uu_k (by omega), q4 _ (fun k _ hk => by omega)]
                · rw [show ab_u i6 215 (7 + v) (Int32.ofNat 3) a j = i6 a j from if_neg (by omega), F6.1 a j (by omega) b4]
                · rw [uu_k (by omega), F6.1 205 27 (by omega) (by omega)]
                · rw [uu_e] at y
                  exact absurd y (by decide)
                · rw [uu_k (by omega), s6 s hs, uu_k (by omega)]
            · rw [if_neg r0] at hQ
              rw [rc_n r0] at hQ
              exact hQ _ ⟨i6, l6, rfl, nq_t (nq_h hF4) (sF_n F6), fun h => absurd h r0, fun _ => ⟨h06, h96⟩⟩
          · rw [if_neg cw3] at hQ
            refine tMX12_readWay_75 (d := d + 5) ⟨fun _ => ?_, fun y => ?_⟩
            · rw [nn_cl (by omega)]
              refine ⟨la_vp (by omega) (by omega), ?_⟩
              rintro i6 rfl
              refine dl_yes (nq_u (nq_h hF4) (by unfold nqP; omega)) ?_ (dk_u k5 (by omega)) ?_ hQ
              · rw [uu_k (by omega)]; exact h04
              · refine dR_v (st := st) (st' := ab_u st 7 v w) hS3 hR4 (fun g x1 _ _ => uu_f x1) (fun u hu => ⟨uu_j hu, rfl, fun _ _ => rfl⟩) (fun a j _ _ b3 _ => if_neg (fun y => b3 ⟨Or.inl y.1, y.2⟩)) (by rw [uu_k (by omega)]) (fun _ _ _ => rfl) (by rw [uu_e, uu_e]) (fun y => ?_) (fun y => ?_)
                · rw [uu_e] at y; exact absurd y cw
                · rw [uu_e] at y; exact absurd y cw3
            · rw [nn_p3, nn_eq (by omega) (by omega)] at y
              exact absurd y cw3
        · rw [nn_p2, nn_eq (by omega) (by omega)] at y
          exact absurd y cw
      · rw [if_pos cw] at hQ
        rintro i44 l45 dd46 x47 ⟨i6, l6', ⟨⟩, f6, y6, n6⟩
        have hF6 := hf_t hF4 f6
        by_cases c6 : c_num z 1 20 p3 = 0
        · rw [ch_y c6] at hQ
          rw [c6, cw]
          obtain ⟨q5, w1, w2⟩ := c_num0 c6
          obtain ⟨y60, y61, y62⟩ := y6 c6
          refine ⟨fun _ => tMX12_readWay_58 (d := d + 5) ⟨fun y => absurd rfl y, fun _ => ?_⟩, fun y => absurd y rc_y⟩
          rw [nn_cl (by omega), y62]
          refine ⟨la_vp (by omega) (by omega), ?_⟩
          rintro i7 rfl
          refine tMX12_readWay_73 (d := d + 5) (tMX12_readWay_75 (d := d + 5) ⟨fun _ => ?_, fun y => absurd y (by decide)⟩)
          rw [nn_cl (by omega)]
          refine ⟨la_vp (by omega) (by omega), ?_⟩
          rintro i8 rfl
          refine dl_yes (nq_u (nq_u (nq_h hF6) (by unfold nqP; omega)) (by unfold nqP; omega)) ?_ (dk_u (dk_u y61 (by omega)) (by omega)) ?_ hQ
          · rw [uu_k (by omega), uu_k (by omega), y60]; exact h04
          · refine dR_v (st := st) (st' := ab_u (ab_u st 8 v (z_v z p3)) 7 v 2) hS3 (dR_hf hR hF6) (fun g x1 x2 _ => by rw [uu_f x1, uu_f x2]) (fun u hu => ⟨by rw [uu_j hu, uu_k (by omega)], by rw [uu_k (by omega), uu_j hu], fun _ _ => rfl⟩) (fun a j _ _ b3 _ => ?_) (by rw [uu_k (by omega), uu_k (by omega)]) (fun _ _ _ => rfl) (by rw [uu_e, uu_e]) (fun _ => ?_) (fun y => ?_)
            · rw [show ab_u (ab_u i44 216 (7 + v) (Int32.ofNat (z_v z p3))) 215 (7 + v) (Int32.ofNat 2) a j = ab_u i44 216 (7 + v) (Int32.ofNat (z_v z p3)) a j from if_neg (fun y => b3 ⟨Or.inl y.1, y.2⟩), show ab_u i44 216 (7 + v) (Int32.ofNat (z_v z p3)) a j = i44 a j from if_neg (fun y => b3 ⟨Or.inr y.1, y.2⟩)]
            · rw [uu_k (by omega), uu_e, uu_k (by omega), uu_e]
            · rw [uu_e] at y
              exact absurd y (by decide)
        · rw [rc_n c6]
          exact ⟨fun y => absurd rfl y, fun _ => dl_no c6 (nq_h hF6) (n6 c6) hQ⟩
    · rw [if_neg c4] at hQ ⊢
      exact ⟨fun y => absurd rfl y, fun _ => mb_bad (d := d + 4) (c := 1) (by omega) (nq_h hF3) y31 rfl (Or.inl rfl) hQ⟩
  · rw [rc_n c3]
    exact ⟨fun y => absurd rfl y, fun _ => dl_no c3 (nq_h hF3) (n3 c3) hQ⟩
/-- the rule alone changes -/
theorem dR_g {st st' : ps_} {i2 : Nat → Nat → Int32} {l2 : Nat → Nat → Int64} (hR : dR_ st i l) (hs : ∀ g, g ≠ 0 → st' g = st g) (hs0 : st' 0 0 = st 0 0 ∧ st' 0 1 = st 0 1 ∧ st' 0 7 = st 0 7) (hi : ∀ k j, 209 ≤ k → k ≤ 218 → i2 k j = i k j) (h27 : i2 205 27 = i 205 27) (hl : ∀ k j, k = 207 ∨ k = 208 → l2 k j = l k j) (h : i2 219 1 = Int32.ofNat (st' 0 2) ∧ (0 < st' 0 2 → i2 220 1 = Int32.ofNat (st' 0 3) ∧ i2 221 1 = Int32.ofNat (st' 0 4)) ∧ i2 222 1 = mt_h (st' 0 5)) : dR_ st' i2 l2 := by
  obtain ⟨⟨r1, r1'⟩, -, r3, r4, r5, r6, r7, r8, r9, r10⟩ := hR
  unfold dR_
  rw [hs0.1, hs0.2.1, hs0.2.2, hs 1 (by omega), hs 2 (by omega), hs 3 (by omega), hs 4 (by omega), hs 5 (by omega), hs 6 (by omega), hs 7 (by omega), hs 8 (by omega), hs 9 (by omega), hs 10 (by omega)]
  refine ⟨⟨?_, ?_⟩, h, fun t ht => ?_, fun w t e hw ht he => ?_, fun u hu => ⟨?_, ?_, ?_, fun y => ?_⟩, fun u s t hu hs ht => ?_, fun u s hu h7 hs => ?_, fun t ht => ?_, fun u hu => ?_, ?_⟩
  · rw [hi _ _ (by omega) (by omega)]; exact r1
  · rw [hi _ _ (by omega) (by omega)]; exact r1'
  · rw [hi _ _ (by omega) (by omega)]; exact r3 t ht
  · rw [hi _ _ (by omega) (by omega)]; exact r4 w t e hw ht he
  · rw [hi _ _ (by omega) (by omega)]; exact (r5 u hu).1
  · rw [hi _ _ (by omega) (by omega)]; exact (r5 u hu).2.1
  · rw [hi _ _ (by omega) (by omega)]; exact (r5 u hu).2.2.1
  · rw [hi _ _ (by omega) (by omega)]; exact (r5 u hu).2.2.2 y
  · rw [hi _ _ (by omega) (by omega)]; exact r6 u s t hu hs ht
  · rw [hi _ _ (by omega) (by omega)]; exact r7 u s hu h7 hs
  · rw [hl _ _ (by omega)]; exact r8 t ht
  · rw [hl _ _ (by omega)]; exact r9 u hu
  · rw [h27]; exact r10
theorem mb_rule {z : (Nat → Nat) × Nat} {st : ps_} {p : Nat} (hT : dt_z z i) (hp : p ≤ z.2) (hk : z_k z p < 3) (hJ : PJ_ st) (hR : dR_ st i l) (h0 : i 205 8 = 0) (k : dk_ z p i l) : ab_Sp MX12_readRule (d + 6) [.ref 205] (i, l, dd, x) (ab_E0 sc) (some (.int (rc_ (b_rule z st p).1))) (db_ z (b_rule z st p) i l dd x) := by
  obtain ⟨⟨a1, a2, a3, a4, a5, a6, a7⟩, hB, hC, hD, hE⟩ := hJ
  have g1 := g_e hp hk
  have hN := dN_of hR a1 a2 hB
  refine ab_ent (n := 0) okMX12_readRule.1 (fun G => Nat.le_of_ble_eq_true rfl) (fun Q hQ => ?_)
  unfold b_rule at hQ
  refine tMX12_readRule_0 (d := d + 5) ⟨_, md_tok (d := d + 3) hT g1.2 (k.2.2.1 hk), ?_⟩
  rintro i5 l6 dd7 x8 ⟨i2, l2, ⟨⟩, f2, k2⟩
  have hF2 := hf_of f2
  have h02 : i5 205 8 = 0 := by rw [f2.1 205 8 (by omega)]; exact h0
  refine md_k5 (d := d + 4) (w := 12) g1.2 (by omega) k2 (by decide +kernel) ?_
  rw [if10]
  refine ⟨fun c => ⟨_, _, md_spelt (d := d + 4), ?_⟩, fun c => ?_⟩
  · rw [if_neg c] at hQ
    rintro i33 l34 dd35 x36 ⟨⟩
    rw [show sp5 110 101 101 100 0 = kq_ 14 by decide +kernel]
    refine ⟨_, _, md_key (d := d + 2) (w := 14) (hf_z hT hF2) g1.2 k2 (by omega), ?_⟩
    rintro i42 l43 dd44 x45 ⟨i3, l3, ⟨⟩, f3, y3, n3⟩
    have hF3 := hf_t hF2 f3
    by_cases c3 : c_key z 14 (z_e z p) = 0
    · rw [ch_y c3] at hQ
      rw [c3]
      obtain ⟨q3, x3⟩ := c_key0 (by omega) c3
      obtain ⟨y30, y31⟩ := y3 c3
      have g2 := g_e g1.2 (show z_k z (z_e z p) < 3 by omega)
      unfold r_need at hQ
      generalize z_e z (z_e z p) = p2 at *
      refine ⟨fun y => absurd y rc_y, fun _ => ⟨_, _, md_num (d := d + 2) (a := 1) (b := 81) (hf_z hT hF3) g2.2 y31 (by omega) (by omega), ?_⟩⟩
      rintro i52 l53 dd54 x55 ⟨i4, l4, ⟨⟩, f4, y4, n4⟩
      have hF4 := hf_t hF3 f4
      by_cases c4 : c_num z 1 81 p2 = 0
      · rw [ch_y c4] at hQ
        rw [c4]
        obtain ⟨q4, w1, w2⟩ := c_num0 c4
        obtain ⟨y40, y41, y42⟩ := y4 c4
        have g3 := g_e g2.2 (show z_k z p2 < 3 by omega)
        refine ⟨fun _ => ⟨_, _, md_rTruth (d := d) (st := st) (hf_z hT hF4) g3.2 (dN_h hN hF4) y41, ?_⟩, fun y => absurd y rc_y⟩
        rintro i62 l63 dd64 x65 ⟨i6, l6', ⟨⟩, f6, y6, n6⟩
        have hF6 := hf_t hF4 f6
        by_cases c6 : c_tr z st (z_e z p2) = 0
        · rw [ch_y c6] at hQ
          rw [c6]
          obtain ⟨q6, x6, t6⟩ := c_tr0 c6
          obtain ⟨y60, y61, y62⟩ := y6 c6
          have g4 := g_e g3.2 (show z_k z (z_e z p2) < 3 by omega)
          refine ⟨fun _ => ?_, fun y => absurd y rc_y⟩
          rintro i68 rfl
          have hF7 : nq_ i (ab_u i62 220 1 (i62 205 28)) l l63 := nq_u (nq_h hF6) (by unfold nqP; omega)
          refine ⟨_, _, md_other (d := d + 3), ?_⟩
          rintro i74 l75 dd76 x77 ⟨⟩
          refine ⟨_, _, md_key (d := d + 2) (w := 15) (nq_z hT hF7) g4.2 (dk_u y61 (by omega)) (by omega), ?_⟩
          rintro i83 l84 dd85 x86 ⟨i8, l8, ⟨⟩, f8, y8, n8⟩
          have hF8 : nq_ i i83 l l84 := nq_t hF7 (nq_h f8)
          by_cases c8 : c_key z 15 (z_e z (z_e z p2)) = 0
          · rw [ch_y c8] at hQ
            rw [c8]
            obtain ⟨q8, x8⟩ := c_key0 (by omega) c8
            obtain ⟨y80, y81⟩ := y8 c8
            have g5 := g_e g4.2 (show z_k z (z_e z (z_e z p2)) < 3 by omega)
            have hN8 : dN_ st i83 l84 := dN_h (dN_i (dN_h hN hF6) (uu_k (by omega)) (uu_k (by omega)) (fun _ _ _ => rfl)) f8
            refine ⟨fun y => absurd y rc_y, fun _ => ⟨_, _, md_rTruth (d := d) (st := st) (nq_z hT hF8) g5.2 hN8 y81, ?_⟩⟩
            rintro i93 l94 dd95 x96 ⟨i9, l9, ⟨⟩, f9, y9, n9⟩
            have hF9 : nq_ i i93 l l94 := nq_t hF8 (nq_h f9)
            by_cases c9 : c_tr z st (z_e z (z_e z (z_e z p2))) = 0
            · rw [ch_y c9] at hQ
              rw [c9]
              obtain ⟨q9, x9, t9⟩ := c_tr0 c9
              obtain ⟨y90, y91, y92⟩ := y9 c9
              refine ⟨fun _ => ?_, fun y => absurd y rc_y⟩
              rintro i99 rfl i101 rfl
              rw [y92, y42]
              refine dl_yes (nq_u (nq_u hF9 (by unfold nqP; omega)) (by unfold nqP; omega)) ?_ (dk_u (dk_u y91 (by omega)) (by omega)) ?_ hQ
              · rw [uu_k (by omega), uu_k (by omega), y90, y80, uu_k (by omega), y60, y40, y30]
                exact h02
              · refine dR_g (st := st) (dR_hf hR hF6) (fun g hg => by rw [uu_f hg, uu_f hg, uu_f hg]) ⟨rfl, rfl, rfl⟩ (fun a j b1 b2 => ?_) ?_ (fun a j b => ?_) ⟨?_, fun _ => ⟨?_, ?_⟩, ?_⟩
                · rw [uu_k (by omega), uu_k (by omega), f9.1 a j (by omega), f8.1 a j (by omega), uu_k (by omega)]
                · rw [uu_k (by omega), uu_k (by omega), f9.1 205 27 (by omega), f8.1 205 27 (by omega), uu_k (by omega)]
                · rw [f9.2 a j (by omega), f8.2 a j (by omega)]
                · rw [uu_e]
                  rfl
                · rw [uu_k (by omega), uu_k (by omega), f9.1 220 1 (by omega), f8.1 220 1 (by omega), uu_e, y62]
                  rfl
                · rw [uu_k (by omega), uu_e]
                  rfl
                · rw [uu_k (by omega), uu_k (by omega), f9.1 222 1 (by omega), f8.1 222 1 (by omega), uu_k (by omega), hF6.1 222 1 (by omega)]
                  exact hR.2.1.2.2
            · rw [rc_n c9]
              exact ⟨fun y => absurd rfl y, fun _ => dl_no c9 hF9 (n9 c9) hQ⟩
          · rw [rc_n c8]
            exact ⟨fun _ => dl_no c8 hF8 (n8 c8) hQ, fun y => absurd rfl y⟩
        · rw [rc_n c6]
          exact ⟨fun y => absurd rfl y, fun _ => dl_no c6 (nq_h hF6) (n6 c6) hQ⟩
      · rw [rc_n c4]
        exact ⟨fun y => absurd rfl y, fun _ => dl_no c4 (nq_h hF4) (n4 c4) hQ⟩
    · rw [rc_n c3]
      exact ⟨fun _ => dl_no c3 (nq_h hF3) (n3 c3) hQ, fun y => absurd rfl y⟩
  · have c' : z_x z (z_e z p) = 12 := Classical.byContradiction (fun y => c y)
    rw [if_pos c'] at hQ
    have q1 := z_x0 (show z_x z (z_e z p) < 16 by omega)
    have g2 := g_e g1.2 (show z_k z (z_e z p) < 3 by omega)
    refine ⟨_, md_tok (d := d + 3) (hf_z hT hF2) g2.2 (k2.2.2.1 (by omega)), ?_⟩
    rintro i107 l108 dd109 x110 ⟨i3, l3, ⟨⟩, f3, k3⟩
    have hF3 := hf_t hF2 (hf_of f3)
    rintro i112 rfl i114 rfl
    have hF4 : nq_ i (ab_u (ab_u i107 219 1 0) 222 1 (-1)) l l108 := nq_u (nq_u (nq_h hF3) (by unfold nqP; omega)) (by unfold nqP; omega)
    have k4 : dk_ z (z_e z (z_e z p)) (ab_u (ab_u i107 219 1 0) 222 1 (-1)) l108 := dk_u (dk_u k3 (by omega)) (by omega)
    have h04 : (ab_u (ab_u i107 219 1 0) 222 1 (-1)) 205 8 = 0 := by rw [uu_k (by omega), uu_k (by omega), f3.1 205 8 (by omega)]; exact h02
    unfold r_most at hQ
    refine ⟨_, _, md_chair (d := d + 3), ?_⟩
    rintro i120 l121 dd122 x123 ⟨⟩
    refine ⟨_, _, md_isKey (d := d + 4) g2.2 (by omega) k4, ?_⟩
    rintro i129 l130 dd131 x132 ⟨⟩
    rw [if10]
    refine ⟨fun c5 => ?_, fun c5 => ?_⟩
    · have c5' : z_x z (z_e z (z_e z p)) = 13 := Classical.byContradiction (fun y => c5 y)
      rw [if_pos c5'] at hQ
      have q5 := z_x0 (show z_x z (z_e z (z_e z p)) < 16 by omega)
      have g3 := g_e g2.2 (show z_k z (z_e z (z_e z p)) < 3 by omega)
      refine ⟨_, md_tok (d := d + 3) (nq_z hT hF4) g3.2 (k4.2.2.1 (by omega)), ?_⟩
      rintro i139 l140 dd141 x142 ⟨i6, l6', ⟨⟩, f6, k6⟩
      have hN6 : dN_ st i139 l140 := dN_h (dN_i (dN_h hN hF3) (by rw [uu_k (by omega), uu_k (by omega)]) (by rw [uu_k (by omega), uu_k (by omega)]) (fun _ _ _ => rfl)) (hf_of f6)
      have hF6 : nq_ i i139 l l140 := nq_t hF4 (nq_h (hf_of f6))
      refine ⟨_, _, md_rVoter (d := d) (st := st) (nq_z hT hF6) g3.2 hN6 k6, ?_⟩
      rintro i148 l149 dd150 x151 ⟨i7, l7, ⟨⟩, f7, y7, n7⟩
      have hF7 : nq_ i i148 l l149 := nq_t hF6 (nq_h f7)
      by_cases c7 : c_vo z st (z_e z (z_e z (z_e z p))) = 0
      · rw [ch_y c7] at hQ
        rw [c7]
        obtain ⟨q7, x7, t7⟩ := c_vo0 c7
        obtain ⟨y70, y71, y72⟩ := y7 c7
        refine ⟨fun _ => ?_, fun y => absurd y rc_y⟩
        rintro i154 rfl
        rw [y72]
        refine dl_yes (nq_u hF7 (by unfold nqP; omega)) ?_ (dk_u y71 (by omega)) ?_ hQ
        · rw [uu_k (by omega), y70, f6.1 205 8 (by omega)]
          exact h04
        · refine dR_g (st := st) (dR_hf hR hF3) (fun g hg => by rw [uu_f hg, uu_f hg]) ⟨rfl, rfl, rfl⟩ (fun a j b1 b2 => ?_) ?_ (fun a j b => ?_) ⟨?_, fun y => absurd y (Nat.lt_irrefl 0), ?_⟩
          · rw [uu_k (by omega), f7.1 a j (by omega), f6.1 a j (by omega), uu_k (by omega), uu_k (by omega)]
          · rw [uu_k (by omega), f7.1 205 27 (by omega), f6.1 205 27 (by omega), uu_k (by omega), uu_k (by omega)]
          · rw [f7.2 a j (by omega), f6.2 a j (by omega)]
          · rw [uu_k (by omega), f7.1 219 1 (by omega), f6.1 219 1 (by omega), uu_k (by omega), uu_e]
            rfl
          · rw [uu_e]
            exact (if_neg (show fV_ z st (z_e z (z_e z (z_e z p))) ≠ 7 by omega)).symm
      · rw [rc_n c7]
        exact ⟨fun y => absurd rfl y, fun _ => dl_no c7 hF7 (n7 c7) hQ⟩
    · rw [if_neg c5] at hQ
      refine dl_yes hF4 h04 k4 ?_ hQ
      refine dR_g (st := st) (dR_hf hR hF3) (fun g hg => by rw [uu_f hg, uu_f hg]) ⟨rfl, rfl, rfl⟩ (fun a j b1 b2 => by rw [uu_k (by omega), uu_k (by omega)]) (by rw [uu_k (by omega), uu_k (by omega)]) (fun a j b => rfl) ⟨by rw [uu_k (by omega), uu_e]; rfl, fun y => absurd y (Nat.lt_irrefl 0), by rw [uu_e]; rfl⟩
end TKO
