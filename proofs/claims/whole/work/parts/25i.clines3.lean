/-! LINES, the class: way -/
section TKI
variable {d : Nat} {sc : Nat × (Nat → Int32)} {i : Nat → Nat → Int32} {l : Nat → Nat → Int64} {dd : Nat → Nat → Value} {x : Nat}
/-- a voter's way alone changes -/
theorem cR_v {st st' : ps_} {m v : Nat} {i2 : Nat → Nat → Int32} {l2 : Nat → Nat → Int64} (hm : ab_isM m) (hV : st 0 1 ≤ 7) (hv : v < st 0 1) (hS : ∀ u, u < st 0 1 → st 4 u ≤ 3) (hR : cR_ st m i l) (hs : ∀ g, g ≠ 7 → g ≠ 8 → g ≠ 9 → st' g = st g) (hu0 : ∀ u, u ≠ v → st' 7 u = st 7 u ∧ st' 8 u = st 8 u ∧ ∀ s, s < 3 → st' 9 (3 * u + s) = st 9 (3 * u + s)) (hi : ∀ k j, (m ≤ k ∧ k ≤ m + 46) ∨ (k = 157 ∧ j = 3) → ¬ (k = m + 5 + 6 * v ∧ (j = 2 ∨ j = 3)) → k ≠ m + 5 + 6 * v + 5 → i2 k j = i k j) (hl : ∀ k, k = 158 ∨ k = 159 → l2 k = l k) (h2 : i2 (m + 5 + 6 * v) 2 = Int32.ofNat (st' 7 v)) (h3 : st' 7 v = 2 → i2 (m + 5 + 6 * v) 3 = Int32.ofNat (st' 8 v)) (h5 : st' 7 v = 3 → ∀ s, s < st 4 v → i2 (m + 5 + 6 * v + 5) s = Int32.ofNat (st' 9 (3 * v + s))) : cR_ st' m i2 l2 := by
  have hm7 : m + 46 < 157 := by rcases hm with rfl | rfl | rfl <;> omega
  obtain ⟨r1, r2, r3, r4, r5, r6, r7, r8, r9, r10, r11⟩ := hR
  unfold cR_
  rw [hs 0 (by omega) (by omega) (by omega), hs 1 (by omega) (by omega) (by omega), hs 2 (by omega) (by omega) (by omega), hs 3 (by omega) (by omega) (by omega), hs 4 (by omega) (by omega) (by omega), hs 5 (by omega) (by omega) (by omega), hs 6 (by omega) (by omega) (by omega), hs 10 (by omega) (by omega) (by omega), hl 158 (Or.inl rfl), hl 159 (Or.inr rfl)]
  refine ⟨⟨?_, ?_⟩, ⟨?_, fun y => ⟨?_, ?_⟩, ?_⟩, fun t ht => ?_, fun t e ht he => ?_, fun u hu => ⟨?_, ?_, ?_, fun y => ?_⟩, fun u s t hu hs ht => ?_, fun u t e hu ht he => ?_, fun u s hu h7 hs => ?_, r9, r10, ?_⟩
  · rw [hi _ _ (by omega) (by omega) (by omega)]; exact r1.1
  · rw [hi _ _ (by omega) (by omega) (by omega)]; exact r1.2
  · rw [hi _ _ (by omega) (by omega) (by omega)]; exact r2.1
  · rw [hi _ _ (by omega) (by omega) (by omega)]; exact (r2.2.1 y).1
  · rw [hi _ _ (by omega) (by omega) (by omega)]; exact (r2.2.1 y).2
  · rw [hi _ _ (by omega) (by omega) (by omega)]; exact r2.2.2
  · rw [hi _ _ (by omega) (by omega) (by omega)]; exact r3 t ht
  · rw [hi _ _ (by omega) (by omega) (by omega)]; exact r4 t e ht he
  · rw [hi _ _ (by omega) (by omega) (by omega)]; exact (r5 u hu).1
  · rw [hi _ _ (by omega) (by omega) (by omega)]; exact (r5 u hu).2.1
  · by_cases e : u = v
    · rw [e]
      exact h2
    · rw [hi _ _ (by omega) (by omega) (by omega), (hu0 u e).1]
      exact (r5 u hu).2.2.1
  · by_cases e : u = v
    · rw [e] at y ⊢
      exact h3 y
    · rw [(hu0 u e).1] at y
      rw [hi _ _ (by omega) (by omega) (by omega), (hu0 u e).2.1]
      exact (r5 u hu).2.2.2 y
  · rw [hi _ _ (by omega) (by omega) (by omega)]; exact r6 u s t hu hs ht
  · rw [hi _ _ (by omega) (by omega) (by omega)]; exact r7 u t e hu ht he
  · by_cases e : u = v
    · rw [e] at h7 hs ⊢
      exact h5 h7 s hs
    · rw [(hu0 u e).1] at h7
      have := hS u hu
      rw [hi _ _ (by omega) (by omega) (by omega), (hu0 u e).2.2 s (by omega)]
      exact r8 u s hu h7 hs
  · rw [hi _ _ (by omega) (by omega) (by omega)]; exact r11
theorem fT_c {z : (Nat → Nat) × Nat} {st st' : ps_} {p : Nat} (h0 : st' 0 = st 0) (h1 : st' 1 = st 1) (h2 : st' 2 = st 2) : fT_ z st' p = fT_ z st p ∧ fV_ z st' p = fV_ z st p ∧ c_tr z st' p = c_tr z st p ∧ c_vo z st' p = c_vo z st p := by
  have e1 : fT_ z st' p = fT_ z st p := by
    unfold fT_
    rw [h0, h1]
  have e2 : fV_ z st' p = fV_ z st p := by
    unfold fV_
    rw [h0, h2]
  refine ⟨e1, e2, ?_, ?_⟩
  · unfold c_tr
    rw [e1, h0]
  · unfold c_vo
    rw [e2, h0]
/-- a set, sign by sign; the end of readSet -/
def sy_e (c v S : Nat) (r : rs_) (i : Nat → Nat → Int32) (l : Nat → Nat → Int64) (dd : Nat → Nat → Value) (x : Nat) (σ : ab_S) : Prop := ∃ i2 l2, σ = (i2, l2, dd, x) ∧ ((∀ k j, k ≠ c + 5 → ¬ (k = 157 ∧ (j = 0 ∨ 4 ≤ j)) → i2 k j = i k j) ∧ ∀ k j, ¬ (k = 157 ∧ j = 7) → l2 k j = l k j) ∧ (r.1 = 0 → i2 157 0 = i 157 0 ∧ i2 157 5 = Int32.ofNat r.2.1 ∧ ∀ s, s < S → i2 (c + 5) s = Int32.ofNat (r.2.2 9 (3 * v + s))) ∧ (r.1 ≠ 0 → i2 157 0 = Int32.ofNat r.1 ∧ i2 157 4 = Int32.ofNat r.2.1)
theorem ct_set {z : (Nat → Nat) × Nat} {st : ps_} {m v S p : Nat} (hT : ct_z z i) (hp : p ≤ z.2) (h5 : i 157 5 = Int32.ofNat p) (hm : ab_isM m) (hd : dd 157 2 = .ref m) (hN : cN_ st m i l) (hv : v < 7) (hS : S ≤ 3) (hS0 : i (m + 5 + 6 * v) 0 = Int32.ofNat S) : ab_Sp MX2_readSet (d + 4) [.ref 157, .ref (m + 5 + 6 * v)] (i, l, dd, x) (ab_E0 sc) (some (.int (rc_ (w_s z v S 0 st p).1))) (sy_e (m + 5 + 6 * v) v S (w_s z v S 0 st p) i l dd x) := by
  have hm7 : m + 46 < 157 := by rcases hm with rfl | rfl | rfl <;> omega
  have hmM := hm
  have hVc : ab_isV (m + 5 + 6 * v) := ⟨m, v, hm, hv, rfl⟩
  obtain ⟨⟨a1, a2, -, -⟩, -, -, -⟩ := id hN
  refine ab_ent (n := 1) okMX2_readSet.1 (fun G => Nat.le_of_ble_eq_true rfl) (fun Q hQ => ?_)
  refine tMX2_readSet_0 (d := d + 3) hVc ?_
  have go : ∀ (n s : Nat) (st1 : ps_) (q : Nat) (i2 : Nat → Nat → Int32) (l2 : Nat → Nat → Int64), S = s + n → q ≤ z.2 → w_s z v S 0 st p = w_s z v n s st1 q → (∀ g, g ≠ 9 → st1 g = st g) → ((∀ k j, k ≠ m + 5 + 6 * v + 5 → ¬ (k = 157 ∧ (j = 0 ∨ 4 ≤ j)) → i2 k j = i k j) ∧ ∀ k j, ¬ (k = 157 ∧ j = 7) → l2 k j = l k j) → i2 157 0 = i 157 0 → i2 157 5 = Int32.ofNat q → (∀ k, k < s → i2 (m + 5 + 6 * v + 5) k = Int32.ofNat (st1 9 (3 * v + k))) → ab_Fr MX2_readSet (d + 4) Q 2 [some (.ref 157), some (.ref (m + 5 + 6 * v)), some (.int (Int32.ofNat s))] [] (0, 0) (i2, l2, dd, x) (ab_E0 sc) := by
    intro n
    induction n with
    | zero =>
      intro s st1 q i2 l2 hs hq er hst hF h0 h52 hset
      have e0 : i2 (m + 5 + 6 * v) 0 = Int32.ofNat S := by rw [hF.1 _ _ (by omega) (by omega)]; exact hS0
      have er2 : w_s z v S 0 st p = (0, q, st1) := er
      refine tMX2_readSet_2 (d := d + 3) hVc ⟨fun _ => ?_, fun c => ?_⟩
      · rw [er2] at hQ
        exact hQ _ ⟨i2, l2, rfl, hF, fun _ => ⟨h0, h52, fun k hk => hset k (by omega)⟩, fun h => absurd rfl h⟩
      · rw [e0, nn_le (by omega) (by omega)] at c
        omega
    | succ n ih =>
      intro s st1 q i2 l2 hs hq er hst hF h0 h52 hset
      have e0 : i2 (m + 5 + 6 * v) 0 = Int32.ofNat S := by rw [hF.1 _ _ (by omega) (by omega)]; exact hS0
      have hT2 : ct_z z i2 := rf_z hT (fun k j hk => hF.1 k j (by omega) (by omega))
      have hN2 : cN_ st m i2 l2 := by
        obtain ⟨⟨b1, b2, m0, m1⟩, nt, nv, hB⟩ := hN
        refine ⟨⟨b1, b2, ?_, ?_⟩, fun t ht => ?_, fun u hu => ?_, hB⟩
        · rw [hF.1 m 0 (by omega) (by omega)]; exact m0
        · rw [hF.1 m 1 (by omega) (by omega)]; exact m1
        · rw [hF.2 158 t (by omega)]; exact nt t ht
        · rw [hF.2 159 u (by omega)]; exact nv u hu
      obtain ⟨ef1, ef2, ef3, ef4⟩ := fT_c (z := z) (st := st) (st' := st1) (p := q) (hst 0 (by omega)) (hst 1 (by omega)) (hst 2 (by omega))
      have e : w_s z v (n + 1) s st1 q = if z_x z q = 11 then w_s z v n (s + 1) (ab_u st1 9 (3 * v + s) 9) (z_e z q) else ch_ (c_tr z st1 q) (z_p z q) st1 (w_s z v n (s + 1) (ab_u st1 9 (3 * v + s) (fT_ z st1 q)) (z_e z q)) := rfl
      rw [e] at er
      have key : ∀ (y : Nat) (i3 : Nat → Nat → Int32) (l3 : Nat → Nat → Int64), z_e z q ≤ z.2 → w_s z v S 0 st p = w_s z v n (s + 1) (ab_u st1 9 (3 * v + s) y) (z_e z q) → sf_ i2 i3 l2 l3 → i3 157 0 = i2 157 0 → i3 157 5 = Int32.ofNat (z_e z q) → ab_Fr MX2_readSet (d + 4) Q 2 [some (.ref 157), some (.ref (m + 5 + 6 * v)), some (.int (Int32.ofNat s + 1))] [] (0, 0) (ab_u i3 (m + 5 + 6 * v + 5) s (Int32.ofNat y), l3, dd, x) (ab_E0 sc) := by
        intro y i3 l3 hq2 er2 f3 h03 h53
        rw [la_nx]
        refine ih (s + 1) (ab_u st1 9 (3 * v + s) y) (z_e z q) _ l3 (by omega) hq2 er2 (fun g hg => by rw [uu_f hg, hst g hg]) ⟨fun k j a b => ?_, fun k j a => ?_⟩ ?_ ?_ (fun k hk => ?_)
        · rw [uu_k a, f3.1 k j b, hF.1 k j a b]
        · rw [f3.2 k j a, hF.2 k j a]
        · rw [uu_k (by omega), h03, h0]
        · rw [uu_k (by omega), h53]
        · by_cases ek : k = s
          · rw [ek, uu_e, uu_e]
          · rw [uu_j ek, uu_j (by omega), f3.1 _ k (by omega)]
            exact hset k (by omega)
      refine tMX2_readSet_2 (d := d + 3) hVc ⟨fun c => ?_, fun _ => ⟨_, ct_tok (d := d + 1) hT2 hq h52, ?_⟩⟩
      · rw [e0, nn_le (by omega) (by omega)] at c
        omega
      · rintro i6 l7 dd8 x9 ⟨i4, l4, ⟨⟩, f4, k4⟩
        rw [k4.2.2.2.1, show (11 : Int32) = Int32.ofNat 11 from rfl, kx_e (by omega) z_xl, nn_cl (by omega)]
        refine ⟨fun c => ⟨_, _, ct_isName (d := d + 1) (st := st) (s := 2) hq hm hd (cN_s hm hN2 (sf_of f4)) k4 (by omega), ?_⟩, fun c => ⟨la_vp (by omega) (by omega), ?_⟩⟩
        · rw [if_neg c] at er
          rw [c_nam2]
          rintro i16 l17 dd18 x19 ⟨i5, l5, ⟨⟩, f5, y5, n5⟩
          rw [ef3, ef1] at er
          by_cases c2 : c_tr z st q = 0
          · rw [show ch_ (c_tr z st q) (z_p z q) st1 (w_s z v n (s + 1) (ab_u st1 9 (3 * v + s) (fT_ z st q)) (z_e z q)) = w_s z v n (s + 1) (ab_u st1 9 (3 * v + s) (fT_ z st q)) (z_e z q) from if_pos c2] at er
            rw [c2]
            obtain ⟨k1, x1, t1⟩ := c_tr0 c2
            obtain ⟨y1, y2, y3, -⟩ := y5 c2
            have g1 := g_e hq (show z_k z q < 3 by omega)
            refine ⟨fun y => absurd y rc_y, fun _ => ⟨la_vp (by omega) (by omega), ?_⟩⟩
            rintro i22 rfl
            rw [y3, fx_y t1]
            exact key _ i16 l17 g1.2 er (sf_t (sf_of f4) f5) (by rw [y1, f4.1 157 0 (by omega)]) (y2.2.2.1 (by omega))
          · rw [show ch_ (c_tr z st q) (z_p z q) st1 (w_s z v n (s + 1) (ab_u st1 9 (3 * v + s) (fT_ z st q)) (z_e z q)) = (c_tr z st q, z_p z q, st1) from if_neg c2] at er
            rw [er, rc_n c2] at hQ
            rw [rc_n c2]
            have f45 := sf_t (sf_of f4) f5
            exact ⟨fun _ => hQ _ ⟨i16, l17, rfl, ⟨fun k j a b => by rw [f45.1 k j b, hF.1 k j a b], fun k j a => by rw [f45.2 k j a, hF.2 k j a]⟩, fun h => absurd h c2, fun _ => n5 c2⟩, fun y => absurd rfl y⟩
        · rw [if_pos c] at er
          have k1 := z_x0 (show z_x z q < 16 by omega)
          have g1 := g_e hq (show z_k z q < 3 by omega)
          rintro i24 rfl
          exact key 9 i6 l7 g1.2 er (sf_of f4) (f4.1 157 0 (by omega)) (k4.2.2.1 (by omega))
  exact go S 0 st p i l (Nat.zero_add _).symm hp rfl (fun _ _ => rfl) ⟨fun _ _ _ _ => rfl, fun _ _ _ => rfl⟩ rfl h5 (fun k hk => absurd hk (Nat.not_lt_zero k))
theorem kx_i {a : Nat} (ha : a ≤ 16) : (kx_ a).toInt = if a = 16 then -1 else (a : Int) := by
  unfold kx_
  by_cases c : a = 16
  · rw [if_pos c, if_pos c]
    rfl
  · rw [if_neg c, if_neg c, la_nat (by omega)]
theorem ct_way {z : (Nat → Nat) × Nat} {st : ps_} {m p : Nat} (hT : ct_z z i) (hp : p ≤ z.2) (hk : z_k z p < 3) (hm : ab_isM m) (hd : dd 157 2 = .ref m) (hJ : PJ_ st) (hR : cR_ st m i l) (h0 : i 157 0 = 0) (k : ck_ z p i l) : ab_Sp MX2_readWay (d + 5) [.ref 157] (i, l, dd, x) (ab_E0 sc) (some (.int (rc_ (b_fin z (b_way z st p)).1))) (cl_ m (b_fin z (b_way z st p)) i l dd x) := by
  obtain ⟨⟨a1, a2, a3, a4, a5, a6, a7⟩, hB, hC, hD, hE⟩ := hJ
  have hm7 : m + 46 < 157 := by rcases hm with rfl | rfl | rfl <;> omega
  have g1 := g_e hp hk
  refine ab_ent (n := 0) okMX2_readWay.1 (fun G => Nat.le_of_ble_eq_true rfl) (fun Q hQ => ?_)
  unfold b_way at hQ
  have hN := cN_of hR a1 a2 hB
  have hS3 : ∀ u, u < st 0 1 → st 4 u ≤ 3 := fun u hu => (hC u hu).1.2
  refine tMX2_readWay_0 (d := d + 4) ⟨_, _, ct_name (d := d + 1) (st := st) (s := 4) hT g1.2 (k.2.2.1 hk) hm hd hN (by omega), ?_⟩
  rw [c_nam4]
  rintro i9 l10 dd11 x12 ⟨i2, l2, ⟨⟩, f2, y2, n2⟩
  by_cases c3 : c_vo z st (z_e z p) = 0
  · rw [bf_y c3] at hQ
    rw [c3]
    obtain ⟨k1, x1, t1⟩ := c_vo0 c3
    obtain ⟨y20, y21, y22, y23⟩ := y2 c3
    have g2 := g_e g1.2 (show z_k z (z_e z p) < 3 by omega)
    refine ⟨fun _ => ⟨m, hd, hm, ?_⟩, fun y => absurd y rc_y⟩
    rw [y23, fx_y t1, nn_cl (by omega)]
    refine ⟨la_vp (by omega) (by omega), _, ct_tok (d := d + 2) (sf_z hT f2) g2.2 (y21.2.2.1 (by omega)), ?_⟩
    rintro i17 l18 dd19 x20 ⟨i3, l3, ⟨⟩, f3, k3⟩
    have f23 := sf_t f2 (sf_of f3)
    have h03 : i17 157 0 = 0 := by rw [f3.1 157 0 (by omega), y20]; exact h0
    have hR3 := cR_s hm hR a2 f23
    have hT3 := sf_z hT f23
    have hN3 := cN_s hm hN f23
    rw [k3.2.2.2.1, kx_i z_xl]
    have hxl := z_xl (z := z) (p := z_e z (z_e z p))
    generalize fV_ z st (z_e z p) = v at *
    by_cases c4 : 7 ≤ z_x z (z_e z (z_e z p)) ∧ z_x z (z_e z (z_e z p)) ≤ 10
    · rw [bf_y (if_pos c4)] at hQ
      rw [if_neg (show ¬ z_x z (z_e z (z_e z p)) = 16 by omega)]
      have k4 := z_x0 (show z_x z (z_e z (z_e z p)) < 16 by omega)
      have g3 := g_e g2.2 (show z_k z (z_e z (z_e z p)) < 3 by omega)
      have h53 := k3.2.2.1 (show z_k z (z_e z (z_e z p)) < 3 by omega)
      generalize z_e z (z_e z (z_e z p)) = p3 at *
      -- the end: stop
      have hend : ∀ (i4 : Nat → Nat → Int32) (l4 : Nat → Nat → Int64) (r : rs_), r.1 = 0 → r.2.1 ≤ z.2 → r.2.2 0 1 ≤ 7 → lf_ m i i4 l l4 → i4 157 0 = 0 → i4 157 5 = Int32.ofNat r.2.1 → cR_ r.2.2 m i4 l4 → (∀ σ, cl_ m (b_fin z r) i l dd x σ → Q (some (some (.int (rc_ (b_fin z r).1)))) σ (ab_E0 sc)) → ab_Fr MX2_readWay (d + 5) Q 125 [some (.ref 157), none] [] (0, 0) (i4, l4, dd, x) (ab_E0 sc) := fun i4 l4 r e1 e2 e3 e4 e5 e6 e7 e8 =>
        tMX2_readWay_125 (d := d + 4) (cl_stop (d := d + 1) (r := r) (lf_z hm hT e4) hm e3 e1 e2 e4 e5 e6 e7 e8)
      have hplain : ∀ w, w ≠ 2 → w ≠ 3 → (∀ σ, cl_ m (b_fin z (0, p3, ab_u st 7 v w)) i l dd x σ → Q (some (some (.int (rc_ (b_fin z (0, p3, ab_u st 7 v w)).1)))) σ (ab_E0 sc)) → ab_Fr MX2_readWay (d + 5) Q 125 [some (.ref 157), none] [] (0, 0) (ab_u i17 (m + 5 + 6 * v) 2 (Int32.ofNat w), l18, dd, x) (ab_E0 sc) := fun w hw2 hw3 hQ' => by
        refine hend _ l18 (0, p3, ab_u st 7 v w) rfl g3.2 a2 (lf_m (lf_s f23) (by omega)) ?_ ?_ ?_ hQ'
        · rw [uu_k (by omega)]; exact h03
        · rw [uu_k (by omega)]; exact h53
        · refine cR_v (st := st) (st' := ab_u st 7 v w) hm a2 t1 hS3 hR3 (fun g x1 _ _ => uu_f x1) (fun u hu => ⟨uu_j hu, rfl, fun _ _ => rfl⟩) (fun k j _ b _ => if_neg (fun y => b ⟨y.1, Or.inl y.2⟩)) (fun _ _ => rfl) (by rw [uu_e, uu_e]) (fun y => ?_) (fun y => ?_)
          · rw [uu_e] at y; exact absurd y hw2
          · rw [uu_e] at y; exact absurd y hw3
      unfold w_2 at hQ
      refine ⟨fun y => by omega, fun y => ?_, fun y => ?_, fun y => ?_, fun y => ?_⟩
      · rw [show z_x z (z_e z (z_e z p)) - 7 = 0 by omega, if_neg (by omega), if_neg (by omega)] at hQ
        rintro i32 rfl
        exact hplain 0 (by omega) (by omega) hQ
      · rw [show z_x z (z_e z (z_e z p)) - 7 = 1 by omega, if_neg (by omega), if_neg (by omega)] at hQ
        rintro i32 rfl
        exact hplain 1 (by omega) (by omega) hQ
      · rw [show z_x z (z_e z (z_e z p)) - 7 = 2 by omega, if_pos rfl] at hQ
        rintro i32 rfl
        refine ⟨_, _, ct_num (d := d + 1) (a := 1) (b := 20) (lf_zu hm hT3 (by omega)) g3.2 (by rw [uu_k (by omega)]; exact h53) (by omega) (by omega), ?_⟩
        rintro i42 l43 dd44 x45 ⟨i4, l4, ⟨⟩, f4, y4, n4⟩
        have hF4 : lf_ m i i42 l l43 := lf_t (lf_m (lf_s f23) (by omega)) (lf_s f4)
        by_cases c5 : c_num z 1 20 p3 = 0
        · rw [bf_y c5] at hQ
          rw [c5]
          obtain ⟨k5, w1, w2⟩ := c_num0 c5
          obtain ⟨y40, y41, -, -⟩ := y4 c5
          have g4 := g_e g3.2 (show z_k z p3 < 3 by omega)
          refine ⟨fun _ => ?_, fun y => absurd y rc_y⟩
          rintro i48 rfl
          rw [y41.2.2.2.2.2 k5]
          refine hend _ l43 (0, z_e z p3, ab_u (ab_u st 8 v (z_v z p3)) 7 v 2) rfl g4.2 a2 (lf_m hF4 (by omega)) ?_ ?_ ?_ hQ
          · rw [uu_k (by omega), y40, uu_k (by omega)]; exact h03
          · rw [uu_k (by omega)]; exact y41.2.2.1 (by omega)
          · refine cR_v (st := st) (st' := ab_u (ab_u st 8 v (z_v z p3)) 7 v 2) hm a2 t1 hS3 hR3 (fun g x1 x2 _ => by rw [uu_f x1, uu_f x2]) (fun u hu => ⟨by rw [uu_j hu, uu_k (by omega)], by rw [uu_k (by omega), uu_j hu], fun _ _ => rfl⟩) (fun k j a b _ => ?_) (fun k hk => funext fun j => f4.2 k j (by omega)) ?_ (fun _ => ?_) (fun y => ?_)
            · rw [show ab_u i42 (m + 5 + 6 * v) 3 (Int32.ofNat (z_v z p3)) k j = i42 k j from if_neg (fun y => b ⟨y.1, Or.inr y.2⟩), f4.1 k j (by omega), show ab_u i17 (m + 5 + 6 * v) 2 2 k j = i17 k j from if_neg (fun y => b ⟨y.1, Or.inl y.2⟩)]
            · rw [uu_j (by omega), f4.1 _ 2 (by omega), uu_e, uu_e]
              rfl
            · rw [uu_e, uu_k (by omega), uu_e]
            · rw [uu_e] at y
              exact absurd y (by decide)
        · rw [rc_n c5]
          exact ⟨fun y => absurd rfl y, fun _ => cl_no c5 hF4 (n4 c5) hQ⟩
      · rw [show z_x z (z_e z (z_e z p)) - 7 = 3 by omega, if_neg (by omega), if_pos rfl] at hQ
        rintro i50 rfl
        have e0 : (ab_u i17 (m + 5 + 6 * v) 2 3) (m + 5 + 6 * v) 0 = Int32.ofNat (st 4 v) := by
          rw [uu_j (by omega)]
          exact (hR3.2.2.2.2.1 v t1).1
        refine ⟨_, _, ct_set (d := d) (st := st) (S := st 4 v) (lf_zu hm hT3 (by omega)) g3.2 (by rw [uu_k (by omega)]; exact h53) hm hd (cN_u hN3 (by omega)) (by omega) (hS3 v t1) e0, ?_⟩
        rintro i56 l57 dd58 x59 ⟨i4, l4, ⟨⟩, hF, y4, n4⟩
        have hF4 : lf_ m i i56 l l57 := lf_t (lf_m (lf_s f23) (by omega)) ⟨fun k j a b => hF.1 k j (by omega) (by omega), fun k a _ _ => funext fun j => hF.2 k j (by omega)⟩
        have hwp := w_s_p (z := z) (v := v) (T := st 0 0) (st 4 v) 0 st p3 g3.2 rfl
        generalize w_s z v (st 4 v) 0 st p3 = R at *
        by_cases c5 : R.1 = 0
        · rw [if_pos c5] at hQ
          rw [c5]
          obtain ⟨y40, y41, y42⟩ := y4 c5
          obtain ⟨i1, i2', i3', i4', i5'⟩ := hwp c5
          refine ⟨fun _ => ?_, fun y => absurd y rc_y⟩
          refine hend _ l57 (0, R.2.1, ab_u R.2.2 7 v 3) rfl i2' ?_ hF4 ?_ y41 ?_ hQ
          · show ab_u R.2.2 7 v 3 0 1 ≤ 7
            rw [uu_k (by omega), i3' 0 (by omega)]
            exact a2
          · rw [y40, uu_k (by omega)]; exact h03
          · refine cR_v (st := st) (st' := ab_u R.2.2 7 v 3) hm a2 t1 hS3 hR3 (fun g x1 _ x3 => by rw [uu_f x1, i3' g x3]) (fun u hu => ⟨by rw [uu_j hu, i3' 7 (by omega)], by rw [uu_k (by omega), i3' 8 (by omega)], fun s hs => ?_⟩) (fun k j a b c => ?_) (fun k hk => funext fun j => hF.2 k j (by omega)) ?_ (fun y => ?_) (fun _ s hs => ?_)
            · have := hS3 v t1
              rw [uu_k (by omega), i4' _ (fun k _ hk => by omega)]
            · rw [hF.1 k j c (by omega), show ab_u i17 (m + 5 + 6 * v) 2 3 k j = i17 k j from if_neg (fun y => b ⟨y.1, Or.inl y.2⟩)]
            · rw [hF.1 _ 2 (by omega) (by omega), uu_e, uu_e]
              rfl
            · rw [uu_e] at y
              exact absurd y (by decide)
            · rw [y42 s hs, uu_k (by omega)]
        · rw [if_neg c5] at hQ
          rw [rc_n c5]
          have e2 : b_fin z R = R := if_neg c5
          rw [e2, rc_n c5] at hQ
          exact ⟨fun y => absurd rfl y, fun _ => hQ _ ⟨i56, l57, rfl, hF4, fun h => absurd h c5, fun _ => n4 c5⟩⟩
    · have hfail : ∃ (r23 : Int32) (P24 : ab_S → Prop), ab_Sp MX2_fail (d + 4) [.ref 157, .int 1] (i17, l18, dd, x) (ab_E0 sc) (some (.int r23)) P24 ∧ ∀ i27 l28 dd29 x30, P24 (i27, l28, dd29, x30) → (r23 = 0 ∨ r23 = 1) ∧ Q (some (some (.int r23))) (i27, l28, dd29, x30) (ab_E0 sc) := by
        refine ⟨_, _, ct_fail (d := d + 3), ?_⟩
        rintro i27 l28 dd29 x30 ⟨⟩
        refine ⟨Or.inl rfl, cl_no (c := if 7 ≤ z_x z (z_e z (z_e z p)) ∧ z_x z (z_e z (z_e z p)) ≤ 10 then 0 else 1) (by rw [if_neg c4]; omega) (lf_s (sf_u f23 (Or.inl rfl))) ⟨?_, ?_⟩ hQ⟩
        · rw [uu_e, if_neg c4]
          rfl
        · rw [uu_j (by omega)]
          exact k3.1
      refine ⟨fun _ => hfail, fun y => ?_, fun y => ?_, fun y => ?_, fun y => ?_⟩ <;> (exfalso; split at y <;> omega)
  · rw [rc_n c3]
    exact ⟨fun y => absurd rfl y, fun _ => cl_no c3 (lf_s f2) (n2 c3) hQ⟩
end TKI
