/-! IN TURNS: the class speaks -/
def tu_wc (A : mA_) (o : Nat → Nat) (t e h : Nat) : Nat := if h % 3 = e then tu_L A o (aV_ A) h t else 0
def tu_wh (A : mA_) (o : Nat → Nat) (h : Nat) : Nat := if tu_z A o (aV_ A) h + 1 < aV_ A then pu_s (fun t => tu_L A o (aV_ A) h t) 3 else 0
def tu_wa (A : mA_) (o : Nat → Nat) (h : Nat) : Nat := if tu_z A o (aV_ A) h + 1 < aV_ A then pu_s (fun t => if t = h % 3 then 0 else tu_L A o (aV_ A) h t) 3 else 0
/-- the counts when the histories before P are through -/
def ct_A (A : mA_) (o : Nat → Nat) (a0 : Nat) (l : Nat → Nat → Int64) (P : Nat) : Prop := (∀ t e, t < 3 → e < 3 → l (a0 + 5) (3 * t + e) = Int64.ofNat (pu_s (tu_wc A o t e) P)) ∧ l a0 6 = Int64.ofNat (pu_s (tu_wh A o) P) ∧ l a0 7 = Int64.ofNat (pu_s (tu_wa A o) P)
theorem ct_Ac {A : mA_} {o : Nat → Nat} {a0 P : Nat} {l l2 : Nat → Nat → Int64} (h : ct_A A o a0 l P) (h5 : l2 (a0 + 5) = l (a0 + 5)) (h0 : l2 a0 = l a0) : ct_A A o a0 l2 P := by
  unfold ct_A
  rw [h5, h0]
  exact h
theorem ct_Ask {A : mA_} {o : Nat → Nat} {a0 h n j : Nat} {l : Nat → Nat → Int64} (hV : aV_ A = j + n) (hA : ct_A A o a0 l (h * 3 ^ n)) (hz : ∀ t, t < 3 → tu_L A o j h t = 0) : ct_A A o a0 l ((h + 1) * 3 ^ n) := by
  have hL : ∀ k, k < 3 ^ n → ∀ t, t < 3 → tu_L A o (aV_ A) (h * 3 ^ n + k) t = 0 := fun k hk t ht => by
    rw [hV]
    exact tu_Lz (hz t ht) n k hk
  have sk : ∀ W : Nat → Nat, (∀ k, k < 3 ^ n → W (h * 3 ^ n + k) = 0) → pu_s W ((h + 1) * 3 ^ n) = pu_s W (h * 3 ^ n) := fun W hW => by
    rw [Nat.add_mul, Nat.one_mul, pu_sp, pu_sz hW, Nat.add_zero]
  obtain ⟨h1, h2, h3⟩ := hA
  refine ⟨fun t e ht he => ?_, ?_, ?_⟩
  · rw [h1 t e ht he, sk (tu_wc A o t e) (fun k hk => by
      unfold tu_wc
      rw [hL k hk t ht, ite_self])]
  · rw [h2, sk (tu_wh A o) (fun k hk => by
      unfold tu_wh
      rw [pu_sz (fun t ht => hL k hk t ht), ite_self])]
  · rw [h3, sk (tu_wa A o) (fun k hk => by
      unfold tu_wa
      rw [pu_sz (fun t ht => by rw [hL k hk t ht, ite_self]), ite_self])]
/-- the longs that speaking from turn j changes -/
def ct_f (a0 j : Nat) (l l2 : Nat → Nat → Int64) : Prop := (∀ k, k ≠ a0 → k ≠ a0 + 3 → k ≠ a0 + 4 → k ≠ a0 + 5 → l2 k = l k) ∧ (∀ q, q < 3 * (j + 1) → l2 (a0 + 3) q = l (a0 + 3) q) ∧ ∀ q, q ≠ 6 → q ≠ 7 → l2 a0 q = l a0 q
theorem ct_fr {a0 j : Nat} {l : Nat → Nat → Int64} : ct_f a0 j l l := ⟨fun _ _ _ _ _ => rfl, fun _ _ => rfl, fun _ _ _ => rfl⟩
theorem ct_ft {a0 j : Nat} {l l2 l3 : Nat → Nat → Int64} (h1 : ct_f a0 j l l2) (h2 : ct_f a0 j l2 l3) : ct_f a0 j l l3 := ⟨fun k a b c e => (h2.1 k a b c e).trans (h1.1 k a b c e), fun q h => (h2.2.1 q h).trans (h1.2.1 q h), fun q a b => (h2.2.2 q a b).trans (h1.2.2 q a b)⟩
theorem ct_lL {A : mA_} {o : Nat → Nat} {j h e t : Nat} (he : e < 3) : ct_l A (o j) (tu_L A o j h) (tu_s A (o j) (tu_L A o j h)) e t = tu_L A o (j + 1) (3 * h + e) t := by
  have e1 : tu_L A o (j + 1) (3 * h + e) t = tu_L A o j ((3 * h + e) / 3) t * pu_s (fun s => if tu_s A (o j) (tu_L A o j ((3 * h + e) / 3)) s = (3 * h + e) % 3 then aL_ A (o j) s t else 0) (aS_ A (o j)) := rfl
  rw [e1, show (3 * h + e) / 3 = h by omega, show (3 * h + e) % 3 = e by omega]
  rfl
section TQC4
variable {d : Nat} {sc : Nat × (Nat → Int32)} {i : Nat → Nat → Int32} {l : Nat → Nat → Int64} {dd : Nat → Nat → Value} {x : Nat}
theorem ct_end {A : mA_} {o : Nat → Nat} {m a0 h e : Nat} (hW : mt_W A) (hp : 0 < aV_ A) (ha : ab_isT a0) (hm : ab_isM m) (hd : dd a0 0 = .ref m) (hK : mt_K A m i) (he : e = h % 3) (hL : ∀ t, t < 3 → l (a0 + 3) (3 * aV_ A + t) = Int64.ofNat (tu_L A o (aV_ A) h t)) (hA : ct_A A o a0 l h) : ab_Sp MX8_endTalk (d + 1) [.ref a0, .int (tu_C A o (aV_ A) h), .int (Int32.ofNat e)] (i, l, dd, x) (ab_E0 sc) none (fun σ => ∃ l2, σ = (i, l2, dd, x) ∧ (∀ k, k ≠ a0 → k ≠ a0 + 5 → l2 k = l k) ∧ (∀ q, q ≠ 6 → q ≠ 7 → l2 a0 q = l a0 q) ∧ ct_A A o a0 l2 (h + 1)) := by
  have w2 := hW.2.1
  have he3 : e < 3 := by omega
  refine ab_ent (n := 2) okMX8_endTalk.1 (fun G => Nat.le_of_ble_eq_true rfl) (fun Q hQ => ?_)
  have go : ∀ (n t : Nat) (l2 : Nat → Nat → Int64), 3 = t + n → (∀ k, k ≠ a0 → k ≠ a0 + 5 → l2 k = l k) → (∀ q, q ≠ 6 → q ≠ 7 → l2 a0 q = l a0 q) → (∀ u w, u < 3 → w < 3 → l2 (a0 + 5) (3 * u + w) = Int64.ofNat (pu_s (tu_wc A o u w) h + if u < t ∧ w = e then tu_L A o (aV_ A) h u else 0)) → l2 a0 6 = Int64.ofNat (pu_s (tu_wh A o) h + if tu_z A o (aV_ A) h + 1 < aV_ A then pu_s (fun u => tu_L A o (aV_ A) h u) t else 0) → l2 a0 7 = Int64.ofNat (pu_s (tu_wa A o) h + if tu_z A o (aV_ A) h + 1 < aV_ A then pu_s (fun u => if u = e then 0 else tu_L A o (aV_ A) h u) t else 0) → ab_Fr MX8_endTalk (d + 1) Q 27 [some (.ref a0), none, some (.int (Int32.ofNat e)), some (.int (if tu_z A o (aV_ A) h + 1 < aV_ A then 1 else 0)), some (.int (Int32.ofNat t)), none, none] [] (0, 0) (i, l2, dd, x) (ab_E0 sc) := by
    intro n
    induction n with
    | zero =>
      intro t l2 ht f2 g2 z2 y2 x2
      refine tMX8_endTalk_27 (d := d) ha ⟨fun _ => hQ _ ⟨l2, rfl, f2, g2, fun u w hu hw => ?_, ?_, ?_⟩, fun c => ?_⟩
      · rw [z2 u w hu hw]
        show Int64.ofNat _ = Int64.ofNat (pu_s (tu_wc A o u w) h + if h % 3 = w then tu_L A o (aV_ A) h u else 0)
        by_cases c : w = e
        · rw [if_pos ⟨by omega, c⟩, if_pos (by omega)]
        · rw [if_neg (fun z => c z.2), if_neg (by omega)]
      · rw [y2, show t = 3 by omega]
        rfl
      · rw [x2, show t = 3 by omega, he]
        rfl
      · rw [nn_p3, nn_le (by omega) (by omega)] at c
        omega
    | succ n ih =>
      intro t l2 ht f2 g2 z2 y2 x2
      refine tMX8_endTalk_27 (d := d) ha ⟨fun c => ?_, fun _ => ⟨m, hd, hm, ?_⟩⟩
      · rw [nn_p3, nn_le (by omega) (by omega)] at c
        omega
      · rw [hK.1.2, nn_m3, nn_m3, nn_mul, nn_mul, nn_add, nn_add, nn_cl (by omega), nn_cl (by omega), f2 (a0 + 3) (by omega) (by omega), hL t (by omega), z2 t e (by omega) he3, if_neg (fun z => Nat.lt_irrefl t z.1), Nat.add_zero, nl_add, la_nx, nn_eq (by omega) (by omega)]
        refine ⟨la_vp (by omega) (by omega), la_vp (by omega) (by omega), la_vp (by omega) (by omega), ?_⟩
        rintro l4 rfl
        have zz : ∀ u w, u < 3 → w < 3 → ab_u l2 (a0 + 5) (3 * t + e) (Int64.ofNat (pu_s (tu_wc A o t e) h + tu_L A o (aV_ A) h t)) (a0 + 5) (3 * u + w) = Int64.ofNat (pu_s (tu_wc A o u w) h + if u < t + 1 ∧ w = e then tu_L A o (aV_ A) h u else 0) := fun u w hu hw => by
          by_cases q : u = t ∧ w = e
          · obtain ⟨rfl, rfl⟩ := q
            rw [uu_e, if_pos ⟨by omega, rfl⟩]
          · rw [uu_j (by omega), z2 u w hu hw]
            by_cases q2 : u < t ∧ w = e
            · rw [if_pos q2, if_pos ⟨by omega, q2.2⟩]
            · rw [if_neg q2, if_neg (by omega)]
        by_cases hh : tu_z A o (aV_ A) h + 1 < aV_ A
        · rw [if_pos hh]
          rw [if_pos hh] at y2 x2
          have ih2 := ih (t + 1)
          rw [if_pos hh, if_pos hh, if_pos hh] at ih2
          refine ⟨fun z => absurd z (by decide), fun _ => ?_⟩
          rw [uu_k (by omega), y2, nl_add]
          rintro l7 rfl
          rw [uu_j (by omega), uu_k (by omega), x2]
          refine ⟨fun c => ?_, fun c => ?_⟩
          · rw [nl_add]
            rintro l10 rfl
            refine ih2 _ (by omega) (fun k a b => by rw [uu_f a, uu_f a, uu_f b]; exact f2 k a b) (fun q a b => by rw [uu_j b, uu_j a, uu_k (by omega)]; exact g2 q a b) (fun u w hu hw => by rw [uu_k (by omega), uu_k (by omega)]; exact zz u w hu hw) ?_ ?_
            · rw [uu_j (by omega), uu_e, Nat.add_assoc]
              rfl
            · rw [uu_e, Nat.add_assoc]
              show _ = Int64.ofNat (pu_s (tu_wa A o) h + (pu_s _ t + if t = e then 0 else tu_L A o (aV_ A) h t))
              rw [if_neg c]
          · rw [nl_p0, nl_add]
            rintro l10 rfl
            refine ih2 _ (by omega) (fun k a b => by rw [uu_f a, uu_f a, uu_f b]; exact f2 k a b) (fun q a b => by rw [uu_j b, uu_j a, uu_k (by omega)]; exact g2 q a b) (fun u w hu hw => by rw [uu_k (by omega), uu_k (by omega)]; exact zz u w hu hw) ?_ ?_
            · rw [uu_j (by omega), uu_e, Nat.add_assoc]
              rfl
            · rw [uu_e, Nat.add_assoc]
              show _ = Int64.ofNat (pu_s (tu_wa A o) h + (pu_s _ t + if t = e then 0 else tu_L A o (aV_ A) h t))
              rw [if_pos c]
        · rw [if_neg hh]
          rw [if_neg hh] at y2 x2
          have ih2 := ih (t + 1)
          rw [if_neg hh, if_neg hh, if_neg hh] at ih2
          refine ⟨fun _ => ih2 _ (by omega) (fun k a b => by rw [uu_f b]; exact f2 k a b) (fun q a b => by rw [uu_k (by omega)]; exact g2 q a b) zz (by rw [uu_k (by omega)]; exact y2) (by rw [uu_k (by omega)]; exact x2), fun z => absurd rfl z⟩
  have g0 := go 3 0 l rfl (fun _ _ _ => rfl) (fun _ _ _ => rfl) (fun u w hu hw => by rw [if_neg (fun z => Nat.not_lt_zero u z.1), Nat.add_zero]; exact hA.1 u w hu hw) (by rw [show pu_s (fun u => tu_L A o (aV_ A) h u) 0 = 0 from rfl, ite_self]; exact hA.2.1) (by rw [show pu_s (fun u => if u = e then 0 else tu_L A o (aV_ A) h u) 0 = 0 from rfl, ite_self]; exact hA.2.2)
  have hz := tu_zl (A := A) (o := o) (aV_ A) h
  refine tMX8_endTalk_0 (d := d) ha ⟨fun c => ?_, fun c => ⟨m, hd, hm, fun c2 => ?_, fun c2 => ?_⟩⟩
  · refine tMX8_endTalk_22 (d := d) ha (tMX8_endTalk_23 (d := d) ha ?_)
    unfold tu_C at c
    by_cases q : tu_z A o (aV_ A) h = aV_ A
    · rw [if_neg (by omega)] at g0
      exact g0
    · rw [if_neg q, nn_em (by omega)] at c
      exact c.elim
  · refine tMX8_endTalk_22 (d := d) ha (tMX8_endTalk_23 (d := d) ha ?_)
    unfold tu_C at c c2
    by_cases q : tu_z A o (aV_ A) h = aV_ A
    · rw [if_pos q] at c
      exact absurd rfl c
    · rw [if_neg q, hK.1.2, nn_p1, nn_sub (by omega), nn_le (by omega) (by omega)] at c2
      rw [if_neg (by omega)] at g0
      exact g0
  · refine tMX8_endTalk_23 (d := d) ha ?_
    unfold tu_C at c c2
    by_cases q : tu_z A o (aV_ A) h = aV_ A
    · rw [if_pos q] at c
      exact absurd rfl c
    · rw [if_neg q, hK.1.2, nn_p1, nn_sub (by omega), nn_le (by omega) (by omega)] at c2
      rw [if_pos (by omega)] at g0
      exact g0
theorem ct_speak {A : mA_} {o : Nat → Nat} {m a0 : Nat} (hW : mt_W A) (hp : 0 < aV_ A) (hO : tu_O A o) (ha : ab_isT a0) (hm : ab_isM m) (hd : dd a0 0 = .ref m) : ∀ (n j h : Nat) (said : Int32) (i l : Nat → Nat → _) (x : Nat), aV_ A = j + n → mt_K A m i → (∀ k, k < aV_ A → i (a0 + 1) k = Int32.ofNat (o k)) → (∀ t, t < 3 → l (a0 + 3) (3 * j + t) = Int64.ofNat (tu_L A o j h t)) → (n = 0 → said = Int32.ofNat (h % 3)) → ct_A A o a0 l (h * 3 ^ n) → ab_Sp MX8_speak (d + n + 4) [.ref a0, .int (Int32.ofNat j), .int (tu_C A o j h), .int said] (i, l, dd, x) (ab_E0 sc) none (fun σ => ∃ i2 l2, σ = (i2, l2, dd, x) ∧ fr_o (a0 + 2) (a0 + 2) i i2 ∧ (∀ k, k < 3 * j → i2 (a0 + 2) k = i (a0 + 2) k) ∧ ct_f a0 j l l2 ∧ ct_A A o a0 l2 ((h + 1) * 3 ^ n)) := by
  have w1 := hW.1
  have w2 := hW.2.1
  have w4 := hW.2.2.2.1 hp
  have hla : 179 ≤ a0 := by rcases ha with rfl | rfl <;> omega
  intro n
  induction n with
  | zero =>
    intro j h said i l x hj hK ho hL hs hA
    rw [Nat.pow_zero, Nat.mul_one] at hA ⊢
    have ej : j = aV_ A := by omega
    subst ej
    refine ab_ent (n := 3) okMX8_speak.1 (fun G => Nat.le_of_ble_eq_true rfl) (fun Q hQ => ?_)
    refine tMX8_speak_0 (d := d + 3) ha ⟨m, hd, hm, fun _ => ?_, fun c => ?_⟩
    · rw [hs rfl]
      refine tMX8_speak_17 (d := d + 3) ha ⟨_, ct_end (d := d + 2) hW hp ha hm hd hK rfl hL hA, ?_⟩
      rintro i5 l6 dd7 x8 ⟨l2, ⟨⟩, f2, g2, A2⟩
      exact hQ _ ⟨i, l6, rfl, fr_r, fun _ _ => rfl, ⟨fun k a b c e => f2 k a e, fun q _ => by rw [f2 (a0 + 3) (by omega) (by omega)], g2⟩, A2⟩
    · rw [hK.1.2, nn_le (by omega) (by omega)] at c
      omega
  | succ n ih =>
    intro j h said i l x hj hK ho hL hs hA
    have hov := hO.1 j (by omega)
    refine ab_ent (n := 3) okMX8_speak.1 (fun G => Nat.le_of_ble_eq_true rfl) (fun Q hQ => ?_)
    refine tMX8_speak_0 (d := d + n + 4) ha ⟨m, hd, hm, fun c => ?_, fun _ => ⟨fun _ => ⟨_, ct_ponder (d := d + n + 1) (L := tu_L A o j h) hW hp ha hm hd hK (show j < aV_ A by omega) hov (ho j (by omega)) hL (fun t => tu_L8 hW hO (by omega)), ?_⟩, fun c => ?_⟩⟩
    · rw [hK.1.2, nn_le (by omega) (by omega)] at c
      omega
    · rintro i9 l10 dd11 x12 ⟨i2, l2, ⟨⟩, f2, k2, g2, y2⟩
      have hK2 : mt_K A m i9 := mt_K_o hm hK f2 (by omega) hW
      have ho2 : ∀ k, k < aV_ A → i9 (a0 + 1) k = Int32.ofNat (o k) := fun k hk => by
        rw [f2 (a0 + 1) (by omega)]
        exact ho k hk
      have hL2 : ∀ t, t < 3 → l10 (a0 + 3) (3 * j + t) = Int64.ofNat (tu_L A o j h t) := fun t ht => by
        rw [g2 (a0 + 3) (by omega)]
        exact hL t ht
      refine ⟨_, _, ct_cliffAt (d := d + n + 1) hW hp hO ha hm hd hK2 (show j < aV_ A by omega) (ho2 j (by omega)) hL2 y2, ?_⟩
      rintro i18 l19 dd20 x21 ⟨⟩
      have hA2 : ct_A A o a0 l10 (3 * h * 3 ^ n) := by
        refine ct_Ac ?_ (g2 (a0 + 5) (by omega)) (g2 a0 (by omega))
        rw [show 3 * h * 3 ^ n = h * 3 ^ (n + 1) by rw [Nat.pow_succ]; ac_rfl]
        exact hA
      have go : ∀ (r e : Nat) (i3 : Nat → Nat → Int32) (l3 : Nat → Nat → Int64), aT_ A = e + r → fr_o (a0 + 2) (a0 + 2) i9 i3 → (∀ k, k < 3 * (j + 1) → i3 (a0 + 2) k = i9 (a0 + 2) k) → ct_f a0 j l10 l3 → ct_A A o a0 l3 ((3 * h + e) * 3 ^ n) → ab_Fr MX8_speak (d + n + 1 + 4) Q 40 [some (.ref a0), some (.int (Int32.ofNat j)), none, none, some (.int (tu_D A o j h)), some (.int (Int32.ofNat e))] [] (0, 0) (i3, l3, dd, x) (ab_E0 sc) := by
        intro r
        induction r with
        | zero =>
          intro e i3 l3 he f3 k3 g3 A3
          have hK3 : mt_K A m i3 := mt_K_o hm hK2 f3 (by omega) hW
          refine tMX8_speak_40 (d := d + n + 4) ha ⟨m, hd, hm, fun _ => hQ _ ⟨i3, l3, rfl, fr_t f2 f3, fun k hk => (k3 k (by omega)).trans (k2 k (by omega)), ⟨fun k a b c e => (g3.1 k a b c e).trans (g2 k (by omega)), fun q hq => (g3.2.1 q hq).trans (by rw [g2 (a0 + 3) (by omega)]), fun q a b => (g3.2.2 q a b).trans (by rw [g2 a0 (by omega)])⟩, ?_⟩, fun c => ?_⟩
          · rw [show (h + 1) * 3 ^ (n + 1) = (3 * h + 3) * 3 ^ n by rw [Nat.pow_succ, show 3 * h + 3 = (h + 1) * 3 by omega]; ac_rfl]
            by_cases e3 : e = 3
            · rw [e3] at A3
              exact A3
            · have e2 : e = 2 := by omega
              rw [e2] at A3
              exact ct_Ask (j := j + 1) (by omega) A3 (fun t _ => tu_Lt hW hp (by omega))
          · rw [hK3.1.1, nn_le (by omega) (by omega)] at c
            omega
        | succ r ihr =>
          intro e i3 l3 he f3 k3 g3 A3
          have hK3 : mt_K A m i3 := mt_K_o hm hK2 f3 (by omega) hW
          have ho3 : ∀ k, k < aV_ A → i3 (a0 + 1) k = Int32.ofNat (o k) := fun k hk => by
            rw [f3 (a0 + 1) (by omega)]
            exact ho2 k hk
          refine tMX8_speak_40 (d := d + n + 4) ha ⟨m, hd, hm, fun c => ?_, fun _ => ⟨_, _, ct_hear (d := d + n + 3) (e := e) (L := tu_L A o j h) (y := tu_s A (o j) (tu_L A o j h)) hW ha hm hd hK3 (show j < aV_ A by omega) hov (ho3 j (by omega)) (fun t ht => by rw [g3.2.1 _ (by omega)]; exact hL2 t ht) (fun s hs2 => ⟨by rw [k3 _ (by have := (hW.2.2.2.2.2.2.1 (o j) hov).2; omega)]; exact y2 s hs2, by have := tu_sl (A := A) (v := o j) (L := tu_L A o j h) (s := s) hW hp; omega⟩) (by omega) (fun t => by rw [ct_lL (by omega)]; exact tu_L8 hW hO (by omega)), ?_⟩⟩
          · rw [hK3.1.1, nn_le (by omega) (by omega)] at c
            omega
          · rintro i8 l9 dd10 x11 ⟨l4, ⟨⟩, f4, k4, z4⟩
            have g4 : ct_f a0 j l3 l9 := ⟨fun k a b c e => f4 k (by omega), fun q hq => k4 q (by omega), fun q a b => by rw [f4 a0 (by omega)]⟩
            have A4 : ct_A A o a0 l9 ((3 * h + e) * 3 ^ n) := ct_Ac A3 (f4 (a0 + 5) (by omega)) (f4 a0 (by omega))
            have z5 : ∀ t, t < 3 → l9 (a0 + 3) (3 * (j + 1) + t) = Int64.ofNat (tu_L A o (j + 1) (3 * h + e) t) := fun t ht => by
              rw [z4 t ht, ct_lL (by omega)]
            have hr := ih (j + 1) (3 * h + e) (Int32.ofNat e) i3 l9 x (by omega) hK3 ho3 z5 (fun _ => by rw [show (3 * h + e) % 3 = e by omega]) A4
            rw [tu_CD (show e < 3 by omega)] at hr
            rw [la_nx, la_nx]
            refine ⟨fun c => ?_, fun c => ⟨_, hr, ?_⟩⟩
            · refine ihr (e + 1) _ l9 (by omega) f3 k3 (ct_ft g3 g4) ?_
              refine ct_Ask (j := j + 1) (h := 3 * h + e) (by omega) A4 (fun t ht => ?_)
              rw [← ct_lL (by omega)]
              have c2 : ¬ 0 < pu_s (ct_l A (o j) (tu_L A o j h) (tu_s A (o j) (tu_L A o j h)) e) 3 := fun q => by
                unfold ct_r at c
                rw [if_pos q] at c
                exact absurd c (by decide)
              have c3 : pu_s (ct_l A (o j) (tu_L A o j h) (tu_s A (o j) (tu_L A o j h)) e) 3 = ct_l A (o j) (tu_L A o j h) (tu_s A (o j) (tu_L A o j h)) e 0 + ct_l A (o j) (tu_L A o j h) (tu_s A (o j) (tu_L A o j h)) e 1 + ct_l A (o j) (tu_L A o j h) (tu_s A (o j) (tu_L A o j h)) e 2 := by
                show 0 + _ + _ + _ = _
                rw [Nat.zero_add]
              rcases (show t = 0 ∨ t = 1 ∨ t = 2 by omega) with rfl | rfl | rfl <;> omega
            · rintro i18 l19 dd20 x21 ⟨i5, l5, ⟨⟩, f5, k5, g5, A5⟩
              refine ihr (e + 1) i18 l19 (by omega) (fr_t f3 f5) (fun k hk => (k5 k hk).trans (k3 k hk)) (ct_ft g3 (ct_ft g4 ⟨g5.1, fun q hq => g5.2.1 q (by omega), g5.2.2⟩)) A5
      exact go (aT_ A) 0 i9 l10 (Nat.zero_add _).symm fr_r (fun _ _ => rfl) ct_fr hA2
    · rw [nn_p7, nn_lt (by omega) (by omega)] at c
      omega
theorem ct_inOrder {A : mA_} {o : Nat → Nat} {m a0 : Nat} (hW : mt_W A) (hp : 0 < aV_ A) (hO : tu_O A o) (ha : ab_isT a0) (hm : ab_isM m) (hd : dd a0 0 = .ref m) (hK : mt_K A m i) (ho : ∀ k, k < aV_ A → i (a0 + 1) k = Int32.ofNat (o k)) : ab_Sp MX8_speakInOrder (d + 12) [.ref a0] (i, l, dd, x) (ab_E0 sc) none (fun σ => ∃ i2 l2, σ = (i2, l2, dd, x) ∧ fr_o (a0 + 2) (a0 + 2) i i2 ∧ (∀ k, k ≠ a0 → k ≠ a0 + 3 → k ≠ a0 + 4 → k ≠ a0 + 5 → l2 k = l k) ∧ (∀ q, q ≠ 6 → q ≠ 7 → l2 a0 q = l a0 q) ∧ ct_A A o a0 l2 (3 ^ aV_ A)) := by
  have w2 := hW.2.1
  refine ab_ent (n := 0) okMX8_speakInOrder.1 (fun G => Nat.le_of_ble_eq_true rfl) (fun Q hQ => ?_)
  refine tMX8_speakInOrder_0 (d := d + 11) ha ⟨_, mt_emptyL (d := d + 10) (a := a0 + 5) (n := 9) (kT_5 ha) (by omega), ?_⟩
  rintro i5 l6 dd7 x8 ⟨l2, ⟨⟩, f2, z2⟩
  rintro l10 rfl l12 rfl
  refine ⟨_, ct_open (d := d + 10) hW ha hm hd hK, ?_⟩
  rintro i18 l19 dd20 x21 ⟨l3, ⟨⟩, f3, z3⟩
  have hs := ct_speak (d := d + (7 - aV_ A)) (sc := sc) hW hp hO ha hm hd (aV_ A) 0 0 0 i l19 x (Nat.zero_add _).symm hK ho (fun t ht => by rw [Nat.mul_zero, Nat.zero_add]; exact z3 t ht) (fun h => by omega) (by
    rw [Nat.zero_mul]
    refine ⟨fun t e ht he => ?_, ?_, ?_⟩
    · rw [f3 (a0 + 5) (by omega), uu_f (by omega), uu_f (by omega), z2 _ (by omega)]
      rfl
    · rw [f3 a0 (by omega), uu_j (by omega), uu_e]
      rfl
    · rw [f3 a0 (by omega), uu_e]
      rfl)
  rw [show d + (7 - aV_ A) + aV_ A + 4 = d + 11 by omega] at hs
  refine ⟨_, hs, ?_⟩
  rintro i27 l28 dd29 x30 ⟨i4, l4, ⟨⟩, f4, k4, g4, A4⟩
  refine hQ _ ⟨i27, l28, rfl, f4, fun k a b c e => ?_, fun q a b => ?_, ?_⟩
  · rw [g4.1 k a b c e, f3 k (by omega), uu_f a, uu_f a, f2 k (by omega)]
  · rw [g4.2.2 q a b, f3 a0 (by omega), uu_j b, uu_j a, f2 a0 (by omega)]
  · rw [Nat.zero_add, Nat.one_mul] at A4
    exact A4
end TQC4
