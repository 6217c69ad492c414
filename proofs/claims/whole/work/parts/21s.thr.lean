/-! helps; calls that throw: comes -/
section TQS
variable {d : Nat} {sc : Nat × (Nat → Int32)} {i : Nat → Nat → Int32} {l : Nat → Nat → Int64} {dd : Nat → Nat → Value} {x : Nat}
/-- a voter's number -/
theorem mt_hvI {A : mA_} {a : Int32} (hW : mt_W A) : (∃ v, v < aV_ A ∧ a = Int32.ofNat v ∧ (0 ≤ a.toInt ∧ a.toInt < (aV_ A : Int))) ∨ ¬ (0 ≤ a.toInt ∧ a.toInt < (aV_ A : Int)) := by
  have w2 := hW.2.1
  rcases Classical.em (0 ≤ a.toInt ∧ a.toInt < (aV_ A : Int)) with c | c
  · obtain ⟨v, hv, rfl⟩ := la_rep (a := a) (m := aV_ A) c.1 c.2
    exact Or.inl ⟨v, hv, rfl, c⟩
  · exact Or.inr c
theorem mt_htI {A : mA_} {a : Int32} (hW : mt_W A) : (∃ v, v < aT_ A ∧ a = Int32.ofNat v ∧ (0 ≤ a.toInt ∧ a.toInt < (aT_ A : Int))) ∨ ¬ (0 ≤ a.toInt ∧ a.toInt < (aT_ A : Int)) := by
  have w2 := hW.1
  rcases Classical.em (0 ≤ a.toInt ∧ a.toInt < (aT_ A : Int)) with c | c
  · obtain ⟨v, hv, rfl⟩ := la_rep (a := a) (m := aT_ A) c.1 c.2
    exact Or.inl ⟨v, hv, rfl, c⟩
  · exact Or.inr c
theorem mt_hasV1 {A : mA_} {m : Nat} {a : Int32} (hW : mt_W A) (hm : ab_isM m) (hK : mt_K A m i) : ab_Sp MX1_hasVoter (d + 1) [.ref m, .int a] (i, l, dd, x) (ab_E0 sc) (some (.int (if 0 ≤ a.toInt ∧ a.toInt < (aV_ A : Int) then 1 else 0))) (fun σ => σ = (i, l, dd, x)) := by
  have w2 := hW.2.1
  have h := mt_hasV (d := d) (sc := sc) (i := i) (l := l) (dd := dd) (x := x) (a := a) hm
  rw [hK.1.2, la_nat (by omega)] at h
  exact h
theorem mt_isV1 {A : mA_} {a : Int32} (hW : mt_W A) (hM : mt_M A i l) : ab_Sp MX12_isVoter (d + 1) [.ref 205, .int a] (i, l, dd, x) (ab_E0 sc) (some (.int (if 0 ≤ a.toInt ∧ a.toInt < (aV_ A : Int) then 1 else 0))) (fun σ => σ = (i, l, dd, x)) := by
  have w2 := hW.2.1
  have h := mt_isV (d := d) (sc := sc) (i := i) (l := l) (dd := dd) (x := x) (a := a)
  rw [hM.1.2.1, la_nat (by omega)] at h
  exact h
theorem mt_hasT1 {A : mA_} {m : Nat} {a : Int32} (hW : mt_W A) (hm : ab_isM m) (hK : mt_K A m i) : ab_Sp MX1_hasTruth (d + 1) [.ref m, .int a] (i, l, dd, x) (ab_E0 sc) (some (.int (if 0 ≤ a.toInt ∧ a.toInt < (aT_ A : Int) then 1 else 0))) (fun σ => σ = (i, l, dd, x)) := by
  have w2 := hW.1
  have h := mt_hasT (d := d) (sc := sc) (i := i) (l := l) (dd := dd) (x := x) (a := a) hm
  rw [hK.1.1, la_nat (by omega)] at h
  exact h
theorem mt_isT1 {A : mA_} {a : Int32} (hW : mt_W A) (hM : mt_M A i l) : ab_Sp MX12_isTruth (d + 1) [.ref 205, .int a] (i, l, dd, x) (ab_E0 sc) (some (.int (if 0 ≤ a.toInt ∧ a.toInt < (aT_ A : Int) then 1 else 0))) (fun σ => σ = (i, l, dd, x)) := by
  have w2 := hW.1
  have h := mt_isT (d := d) (sc := sc) (i := i) (l := l) (dd := dd) (x := x) (a := a)
  rw [hM.1.1, la_nat (by omega)] at h
  exact h
theorem op_helps {R : ab_S → Prop} {A : mA_} (hA : op_A R A) : la_c31 1310 sc (la_I R) := by
  rintro ⟨i, l, dd, x⟩ a1 a2 hI
  obtain ⟨hW, hA2⟩ := hA
  have w2 := hW.2.1
  obtain ⟨m, e0, hm, hK, -⟩ := hA2 _ _ _ _ hI
  have hJ : ∀ (i2 : Nat → Nat → Int32) (l2 : Nat → Nat → Int64) (x2 : Nat) (m2 : Nat), ab_isM m2 → kp_i i i2 → kp_l l l2 → la_I R (i2, l2, ab_u dd 160 0 (.ref m2), x2) := fun i2 l2 x2 m2 h2 a b => kp_I hI a b (kp_160 h2)
  have none1 : (¬ ((0 ≤ a1.toInt ∧ a1.toInt < (aV_ A : Int)) ∧ (0 ≤ a2.toInt ∧ a2.toInt < (aV_ A : Int)) ∧ ¬ a1 = a2)) → ∃ (r : Int32) (P : ab_S → Prop), ab_Sp MX11_helps 1311 [.ref 3, .int a1, .int a2] (i, l, dd, x) (ab_E0 sc) (some (.int r)) P ∧ ∀ σ1, P σ1 → ab_Sp MX12_helps 1311 [.ref 205, .int a1, .int a2] σ1 (ab_E0 sc) (some (.int r)) (la_I R) := by
    intro c
    refine ⟨-1, la_I R, ?_, ?_⟩
    · refine ab_ent (n := 2) okMX11_helps.1 (fun G => Nat.le_of_ble_eq_true rfl) (fun Q hQ => ?_)
      refine tMX11_helps_0 (d := 1310) ⟨m, e0, hm, _, _, mt_hasV1 (d := 1309) hW hm hK, ?_⟩
      rintro i5 l6 dd7 x8 ⟨⟩
      by_cases c1 : 0 ≤ a1.toInt ∧ a1.toInt < (aV_ A : Int)
      · rw [if_pos c1]
        refine ⟨fun z => absurd z (by decide), fun _ => ⟨m, e0, hm, _, _, mt_hasV1 (d := 1309) hW hm hK, ?_⟩⟩
        rintro i5 l6 dd7 x8 ⟨⟩
        by_cases c2 : 0 ≤ a2.toInt ∧ a2.toInt < (aV_ A : Int)
        · rw [if_pos c2]
          exact ⟨fun z => absurd z (by decide), fun _ => ⟨fun z => absurd ⟨c1, c2, z⟩ c, fun _ => hQ _ hI⟩⟩
        · rw [if_neg c2]
          exact ⟨fun _ => hQ _ hI, fun z => absurd rfl z⟩
      · rw [if_neg c1]
        exact ⟨fun _ => hQ _ hI, fun z => absurd rfl z⟩
    · rintro ⟨i, l, dd, x⟩ hI
      refine ab_ent (n := 2) okMX12_helps.1 (fun G => Nat.le_of_ble_eq_true rfl) (fun Q hQ => ?_)
      refine tMX12_helps_0 (d := 1310) ?_
      rintro i1 rfl
      have hI2 := la_thr (v := 0) (x2 := x) hI
      obtain ⟨m, e0, hm, hK, hM⟩ := hA2 _ _ _ _ hI2
      refine ⟨_, _, mt_isV1 (d := 1309) hW hM, ?_⟩
      rintro i5 l6 dd7 x8 ⟨⟩
      by_cases c1 : 0 ≤ a1.toInt ∧ a1.toInt < (aV_ A : Int)
      · rw [if_pos c1]
        refine ⟨fun z => absurd z (by decide), fun _ => ⟨_, _, mt_isV1 (d := 1309) hW hM, ?_⟩⟩
        rintro i5 l6 dd7 x8 ⟨⟩
        by_cases c2 : 0 ≤ a2.toInt ∧ a2.toInt < (aV_ A : Int)
        · rw [if_pos c2]
          exact ⟨fun z => absurd z (by decide), fun _ => ⟨fun z => absurd ⟨c1, c2, z⟩ c, fun _ => hQ _ hI2⟩⟩
        · rw [if_neg c2]
          exact ⟨fun _ => hQ _ hI2, fun z => absurd rfl z⟩
      · rw [if_neg c1]
        exact ⟨fun _ => hQ _ hI2, fun z => absurd rfl z⟩
  rcases mt_hvI (a := a1) hW with ⟨v, hv, rfl, c1⟩ | c1
  case inr => exact none1 (fun z => c1 z.1)
  rcases mt_hvI (a := a2) hW with ⟨w, hw, rfl, c2⟩ | c2
  case inr => exact none1 (fun z => c2 z.2.1)
  by_cases c3 : v = w
  case pos => exact none1 (fun z => z.2.2 (by rw [c3]))
  have c4 : ¬ Int32.ofNat v = Int32.ofNat w := by rw [nn_eq (by omega) (by omega)]; exact c3
  have hp : 0 < aV_ A := by omega
  generalize hr : (if Int64.ofNat (cs_lost A (cs_si (aO_ A) 7 7)) < Int64.ofNat (cs_lost A (cs_si (aO_ A) v 7)) ∧ ¬ Int64.ofNat (cs_lost A (cs_si (aO_ A) w 7)) < Int64.ofNat (cs_lost A (cs_si (aO_ A) v w)) then (1 : Int32) else 0) = r
  refine ⟨r, la_I R, ?_, ?_⟩
  · refine ab_ent (n := 2) okMX11_helps.1 (fun G => Nat.le_of_ble_eq_true rfl) (fun Q hQ => ?_)
    refine tMX11_helps_0 (d := 1310) ⟨m, e0, hm, _, _, mt_hasV1 (d := 1309) hW hm hK, ?_⟩
    rintro i5 l6 dd7 x8 ⟨⟩
    rw [if_pos c1]
    refine ⟨fun z => absurd z (by decide), fun _ => ⟨m, e0, hm, _, _, mt_hasV1 (d := 1309) hW hm hK, ?_⟩⟩
    rintro i5 l6 dd7 x8 ⟨⟩
    rw [if_pos c2]
    refine ⟨fun z => absurd z (by decide), fun _ => ⟨fun _ => ?_, fun z => absurd z c4⟩⟩
    rw [mt_h7, ← mt_hn (a := v) (by omega), ← mt_hn (a := w) (by omega)]
    refine ⟨_, _, mt_without (d := 1306) (a := 7) (b := 7) hW hp hm e0 hK (Or.inr rfl) (Or.inr rfl), ?_⟩
    rintro i5 l6 dd7 x8 ⟨i2, l2, ⟨⟩, k2, kl2⟩
    have hI3 := kp_I hI k2 kl2 (kp_160 hm) (x2 := x)
    obtain ⟨m, e0, hm, hK, -⟩ := hA2 _ _ _ _ hI3
    refine ⟨_, _, mt_without (d := 1306) (a := v) (b := 7) hW hp hm e0 hK (Or.inl hv) (Or.inr rfl), ?_⟩
    rintro i5 l6 dd7 x8 ⟨i2, l2, ⟨⟩, k2, kl2⟩
    have hI4 := kp_I hI3 k2 kl2 (kp_160 hm) (x2 := x)
    obtain ⟨m, e0, hm, hK, -⟩ := hA2 _ _ _ _ hI4
    have go : ∀ (s : Int32) (i4 : Nat → Nat → Int32) (l4 : Nat → Nat → Int64) (d4 : Nat → Nat → Value), la_I R (i4, l4, d4, x) → (s = 1 ∧ Int64.ofNat (cs_lost A (cs_si (aO_ A) 7 7)) < Int64.ofNat (cs_lost A (cs_si (aO_ A) v 7)) ∨ s = 0 ∧ ¬ Int64.ofNat (cs_lost A (cs_si (aO_ A) 7 7)) < Int64.ofNat (cs_lost A (cs_si (aO_ A) v 7))) → ab_Fr MX11_helps 1311 Q 50 [some (.ref 3), some (.int (mt_h v)), some (.int (mt_h w)), none, none] [.int s] (0, 0) (i4, l4, d4, x) (ab_E0 sc) := by
      intro s i4 l4 d4 hI4 hs
      obtain ⟨m, e0, hm, hK, -⟩ := hA2 _ _ _ _ hI4
      refine tMX11_helps_50 (d := 1310) ?_
      rw [mt_h7]
      refine ⟨_, _, mt_without (d := 1306) (a := w) (b := 7) hW hp hm e0 hK (Or.inl hw) (Or.inr rfl), ?_⟩
      rintro i5 l6 dd7 x8 ⟨i2, l2, ⟨⟩, k2, kl2⟩
      have hI5 := kp_I hI4 k2 kl2 (kp_160 hm) (x2 := x)
      obtain ⟨m, e0, hm, hK, -⟩ := hA2 _ _ _ _ hI5
      refine ⟨_, _, mt_without (d := 1306) (a := v) (b := w) hW hp hm e0 hK (Or.inl hv) (Or.inl hw), ?_⟩
      rintro i5 l6 dd7 x8 ⟨i2, l2, ⟨⟩, k2, kl2⟩
      have hI6 := kp_I hI5 k2 kl2 (kp_160 hm) (x2 := x)
      refine ⟨fun g => ?_, fun g => ?_⟩
      · refine tMX11_helps_72 (d := 1310) ⟨fun z => ?_, fun z => ⟨fun y => absurd rfl y, fun _ => ?_⟩⟩
        · rw [if_neg (fun q => by rcases hs with ⟨h1, -⟩ | ⟨-, h2⟩; (rw [h1] at z; exact absurd z (by decide)); exact h2 q.1)] at hr
          rw [← hr] at hQ
          exact hQ _ hI6
        · rw [if_pos ⟨by rcases hs with ⟨-, h1⟩ | ⟨h2, -⟩; exact h1; exact absurd h2 z, g⟩] at hr
          rw [← hr] at hQ
          exact hQ _ hI6
      · rw [if_neg (fun q => q.2 g)] at hr
        rw [← hr] at hQ
        exact tMX11_helps_72 (d := 1310) ⟨fun _ => hQ _ hI6, fun _ => ⟨fun _ => hQ _ hI6, fun z => absurd z (by decide)⟩⟩
    exact ⟨fun g => go 0 _ _ _ hI4 (Or.inr ⟨rfl, g⟩), fun g => go 1 _ _ _ hI4 (Or.inl ⟨rfl, g⟩)⟩
  · rintro ⟨i, l, dd, x⟩ hI
    refine ab_ent (n := 2) okMX12_helps.1 (fun G => Nat.le_of_ble_eq_true rfl) (fun Q hQ => ?_)
    refine tMX12_helps_0 (d := 1310) ?_
    rintro i1 rfl
    have hI2 := la_thr (v := 0) (x2 := x) hI
    obtain ⟨m, e0, hm, -, hM⟩ := hA2 _ _ _ _ hI2
    refine ⟨_, _, mt_isV1 (d := 1309) hW hM, ?_⟩
    rintro i5 l6 dd7 x8 ⟨⟩
    rw [if_pos c1]
    refine ⟨fun z => absurd z (by decide), fun _ => ⟨_, _, mt_isV1 (d := 1309) hW hM, ?_⟩⟩
    rintro i5 l6 dd7 x8 ⟨⟩
    rw [if_pos c2]
    refine ⟨fun z => absurd z (by decide), fun _ => ⟨fun _ => ?_, fun z => absurd z c4⟩⟩
    rw [mt_h7, ← mt_hn (a := v) (by omega), ← mt_hn (a := w) (by omega)]
    refine ⟨_, _, md_without (d := 1306) (a := 7) (b := 7) hW hp hM (Or.inr rfl) (Or.inr rfl), ?_⟩
    rintro i5 l6 dd7 x8 ⟨i3, ⟨⟩, f3⟩
    have hM3 := md_fM hM f3 hW
    refine ⟨_, _, md_without (d := 1306) (a := v) (b := 7) hW hp hM3 (Or.inl hv) (Or.inr rfl), ?_⟩
    rintro i5 l6 dd7 x8 ⟨i4, ⟨⟩, f4⟩
    have hM4 := md_fM hM3 f4 hW
    have hI4 := kp_I hI2 (kp_it (md_kp f3) (md_kp f4)) kp_lr kp_dr (x2 := x)
    refine ⟨fun g => tMX12_helps_49 (d := 1310) ⟨fun _ => ?_, fun z => absurd rfl z⟩, fun g => tMX12_helps_49 (d := 1310) ⟨fun z => absurd z (by decide), fun _ => ?_⟩⟩
    · rw [if_neg (fun q => g q.1)] at hr
      rw [← hr] at hQ
      exact hQ _ hI4
    · rw [mt_h7]
      refine ⟨_, _, md_without (d := 1306) (a := 7) (b := w) hW hp hM4 (Or.inr rfl) (Or.inl hw), ?_⟩
      rintro i5 l6 dd7 x8 ⟨i5, ⟨⟩, f5⟩
      have hM5 := md_fM hM4 f5 hW
      refine ⟨_, _, md_without (d := 1306) (a := v) (b := w) hW hp hM5 (Or.inl hv) (Or.inl hw), ?_⟩
      rintro i5 l6 dd7 x8 ⟨i6, ⟨⟩, f6⟩
      have hI6 := kp_I hI4 (kp_it (md_kp f5) (md_kp f6)) kp_lr kp_dr (x2 := x)
      rw [cs_si_sw (a := 7) hW]
      refine ⟨fun g2 => ?_, fun g2 => ?_⟩
      · rw [if_neg (fun q => q.2 g2)] at hr
        rw [← hr] at hQ
        exact hQ _ hI6
      · rw [if_pos ⟨g, g2⟩] at hr
        rw [← hr] at hQ
        exact hQ _ hI6
/-- the shape of a call that may throw -/
def th_c (M11 M12 : ab_M) (as : List Value) (sc : Nat × (Nat → Int32)) (I : ab_S → Prop) (σ : ab_S) : Prop := ∃ (o : Option Int64) (b : Int64) (P1 P2 : ab_S → Prop), ab_CallX M11 1310 (.ref 3 :: as) σ (ab_E0 sc) (fun v σ1 E1 => E1 = ab_E0 sc ∧ v = o.map (fun w => some (.long w)) ∧ P1 σ1) ∧ (∀ σ1 w, P1 σ1 → P1 (la_o σ1 w)) ∧ (∀ σ1, P1 σ1 → ab_Sp M12 (1310 + 1) (.ref 205 :: as) σ1 (ab_E0 sc) (some (.long b)) (fun σ2 => σ2.2.1 249 0 = σ1.2.1 249 0 ∧ P2 σ2)) ∧ (∀ σ2, P2 σ2 → I σ2 ∧ ab_Sp MX12_thrown (1310 + 1) [.ref 205] σ2 (ab_E0 sc) (some (.int (if o = none then 1 else 0))) (fun σ3 => σ3 = σ2)) ∧ ∀ w, o = some w → w = b
theorem th_ok {R : ab_S → Prop} {M11 M12 : ab_M} {as : List Value} {σ : ab_S} (w : Int64) (h1 : ab_CallX M11 1310 (.ref 3 :: as) σ (ab_E0 sc) (fun v σ1 E1 => E1 = ab_E0 sc ∧ v = some (some (.long w)) ∧ la_I R σ1)) (h2 : ∀ σ1, la_I R σ1 → ab_Sp M12 1311 (.ref 205 :: as) σ1 (ab_E0 sc) (some (.long w)) (fun σ2 => σ2.2.1 249 0 = σ1.2.1 249 0 ∧ la_I R σ2 ∧ σ2.1 205 0 = 0)) : th_c M11 M12 as sc (la_I R) σ := by
  refine ⟨some w, w, la_I R, fun σ => la_I R σ ∧ σ.1 205 0 = 0, h1, fun _ _ h => la_out h, h2, ?_, fun _ h => by cases h; rfl⟩
  rintro ⟨i3, l3, dd3, x3⟩ ⟨h, e⟩
  refine ⟨h, ?_⟩
  rw [if_neg (fun z => by cases z), ← e]
  exact mn_thrown (d := 1310)
theorem th_no {R : ab_S → Prop} {M11 M12 : ab_M} {as : List Value} {σ : ab_S} (h1 : ab_CallX M11 1310 (.ref 3 :: as) σ (ab_E0 sc) (fun v σ1 E1 => E1 = ab_E0 sc ∧ v = none ∧ la_I R σ1)) (h2 : ∀ σ1, la_I R σ1 → ab_Sp M12 1311 (.ref 205 :: as) σ1 (ab_E0 sc) (some (.long 0)) (fun σ2 => σ2.2.1 249 0 = σ1.2.1 249 0 ∧ la_I R σ2 ∧ σ2.1 205 0 = 1)) : th_c M11 M12 as sc (la_I R) σ := by
  refine ⟨none, 0, la_I R, fun σ => la_I R σ ∧ σ.1 205 0 = 1, h1, fun _ _ h => la_out h, h2, ?_, fun _ h => by cases h⟩
  rintro ⟨i3, l3, dd3, x3⟩ ⟨h, e⟩
  refine ⟨h, ?_⟩
  rw [if_pos rfl, ← e]
  exact mn_thrown (d := 1310)
/-- the model refuses -/
theorem th_ref {R : ab_S → Prop} (hI : la_I R (i, l, dd, x)) : ab_Sp MX12_refuse (d + 1) [.ref 205] (i, l, dd, x) (ab_E0 sc) (some (.long 0)) (fun σ => σ.2.1 249 0 = l 249 0 ∧ la_I R σ ∧ σ.1 205 0 = 1) := by
  refine ab_call_mono mn_refuse ?_
  rintro v σ2 E2 ⟨rfl, rfl, rfl⟩
  exact ⟨rfl, rfl, rfl, la_thr hI, show ab_u i 205 0 (1 : Int32) 205 0 = 1 from uu_e⟩
end TQS
