theorem la_nat {n : Nat} (h : n < 2 ^ 31) : (Int32.ofNat n).toInt = n := Int32.toInt_ofNat_of_lt h
theorem la_nn {n : Nat} (h : n < 2 ^ 31) : ¬ Int32.ofNat n < 0 ∧ (Int32.ofNat n).toNatClampNeg = n := by
  refine ⟨fun h2 => ?_, ?_⟩
  · rw [Int32.lt_iff_toInt_lt, la_nat h] at h2
    simp at h2
    omega
  · rw [← Int32.toNat_toInt, la_nat h]
    rfl
theorem la_vp {n len : Nat} (h : n < len) (h2 : len < 2 ^ 31) : vp_in (Int32.ofNat n) len := by
  have h3 := la_nn (n := n) (by omega)
  refine ab_vp ?_
  rw [h3.2]
  simp [h3.1, h]
theorem la_mk {n : Nat} {sc : Nat × (Nat → Int32)} (h : n + 6 ≤ sc.1) (h2 : sc.1 ≤ 3072) : la_in sc (Int32.ofNat n) := by
  have e : ∀ j : Nat, j < 6 → vp_in (Int32.ofNat n + Int32.ofNat j) sc.1 := fun j hj => by
    rw [← Int32.ofNat_add]
    exact la_vp (by omega) (by omega)
  refine ⟨la_vp (by omega) (by omega), e 1 (by omega), e 2 (by omega), e 3 (by omega), e 4 (by omega), e 5 (by omega)⟩
theorem la_gt {n len : Nat} (h : len ≤ 3072) (hn : n ≤ 3078) : Int32.ofNat len - 6 < Int32.ofNat n ↔ len < n + 6 := by
  rw [Int32.lt_iff_toInt_lt, Int32.toInt_sub, la_nat (by omega), la_nat (by omega)]
  rw [show (6 : Int32).toInt = 6 from rfl, Int.bmod_eq_of_le (by omega) (by omega)]
  omega
def la_all (d : Nat) (sc : Nat × (Nat → Int32)) (I : ab_S → Prop) : Prop := la_c0 d sc I ∧ la_c1 d sc I ∧ la_c2 d sc I ∧ la_c3 d sc I ∧ la_c4 d sc I ∧ la_c5 d sc I ∧ la_c6 d sc I ∧ la_c7 d sc I ∧ la_c8 d sc I ∧ la_c9 d sc I ∧ la_c10 d sc I ∧ la_c11 d sc I ∧ la_c12 d sc I ∧ la_c13 d sc I ∧ la_c14 d sc I ∧ la_c15 d sc I ∧ la_c16 d sc I ∧ la_c17 d sc I ∧ la_c18 d sc I ∧ la_c19 d sc I ∧ la_c20 d sc I ∧ la_c21 d sc I ∧ la_c22 d sc I ∧ la_c23 d sc I ∧ la_c24 d sc I ∧ la_c25 d sc I ∧ la_c26 d sc I ∧ la_c27 d sc I ∧ la_c28 d sc I ∧ la_c29 d sc I ∧ la_c30 d sc I ∧ la_c31 d sc I ∧ la_c32 d sc I ∧ la_c33 d sc I ∧ la_c34 d sc I ∧ la_c35 d sc I ∧ la_c36 d sc I ∧ la_c37 d sc I ∧ la_c38 d sc I ∧ la_c39 d sc I ∧ la_c40 d sc I ∧ la_c41 d sc I
theorem la_body {d c z : Nat} {Q : ab_Qt} {sc : Nat × (Nat → Int32)} {i : Int32} {σ : ab_S} {I : ab_S → Prop} (ha : la_all d sc I) (hI : I σ) (hi : la_in sc i) (hz : c + 1 ≤ 601024 ∧ z + 6 ≤ 7293034) (h : ∀ (σ2 : ab_S) (c2 z2 : Nat), I σ2 → c2 ≤ c + 1 → z2 ≤ z + 6 → ab_Fr ML_law (d + 2) Q 1576 (la_L i) [] (c2, z2) σ2 (ab_E0 sc)) : ab_Fr ML_law (d + 2) Q 33 (la_L i) [] (c, z) σ (ab_E0 sc) := by
  refine ab_aloadn dL_law_33 rfl ?_
  refine ab_iload dL_law_34 rfl ?_
  refine ab_sld (v := sc.2 i.toNatClampNeg) dL_law_36 hi.1 rfl ?_
  refine ab_bipush (v := 63) dL_law_37 (by decide) ?_
  refine ab_iand dL_law_39 ?_
  generalize (sc.2 i.toNatClampNeg &&& 63) = x
  rcases ab_tabsplit x 0 42 with c1 | ⟨q, hq, c1⟩
  · exact ab_tabOut (tgt := 1576) dL_law_40 (by simpa using c1) (by decide) (h σ c z hI (Nat.le_add_right _ _) (Nat.le_add_right _ _))
  · match q, hq with
    | 0, _ =>
      have c1 : x.toInt = 0 := by simpa using c1
      exact ab_tabIn (tgt := 224) dL_law_40 (by rw [c1]; decide) (by rw [c1]; decide) (off := 184) (by rw [c1]; rfl) (by decide) (la_case0 ha.1 hI hi hz h)
    | 1, _ =>
      have c1 : x.toInt = 1 := by simpa using c1
      exact ab_tabIn (tgt := 297) dL_law_40 (by rw [c1]; decide) (by rw [c1]; decide) (off := 257) (by rw [c1]; rfl) (by decide) (la_case1 ha.2.1 hI hi hz h)
    | 2, _ =>
      have c1 : x.toInt = 2 := by simpa using c1
      exact ab_tabIn (tgt := 322) dL_law_40 (by rw [c1]; decide) (by rw [c1]; decide) (off := 282) (by rw [c1]; rfl) (by decide) (la_case2 ha.2.2.1 hI hi hz h)
    | 3, _ =>
      have c1 : x.toInt = 3 := by simpa using c1
      exact ab_tabIn (tgt := 335) dL_law_40 (by rw [c1]; decide) (by rw [c1]; decide) (off := 295) (by rw [c1]; rfl) (by decide) (la_case3 ha.2.2.2.1 hI hi hz h)
    | 4, _ =>
      have c1 : x.toInt = 4 := by simpa using c1
      exact ab_tabIn (tgt := 348) dL_law_40 (by rw [c1]; decide) (by rw [c1]; decide) (off := 308) (by rw [c1]; rfl) (by decide) (la_case4 ha.2.2.2.2.1 hI hi hz h)
    | 5, _ =>
      have c1 : x.toInt = 5 := by simpa using c1
      exact ab_tabIn (tgt := 373) dL_law_40 (by rw [c1]; decide) (by rw [c1]; decide) (off := 333) (by rw [c1]; rfl) (by decide) (la_case5 ha.2.2.2.2.2.1 hI hi hz h)
    | 6, _ =>
      have c1 : x.toInt = 6 := by simpa using c1
      exact ab_tabIn (tgt := 398) dL_law_40 (by rw [c1]; decide) (by rw [c1]; decide) (off := 358) (by rw [c1]; rfl) (by decide) (la_case6 ha.2.2.2.2.2.2.1 hI hi hz h)
    | 7, _ =>
      have c1 : x.toInt = 7 := by simpa using c1
      exact ab_tabIn (tgt := 453) dL_law_40 (by rw [c1]; decide) (by rw [c1]; decide) (off := 413) (by rw [c1]; rfl) (by decide) (la_case7 ha.2.2.2.2.2.2.2.1 hI hi hz h)
    | 8, _ =>
      have c1 : x.toInt = 8 := by simpa using c1
      exact ab_tabIn (tgt := 467) dL_law_40 (by rw [c1]; decide) (by rw [c1]; decide) (off := 427) (by rw [c1]; rfl) (by decide) (la_case8 ha.2.2.2.2.2.2.2.2.1 hI hi hz h)
    | 9, _ =>
      have c1 : x.toInt = 9 := by simpa using c1
      exact ab_tabIn (tgt := 504) dL_law_40 (by rw [c1]; decide) (by rw [c1]; decide) (off := 464) (by rw [c1]; rfl) (by decide) (la_case9 ha.2.2.2.2.2.2.2.2.2.1 hI hi hz h)
    | 10, _ =>
      have c1 : x.toInt = 10 := by simpa using c1
      exact ab_tabIn (tgt := 517) dL_law_40 (by rw [c1]; decide) (by rw [c1]; decide) (off := 477) (by rw [c1]; rfl) (by decide) (la_case10 ha.2.2.2.2.2.2.2.2.2.2.1 hI hi hz h)
    | 11, _ =>
      have c1 : x.toInt = 11 := by simpa using c1
      exact ab_tabIn (tgt := 531) dL_law_40 (by rw [c1]; decide) (by rw [c1]; decide) (off := 491) (by rw [c1]; rfl) (by decide) (la_case11 ha.2.2.2.2.2.2.2.2.2.2.2.1 hI hi hz h)
    | 12, _ =>
      have c1 : x.toInt = 12 := by simpa using c1
      exact ab_tabIn (tgt := 598) dL_law_40 (by rw [c1]; decide) (by rw [c1]; decide) (off := 558) (by rw [c1]; rfl) (by decide) (la_case12 ha.2.2.2.2.2.2.2.2.2.2.2.2.1 hI hi hz h)
    | 13, _ =>
      have c1 : x.toInt = 13 := by simpa using c1
      exact ab_tabIn (tgt := 612) dL_law_40 (by rw [c1]; decide) (by rw [c1]; decide) (off := 572) (by rw [c1]; rfl) (by decide) (la_case13 ha.2.2.2.2.2.2.2.2.2.2.2.2.2.1 hI hi hz h)
    | 14, _ =>
      have c1 : x.toInt = 14 := by simpa using c1
      exact ab_tabIn (tgt := 625) dL_law_40 (by rw [c1]; decide) (by rw [c1]; decide) (off := 585) (by rw [c1]; rfl) (by decide) (la_case14 ha.2.2.2.2.2.2.2.2.2.2.2.2.2.2.1 hI hi hz h)
    | 15, _ =>
      have c1 : x.toInt = 15 := by simpa using c1
      exact ab_tabIn (tgt := 680) dL_law_40 (by rw [c1]; decide) (by rw [c1]; decide) (off := 640) (by rw [c1]; rfl) (by decide) (la_case15 ha.2.2.2.2.2.2.2.2.2.2.2.2.2.2.2.1 hI hi hz h)
    | 16, _ =>
      have c1 : x.toInt = 16 := by simpa using c1
      exact ab_tabIn (tgt := 747) dL_law_40 (by rw [c1]; decide) (by rw [c1]; decide) (off := 707) (by rw [c1]; rfl) (by decide) (la_case16 ha.2.2.2.2.2.2.2.2.2.2.2.2.2.2.2.2.1 hI hi hz h)
    | 17, _ =>
      have c1 : x.toInt = 17 := by simpa using c1
      exact ab_tabIn (tgt := 826) dL_law_40 (by rw [c1]; decide) (by rw [c1]; decide) (off := 786) (by rw [c1]; rfl) (by decide) (la_case17 ha.2.2.2.2.2.2.2.2.2.2.2.2.2.2.2.2.2.1 hI hi hz h)
    | 18, _ =>
      have c1 : x.toInt = 18 := by simpa using c1
      exact ab_tabIn (tgt := 863) dL_law_40 (by rw [c1]; decide) (by rw [c1]; decide) (off := 823) (by rw [c1]; rfl) (by decide) (la_case18 ha.2.2.2.2.2.2.2.2.2.2.2.2.2.2.2.2.2.2.1 hI hi hz h)
    | 19, _ =>
      have c1 : x.toInt = 19 := by simpa using c1
      exact ab_tabIn (tgt := 876) dL_law_40 (by rw [c1]; decide) (by rw [c1]; decide) (off := 836) (by rw [c1]; rfl) (by decide) (la_case19 ha.2.2.2.2.2.2.2.2.2.2.2.2.2.2.2.2.2.2.2.1 hI hi hz h)
    | 20, _ =>
      have c1 : x.toInt = 20 := by simpa using c1
      exact ab_tabIn (tgt := 889) dL_law_40 (by rw [c1]; decide) (by rw [c1]; decide) (off := 849) (by rw [c1]; rfl) (by decide) (la_case20 ha.2.2.2.2.2.2.2.2.2.2.2.2.2.2.2.2.2.2.2.2.1 hI hi hz h)
    | 21, _ =>
      have c1 : x.toInt = 21 := by simpa using c1
      exact ab_tabIn (tgt := 926) dL_law_40 (by rw [c1]; decide) (by rw [c1]; decide) (off := 886) (by rw [c1]; rfl) (by decide) (la_case21 ha.2.2.2.2.2.2.2.2.2.2.2.2.2.2.2.2.2.2.2.2.2.1 hI hi hz h)
    | 22, _ =>
      have c1 : x.toInt = 22 := by simpa using c1
      exact ab_tabIn (tgt := 952) dL_law_40 (by rw [c1]; decide) (by rw [c1]; decide) (off := 912) (by rw [c1]; rfl) (by decide) (la_case22 ha.2.2.2.2.2.2.2.2.2.2.2.2.2.2.2.2.2.2.2.2.2.2.1 hI hi hz h)
    | 23, _ =>
      have c1 : x.toInt = 23 := by simpa using c1
      exact ab_tabIn (tgt := 966) dL_law_40 (by rw [c1]; decide) (by rw [c1]; decide) (off := 926) (by rw [c1]; rfl) (by decide) (la_case23 ha.2.2.2.2.2.2.2.2.2.2.2.2.2.2.2.2.2.2.2.2.2.2.2.1 hI hi hz h)
    | 24, _ =>
      have c1 : x.toInt = 24 := by simpa using c1
      exact ab_tabIn (tgt := 992) dL_law_40 (by rw [c1]; decide) (by rw [c1]; decide) (off := 952) (by rw [c1]; rfl) (by decide) (la_case24 ha.2.2.2.2.2.2.2.2.2.2.2.2.2.2.2.2.2.2.2.2.2.2.2.2.1 hI hi hz h)
    | 25, _ =>
      have c1 : x.toInt = 25 := by simpa using c1
      exact ab_tabIn (tgt := 1005) dL_law_40 (by rw [c1]; decide) (by rw [c1]; decide) (off := 965) (by rw [c1]; rfl) (by decide) (la_case25 ha.2.2.2.2.2.2.2.2.2.2.2.2.2.2.2.2.2.2.2.2.2.2.2.2.2.1 hI hi hz h)
    | 26, _ =>
      have c1 : x.toInt = 26 := by simpa using c1
      exact ab_tabIn (tgt := 1018) dL_law_40 (by rw [c1]; decide) (by rw [c1]; decide) (off := 978) (by rw [c1]; rfl) (by decide) (la_case26 ha.2.2.2.2.2.2.2.2.2.2.2.2.2.2.2.2.2.2.2.2.2.2.2.2.2.2.1 hI hi hz h)
    | 27, _ =>
      have c1 : x.toInt = 27 := by simpa using c1
      exact ab_tabIn (tgt := 1031) dL_law_40 (by rw [c1]; decide) (by rw [c1]; decide) (off := 991) (by rw [c1]; rfl) (by decide) (la_case27 ha.2.2.2.2.2.2.2.2.2.2.2.2.2.2.2.2.2.2.2.2.2.2.2.2.2.2.2.1 hI hi hz h)
    | 28, _ =>
      have c1 : x.toInt = 28 := by simpa using c1
      exact ab_tabIn (tgt := 1074) dL_law_40 (by rw [c1]; decide) (by rw [c1]; decide) (off := 1034) (by rw [c1]; rfl) (by decide) (la_case28 ha.2.2.2.2.2.2.2.2.2.2.2.2.2.2.2.2.2.2.2.2.2.2.2.2.2.2.2.2.1 hI hi hz h)
    | 29, _ =>
      have c1 : x.toInt = 29 := by simpa using c1
      exact ab_tabIn (tgt := 1111) dL_law_40 (by rw [c1]; decide) (by rw [c1]; decide) (off := 1071) (by rw [c1]; rfl) (by decide) (la_case29 ha.2.2.2.2.2.2.2.2.2.2.2.2.2.2.2.2.2.2.2.2.2.2.2.2.2.2.2.2.2.1 hI hi hz h)
    | 30, _ =>
      have c1 : x.toInt = 30 := by simpa using c1
      exact ab_tabIn (tgt := 1125) dL_law_40 (by rw [c1]; decide) (by rw [c1]; decide) (off := 1085) (by rw [c1]; rfl) (by decide) (la_case30 ha.2.2.2.2.2.2.2.2.2.2.2.2.2.2.2.2.2.2.2.2.2.2.2.2.2.2.2.2.2.2.1 hI hi hz h)
    | 31, _ =>
      have c1 : x.toInt = 31 := by simpa using c1
      exact ab_tabIn (tgt := 1138) dL_law_40 (by rw [c1]; decide) (by rw [c1]; decide) (off := 1098) (by rw [c1]; rfl) (by decide) (la_case31 ha.2.2.2.2.2.2.2.2.2.2.2.2.2.2.2.2.2.2.2.2.2.2.2.2.2.2.2.2.2.2.2.1 hI hi hz h)
    | 32, _ =>
      have c1 : x.toInt = 32 := by simpa using c1
      exact ab_tabIn (tgt := 1175) dL_law_40 (by rw [c1]; decide) (by rw [c1]; decide) (off := 1135) (by rw [c1]; rfl) (by decide) (la_case32 ha.2.2.2.2.2.2.2.2.2.2.2.2.2.2.2.2.2.2.2.2.2.2.2.2.2.2.2.2.2.2.2.2.1 hI hi hz h)
    | 33, _ =>
      have c1 : x.toInt = 33 := by simpa using c1
      exact ab_tabIn (tgt := 1224) dL_law_40 (by rw [c1]; decide) (by rw [c1]; decide) (off := 1184) (by rw [c1]; rfl) (by decide) (la_case33 ha.2.2.2.2.2.2.2.2.2.2.2.2.2.2.2.2.2.2.2.2.2.2.2.2.2.2.2.2.2.2.2.2.2.1 hI hi hz h)
    | 34, _ =>
      have c1 : x.toInt = 34 := by simpa using c1
      exact ab_tabIn (tgt := 1291) dL_law_40 (by rw [c1]; decide) (by rw [c1]; decide) (off := 1251) (by rw [c1]; rfl) (by decide) (la_case34 ha.2.2.2.2.2.2.2.2.2.2.2.2.2.2.2.2.2.2.2.2.2.2.2.2.2.2.2.2.2.2.2.2.2.2.1 hI hi hz h)
    | 35, _ =>
      have c1 : x.toInt = 35 := by simpa using c1
      exact ab_tabIn (tgt := 1370) dL_law_40 (by rw [c1]; decide) (by rw [c1]; decide) (off := 1330) (by rw [c1]; rfl) (by decide) (la_case35 ha.2.2.2.2.2.2.2.2.2.2.2.2.2.2.2.2.2.2.2.2.2.2.2.2.2.2.2.2.2.2.2.2.2.2.2.1 hI hi hz h)
    | 36, _ =>
      have c1 : x.toInt = 36 := by simpa using c1
      exact ab_tabIn (tgt := 1383) dL_law_40 (by rw [c1]; decide) (by rw [c1]; decide) (off := 1343) (by rw [c1]; rfl) (by decide) (la_case36 ha.2.2.2.2.2.2.2.2.2.2.2.2.2.2.2.2.2.2.2.2.2.2.2.2.2.2.2.2.2.2.2.2.2.2.2.2.1 hI hi hz h)
    | 37, _ =>
      have c1 : x.toInt = 37 := by simpa using c1
      exact ab_tabIn (tgt := 1420) dL_law_40 (by rw [c1]; decide) (by rw [c1]; decide) (off := 1380) (by rw [c1]; rfl) (by decide) (la_case37 ha.2.2.2.2.2.2.2.2.2.2.2.2.2.2.2.2.2.2.2.2.2.2.2.2.2.2.2.2.2.2.2.2.2.2.2.2.2.1 hI hi hz h)
    | 38, _ =>
      have c1 : x.toInt = 38 := by simpa using c1
      exact ab_tabIn (tgt := 1434) dL_law_40 (by rw [c1]; decide) (by rw [c1]; decide) (off := 1394) (by rw [c1]; rfl) (by decide) (la_case38 ha.2.2.2.2.2.2.2.2.2.2.2.2.2.2.2.2.2.2.2.2.2.2.2.2.2.2.2.2.2.2.2.2.2.2.2.2.2.2.1 hI hi hz h)
    | 39, _ =>
      have c1 : x.toInt = 39 := by simpa using c1
      exact ab_tabIn (tgt := 1459) dL_law_40 (by rw [c1]; decide) (by rw [c1]; decide) (off := 1419) (by rw [c1]; rfl) (by decide) (la_case39 ha.2.2.2.2.2.2.2.2.2.2.2.2.2.2.2.2.2.2.2.2.2.2.2.2.2.2.2.2.2.2.2.2.2.2.2.2.2.2.2.1 hI hi hz h)
    | 40, _ =>
      have c1 : x.toInt = 40 := by simpa using c1
      exact ab_tabIn (tgt := 1472) dL_law_40 (by rw [c1]; decide) (by rw [c1]; decide) (off := 1432) (by rw [c1]; rfl) (by decide) (la_case40 ha.2.2.2.2.2.2.2.2.2.2.2.2.2.2.2.2.2.2.2.2.2.2.2.2.2.2.2.2.2.2.2.2.2.2.2.2.2.2.2.2.1 hI hi hz h)
    | 41, _ =>
      have c1 : x.toInt = 41 := by simpa using c1
      exact ab_tabIn (tgt := 1539) dL_law_40 (by rw [c1]; decide) (by rw [c1]; decide) (off := 1499) (by rw [c1]; rfl) (by decide) (la_case41 ha.2.2.2.2.2.2.2.2.2.2.2.2.2.2.2.2.2.2.2.2.2.2.2.2.2.2.2.2.2.2.2.2.2.2.2.2.2.2.2.2.2 hI hi hz h)
    | n + 42, hq => exact absurd hq (by omega)
theorem la_loop {d : Nat} {Q : ab_Qt} {sc : Nat × (Nat → Int32)} {I : ab_S → Prop} (hs : sc.1 ≤ 3072) (ha : la_all d sc I) (hQ : ∀ σ, I σ → Q (some (some (.int 1))) σ (ab_E0 sc)) : ∀ (m k c z : Nat) (σ : ab_S), sc.1 ≤ 6 * k + m → 6 * k ≤ sc.1 + 0 ∨ k = 0 → c ≤ 247 + k → z ≤ 197416 + 6 * k → I σ → ab_Fr ML_law (d + 2) Q 23 (la_L (Int32.ofNat (6 * k))) [] (c, z) σ (ab_E0 sc) := by
  intro m
  induction m with
  | zero => 
    intro k c z σ hm hk hc hz hI
    refine ab_iload dL_law_23 rfl ?_
    refine ab_aloadn dL_law_25 rfl ?_
    refine ab_slen (v := Int32.ofNat sc.1) dL_law_26 rfl ?_
    refine ab_bipush (v := 6) dL_law_27 (by decide) ?_
    refine ab_isub dL_law_29 ?_
    refine ab_icmp_gt (tgt := 1582) dL_law_30 (by decide) (fun _ => ?_) (fun z9 => absurd ((la_gt hs (by omega)).mpr (by omega)) z9)
    refine ab_iconst (v := 1) dL_law_1582 (by decide) ?_
    exact ab_zret dL_law_1583 rfl (Or.inr rfl) ⟨show c ≤ 601024 by omega, show z ≤ 7293034 by omega⟩ (hQ σ hI)
  | succ m ih =>
    intro k c z σ hm hk hc hz hI
    refine ab_iload dL_law_23 rfl ?_
    refine ab_aloadn dL_law_25 rfl ?_
    refine ab_slen (v := Int32.ofNat sc.1) dL_law_26 rfl ?_
    refine ab_bipush (v := 6) dL_law_27 (by decide) ?_
    refine ab_isub dL_law_29 ?_
    refine ab_icmp_gt (tgt := 1582) dL_law_30 (by decide) (fun _ => ?_) (fun z9 => ?_)
    · refine ab_iconst (v := 1) dL_law_1582 (by decide) ?_
      exact ab_zret dL_law_1583 rfl (Or.inr rfl) ⟨show c ≤ 601024 by omega, show z ≤ 7293034 by omega⟩ (hQ σ hI)
    · have h6 : 6 * k + 6 ≤ sc.1 := by
        have h9 : ¬ sc.1 < 6 * k + 6 := fun h8 => z9 ((la_gt hs (by omega)).mpr h8)
        omega
      refine la_body ha hI (la_mk h6 hs) ⟨by omega, by omega⟩ ?_
      intro σ2 c2 z2 hI2 hc2 hz2
      refine ab_iinc (v := Int32.ofNat (6 * (k + 1))) dL_law_1576 rfl (by rw [show 6 * (k + 1) = 6 * k + 6 from by omega, Int32.ofNat_add]; rfl) (Nat.le_of_ble_eq_true rfl) (L2 := la_L (Int32.ofNat (6 * (k + 1)))) rfl ?_
      refine ab_goto (tgt := 23) dL_law_1579 (by decide) ?_
      exact ih (k + 1) c2 z2 σ2 (by omega) (Or.inl (by omega)) (by omega) (by omega) hI2
