theorem tMX0_becomePlain_0 {d : Nat} {Q : ab_Qt} {sc : Nat × (Nat → Int32)} {i : Nat → Nat → Int32} {l : Nat → Nat → Int64} {dd : Nat → Nat → Value} {x : Nat} {a0 : Nat} (k_a0 : ab_isLo a0)
    (h : ab_Fr MX0_becomePlain (d + 1) Q 2 [some (.ref a0), some (.int 0), none] [] (0, 0) (i, l, dd, x) (ab_E0 sc)) :
    ab_Fr MX0_becomePlain (d + 1) Q 0 [some (.ref a0), none, none] [] (0, 0) (i, l, dd, x) (ab_E0 sc) := by
  refine ab_iconst (v := 0) dX0_becomePlain_0 (by decide) ?_
  refine ab_istoren dX0_becomePlain_1 (Nat.le_of_ble_eq_true rfl) (L2 := [some (.ref a0), some (.int 0), none]) rfl ?_
  exact h
theorem tMX0_becomePlain_2 {d : Nat} {Q : ab_Qt} {sc : Nat × (Nat → Int32)} {i : Nat → Nat → Int32} {l : Nat → Nat → Int64} {dd : Nat → Nat → Value} {x : Nat} {a0 : Nat} {a1 : Int32} (k_a0 : ab_isLo a0)
    (h : ((3 ≤ a1 → Q (some none) (i, l, dd, x) (ab_E0 sc)) ∧ (¬ 3 ≤ a1 → ab_Fr MX0_becomePlain (d + 1) Q 9 [some (.ref a0), some (.int a1), some (.int 0)] [] (0, 0) (i, l, dd, x) (ab_E0 sc)))) :
    ab_Fr MX0_becomePlain (d + 1) Q 2 [some (.ref a0), some (.int a1), none] [] (0, 0) (i, l, dd, x) (ab_E0 sc) := by
  refine ab_iloadn dX0_becomePlain_2 rfl ?_
  refine ab_iconst (v := 3) dX0_becomePlain_3 (by decide) ?_
  refine ab_icmp_ge (tgt := 46) dX0_becomePlain_4 (by decide) (fun c1 => ?_) (fun c1 => ?_)
  · exact ab_vret dX0_becomePlain_46 rfl ⟨Nat.zero_le _, Nat.zero_le _⟩ (h.1 c1)
  · refine ab_iconst (v := 0) dX0_becomePlain_7 (by decide) ?_
    refine ab_istoren dX0_becomePlain_8 (Nat.le_of_ble_eq_true rfl) (L2 := [some (.ref a0), some (.int a1), some (.int 0)]) rfl ?_
    exact (h.2 c1)
theorem tMX0_becomePlain_9 {d : Nat} {Q : ab_Qt} {sc : Nat × (Nat → Int32)} {i : Nat → Nat → Int32} {l : Nat → Nat → Int64} {dd : Nat → Nat → Value} {x : Nat} {a0 : Nat} {a1 : Int32} {a2 : Int32} (k_a0 : ab_isLo a0)
    (h : ((3 ≤ a2 → ab_Fr MX0_becomePlain (d + 1) Q 2 [some (.ref a0), some (.int (a1 + 1)), none] [] (0, 0) (i, l, dd, x) (ab_E0 sc)) ∧ (¬ 3 ≤ a2 → ((¬ a1 = a2 → (vp_in ((a1 * 3) + a2) 9 ∧ ∀ i3, i3 = ab_u i (a0 + 1) ((a1 * 3) + a2).toNatClampNeg 1 → ab_Fr MX0_becomePlain (d + 1) Q 9 [some (.ref a0), some (.int a1), some (.int (a2 + 1))] [] (0, 0) (i3, l, dd, x) (ab_E0 sc))) ∧ (a1 = a2 → (vp_in ((a1 * 3) + a2) 9 ∧ ∀ i5, i5 = ab_u i (a0 + 1) ((a1 * 3) + a2).toNatClampNeg 0 → ab_Fr MX0_becomePlain (d + 1) Q 9 [some (.ref a0), some (.int a1), some (.int (a2 + 1))] [] (0, 0) (i5, l, dd, x) (ab_E0 sc))))))) :
    ab_Fr MX0_becomePlain (d + 1) Q 9 [some (.ref a0), some (.int a1), some (.int a2)] [] (0, 0) (i, l, dd, x) (ab_E0 sc) := by
  refine ab_iloadn dX0_becomePlain_9 rfl ?_
  refine ab_iconst (v := 3) dX0_becomePlain_10 (by decide) ?_
  refine ab_icmp_ge (tgt := 40) dX0_becomePlain_11 (by decide) (fun c1 => ?_) (fun c1 => ?_)
  · refine ab_iinc (v := (a1 + 1)) dX0_becomePlain_40 rfl (by rfl) (Nat.le_of_ble_eq_true rfl) (L2 := [some (.ref a0), some (.int (a1 + 1)), some (.int a2)]) rfl ?_
    refine ab_goto (tgt := 2) dX0_becomePlain_43 (by decide) ?_
    refine ab_forget (i := 2) (L2 := [some (.ref a0), some (.int (a1 + 1)), none]) rfl ?_
    exact (h.1 c1)
  · refine ab_aloadn dX0_becomePlain_14 rfl ?_
    refine ab_getf (v := .ref (a0 + 1)) dX0_becomePlain_15 fl_X0_9 (kLo k_a0) (fLo_0 k_a0) ?_
    refine ab_iloadn dX0_becomePlain_18 rfl ?_
    refine ab_iconst (v := 3) dX0_becomePlain_19 (by decide) ?_
    refine ab_imul dX0_becomePlain_20 ?_
    refine ab_iloadn dX0_becomePlain_21 rfl ?_
    refine ab_iadd dX0_becomePlain_22 ?_
    refine ab_iloadn dX0_becomePlain_23 rfl ?_
    refine ab_iloadn dX0_becomePlain_24 rfl ?_
    refine ab_icmp_ne (tgt := 32) dX0_becomePlain_25 (by decide) (fun c2 => ?_) (fun c2 => ?_)
    · refine ab_iconst (v := 1) dX0_becomePlain_32 (by decide) ?_
      refine ab_iastore dX0_becomePlain_33 (kLo_1 k_a0) ((h.2 c1).1 c2).1 ?_
      obtain ⟨i3, e4⟩ : ∃ z, z = ab_u i (a0 + 1) ((a1 * 3) + a2).toNatClampNeg 1 := ⟨_, rfl⟩
      rw [show ab_u i (a0 + 1) ((a1 * 3) + a2).toNatClampNeg 1 = i3 from e4.symm]
      refine ab_iinc (v := (a2 + 1)) dX0_becomePlain_34 rfl (by rfl) (Nat.le_of_ble_eq_true rfl) (L2 := [some (.ref a0), some (.int a1), some (.int (a2 + 1))]) rfl ?_
      refine ab_goto (tgt := 9) dX0_becomePlain_37 (by decide) ?_
      exact (((h.2 c1).1 c2).2 i3 e4)
    · refine ab_iconst (v := 0) dX0_becomePlain_28 (by decide) ?_
      refine ab_goto (tgt := 33) dX0_becomePlain_29 (by decide) ?_
      refine ab_iastore dX0_becomePlain_33 (kLo_1 k_a0) ((h.2 c1).2 c2).1 ?_
      obtain ⟨i5, e6⟩ : ∃ z, z = ab_u i (a0 + 1) ((a1 * 3) + a2).toNatClampNeg 0 := ⟨_, rfl⟩
      rw [show ab_u i (a0 + 1) ((a1 * 3) + a2).toNatClampNeg 0 = i5 from e6.symm]
      refine ab_iinc (v := (a2 + 1)) dX0_becomePlain_34 rfl (by rfl) (Nat.le_of_ble_eq_true rfl) (L2 := [some (.ref a0), some (.int a1), some (.int (a2 + 1))]) rfl ?_
      refine ab_goto (tgt := 9) dX0_becomePlain_37 (by decide) ?_
      exact (((h.2 c1).2 c2).2 i5 e6)
theorem tMX0_leastOf_0 {d : Nat} {Q : ab_Qt} {sc : Nat × (Nat → Int32)} {i : Nat → Nat → Int32} {l : Nat → Nat → Int64} {dd : Nat → Nat → Value} {x : Nat} {a0 : Nat} {a1 : Int32} {a2 : Nat} {n_a2 : Nat} {a3 : Int32} (k_a0 : ab_isLo a0) (k_a2 : (ab_E0 sc).1 a2 = .inr (1, n_a2))
    (h : (∃ (r1 : Int64) (P2 : ab_S → Prop), ab_Sp MX0_lostAt d [.ref a0, .int 0, .ref a2, .int a3] (i, l, dd, x) (ab_E0 sc) (some (.long r1)) P2 ∧ ∀ i5 l6 dd7 x8, P2 (i5, l6, dd7, x8) → ab_Fr MX0_leastOf (d + 1) Q 15 [some (.ref a0), some (.int a1), some (.ref a2), some (.int a3), some (.int 0), some (.long r1), none, some (.int 1), none, none] [] (0, 0) (i5, l6, dd7, x8) (ab_E0 sc))) :
    ab_Fr MX0_leastOf (d + 1) Q 0 [some (.ref a0), some (.int a1), some (.ref a2), some (.int a3), none, none, none, none, none, none] [] (0, 0) (i, l, dd, x) (ab_E0 sc) := by
  refine ab_iconst (v := 0) dX0_leastOf_0 (by decide) ?_
  refine ab_istore dX0_leastOf_1 (Nat.le_of_ble_eq_true rfl) (L2 := [some (.ref a0), some (.int a1), some (.ref a2), some (.int a3), some (.int 0), none, none, none, none, none]) rfl ?_
  refine ab_aloadn dX0_leastOf_3 rfl ?_
  refine ab_iconst (v := 0) dX0_leastOf_4 (by decide) ?_
  refine ab_aloadn dX0_leastOf_5 rfl ?_
  refine ab_iloadn dX0_leastOf_6 rfl ?_
  obtain ⟨r1, P2, hs3, hk4⟩ := h
  refine ab_callV (vs := [.int 0, .ref a2, .int a3]) (st := []) dX0_leastOf_7 okMX0_lostAt wd_654 (kLo k_a0) rfl rfl rfl (Nat.le_of_ble_eq_true rfl) ⟨Nat.le_of_ble_eq_true rfl, Nat.le_of_ble_eq_true rfl⟩ hs3 ?_
  rintro v9 ⟨i5, l6, dd7, x8⟩ E9 - ⟨rfl, rfl, hp9⟩
  show ab_Fr MX0_leastOf (d + 1) Q 10 [some (.ref a0), some (.int a1), some (.ref a2), some (.int a3), some (.int 0), none, none, none, none, none] [.long r1] (0, 0) (i5, l6, dd7, x8) (ab_E0 sc)
  refine ab_lstore dX0_leastOf_10 (Nat.le_of_ble_eq_true rfl) (L2 := [some (.ref a0), some (.int a1), some (.ref a2), some (.int a3), some (.int 0), some (.long r1), none, none, none, none]) rfl ?_
  refine ab_iconst (v := 1) dX0_leastOf_12 (by decide) ?_
  refine ab_istore dX0_leastOf_13 (Nat.le_of_ble_eq_true rfl) (L2 := [some (.ref a0), some (.int a1), some (.ref a2), some (.int a3), some (.int 0), some (.long r1), none, some (.int 1), none, none]) rfl ?_
  exact (hk4 i5 l6 dd7 x8 hp9)
theorem tMX0_leastOf_15 {d : Nat} {Q : ab_Qt} {sc : Nat × (Nat → Int32)} {i : Nat → Nat → Int32} {l : Nat → Nat → Int64} {dd : Nat → Nat → Value} {x : Nat} {a0 : Nat} {a1 : Int32} {a2 : Nat} {n_a2 : Nat} {a3 : Int32} {a4 : Int32} {a5 : Int64} {a7 : Int32} (k_a0 : ab_isLo a0) (k_a2 : (ab_E0 sc).1 a2 = .inr (1, n_a2))
    (h : ((a1 ≤ a7 → Q (some (some (.int a4))) (i, l, dd, x) (ab_E0 sc)) ∧ (¬ a1 ≤ a7 → (∃ (r2 : Int64) (P3 : ab_S → Prop), ab_Sp MX0_lostAt d [.ref a0, .int a7, .ref a2, .int a3] (i, l, dd, x) (ab_E0 sc) (some (.long r2)) P3 ∧ ∀ i6 l7 dd8 x9, P3 (i6, l7, dd8, x9) → ((¬ r2 < a5 → ab_Fr MX0_leastOf (d + 1) Q 15 [some (.ref a0), some (.int a1), some (.ref a2), some (.int a3), some (.int a4), some (.long a5), none, some (.int (a7 + 1)), none, none] [] (0, 0) (i6, l7, dd8, x9) (ab_E0 sc)) ∧ (r2 < a5 → ab_Fr MX0_leastOf (d + 1) Q 15 [some (.ref a0), some (.int a1), some (.ref a2), some (.int a3), some (.int a7), some (.long r2), none, some (.int (a7 + 1)), none, none] [] (0, 0) (i6, l7, dd8, x9) (ab_E0 sc))))))) :
    ab_Fr MX0_leastOf (d + 1) Q 15 [some (.ref a0), some (.int a1), some (.ref a2), some (.int a3), some (.int a4), some (.long a5), none, some (.int a7), none, none] [] (0, 0) (i, l, dd, x) (ab_E0 sc) := by
  refine ab_iload dX0_leastOf_15 rfl ?_
  refine ab_iloadn dX0_leastOf_17 rfl ?_
  refine ab_icmp_ge (tgt := 53) dX0_leastOf_18 (by decide) (fun c1 => ?_) (fun c1 => ?_)
  · refine ab_iload dX0_leastOf_53 rfl ?_
    exact ab_iret dX0_leastOf_55 rfl ⟨Nat.zero_le _, Nat.zero_le _⟩ (h.1 c1)
  · refine ab_aloadn dX0_leastOf_21 rfl ?_
    refine ab_iload dX0_leastOf_22 rfl ?_
    refine ab_aloadn dX0_leastOf_24 rfl ?_
    refine ab_iloadn dX0_leastOf_25 rfl ?_
    obtain ⟨r2, P3, hs4, hk5⟩ := (h.2 c1)
    refine ab_callV (vs := [.int a7, .ref a2, .int a3]) (st := []) dX0_leastOf_26 okMX0_lostAt wd_654 (kLo k_a0) rfl rfl rfl (Nat.le_of_ble_eq_true rfl) ⟨Nat.le_of_ble_eq_true rfl, Nat.le_of_ble_eq_true rfl⟩ hs4 ?_
    rintro v9 ⟨i6, l7, dd8, x9⟩ E9 - ⟨rfl, rfl, hp10⟩
    show ab_Fr MX0_leastOf (d + 1) Q 29 [some (.ref a0), some (.int a1), some (.ref a2), some (.int a3), some (.int a4), some (.long a5), none, some (.int a7), none, none] [.long r2] (0, 0) (i6, l7, dd8, x9) (ab_E0 sc)
    refine ab_lstore dX0_leastOf_29 (Nat.le_of_ble_eq_true rfl) (L2 := [some (.ref a0), some (.int a1), some (.ref a2), some (.int a3), some (.int a4), some (.long a5), none, some (.int a7), some (.long r2), none]) rfl ?_
    refine ab_lload dX0_leastOf_31 rfl ?_
    refine ab_lload dX0_leastOf_33 rfl ?_
    refine ab_lcge (tgt := 47) dX0_leastOf_35 dX0_leastOf_36 (by decide) (fun c11 => ?_) (fun c11 => ?_)
    · refine ab_iinc (v := (a7 + 1)) dX0_leastOf_47 rfl (by rfl) (Nat.le_of_ble_eq_true rfl) (L2 := [some (.ref a0), some (.int a1), some (.ref a2), some (.int a3), some (.int a4), some (.long a5), none, some (.int (a7 + 1)), some (.long r2), none]) rfl ?_
      refine ab_goto (tgt := 15) dX0_leastOf_50 (by decide) ?_
      refine ab_forget (i := 8) (L2 := [some (.ref a0), some (.int a1), some (.ref a2), some (.int a3), some (.int a4), some (.long a5), none, some (.int (a7 + 1)), none, none]) rfl ?_
      exact ((hk5 i6 l7 dd8 x9 hp10).1 c11)
    · refine ab_lload dX0_leastOf_39 rfl ?_
      refine ab_lstore dX0_leastOf_41 (Nat.le_of_ble_eq_true rfl) (L2 := [some (.ref a0), some (.int a1), some (.ref a2), some (.int a3), some (.int a4), some (.long r2), none, some (.int a7), some (.long r2), none]) rfl ?_
      refine ab_iload dX0_leastOf_43 rfl ?_
      refine ab_istore dX0_leastOf_45 (Nat.le_of_ble_eq_true rfl) (L2 := [some (.ref a0), some (.int a1), some (.ref a2), some (.int a3), some (.int a7), some (.long r2), none, some (.int a7), some (.long r2), none]) rfl ?_
      refine ab_iinc (v := (a7 + 1)) dX0_leastOf_47 rfl (by rfl) (Nat.le_of_ble_eq_true rfl) (L2 := [some (.ref a0), some (.int a1), some (.ref a2), some (.int a3), some (.int a7), some (.long r2), none, some (.int (a7 + 1)), some (.long r2), none]) rfl ?_
      refine ab_goto (tgt := 15) dX0_leastOf_50 (by decide) ?_
      refine ab_forget (i := 8) (L2 := [some (.ref a0), some (.int a1), some (.ref a2), some (.int a3), some (.int a7), some (.long r2), none, some (.int (a7 + 1)), none, none]) rfl ?_
      exact ((hk5 i6 l7 dd8 x9 hp10).2 c11)
theorem tMX0_lostAt_0 {d : Nat} {Q : ab_Qt} {sc : Nat × (Nat → Int32)} {i : Nat → Nat → Int32} {l : Nat → Nat → Int64} {dd : Nat → Nat → Value} {x : Nat} {a0 : Nat} {a1 : Int32} {a2 : Nat} {n_a2 : Nat} {a3 : Int32} (k_a0 : ab_isLo a0) (k_a2 : (ab_E0 sc).1 a2 = .inr (1, n_a2))
    (h : ab_Fr MX0_lostAt (d + 1) Q 6 [some (.ref a0), some (.int a1), some (.ref a2), some (.int a3), some (.long 0), none, some (.int 0)] [] (0, 0) (i, l, dd, x) (ab_E0 sc)) :
    ab_Fr MX0_lostAt (d + 1) Q 0 [some (.ref a0), some (.int a1), some (.ref a2), some (.int a3), none, none, none] [] (0, 0) (i, l, dd, x) (ab_E0 sc) := by
  refine ab_lconst (v := 0) dX0_lostAt_0 (by decide) ?_
  refine ab_lstore dX0_lostAt_1 (Nat.le_of_ble_eq_true rfl) (L2 := [some (.ref a0), some (.int a1), some (.ref a2), some (.int a3), some (.long 0), none, none]) rfl ?_
  refine ab_iconst (v := 0) dX0_lostAt_3 (by decide) ?_
  refine ab_istore dX0_lostAt_4 (Nat.le_of_ble_eq_true rfl) (L2 := [some (.ref a0), some (.int a1), some (.ref a2), some (.int a3), some (.long 0), none, some (.int 0)]) rfl ?_
  exact h
theorem tMX0_lostAt_6 {d : Nat} {Q : ab_Qt} {sc : Nat × (Nat → Int32)} {i : Nat → Nat → Int32} {l : Nat → Nat → Int64} {dd : Nat → Nat → Value} {x : Nat} {a0 : Nat} {a1 : Int32} {a2 : Nat} {n_a2 : Nat} {a3 : Int32} {a4 : Int64} {a6 : Int32} (k_a0 : ab_isLo a0) (k_a2 : (ab_E0 sc).1 a2 = .inr (1, n_a2))
    (h : ((3 ≤ a6 → Q (some (some (.long a4))) (i, l, dd, x) (ab_E0 sc)) ∧ (¬ 3 ≤ a6 → (vp_in (a3 + a6) n_a2 ∧ vp_in ((a6 * 3) + a1) 9 ∧ ab_Fr MX0_lostAt (d + 1) Q 6 [some (.ref a0), some (.int a1), some (.ref a2), some (.int a3), some (.long (a4 + ((l a2 (a3 + a6).toNatClampNeg) * (i (a0 + 1) ((a6 * 3) + a1).toNatClampNeg).toInt64))), none, some (.int (a6 + 1))] [] (0, 0) (i, l, dd, x) (ab_E0 sc))))) :
    ab_Fr MX0_lostAt (d + 1) Q 6 [some (.ref a0), some (.int a1), some (.ref a2), some (.int a3), some (.long a4), none, some (.int a6)] [] (0, 0) (i, l, dd, x) (ab_E0 sc) := by
  refine ab_iload dX0_lostAt_6 rfl ?_
  refine ab_iconst (v := 3) dX0_lostAt_8 (by decide) ?_
  refine ab_icmp_ge (tgt := 42) dX0_lostAt_9 (by decide) (fun c1 => ?_) (fun c1 => ?_)
  · refine ab_lload dX0_lostAt_42 rfl ?_
    exact ab_lret dX0_lostAt_44 rfl ⟨Nat.zero_le _, Nat.zero_le _⟩ (h.1 c1)
  · refine ab_lload dX0_lostAt_12 rfl ?_
    refine ab_aloadn dX0_lostAt_14 rfl ?_
    refine ab_iloadn dX0_lostAt_15 rfl ?_
    refine ab_iload dX0_lostAt_16 rfl ?_
    refine ab_iadd dX0_lostAt_18 ?_
    refine ab_laload (v := (l a2 (a3 + a6).toNatClampNeg)) dX0_lostAt_19 k_a2 (h.2 c1).1 rfl ?_
    refine ab_aloadn dX0_lostAt_20 rfl ?_
    refine ab_getf (v := .ref (a0 + 1)) dX0_lostAt_21 fl_X0_9 (kLo k_a0) (fLo_0 k_a0) ?_
    refine ab_iload dX0_lostAt_24 rfl ?_
    refine ab_iconst (v := 3) dX0_lostAt_26 (by decide) ?_
    refine ab_imul dX0_lostAt_27 ?_
    refine ab_iloadn dX0_lostAt_28 rfl ?_
    refine ab_iadd dX0_lostAt_29 ?_
    refine ab_iaload (v := (i (a0 + 1) ((a6 * 3) + a1).toNatClampNeg)) dX0_lostAt_30 (kLo_1 k_a0) (h.2 c1).2.1 rfl ?_
    refine ab_i2l dX0_lostAt_31 rfl ?_
    refine ab_lmul dX0_lostAt_32 ?_
    refine ab_ladd dX0_lostAt_33 ?_
    refine ab_lstore dX0_lostAt_34 (Nat.le_of_ble_eq_true rfl) (L2 := [some (.ref a0), some (.int a1), some (.ref a2), some (.int a3), some (.long (a4 + ((l a2 (a3 + a6).toNatClampNeg) * (i (a0 + 1) ((a6 * 3) + a1).toNatClampNeg).toInt64))), none, some (.int a6)]) rfl ?_
    refine ab_iinc (v := (a6 + 1)) dX0_lostAt_36 rfl (by rfl) (Nat.le_of_ble_eq_true rfl) (L2 := [some (.ref a0), some (.int a1), some (.ref a2), some (.int a3), some (.long (a4 + ((l a2 (a3 + a6).toNatClampNeg) * (i (a0 + 1) ((a6 * 3) + a1).toNatClampNeg).toInt64))), none, some (.int (a6 + 1))]) rfl ?_
    refine ab_goto (tgt := 6) dX0_lostAt_39 (by decide) ?_
    exact (h.2 c1).2.2
theorem tMX0_lostBy_0 {d : Nat} {Q : ab_Qt} {sc : Nat × (Nat → Int32)} {i : Nat → Nat → Int32} {l : Nat → Nat → Int64} {dd : Nat → Nat → Value} {x : Nat} {a0 : Nat} {a1 : Nat} {n_a1 : Nat} (k_a0 : ab_isLo a0) (k_a1 : (ab_E0 sc).1 a1 = .inr (1, n_a1))
    (h : ab_Fr MX0_lostBy (d + 1) Q 5 [some (.ref a0), some (.ref a1), some (.long 0), none, some (.int 0)] [] (0, 0) (i, l, dd, x) (ab_E0 sc)) :
    ab_Fr MX0_lostBy (d + 1) Q 0 [some (.ref a0), some (.ref a1), none, none, none] [] (0, 0) (i, l, dd, x) (ab_E0 sc) := by
  refine ab_lconst (v := 0) dX0_lostBy_0 (by decide) ?_
  refine ab_lstoren dX0_lostBy_1 (Nat.le_of_ble_eq_true rfl) (L2 := [some (.ref a0), some (.ref a1), some (.long 0), none, none]) rfl ?_
  refine ab_iconst (v := 0) dX0_lostBy_2 (by decide) ?_
  refine ab_istore dX0_lostBy_3 (Nat.le_of_ble_eq_true rfl) (L2 := [some (.ref a0), some (.ref a1), some (.long 0), none, some (.int 0)]) rfl ?_
  exact h
theorem tMX0_lostBy_5 {d : Nat} {Q : ab_Qt} {sc : Nat × (Nat → Int32)} {i : Nat → Nat → Int32} {l : Nat → Nat → Int64} {dd : Nat → Nat → Value} {x : Nat} {a0 : Nat} {a1 : Nat} {n_a1 : Nat} {a2 : Int64} {a4 : Int32} (k_a0 : ab_isLo a0) (k_a1 : (ab_E0 sc).1 a1 = .inr (1, n_a1))
    (h : ((9 ≤ a4 → Q (some (some (.long a2))) (i, l, dd, x) (ab_E0 sc)) ∧ (¬ 9 ≤ a4 → (vp_in a4 n_a1 ∧ vp_in a4 9 ∧ ab_Fr MX0_lostBy (d + 1) Q 5 [some (.ref a0), some (.ref a1), some (.long (a2 + ((l a1 a4.toNatClampNeg) * (i (a0 + 1) a4.toNatClampNeg).toInt64))), none, some (.int (a4 + 1))] [] (0, 0) (i, l, dd, x) (ab_E0 sc))))) :
    ab_Fr MX0_lostBy (d + 1) Q 5 [some (.ref a0), some (.ref a1), some (.long a2), none, some (.int a4)] [] (0, 0) (i, l, dd, x) (ab_E0 sc) := by
  refine ab_iload dX0_lostBy_5 rfl ?_
  refine ab_bipush (v := 9) dX0_lostBy_7 (by decide) ?_
  refine ab_icmp_ge (tgt := 34) dX0_lostBy_9 (by decide) (fun c1 => ?_) (fun c1 => ?_)
  · refine ab_lloadn dX0_lostBy_34 rfl ?_
    exact ab_lret dX0_lostBy_35 rfl ⟨Nat.zero_le _, Nat.zero_le _⟩ (h.1 c1)
  · refine ab_lloadn dX0_lostBy_12 rfl ?_
    refine ab_aloadn dX0_lostBy_13 rfl ?_
    refine ab_iload dX0_lostBy_14 rfl ?_
    refine ab_laload (v := (l a1 a4.toNatClampNeg)) dX0_lostBy_16 k_a1 (h.2 c1).1 rfl ?_
    refine ab_aloadn dX0_lostBy_17 rfl ?_
    refine ab_getf (v := .ref (a0 + 1)) dX0_lostBy_18 fl_X0_9 (kLo k_a0) (fLo_0 k_a0) ?_
    refine ab_iload dX0_lostBy_21 rfl ?_
    refine ab_iaload (v := (i (a0 + 1) a4.toNatClampNeg)) dX0_lostBy_23 (kLo_1 k_a0) (h.2 c1).2.1 rfl ?_
    refine ab_i2l dX0_lostBy_24 rfl ?_
    refine ab_lmul dX0_lostBy_25 ?_
    refine ab_ladd dX0_lostBy_26 ?_
    refine ab_lstoren dX0_lostBy_27 (Nat.le_of_ble_eq_true rfl) (L2 := [some (.ref a0), some (.ref a1), some (.long (a2 + ((l a1 a4.toNatClampNeg) * (i (a0 + 1) a4.toNatClampNeg).toInt64))), none, some (.int a4)]) rfl ?_
    refine ab_iinc (v := (a4 + 1)) dX0_lostBy_28 rfl (by rfl) (Nat.le_of_ble_eq_true rfl) (L2 := [some (.ref a0), some (.ref a1), some (.long (a2 + ((l a1 a4.toNatClampNeg) * (i (a0 + 1) a4.toNatClampNeg).toInt64))), none, some (.int (a4 + 1))]) rfl ?_
    refine ab_goto (tgt := 5) dX0_lostBy_31 (by decide) ?_
    exact (h.2 c1).2.2
theorem tMX7_take_0 {d : Nat} {Q : ab_Qt} {sc : Nat × (Nat → Int32)} {i : Nat → Nat → Int32} {l : Nat → Nat → Int64} {dd : Nat → Nat → Value} {x : Nat} {a1 : Int32} {a2 : Int32} {a3 : Int32} {a4 : Int32} {a5 : Int32} 
    (h : (((i 4 1) ≤ 720 → (∃ (P3 : ab_S → Prop), ab_Sp MX7_add d [.ref 4, .int a1] (i, l, dd, x) (ab_E0 sc) (none) P3 ∧ ∀ i6 l7 dd8 x9, P3 (i6, l7, dd8, x9) → ∃ (P12 : ab_S → Prop), ab_Sp MX7_add d [.ref 4, .int a2] (i6, l7, dd8, x9) (ab_E0 sc) (none) P12 ∧ ∀ i15 l16 dd17 x18, P12 (i15, l16, dd17, x18) → ∃ (P21 : ab_S → Prop), ab_Sp MX7_add d [.ref 4, .int a3] (i15, l16, dd17, x18) (ab_E0 sc) (none) P21 ∧ ∀ i24 l25 dd26 x27, P21 (i24, l25, dd26, x27) → ∃ (P30 : ab_S → Prop), ab_Sp MX7_add d [.ref 4, .int a4] (i24, l25, dd26, x27) (ab_E0 sc) (none) P30 ∧ ∀ i33 l34 dd35 x36, P30 (i33, l34, dd35, x36) → ∃ (P39 : ab_S → Prop), ab_Sp MX7_add d [.ref 4, .int a5] (i33, l34, dd35, x36) (ab_E0 sc) (none) P39 ∧ ∀ i42 l43 dd44 x45, P39 (i42, l43, dd44, x45) → Q (some (some (.int (i42 4 1)))) (i42, l43, dd44, x45) (ab_E0 sc))) ∧ (¬ (i 4 1) ≤ 720 → Q (some (some (.int (-1)))) (i, l, dd, x) (ab_E0 sc)))) :
    ab_Fr MX7_take (d + 1) Q 0 [some (.ref 4), some (.int a1), some (.int a2), some (.int a3), some (.int a4), some (.int a5)] [] (0, 0) (i, l, dd, x) (ab_E0 sc) := by
  refine ab_aloadn dX7_take_0 rfl ?_
  refine ab_getf (v := .int (i 4 1)) dX7_take_1 fl_X7_15 kd_4 rfl ?_
  refine ab_sipush (v := 720) dX7_take_4 (by decide) ?_
  refine ab_icmp_le (tgt := 12) dX7_take_7 (by decide) (fun c1 => ?_) (fun c1 => ?_)
  · refine ab_aloadn dX7_take_12 rfl ?_
    refine ab_iloadn dX7_take_13 rfl ?_
    obtain ⟨P3, hs4, hk5⟩ := (h.1 c1)
    refine ab_callV (vs := [.int a1]) (st := []) dX7_take_14 okMX7_add wd_530 kd_4 rfl rfl rfl (Nat.le_of_ble_eq_true rfl) ⟨Nat.le_of_ble_eq_true rfl, Nat.le_of_ble_eq_true rfl⟩ hs4 ?_
    rintro v9 ⟨i6, l7, dd8, x9⟩ E9 - ⟨rfl, rfl, hp10⟩
    show ab_Fr MX7_take (d + 1) Q 17 [some (.ref 4), some (.int a1), some (.int a2), some (.int a3), some (.int a4), some (.int a5)] [] (0, 0) (i6, l7, dd8, x9) (ab_E0 sc)
    refine ab_aloadn dX7_take_17 rfl ?_
    refine ab_iloadn dX7_take_18 rfl ?_
    obtain ⟨P12, hs13, hk14⟩ := (hk5 i6 l7 dd8 x9 hp10)
    refine ab_callV (vs := [.int a2]) (st := []) dX7_take_19 okMX7_add wd_530 kd_4 rfl rfl rfl (Nat.le_of_ble_eq_true rfl) ⟨Nat.le_of_ble_eq_true rfl, Nat.le_of_ble_eq_true rfl⟩ hs13 ?_
    rintro v9 ⟨i15, l16, dd17, x18⟩ E9 - ⟨rfl, rfl, hp19⟩
    show ab_Fr MX7_take (d + 1) Q 22 [some (.ref 4), some (.int a1), some (.int a2), some (.int a3), some (.int a4), some (.int a5)] [] (0, 0) (i15, l16, dd17, x18) (ab_E0 sc)
    refine ab_aloadn dX7_take_22 rfl ?_
    refine ab_iloadn dX7_take_23 rfl ?_
    obtain ⟨P21, hs22, hk23⟩ := (hk14 i15 l16 dd17 x18 hp19)
    refine ab_callV (vs := [.int a3]) (st := []) dX7_take_24 okMX7_add wd_530 kd_4 rfl rfl rfl (Nat.le_of_ble_eq_true rfl) ⟨Nat.le_of_ble_eq_true rfl, Nat.le_of_ble_eq_true rfl⟩ hs22 ?_
    rintro v9 ⟨i24, l25, dd26, x27⟩ E9 - ⟨rfl, rfl, hp28⟩
    show ab_Fr MX7_take (d + 1) Q 27 [some (.ref 4), some (.int a1), some (.int a2), some (.int a3), some (.int a4), some (.int a5)] [] (0, 0) (i24, l25, dd26, x27) (ab_E0 sc)
    refine ab_aloadn dX7_take_27 rfl ?_
    refine ab_iload dX7_take_28 rfl ?_
    obtain ⟨P30, hs31, hk32⟩ := (hk23 i24 l25 dd26 x27 hp28)
    refine ab_callV (vs := [.int a4]) (st := []) dX7_take_30 okMX7_add wd_530 kd_4 rfl rfl rfl (Nat.le_of_ble_eq_true rfl) ⟨Nat.le_of_ble_eq_true rfl, Nat.le_of_ble_eq_true rfl⟩ hs31 ?_
    rintro v9 ⟨i33, l34, dd35, x36⟩ E9 - ⟨rfl, rfl, hp37⟩
    show ab_Fr MX7_take (d + 1) Q 33 [some (.ref 4), some (.int a1), some (.int a2), some (.int a3), some (.int a4), some (.int a5)] [] (0, 0) (i33, l34, dd35, x36) (ab_E0 sc)
    refine ab_aloadn dX7_take_33 rfl ?_
    refine ab_iload dX7_take_34 rfl ?_
    obtain ⟨P39, hs40, hk41⟩ := (hk32 i33 l34 dd35 x36 hp37)
    refine ab_callV (vs := [.int a5]) (st := []) dX7_take_36 okMX7_add wd_530 kd_4 rfl rfl rfl (Nat.le_of_ble_eq_true rfl) ⟨Nat.le_of_ble_eq_true rfl, Nat.le_of_ble_eq_true rfl⟩ hs40 ?_
    rintro v9 ⟨i42, l43, dd44, x45⟩ E9 - ⟨rfl, rfl, hp46⟩
    show ab_Fr MX7_take (d + 1) Q 39 [some (.ref 4), some (.int a1), some (.int a2), some (.int a3), some (.int a4), some (.int a5)] [] (0, 0) (i42, l43, dd44, x45) (ab_E0 sc)
    refine ab_aloadn dX7_take_39 rfl ?_
    refine ab_getf (v := .int (i42 4 1)) dX7_take_40 fl_X7_15 kd_4 rfl ?_
    exact ab_iret dX7_take_43 rfl ⟨Nat.zero_le _, Nat.zero_le _⟩ (hk41 i42 l43 dd44 x45 hp46)
  · refine ab_iconst (v := (-1)) dX7_take_10 (by decide) ?_
    exact ab_iret dX7_take_11 rfl ⟨Nat.zero_le _, Nat.zero_le _⟩ (h.2 c1)
theorem tMX7_add_0 {d : Nat} {Q : ab_Qt} {sc : Nat × (Nat → Int32)} {i : Nat → Nat → Int32} {l : Nat → Nat → Int64} {dd : Nat → Nat → Value} {x : Nat} {a1 : Int32} 
    (h : ab_Fr MX7_add (d + 1) Q 3 [some (.ref 4), some (.int a1), some (.int 24)] [] (0, 0) (i, l, dd, x) (ab_E0 sc)) :
    ab_Fr MX7_add (d + 1) Q 0 [some (.ref 4), some (.int a1), none] [] (0, 0) (i, l, dd, x) (ab_E0 sc) := by
  refine ab_bipush (v := 24) dX7_add_0 (by decide) ?_
  refine ab_istoren dX7_add_2 (Nat.le_of_ble_eq_true rfl) (L2 := [some (.ref 4), some (.int a1), some (.int 24)]) rfl ?_
  exact h
theorem tMX7_add_3 {d : Nat} {Q : ab_Qt} {sc : Nat × (Nat → Int32)} {i : Nat → Nat → Int32} {l : Nat → Nat → Int64} {dd : Nat → Nat → Value} {x : Nat} {a1 : Int32} {a2 : Int32} 
    (h : ((a2 < 0 → Q (some none) (i, l, dd, x) (ab_E0 sc)) ∧ (¬ a2 < 0 → ((740 ≤ (i 4 1) → ab_Fr MX7_add (d + 1) Q 3 [some (.ref 4), some (.int a1), some (.int (a2 + (-8)))] [] (0, 0) (i, l, dd, x) (ab_E0 sc)) ∧ (¬ 740 ≤ (i 4 1) → (vp_in (i 4 1) 740 ∧ ∀ i3, i3 = ab_u i 5 (i 4 1).toNatClampNeg ((ab_ushr a1 a2) &&& 255) → ∀ i5, i5 = ab_u i3 4 1 ((i3 4 1) + 1) → ab_Fr MX7_add (d + 1) Q 3 [some (.ref 4), some (.int a1), some (.int (a2 + (-8)))] [] (0, 0) (i5, l, dd, x) (ab_E0 sc))))))) :
    ab_Fr MX7_add (d + 1) Q 3 [some (.ref 4), some (.int a1), some (.int a2)] [] (0, 0) (i, l, dd, x) (ab_E0 sc) := by
  refine ab_iloadn dX7_add_3 rfl ?_
  refine ab_if_lt (tgt := 49) dX7_add_4 (by decide) (fun c1 => ?_) (fun c1 => ?_)
  · exact ab_vret dX7_add_49 rfl ⟨Nat.zero_le _, Nat.zero_le _⟩ (h.1 c1)
  · refine ab_aloadn dX7_add_7 rfl ?_
    refine ab_getf (v := .int (i 4 1)) dX7_add_8 fl_X7_15 kd_4 rfl ?_
    refine ab_sipush (v := 740) dX7_add_11 (by decide) ?_
    refine ab_icmp_ge (tgt := 43) dX7_add_14 (by decide) (fun c2 => ?_) (fun c2 => ?_)
    · refine ab_iinc (v := (a2 + (-8))) dX7_add_43 rfl (by rfl) (Nat.le_of_ble_eq_true rfl) (L2 := [some (.ref 4), some (.int a1), some (.int (a2 + (-8)))]) rfl ?_
      refine ab_goto (tgt := 3) dX7_add_46 (by decide) ?_
      exact ((h.2 c1).1 c2)
    · refine ab_aloadn dX7_add_17 rfl ?_
      refine ab_getf (v := .ref 5) dX7_add_18 fl_X7_11 kd_4 ff_4_0 ?_
      refine ab_aloadn dX7_add_21 rfl ?_
      refine ab_getf (v := .int (i 4 1)) dX7_add_22 fl_X7_15 kd_4 rfl ?_
      refine ab_iloadn dX7_add_25 rfl ?_
      refine ab_iloadn dX7_add_26 rfl ?_
      refine ab_iushr (v := (ab_ushr a1 a2)) dX7_add_27 rfl ?_
      refine ab_sipush (v := 255) dX7_add_28 (by decide) ?_
      refine ab_iand dX7_add_31 ?_
      refine ab_iastore dX7_add_32 kd_5 ((h.2 c1).2 c2).1 ?_
      obtain ⟨i3, e4⟩ : ∃ z, z = ab_u i 5 (i 4 1).toNatClampNeg ((ab_ushr a1 a2) &&& 255) := ⟨_, rfl⟩
      rw [show ab_u i 5 (i 4 1).toNatClampNeg ((ab_ushr a1 a2) &&& 255) = i3 from e4.symm]
      refine ab_aloadn dX7_add_33 rfl ?_
      refine ab_dup dX7_add_34 rfl ?_
      refine ab_getf (v := .int (i3 4 1)) dX7_add_35 fl_X7_15 kd_4 rfl ?_
      refine ab_iconst (v := 1) dX7_add_38 (by decide) ?_
      refine ab_iadd dX7_add_39 ?_
      refine ab_putI dX7_add_40 fl_X7_15 kd_4 rfl ?_
      obtain ⟨i5, e6⟩ : ∃ z, z = ab_u i3 4 1 ((i3 4 1) + 1) := ⟨_, rfl⟩
      show ab_Fr MX7_add (d + 1) Q 43 [some (.ref 4), some (.int a1), some (.int a2)] [] (0, 0) (ab_u i3 4 1 ((i3 4 1) + 1), l, dd, x) (ab_E0 sc)
      rw [show ab_u i3 4 1 ((i3 4 1) + 1) = i5 from e6.symm]
      refine ab_iinc (v := (a2 + (-8))) dX7_add_43 rfl (by rfl) (Nat.le_of_ble_eq_true rfl) (L2 := [some (.ref 4), some (.int a1), some (.int (a2 + (-8)))]) rfl ?_
      refine ab_goto (tgt := 3) dX7_add_46 (by decide) ?_
      exact ((((h.2 c1).2 c2).2 i3 e4) i5 e6)
theorem tMX7_cut_0 {d : Nat} {Q : ab_Qt} {sc : Nat × (Nat → Int32)} {i : Nat → Nat → Int32} {l : Nat → Nat → Int64} {dd : Nat → Nat → Value} {x : Nat} {a1 : Int32} 
    (h : ((a1 < 0 → Q (some (some (.int 0))) (i, l, dd, x) (ab_E0 sc)) ∧ (¬ a1 < 0 → ((a1 ≤ (i 4 1) → (∀ i3, i3 = ab_u i 4 1 a1 → Q (some (some (.int 1))) (i3, l, dd, x) (ab_E0 sc))) ∧ (¬ a1 ≤ (i 4 1) → Q (some (some (.int 0))) (i, l, dd, x) (ab_E0 sc)))))) :
    ab_Fr MX7_cut (d + 1) Q 0 [some (.ref 4), some (.int a1)] [] (0, 0) (i, l, dd, x) (ab_E0 sc) := by
  refine ab_iloadn dX7_cut_0 rfl ?_
  refine ab_if_lt (tgt := 12) dX7_cut_1 (by decide) (fun c1 => ?_) (fun c1 => ?_)
  · refine ab_iconst (v := 0) dX7_cut_12 (by decide) ?_
    exact ab_zret dX7_cut_13 rfl (by decide) ⟨Nat.zero_le _, Nat.zero_le _⟩ (h.1 c1)
  · refine ab_iloadn dX7_cut_4 rfl ?_
    refine ab_aloadn dX7_cut_5 rfl ?_
    refine ab_getf (v := .int (i 4 1)) dX7_cut_6 fl_X7_15 kd_4 rfl ?_
    refine ab_icmp_le (tgt := 14) dX7_cut_9 (by decide) (fun c2 => ?_) (fun c2 => ?_)
    · refine ab_aloadn dX7_cut_14 rfl ?_
      refine ab_iloadn dX7_cut_15 rfl ?_
      refine ab_putI dX7_cut_16 fl_X7_15 kd_4 rfl ?_
      obtain ⟨i3, e4⟩ : ∃ z, z = ab_u i 4 1 a1 := ⟨_, rfl⟩
      show ab_Fr MX7_cut (d + 1) Q 19 [some (.ref 4), some (.int a1)] [] (0, 0) (ab_u i 4 1 a1, l, dd, x) (ab_E0 sc)
      rw [show ab_u i 4 1 a1 = i3 from e4.symm]
      refine ab_iconst (v := 1) dX7_cut_19 (by decide) ?_
      exact ab_zret dX7_cut_20 rfl (by decide) ⟨Nat.zero_le _, Nat.zero_le _⟩ (((h.2 c1).1 c2) i3 e4)
    · refine ab_iconst (v := 0) dX7_cut_12 (by decide) ?_
      exact ab_zret dX7_cut_13 rfl (by decide) ⟨Nat.zero_le _, Nat.zero_le _⟩ ((h.2 c1).2 c2)
theorem tMX7_clear_0 {d : Nat} {Q : ab_Qt} {sc : Nat × (Nat → Int32)} {i : Nat → Nat → Int32} {l : Nat → Nat → Int64} {dd : Nat → Nat → Value} {x : Nat}  
    (h : (∀ i1, i1 = ab_u i 4 1 0 → Q (some none) (i1, l, dd, x) (ab_E0 sc))) :
    ab_Fr MX7_clear (d + 1) Q 0 [some (.ref 4)] [] (0, 0) (i, l, dd, x) (ab_E0 sc) := by
  refine ab_aloadn dX7_clear_0 rfl ?_
  refine ab_iconst (v := 0) dX7_clear_1 (by decide) ?_
  refine ab_putI dX7_clear_2 fl_X7_15 kd_4 rfl ?_
  obtain ⟨i1, e2⟩ : ∃ z, z = ab_u i 4 1 0 := ⟨_, rfl⟩
  show ab_Fr MX7_clear (d + 1) Q 5 [some (.ref 4)] [] (0, 0) (ab_u i 4 1 0, l, dd, x) (ab_E0 sc)
  rw [show ab_u i 4 1 0 = i1 from e2.symm]
  exact ab_vret dX7_clear_5 rfl ⟨Nat.zero_le _, Nat.zero_le _⟩ (h i1 e2)
theorem tMX9_begin_0 {d : Nat} {Q : ab_Qt} {sc : Nat × (Nat → Int32)} {i : Nat → Nat → Int32} {l : Nat → Nat → Int64} {dd : Nat → Nat → Value} {x : Nat} {a0 : Nat} {a1 : Int32} (k_a0 : ab_isV a0)
    (h : (∀ i1, i1 = ab_u i a0 0 a1 → ∀ i3, i3 = ab_u i1 a0 1 1 → ∀ i5, i5 = ab_u i3 a0 2 0 → ab_Fr MX9_begin (d + 1) Q 17 [some (.ref a0), none, some (.int 0)] [] (0, 0) (i5, l, dd, x) (ab_E0 sc))) :
    ab_Fr MX9_begin (d + 1) Q 0 [some (.ref a0), some (.int a1), none] [] (0, 0) (i, l, dd, x) (ab_E0 sc) := by
  refine ab_aloadn dX9_begin_0 rfl ?_
  refine ab_iloadn dX9_begin_1 rfl ?_
  refine ab_putI dX9_begin_2 fl_X9_28 (kV k_a0) rfl ?_
  obtain ⟨i1, e2⟩ : ∃ z, z = ab_u i a0 0 a1 := ⟨_, rfl⟩
  show ab_Fr MX9_begin (d + 1) Q 5 [some (.ref a0), some (.int a1), none] [] (0, 0) (ab_u i a0 0 a1, l, dd, x) (ab_E0 sc)
  rw [show ab_u i a0 0 a1 = i1 from e2.symm]
  refine ab_aloadn dX9_begin_5 rfl ?_
  refine ab_iconst (v := 1) dX9_begin_6 (by decide) ?_
  refine ab_putI dX9_begin_7 fl_X9_32 (kV k_a0) rfl ?_
  obtain ⟨i3, e4⟩ : ∃ z, z = ab_u i1 a0 1 1 := ⟨_, rfl⟩
  show ab_Fr MX9_begin (d + 1) Q 10 [some (.ref a0), some (.int a1), none] [] (0, 0) (ab_u i1 a0 1 1, l, dd, x) (ab_E0 sc)
  rw [show ab_u i1 a0 1 1 = i3 from e4.symm]
  refine ab_aloadn dX9_begin_10 rfl ?_
  refine ab_iconst (v := 0) dX9_begin_11 (by decide) ?_
  refine ab_putI dX9_begin_12 fl_X9_35 (kV k_a0) rfl ?_
  obtain ⟨i5, e6⟩ : ∃ z, z = ab_u i3 a0 2 0 := ⟨_, rfl⟩
  show ab_Fr MX9_begin (d + 1) Q 15 [some (.ref a0), some (.int a1), none] [] (0, 0) (ab_u i3 a0 2 0, l, dd, x) (ab_E0 sc)
  rw [show ab_u i3 a0 2 0 = i5 from e6.symm]
  refine ab_iconst (v := 0) dX9_begin_15 (by decide) ?_
  refine ab_istoren dX9_begin_16 (Nat.le_of_ble_eq_true rfl) (L2 := [some (.ref a0), some (.int a1), some (.int 0)]) rfl ?_
  refine ab_forget (i := 1) (L2 := [some (.ref a0), none, some (.int 0)]) rfl ?_
  exact (((h i1 e2) i3 e4) i5 e6)
theorem tMX9_begin_17 {d : Nat} {Q : ab_Qt} {sc : Nat × (Nat → Int32)} {i : Nat → Nat → Int32} {l : Nat → Nat → Int64} {dd : Nat → Nat → Value} {x : Nat} {a0 : Nat} {a2 : Int32} (k_a0 : ab_isV a0)
    (h : ((9 ≤ a2 → Q (some none) (i, l, dd, x) (ab_E0 sc)) ∧ (¬ 9 ≤ a2 → (vp_in a2 9 ∧ ∀ i2, i2 = ab_u i (a0 + 1) a2.toNatClampNeg 0 → vp_in a2 9 ∧ ∀ i4, i4 = ab_u i2 (a0 + 2) a2.toNatClampNeg (-1) → ab_Fr MX9_begin (d + 1) Q 17 [some (.ref a0), none, some (.int (a2 + 1))] [] (0, 0) (i4, l, dd, x) (ab_E0 sc))))) :
    ab_Fr MX9_begin (d + 1) Q 17 [some (.ref a0), none, some (.int a2)] [] (0, 0) (i, l, dd, x) (ab_E0 sc) := by
  refine ab_iloadn dX9_begin_17 rfl ?_
  refine ab_bipush (v := 9) dX9_begin_18 (by decide) ?_
  refine ab_icmp_ge (tgt := 43) dX9_begin_20 (by decide) (fun c1 => ?_) (fun c1 => ?_)
  · exact ab_vret dX9_begin_43 rfl ⟨Nat.zero_le _, Nat.zero_le _⟩ (h.1 c1)
  · refine ab_aloadn dX9_begin_23 rfl ?_
    refine ab_getf (v := .ref (a0 + 1)) dX9_begin_24 fl_X9_9 (kV k_a0) (fV_4 k_a0) ?_
    refine ab_iloadn dX9_begin_27 rfl ?_
    refine ab_iconst (v := 0) dX9_begin_28 (by decide) ?_
    refine ab_iastore dX9_begin_29 (kV_1 k_a0) (h.2 c1).1 ?_
    obtain ⟨i2, e3⟩ : ∃ z, z = ab_u i (a0 + 1) a2.toNatClampNeg 0 := ⟨_, rfl⟩
    rw [show ab_u i (a0 + 1) a2.toNatClampNeg 0 = i2 from e3.symm]
    refine ab_aloadn dX9_begin_30 rfl ?_
    refine ab_getf (v := .ref (a0 + 2)) dX9_begin_31 fl_X9_15 (kV k_a0) (fV_5 k_a0) ?_
    refine ab_iloadn dX9_begin_34 rfl ?_
    refine ab_iconst (v := (-1)) dX9_begin_35 (by decide) ?_
    refine ab_iastore dX9_begin_36 (kV_2 k_a0) ((h.2 c1).2 i2 e3).1 ?_
    obtain ⟨i4, e5⟩ : ∃ z, z = ab_u i2 (a0 + 2) a2.toNatClampNeg (-1) := ⟨_, rfl⟩
    rw [show ab_u i2 (a0 + 2) a2.toNatClampNeg (-1) = i4 from e5.symm]
    refine ab_iinc (v := (a2 + 1)) dX9_begin_37 rfl (by rfl) (Nat.le_of_ble_eq_true rfl) (L2 := [some (.ref a0), none, some (.int (a2 + 1))]) rfl ?_
    refine ab_goto (tgt := 17) dX9_begin_40 (by decide) ?_
    exact (((h.2 c1).2 i2 e3).2 i4 e5)
theorem tMX9_fillLosses_0 {d : Nat} {Q : ab_Qt} {sc : Nat × (Nat → Int32)} {i : Nat → Nat → Int32} {l : Nat → Nat → Int64} {dd : Nat → Nat → Value} {x : Nat} {a0 : Nat} {a1 : Nat} (k_a0 : ab_isV a0) (k_a1 : ab_isLo a1)
    (h : ab_Fr MX9_fillLosses (d + 1) Q 2 [some (.ref a0), some (.ref a1), some (.int 0)] [] (0, 0) (i, l, dd, x) (ab_E0 sc)) :
    ab_Fr MX9_fillLosses (d + 1) Q 0 [some (.ref a0), some (.ref a1), none] [] (0, 0) (i, l, dd, x) (ab_E0 sc) := by
  refine ab_iconst (v := 0) dX9_fillLosses_0 (by decide) ?_
  refine ab_istoren dX9_fillLosses_1 (Nat.le_of_ble_eq_true rfl) (L2 := [some (.ref a0), some (.ref a1), some (.int 0)]) rfl ?_
  exact h
theorem tMX9_fillLosses_2 {d : Nat} {Q : ab_Qt} {sc : Nat × (Nat → Int32)} {i : Nat → Nat → Int32} {l : Nat → Nat → Int64} {dd : Nat → Nat → Value} {x : Nat} {a0 : Nat} {a1 : Nat} {a2 : Int32} (k_a0 : ab_isV a0) (k_a1 : ab_isLo a1)
    (h : ((9 ≤ a2 → Q (some none) (i, l, dd, x) (ab_E0 sc)) ∧ (¬ 9 ≤ a2 → (vp_in a2 9 ∧ ((¬ (i (a0 + 2) a2.toNatClampNeg) = (-1) → (vp_in a2 9 ∧ vp_in a2 9 ∧ ∀ i3, i3 = ab_u i ((a0 + 3) + 1) a2.toNatClampNeg (i (a0 + 2) a2.toNatClampNeg) → ab_Fr MX9_fillLosses (d + 1) Q 2 [some (.ref a0), some (.ref a1), some (.int (a2 + 1))] [] (0, 0) (i3, l, dd, x) (ab_E0 sc))) ∧ ((i (a0 + 2) a2.toNatClampNeg) = (-1) → (vp_in a2 9 ∧ vp_in a2 9 ∧ ∀ i5, i5 = ab_u i ((a0 + 3) + 1) a2.toNatClampNeg (i (a1 + 1) a2.toNatClampNeg) → ab_Fr MX9_fillLosses (d + 1) Q 2 [some (.ref a0), some (.ref a1), some (.int (a2 + 1))] [] (0, 0) (i5, l, dd, x) (ab_E0 sc)))))))) :
    ab_Fr MX9_fillLosses (d + 1) Q 2 [some (.ref a0), some (.ref a1), some (.int a2)] [] (0, 0) (i, l, dd, x) (ab_E0 sc) := by
  refine ab_iloadn dX9_fillLosses_2 rfl ?_
  refine ab_bipush (v := 9) dX9_fillLosses_3 (by decide) ?_
  refine ab_icmp_ge (tgt := 48) dX9_fillLosses_5 (by decide) (fun c1 => ?_) (fun c1 => ?_)
  · exact ab_vret dX9_fillLosses_48 rfl ⟨Nat.zero_le _, Nat.zero_le _⟩ (h.1 c1)
  · refine ab_aloadn dX9_fillLosses_8 rfl ?_
    refine ab_getf (v := .ref (a0 + 3)) dX9_fillLosses_9 fl_X9_21 (kV k_a0) (fV_6 k_a0) ?_
    refine ab_getf (v := .ref ((a0 + 3) + 1)) dX9_fillLosses_12 fl_X9_38 (kLo (isV_3 k_a0)) (fLo_0 (isV_3 k_a0)) ?_
    refine ab_iloadn dX9_fillLosses_15 rfl ?_
    refine ab_aloadn dX9_fillLosses_16 rfl ?_
    refine ab_getf (v := .ref (a0 + 2)) dX9_fillLosses_17 fl_X9_15 (kV k_a0) (fV_5 k_a0) ?_
    refine ab_iloadn dX9_fillLosses_20 rfl ?_
    refine ab_iaload (v := (i (a0 + 2) a2.toNatClampNeg)) dX9_fillLosses_21 (kV_2 k_a0) (h.2 c1).1 rfl ?_
    refine ab_iconst (v := (-1)) dX9_fillLosses_22 (by decide) ?_
    refine ab_icmp_ne (tgt := 35) dX9_fillLosses_23 (by decide) (fun c2 => ?_) (fun c2 => ?_)
    · refine ab_aloadn dX9_fillLosses_35 rfl ?_
      refine ab_getf (v := .ref (a0 + 2)) dX9_fillLosses_36 fl_X9_15 (kV k_a0) (fV_5 k_a0) ?_
      refine ab_iloadn dX9_fillLosses_39 rfl ?_
      refine ab_iaload (v := (i (a0 + 2) a2.toNatClampNeg)) dX9_fillLosses_40 (kV_2 k_a0) ((h.2 c1).2.1 c2).1 rfl ?_
      refine ab_iastore dX9_fillLosses_41 (kLo_1 (isV_3 k_a0)) ((h.2 c1).2.1 c2).2.1 ?_
      obtain ⟨i3, e4⟩ : ∃ z, z = ab_u i ((a0 + 3) + 1) a2.toNatClampNeg (i (a0 + 2) a2.toNatClampNeg) := ⟨_, rfl⟩
      rw [show ab_u i ((a0 + 3) + 1) a2.toNatClampNeg (i (a0 + 2) a2.toNatClampNeg) = i3 from e4.symm]
      refine ab_iinc (v := (a2 + 1)) dX9_fillLosses_42 rfl (by rfl) (Nat.le_of_ble_eq_true rfl) (L2 := [some (.ref a0), some (.ref a1), some (.int (a2 + 1))]) rfl ?_
      refine ab_goto (tgt := 2) dX9_fillLosses_45 (by decide) ?_
      exact (((h.2 c1).2.1 c2).2.2 i3 e4)
    · refine ab_aloadn dX9_fillLosses_26 rfl ?_
      refine ab_getf (v := .ref (a1 + 1)) dX9_fillLosses_27 fl_X9_38 (kLo k_a1) (fLo_0 k_a1) ?_
      refine ab_iloadn dX9_fillLosses_30 rfl ?_
      refine ab_iaload (v := (i (a1 + 1) a2.toNatClampNeg)) dX9_fillLosses_31 (kLo_1 k_a1) ((h.2 c1).2.2 c2).1 rfl ?_
      refine ab_goto (tgt := 41) dX9_fillLosses_32 (by decide) ?_
      refine ab_iastore dX9_fillLosses_41 (kLo_1 (isV_3 k_a0)) ((h.2 c1).2.2 c2).2.1 ?_
      obtain ⟨i5, e6⟩ : ∃ z, z = ab_u i ((a0 + 3) + 1) a2.toNatClampNeg (i (a1 + 1) a2.toNatClampNeg) := ⟨_, rfl⟩
      rw [show ab_u i ((a0 + 3) + 1) a2.toNatClampNeg (i (a1 + 1) a2.toNatClampNeg) = i5 from e6.symm]
      refine ab_iinc (v := (a2 + 1)) dX9_fillLosses_42 rfl (by rfl) (Nat.le_of_ble_eq_true rfl) (L2 := [some (.ref a0), some (.ref a1), some (.int (a2 + 1))]) rfl ?_
      refine ab_goto (tgt := 2) dX9_fillLosses_45 (by decide) ?_
      exact (((h.2 c1).2.2 c2).2.2 i5 e6)
theorem tMX9_likeliest_0 {d : Nat} {Q : ab_Qt} {sc : Nat × (Nat → Int32)} {i : Nat → Nat → Int32} {l : Nat → Nat → Int64} {dd : Nat → Nat → Value} {x : Nat} {a0 : Nat} {a1 : Int32} {a2 : Int32} (k_a0 : ab_isV a0)
    (h : ab_Fr MX9_likeliest (d + 1) Q 5 [some (.ref a0), some (.int a1), some (.int a2), some (.int 0), some (.int 1)] [] (0, 0) (i, l, dd, x) (ab_E0 sc)) :
    ab_Fr MX9_likeliest (d + 1) Q 0 [some (.ref a0), some (.int a1), some (.int a2), none, none] [] (0, 0) (i, l, dd, x) (ab_E0 sc) := by
  refine ab_iconst (v := 0) dX9_likeliest_0 (by decide) ?_
  refine ab_istoren dX9_likeliest_1 (Nat.le_of_ble_eq_true rfl) (L2 := [some (.ref a0), some (.int a1), some (.int a2), some (.int 0), none]) rfl ?_
  refine ab_iconst (v := 1) dX9_likeliest_2 (by decide) ?_
  refine ab_istore dX9_likeliest_3 (Nat.le_of_ble_eq_true rfl) (L2 := [some (.ref a0), some (.int a1), some (.int a2), some (.int 0), some (.int 1)]) rfl ?_
  exact h
theorem tMX9_likeliest_5 {d : Nat} {Q : ab_Qt} {sc : Nat × (Nat → Int32)} {i : Nat → Nat → Int32} {l : Nat → Nat → Int64} {dd : Nat → Nat → Value} {x : Nat} {a0 : Nat} {a1 : Int32} {a2 : Int32} {a3 : Int32} {a4 : Int32} (k_a0 : ab_isV a0)
    (h : ((a1 ≤ a4 → Q (some (some (.int a3))) (i, l, dd, x) (ab_E0 sc)) ∧ (¬ a1 ≤ a4 → (vp_in ((a4 * 3) + a2) 9 ∧ vp_in ((a3 * 3) + a2) 9 ∧ (((i (a0 + 1) ((a4 * 3) + a2).toNatClampNeg) ≤ (i (a0 + 1) ((a3 * 3) + a2).toNatClampNeg) → ab_Fr MX9_likeliest (d + 1) Q 5 [some (.ref a0), some (.int a1), some (.int a2), some (.int a3), some (.int (a4 + 1))] [] (0, 0) (i, l, dd, x) (ab_E0 sc)) ∧ (¬ (i (a0 + 1) ((a4 * 3) + a2).toNatClampNeg) ≤ (i (a0 + 1) ((a3 * 3) + a2).toNatClampNeg) → ab_Fr MX9_likeliest (d + 1) Q 5 [some (.ref a0), some (.int a1), some (.int a2), some (.int a4), some (.int (a4 + 1))] [] (0, 0) (i, l, dd, x) (ab_E0 sc))))))) :
    ab_Fr MX9_likeliest (d + 1) Q 5 [some (.ref a0), some (.int a1), some (.int a2), some (.int a3), some (.int a4)] [] (0, 0) (i, l, dd, x) (ab_E0 sc) := by
  refine ab_iload dX9_likeliest_5 rfl ?_
  refine ab_iloadn dX9_likeliest_7 rfl ?_
  refine ab_icmp_ge (tgt := 44) dX9_likeliest_8 (by decide) (fun c1 => ?_) (fun c1 => ?_)
  · refine ab_iloadn dX9_likeliest_44 rfl ?_
    exact ab_iret dX9_likeliest_45 rfl ⟨Nat.zero_le _, Nat.zero_le _⟩ (h.1 c1)
  · refine ab_aloadn dX9_likeliest_11 rfl ?_
    refine ab_getf (v := .ref (a0 + 1)) dX9_likeliest_12 fl_X9_9 (kV k_a0) (fV_4 k_a0) ?_
    refine ab_iload dX9_likeliest_15 rfl ?_
    refine ab_iconst (v := 3) dX9_likeliest_17 (by decide) ?_
    refine ab_imul dX9_likeliest_18 ?_
    refine ab_iloadn dX9_likeliest_19 rfl ?_
    refine ab_iadd dX9_likeliest_20 ?_
    refine ab_iaload (v := (i (a0 + 1) ((a4 * 3) + a2).toNatClampNeg)) dX9_likeliest_21 (kV_1 k_a0) (h.2 c1).1 rfl ?_
    refine ab_aloadn dX9_likeliest_22 rfl ?_
    refine ab_getf (v := .ref (a0 + 1)) dX9_likeliest_23 fl_X9_9 (kV k_a0) (fV_4 k_a0) ?_
    refine ab_iloadn dX9_likeliest_26 rfl ?_
    refine ab_iconst (v := 3) dX9_likeliest_27 (by decide) ?_
    refine ab_imul dX9_likeliest_28 ?_
    refine ab_iloadn dX9_likeliest_29 rfl ?_
    refine ab_iadd dX9_likeliest_30 ?_
    refine ab_iaload (v := (i (a0 + 1) ((a3 * 3) + a2).toNatClampNeg)) dX9_likeliest_31 (kV_1 k_a0) (h.2 c1).2.1 rfl ?_
    refine ab_icmp_le (tgt := 38) dX9_likeliest_32 (by decide) (fun c2 => ?_) (fun c2 => ?_)
    · refine ab_iinc (v := (a4 + 1)) dX9_likeliest_38 rfl (by rfl) (Nat.le_of_ble_eq_true rfl) (L2 := [some (.ref a0), some (.int a1), some (.int a2), some (.int a3), some (.int (a4 + 1))]) rfl ?_
      refine ab_goto (tgt := 5) dX9_likeliest_41 (by decide) ?_
      exact ((h.2 c1).2.2.1 c2)
    · refine ab_iload dX9_likeliest_35 rfl ?_
      refine ab_istoren dX9_likeliest_37 (Nat.le_of_ble_eq_true rfl) (L2 := [some (.ref a0), some (.int a1), some (.int a2), some (.int a4), some (.int a4)]) rfl ?_
      refine ab_iinc (v := (a4 + 1)) dX9_likeliest_38 rfl (by rfl) (Nat.le_of_ble_eq_true rfl) (L2 := [some (.ref a0), some (.int a1), some (.int a2), some (.int a4), some (.int (a4 + 1))]) rfl ?_
      refine ab_goto (tgt := 5) dX9_likeliest_41 (by decide) ?_
      exact ((h.2 c1).2.2.2 c2)
theorem tMX6_rightOf_0 {d : Nat} {Q : ab_Qt} {sc : Nat × (Nat → Int32)} {i : Nat → Nat → Int32} {l : Nat → Nat → Int64} {dd : Nat → Nat → Value} {x : Nat} {a1 : Nat} {a2 : Int32} {a3 : Int32} (k_a1 : ab_isM a1)
    (h : (∀ i1, i1 = ab_u i 202 0 a2 → ab_Fr MX6_rightOf (d + 1) Q 11 [some (.ref 202), some (.ref a1), none, some (.int a3), some (.int 0), some (.int 0), none, none] [] (0, 0) (i1, l, dd, x) (ab_E0 sc))) :
    ab_Fr MX6_rightOf (d + 1) Q 0 [some (.ref 202), some (.ref a1), some (.int a2), some (.int a3), none, none, none, none] [] (0, 0) (i, l, dd, x) (ab_E0 sc) := by
  refine ab_aloadn dX6_rightOf_0 rfl ?_
  refine ab_iloadn dX6_rightOf_1 rfl ?_
  refine ab_putI dX6_rightOf_2 fl_X6_15 kd_202 rfl ?_
  obtain ⟨i1, e2⟩ : ∃ z, z = ab_u i 202 0 a2 := ⟨_, rfl⟩
  show ab_Fr MX6_rightOf (d + 1) Q 5 [some (.ref 202), some (.ref a1), some (.int a2), some (.int a3), none, none, none, none] [] (0, 0) (ab_u i 202 0 a2, l, dd, x) (ab_E0 sc)
  rw [show ab_u i 202 0 a2 = i1 from e2.symm]
  refine ab_iconst (v := 0) dX6_rightOf_5 (by decide) ?_
  refine ab_istore dX6_rightOf_6 (Nat.le_of_ble_eq_true rfl) (L2 := [some (.ref 202), some (.ref a1), some (.int a2), some (.int a3), some (.int 0), none, none, none]) rfl ?_
  refine ab_iconst (v := 0) dX6_rightOf_8 (by decide) ?_
  refine ab_istore dX6_rightOf_9 (Nat.le_of_ble_eq_true rfl) (L2 := [some (.ref 202), some (.ref a1), some (.int a2), some (.int a3), some (.int 0), some (.int 0), none, none]) rfl ?_
  refine ab_forget (i := 2) (L2 := [some (.ref 202), some (.ref a1), none, some (.int a3), some (.int 0), some (.int 0), none, none]) rfl ?_
  exact (h i1 e2)
theorem tMX6_rightOf_11 {d : Nat} {Q : ab_Qt} {sc : Nat × (Nat → Int32)} {i : Nat → Nat → Int32} {l : Nat → Nat → Int64} {dd : Nat → Nat → Value} {x : Nat} {a1 : Nat} {a3 : Int32} {a4 : Int32} {a5 : Int32} (k_a1 : ab_isM a1)
    (h : ((a3 ≤ a5 → Q (some (some (.int a4))) (i, l, dd, x) (ab_E0 sc)) ∧ (¬ a3 ≤ a5 → (∃ (r2 : Int32) (P3 : ab_S → Prop), ab_Sp MX6_draw d [.ref 202, .ref (a1 + 1), .int 0, .int (i a1 0)] (i, l, dd, x) (ab_E0 sc) (some (.int r2)) P3 ∧ ∀ i6 l7 dd8 x9, P3 (i6, l7, dd8, x9) → ab_Fr MX6_rightOf (d + 1) Q 35 [some (.ref 202), some (.ref a1), none, some (.int a3), some (.int a4), some (.int a5), some (.int r2), some (.int 0)] [] (0, 0) (i6, l7, dd8, x9) (ab_E0 sc))))) :
    ab_Fr MX6_rightOf (d + 1) Q 11 [some (.ref 202), some (.ref a1), none, some (.int a3), some (.int a4), some (.int a5), none, none] [] (0, 0) (i, l, dd, x) (ab_E0 sc) := by
  refine ab_iload dX6_rightOf_11 rfl ?_
  refine ab_iloadn dX6_rightOf_13 rfl ?_
  refine ab_icmp_ge (tgt := 107) dX6_rightOf_14 (by decide) (fun c1 => ?_) (fun c1 => ?_)
  · refine ab_iload dX6_rightOf_107 rfl ?_
    exact ab_iret dX6_rightOf_109 rfl ⟨Nat.zero_le _, Nat.zero_le _⟩ (h.1 c1)
  · refine ab_aloadn dX6_rightOf_17 rfl ?_
    refine ab_aloadn dX6_rightOf_18 rfl ?_
    refine ab_getf (v := .ref (a1 + 1)) dX6_rightOf_19 fl_X6_19 (kM k_a1) (fM_6 k_a1) ?_
    refine ab_iconst (v := 0) dX6_rightOf_22 (by decide) ?_
    refine ab_aloadn dX6_rightOf_23 rfl ?_
    refine ab_getf (v := .int (i a1 0)) dX6_rightOf_24 fl_X6_24 (kM k_a1) rfl ?_
    obtain ⟨r2, P3, hs4, hk5⟩ := (h.2 c1)
    refine ab_callV (vs := [.ref (a1 + 1), .int 0, .int (i a1 0)]) (st := []) dX6_rightOf_27 okMX6_draw wd_1124 kd_202 rfl rfl rfl (Nat.le_of_ble_eq_true rfl) ⟨Nat.le_of_ble_eq_true rfl, Nat.le_of_ble_eq_true rfl⟩ hs4 ?_
    rintro v9 ⟨i6, l7, dd8, x9⟩ E9 - ⟨rfl, rfl, hp10⟩
    show ab_Fr MX6_rightOf (d + 1) Q 30 [some (.ref 202), some (.ref a1), none, some (.int a3), some (.int a4), some (.int a5), none, none] [.int r2] (0, 0) (i6, l7, dd8, x9) (ab_E0 sc)
    refine ab_istore dX6_rightOf_30 (Nat.le_of_ble_eq_true rfl) (L2 := [some (.ref 202), some (.ref a1), none, some (.int a3), some (.int a4), some (.int a5), some (.int r2), none]) rfl ?_
    refine ab_iconst (v := 0) dX6_rightOf_32 (by decide) ?_
    refine ab_istore dX6_rightOf_33 (Nat.le_of_ble_eq_true rfl) (L2 := [some (.ref 202), some (.ref a1), none, some (.int a3), some (.int a4), some (.int a5), some (.int r2), some (.int 0)]) rfl ?_
    exact (hk5 i6 l7 dd8 x9 hp10)
theorem tMX6_rightOf_35 {d : Nat} {Q : ab_Qt} {sc : Nat × (Nat → Int32)} {i : Nat → Nat → Int32} {l : Nat → Nat → Int64} {dd : Nat → Nat → Value} {x : Nat} {a1 : Nat} {a3 : Int32} {a4 : Int32} {a5 : Int32} {a6 : Int32} {a7 : Int32} (k_a1 : ab_isM a1)
    (h : (((i a1 1) ≤ a7 → (∃ (r2 : Int32) (P3 : ab_S → Prop), ab_Sp MX1_decidesWithSigns d [.ref a1, .ref 203] (i, l, dd, x) (ab_E0 sc) (some (.int r2)) P3 ∧ ∀ i6 l7 dd8 x9, P3 (i6, l7, dd8, x9) → ((¬ r2 = a6 → ab_Fr MX6_rightOf (d + 1) Q 11 [some (.ref 202), some (.ref a1), none, some (.int a3), some (.int a4), some (.int (a5 + 1)), none, none] [] (0, 0) (i6, l7, dd8, x9) (ab_E0 sc)) ∧ (r2 = a6 → ab_Fr MX6_rightOf (d + 1) Q 11 [some (.ref 202), some (.ref a1), none, some (.int a3), some (.int (a4 + 1)), some (.int (a5 + 1)), none, none] [] (0, 0) (i6, l7, dd8, x9) (ab_E0 sc))))) ∧ (¬ (i a1 1) ≤ a7 → (vp_in a7 7 ∧ vp_in a7 7 ∧ ∃ (r12 : Int32) (P13 : ab_S → Prop), ab_Sp MX6_draw d [.ref 202, .ref ((a1 + 5 + 6 * a7.toNatClampNeg) + 1), .int (a6 * 3), .int (i (a1 + 5 + 6 * a7.toNatClampNeg) 0)] (i, l, dd, x) (ab_E0 sc) (some (.int r12)) P13 ∧ ∀ i16 l17 dd18 x19, P13 (i16, l17, dd18, x19) → vp_in a7 7 ∧ ∀ i21, i21 = ab_u i16 203 a7.toNatClampNeg r12 → ab_Fr MX6_rightOf (d + 1) Q 35 [some (.ref 202), some (.ref a1), none, some (.int a3), some (.int a4), some (.int a5), some (.int a6), some (.int (a7 + 1))] [] (0, 0) (i21, l17, dd18, x19) (ab_E0 sc))))) :
    ab_Fr MX6_rightOf (d + 1) Q 35 [some (.ref 202), some (.ref a1), none, some (.int a3), some (.int a4), some (.int a5), some (.int a6), some (.int a7)] [] (0, 0) (i, l, dd, x) (ab_E0 sc) := by
  refine ab_iload dX6_rightOf_35 rfl ?_
  refine ab_aloadn dX6_rightOf_37 rfl ?_
  refine ab_getf (v := .int (i a1 1)) dX6_rightOf_38 fl_X6_31 (kM k_a1) rfl ?_
  refine ab_icmp_ge (tgt := 85) dX6_rightOf_41 (by decide) (fun c1 => ?_) (fun c1 => ?_)
  · refine ab_aloadn dX6_rightOf_85 rfl ?_
    refine ab_aloadn dX6_rightOf_86 rfl ?_
    refine ab_getf (v := .ref 203) dX6_rightOf_87 fl_X6_9 kd_202 ff_202_1 ?_
    obtain ⟨r2, P3, hs4, hk5⟩ := (h.1 c1)
    refine ab_callV (vs := [.ref 203]) (st := []) dX6_rightOf_90 okMX1_decidesWithSigns wd_1128 (kM k_a1) rfl rfl rfl (Nat.le_of_ble_eq_true rfl) ⟨Nat.le_of_ble_eq_true rfl, Nat.le_of_ble_eq_true rfl⟩ hs4 ?_
    rintro v9 ⟨i6, l7, dd8, x9⟩ E9 - ⟨rfl, rfl, hp10⟩
    show ab_Fr MX6_rightOf (d + 1) Q 93 [some (.ref 202), some (.ref a1), none, some (.int a3), some (.int a4), some (.int a5), some (.int a6), some (.int a7)] [.int r2] (0, 0) (i6, l7, dd8, x9) (ab_E0 sc)
    refine ab_iload dX6_rightOf_93 rfl ?_
    refine ab_icmp_ne (tgt := 101) dX6_rightOf_95 (by decide) (fun c11 => ?_) (fun c11 => ?_)
    · refine ab_iinc (v := (a5 + 1)) dX6_rightOf_101 rfl (by rfl) (Nat.le_of_ble_eq_true rfl) (L2 := [some (.ref 202), some (.ref a1), none, some (.int a3), some (.int a4), some (.int (a5 + 1)), some (.int a6), some (.int a7)]) rfl ?_
      refine ab_goto (tgt := 11) dX6_rightOf_104 (by decide) ?_
      refine ab_forget (i := 6) (L2 := [some (.ref 202), some (.ref a1), none, some (.int a3), some (.int a4), some (.int (a5 + 1)), none, some (.int a7)]) rfl ?_
      refine ab_forget (i := 7) (L2 := [some (.ref 202), some (.ref a1), none, some (.int a3), some (.int a4), some (.int (a5 + 1)), none, none]) rfl ?_
      exact ((hk5 i6 l7 dd8 x9 hp10).1 c11)
    · refine ab_iinc (v := (a4 + 1)) dX6_rightOf_98 rfl (by rfl) (Nat.le_of_ble_eq_true rfl) (L2 := [some (.ref 202), some (.ref a1), none, some (.int a3), some (.int (a4 + 1)), some (.int a5), some (.int a6), some (.int a7)]) rfl ?_
      refine ab_iinc (v := (a5 + 1)) dX6_rightOf_101 rfl (by rfl) (Nat.le_of_ble_eq_true rfl) (L2 := [some (.ref 202), some (.ref a1), none, some (.int a3), some (.int (a4 + 1)), some (.int (a5 + 1)), some (.int a6), some (.int a7)]) rfl ?_
      refine ab_goto (tgt := 11) dX6_rightOf_104 (by decide) ?_
      refine ab_forget (i := 6) (L2 := [some (.ref 202), some (.ref a1), none, some (.int a3), some (.int (a4 + 1)), some (.int (a5 + 1)), none, some (.int a7)]) rfl ?_
      refine ab_forget (i := 7) (L2 := [some (.ref 202), some (.ref a1), none, some (.int a3), some (.int (a4 + 1)), some (.int (a5 + 1)), none, none]) rfl ?_
      exact ((hk5 i6 l7 dd8 x9 hp10).2 c11)
  · refine ab_aloadn dX6_rightOf_44 rfl ?_
    refine ab_getf (v := .ref 203) dX6_rightOf_45 fl_X6_9 kd_202 ff_202_1 ?_
    refine ab_iload dX6_rightOf_48 rfl ?_
    refine ab_aloadn dX6_rightOf_50 rfl ?_
    refine ab_aloadn dX6_rightOf_51 rfl ?_
    refine ab_getf (v := .ref (a1 + 4)) dX6_rightOf_52 fl_X6_34 (kM k_a1) (fM_8 k_a1) ?_
    refine ab_iload dX6_rightOf_55 rfl ?_
    refine ab_aaload (a := (a1 + 5 + 6 * a7.toNatClampNeg)) dX6_rightOf_57 (Or.inl rfl) (kM_4 k_a1) (h.2 c1).1 (fMv k_a1 (h.2 c1).1) ?_
    refine ab_getf (v := .ref ((a1 + 5 + 6 * a7.toNatClampNeg) + 1)) dX6_rightOf_58 fl_X6_38 (kV (isVof k_a1 (h.2 c1).1)) (fV_4 (isVof k_a1 (h.2 c1).1)) ?_
    refine ab_iload dX6_rightOf_61 rfl ?_
    refine ab_iconst (v := 3) dX6_rightOf_63 (by decide) ?_
    refine ab_imul dX6_rightOf_64 ?_
    refine ab_aloadn dX6_rightOf_65 rfl ?_
    refine ab_getf (v := .ref (a1 + 4)) dX6_rightOf_66 fl_X6_34 (kM k_a1) (fM_8 k_a1) ?_
    refine ab_iload dX6_rightOf_69 rfl ?_
    refine ab_aaload (a := (a1 + 5 + 6 * a7.toNatClampNeg)) dX6_rightOf_71 (Or.inl rfl) (kM_4 k_a1) (h.2 c1).2.1 (fMv k_a1 (h.2 c1).2.1) ?_
    refine ab_getf (v := .int (i (a1 + 5 + 6 * a7.toNatClampNeg) 0)) dX6_rightOf_72 fl_X6_43 (kV (isVof k_a1 (h.2 c1).2.1)) rfl ?_
    obtain ⟨r12, P13, hs14, hk15⟩ := (h.2 c1).2.2
    refine ab_callV (vs := [.ref ((a1 + 5 + 6 * a7.toNatClampNeg) + 1), .int (a6 * 3), .int (i (a1 + 5 + 6 * a7.toNatClampNeg) 0)]) (st := [.int a7, .ref 203]) dX6_rightOf_75 okMX6_draw wd_1124 kd_202 rfl rfl rfl (Nat.le_of_ble_eq_true rfl) ⟨Nat.le_of_ble_eq_true rfl, Nat.le_of_ble_eq_true rfl⟩ hs14 ?_
    rintro v9 ⟨i16, l17, dd18, x19⟩ E9 - ⟨rfl, rfl, hp20⟩
    show ab_Fr MX6_rightOf (d + 1) Q 78 [some (.ref 202), some (.ref a1), none, some (.int a3), some (.int a4), some (.int a5), some (.int a6), some (.int a7)] [.int r12, .int a7, .ref 203] (0, 0) (i16, l17, dd18, x19) (ab_E0 sc)
    refine ab_iastore dX6_rightOf_78 kd_203 (hk15 i16 l17 dd18 x19 hp20).1 ?_
    obtain ⟨i21, e22⟩ : ∃ z, z = ab_u i16 203 a7.toNatClampNeg r12 := ⟨_, rfl⟩
    rw [show ab_u i16 203 a7.toNatClampNeg r12 = i21 from e22.symm]
    refine ab_iinc (v := (a7 + 1)) dX6_rightOf_79 rfl (by rfl) (Nat.le_of_ble_eq_true rfl) (L2 := [some (.ref 202), some (.ref a1), none, some (.int a3), some (.int a4), some (.int a5), some (.int a6), some (.int (a7 + 1))]) rfl ?_
    refine ab_goto (tgt := 35) dX6_rightOf_82 (by decide) ?_
    exact ((hk15 i16 l17 dd18 x19 hp20).2 i21 e22)
theorem tMX6_draw_0 {d : Nat} {Q : ab_Qt} {sc : Nat × (Nat → Int32)} {i : Nat → Nat → Int32} {l : Nat → Nat → Int64} {dd : Nat → Nat → Value} {x : Nat} {a1 : Nat} {n_a1 : Nat} {a2 : Int32} {a3 : Int32} (k_a1 : (ab_E0 sc).1 a1 = .inr (0, n_a1))
    (h : (∀ i1, i1 = ab_u i 202 0 (((i 202 0) * 1103515245) + 12345) → ab_Fr MX6_draw (d + 1) Q 33 [none, some (.ref a1), some (.int a2), some (.int a3), some (.int ((ab_ushr (i1 202 0) 8) - (ab_ushr (i1 202 0) 8) / 20 * 20)), some (.int 0), some (.int 0)] [] (0, 0) (i1, l, dd, x) (ab_E0 sc))) :
    ab_Fr MX6_draw (d + 1) Q 0 [some (.ref 202), some (.ref a1), some (.int a2), some (.int a3), none, none, none] [] (0, 0) (i, l, dd, x) (ab_E0 sc) := by
  refine ab_aloadn dX6_draw_0 rfl ?_
  refine ab_aloadn dX6_draw_1 rfl ?_
  refine ab_getf (v := .int (i 202 0)) dX6_draw_2 fl_X6_15 kd_202 rfl ?_
  refine ab_ldc dX6_draw_5 wd_1127 ?_
  refine ab_imul dX6_draw_7 ?_
  refine ab_sipush (v := 12345) dX6_draw_8 (by decide) ?_
  refine ab_iadd dX6_draw_11 ?_
  refine ab_putI dX6_draw_12 fl_X6_15 kd_202 rfl ?_
  obtain ⟨i1, e2⟩ : ∃ z, z = ab_u i 202 0 (((i 202 0) * 1103515245) + 12345) := ⟨_, rfl⟩
  show ab_Fr MX6_draw (d + 1) Q 15 [some (.ref 202), some (.ref a1), some (.int a2), some (.int a3), none, none, none] [] (0, 0) (ab_u i 202 0 (((i 202 0) * 1103515245) + 12345), l, dd, x) (ab_E0 sc)
  rw [show ab_u i 202 0 (((i 202 0) * 1103515245) + 12345) = i1 from e2.symm]
  refine ab_aloadn dX6_draw_15 rfl ?_
  refine ab_getf (v := .int (i1 202 0)) dX6_draw_16 fl_X6_15 kd_202 rfl ?_
  refine ab_bipush (v := 8) dX6_draw_19 (by decide) ?_
  refine ab_iushr (v := (ab_ushr (i1 202 0) 8)) dX6_draw_21 rfl ?_
  refine ab_bipush (v := 20) dX6_draw_22 (by decide) ?_
  refine ab_irem dX6_draw_24 (by decide) ?_
  refine ab_istore dX6_draw_25 (Nat.le_of_ble_eq_true rfl) (L2 := [some (.ref 202), some (.ref a1), some (.int a2), some (.int a3), some (.int ((ab_ushr (i1 202 0) 8) - (ab_ushr (i1 202 0) 8) / 20 * 20)), none, none]) rfl ?_
  refine ab_iconst (v := 0) dX6_draw_27 (by decide) ?_
  refine ab_istore dX6_draw_28 (Nat.le_of_ble_eq_true rfl) (L2 := [some (.ref 202), some (.ref a1), some (.int a2), some (.int a3), some (.int ((ab_ushr (i1 202 0) 8) - (ab_ushr (i1 202 0) 8) / 20 * 20)), some (.int 0), none]) rfl ?_
  refine ab_iconst (v := 0) dX6_draw_30 (by decide) ?_
  refine ab_istore dX6_draw_31 (Nat.le_of_ble_eq_true rfl) (L2 := [some (.ref 202), some (.ref a1), some (.int a2), some (.int a3), some (.int ((ab_ushr (i1 202 0) 8) - (ab_ushr (i1 202 0) 8) / 20 * 20)), some (.int 0), some (.int 0)]) rfl ?_
  refine ab_forget (i := 0) (L2 := [none, some (.ref a1), some (.int a2), some (.int a3), some (.int ((ab_ushr (i1 202 0) 8) - (ab_ushr (i1 202 0) 8) / 20 * 20)), some (.int 0), some (.int 0)]) rfl ?_
  exact (h i1 e2)
theorem tMX6_draw_33 {d : Nat} {Q : ab_Qt} {sc : Nat × (Nat → Int32)} {i : Nat → Nat → Int32} {l : Nat → Nat → Int64} {dd : Nat → Nat → Value} {x : Nat} {a1 : Nat} {n_a1 : Nat} {a2 : Int32} {a3 : Int32} {a4 : Int32} {a5 : Int32} {a6 : Int32} (k_a1 : (ab_E0 sc).1 a1 = .inr (0, n_a1))
    (h : (((a3 - 1) ≤ a6 → Q (some (some (.int (a3 - 1)))) (i, l, dd, x) (ab_E0 sc)) ∧ (¬ (a3 - 1) ≤ a6 → (vp_in (a2 + a6) n_a1 ∧ (((a5 + (i a1 (a2 + a6).toNatClampNeg)) ≤ a4 → ab_Fr MX6_draw (d + 1) Q 33 [none, some (.ref a1), some (.int a2), some (.int a3), some (.int a4), some (.int (a5 + (i a1 (a2 + a6).toNatClampNeg))), some (.int (a6 + 1))] [] (0, 0) (i, l, dd, x) (ab_E0 sc)) ∧ (¬ (a5 + (i a1 (a2 + a6).toNatClampNeg)) ≤ a4 → Q (some (some (.int a6))) (i, l, dd, x) (ab_E0 sc))))))) :
    ab_Fr MX6_draw (d + 1) Q 33 [none, some (.ref a1), some (.int a2), some (.int a3), some (.int a4), some (.int a5), some (.int a6)] [] (0, 0) (i, l, dd, x) (ab_E0 sc) := by
  refine ab_iload dX6_draw_33 rfl ?_
  refine ab_iloadn dX6_draw_35 rfl ?_
  refine ab_iconst (v := 1) dX6_draw_36 (by decide) ?_
  refine ab_isub dX6_draw_37 ?_
  refine ab_icmp_ge (tgt := 68) dX6_draw_38 (by decide) (fun c1 => ?_) (fun c1 => ?_)
  · refine ab_iloadn dX6_draw_68 rfl ?_
    refine ab_iconst (v := 1) dX6_draw_69 (by decide) ?_
    refine ab_isub dX6_draw_70 ?_
    exact ab_iret dX6_draw_71 rfl ⟨Nat.zero_le _, Nat.zero_le _⟩ (h.1 c1)
  · refine ab_iload dX6_draw_41 rfl ?_
    refine ab_aloadn dX6_draw_43 rfl ?_
    refine ab_iloadn dX6_draw_44 rfl ?_
    refine ab_iload dX6_draw_45 rfl ?_
    refine ab_iadd dX6_draw_47 ?_
    refine ab_iaload (v := (i a1 (a2 + a6).toNatClampNeg)) dX6_draw_48 k_a1 (h.2 c1).1 rfl ?_
    refine ab_iadd dX6_draw_49 ?_
    refine ab_istore dX6_draw_50 (Nat.le_of_ble_eq_true rfl) (L2 := [none, some (.ref a1), some (.int a2), some (.int a3), some (.int a4), some (.int (a5 + (i a1 (a2 + a6).toNatClampNeg))), some (.int a6)]) rfl ?_
    refine ab_iload dX6_draw_52 rfl ?_
    refine ab_iload dX6_draw_54 rfl ?_
    refine ab_icmp_le (tgt := 62) dX6_draw_56 (by decide) (fun c2 => ?_) (fun c2 => ?_)
    · refine ab_iinc (v := (a6 + 1)) dX6_draw_62 rfl (by rfl) (Nat.le_of_ble_eq_true rfl) (L2 := [none, some (.ref a1), some (.int a2), some (.int a3), some (.int a4), some (.int (a5 + (i a1 (a2 + a6).toNatClampNeg))), some (.int (a6 + 1))]) rfl ?_
      refine ab_goto (tgt := 33) dX6_draw_65 (by decide) ?_
      exact ((h.2 c1).2.1 c2)
    · refine ab_iload dX6_draw_59 rfl ?_
      exact ab_iret dX6_draw_61 rfl ⟨Nat.zero_le _, Nat.zero_le _⟩ ((h.2 c1).2.2 c2)
theorem tMX10_lastPart_0 {d : Nat} {Q : ab_Qt} {sc : Nat × (Nat → Int32)} {i : Nat → Nat → Int32} {l : Nat → Nat → Int64} {dd : Nat → Nat → Value} {x : Nat} {a0 : Int32} 
    (h : ((¬ a0 = 2 → Q (some (some (.int 4))) (i, l, dd, x) (ab_E0 sc)) ∧ (a0 = 2 → Q (some (some (.int 1))) (i, l, dd, x) (ab_E0 sc)))) :
    ab_Fr MX10_lastPart (d + 1) Q 0 [some (.int a0)] [] (0, 0) (i, l, dd, x) (ab_E0 sc) := by
  refine ab_iloadn dX10_lastPart_0 rfl ?_
  refine ab_iconst (v := 2) dX10_lastPart_1 (by decide) ?_
  refine ab_icmp_ne (tgt := 9) dX10_lastPart_2 (by decide) (fun c1 => ?_) (fun c1 => ?_)
  · refine ab_iconst (v := 4) dX10_lastPart_9 (by decide) ?_
    exact ab_iret dX10_lastPart_10 rfl ⟨Nat.zero_le _, Nat.zero_le _⟩ (h.1 c1)
  · refine ab_iconst (v := 1) dX10_lastPart_5 (by decide) ?_
    refine ab_goto (tgt := 10) dX10_lastPart_6 (by decide) ?_
    exact ab_iret dX10_lastPart_10 rfl ⟨Nat.zero_le _, Nat.zero_le _⟩ (h.2 c1)
theorem tMX10_areBelieved_0 {d : Nat} {Q : ab_Qt} {sc : Nat × (Nat → Int32)} {i : Nat → Nat → Int32} {l : Nat → Nat → Int64} {dd : Nat → Nat → Value} {x : Nat} {a1 : Nat} {a2 : Int32} {a3 : Int32} {a4 : Int32} (k_a1 : ab_isM a1)
    (h : (∀ dd1, dd1 = ab_u dd 199 0 (.ref a1) → ∃ m3, dd1 199 0 = .ref m3 ∧ ab_isM m3 ∧ vp_in a2 7 ∧ ∀ dd5, dd5 = ab_u dd1 199 1 (.ref (m3 + 5 + 6 * a2.toNatClampNeg)) → ∃ m7, dd5 199 0 = .ref m7 ∧ ab_isM m7 ∧ vp_in a3 7 ∧ ∀ dd9, dd9 = ab_u dd5 199 2 (.ref (m7 + 5 + 6 * a3.toNatClampNeg)) → ∃ m11, dd9 199 1 = .ref m11 ∧ ab_isV m11 ∧ ((¬ (i m11 0) = 2 → ab_Fr MX10_areBelieved (d + 1) Q 56 [some (.ref 199), none, none, none, none, none, none] [.int (a4 * 3), .ref 199] (0, 0) (i, l, dd9, x) (ab_E0 sc)) ∧ ((i m11 0) = 2 → ab_Fr MX10_areBelieved (d + 1) Q 56 [some (.ref 199), none, none, none, none, none, none] [.int ((a4 * 4) * 3), .ref 199] (0, 0) (i, l, dd9, x) (ab_E0 sc))))) :
    ab_Fr MX10_areBelieved (d + 1) Q 0 [some (.ref 199), some (.ref a1), some (.int a2), some (.int a3), some (.int a4), none, none] [] (0, 0) (i, l, dd, x) (ab_E0 sc) := by
  refine ab_aloadn dX10_areBelieved_0 rfl ?_
  refine ab_aloadn dX10_areBelieved_1 rfl ?_
  refine ab_putR dX10_areBelieved_2 fl_X10_9 kd_199 rfl ?_
  obtain ⟨dd1, e2⟩ : ∃ z, z = ab_u dd 199 0 (.ref a1) := ⟨_, rfl⟩
  show ab_Fr MX10_areBelieved (d + 1) Q 5 [some (.ref 199), some (.ref a1), some (.int a2), some (.int a3), some (.int a4), none, none] [] (0, 0) (i, l, ab_u dd 199 0 (.ref a1), x) (ab_E0 sc)
  rw [show ab_u dd 199 0 (.ref a1) = dd1 from e2.symm]
  refine ab_aloadn dX10_areBelieved_5 rfl ?_
  refine ab_aloadn dX10_areBelieved_6 rfl ?_
  obtain ⟨m3, hm4d, hm4, hm4t⟩ := (h dd1 e2)
  refine ab_getf (v := .ref m3) dX10_areBelieved_7 fl_X10_9 kd_199 hm4d ?_
  refine ab_getf (v := .ref (m3 + 4)) dX10_areBelieved_10 fl_X10_15 (kM hm4) (fM_8 hm4) ?_
  refine ab_iloadn dX10_areBelieved_13 rfl ?_
  refine ab_aaload (a := (m3 + 5 + 6 * a2.toNatClampNeg)) dX10_areBelieved_14 (Or.inl rfl) (kM_4 hm4) hm4t.1 (fMv hm4 hm4t.1) ?_
  refine ab_putR dX10_areBelieved_15 fl_X10_21 kd_199 rfl ?_
  obtain ⟨dd5, e6⟩ : ∃ z, z = ab_u dd1 199 1 (.ref (m3 + 5 + 6 * a2.toNatClampNeg)) := ⟨_, rfl⟩
  show ab_Fr MX10_areBelieved (d + 1) Q 18 [some (.ref 199), some (.ref a1), some (.int a2), some (.int a3), some (.int a4), none, none] [] (0, 0) (i, l, ab_u dd1 199 1 (.ref (m3 + 5 + 6 * a2.toNatClampNeg)), x) (ab_E0 sc)
  rw [show ab_u dd1 199 1 (.ref (m3 + 5 + 6 * a2.toNatClampNeg)) = dd5 from e6.symm]
  refine ab_aloadn dX10_areBelieved_18 rfl ?_
  refine ab_aloadn dX10_areBelieved_19 rfl ?_
  obtain ⟨m7, hm8d, hm8, hm8t⟩ := (hm4t.2 dd5 e6)
  refine ab_getf (v := .ref m7) dX10_areBelieved_20 fl_X10_9 kd_199 hm8d ?_
  refine ab_getf (v := .ref (m7 + 4)) dX10_areBelieved_23 fl_X10_15 (kM hm8) (fM_8 hm8) ?_
  refine ab_iloadn dX10_areBelieved_26 rfl ?_
  refine ab_aaload (a := (m7 + 5 + 6 * a3.toNatClampNeg)) dX10_areBelieved_27 (Or.inl rfl) (kM_4 hm8) hm8t.1 (fMv hm8 hm8t.1) ?_
  refine ab_putR dX10_areBelieved_28 fl_X10_25 kd_199 rfl ?_
  obtain ⟨dd9, e10⟩ : ∃ z, z = ab_u dd5 199 2 (.ref (m7 + 5 + 6 * a3.toNatClampNeg)) := ⟨_, rfl⟩
  show ab_Fr MX10_areBelieved (d + 1) Q 31 [some (.ref 199), some (.ref a1), some (.int a2), some (.int a3), some (.int a4), none, none] [] (0, 0) (i, l, ab_u dd5 199 2 (.ref (m7 + 5 + 6 * a3.toNatClampNeg)), x) (ab_E0 sc)
  rw [show ab_u dd5 199 2 (.ref (m7 + 5 + 6 * a3.toNatClampNeg)) = dd9 from e10.symm]
  refine ab_aloadn dX10_areBelieved_31 rfl ?_
  refine ab_aloadn dX10_areBelieved_32 rfl ?_
  obtain ⟨m11, hm12d, hm12, hm12t⟩ := (hm8t.2 dd9 e10)
  refine ab_getf (v := .ref m11) dX10_areBelieved_33 fl_X10_21 kd_199 hm12d ?_
  refine ab_getf (v := .int (i m11 0)) dX10_areBelieved_36 fl_X10_36 (kV hm12) rfl ?_
  refine ab_iconst (v := 2) dX10_areBelieved_39 (by decide) ?_
  refine ab_icmp_ne (tgt := 52) dX10_areBelieved_40 (by decide) (fun c13 => ?_) (fun c13 => ?_)
  · refine ab_iload dX10_areBelieved_52 rfl ?_
    refine ab_iconst (v := 3) dX10_areBelieved_54 (by decide) ?_
    refine ab_imul dX10_areBelieved_55 ?_
    refine ab_forget (i := 1) (L2 := [some (.ref 199), none, some (.int a2), some (.int a3), some (.int a4), none, none]) rfl ?_
    refine ab_forget (i := 2) (L2 := [some (.ref 199), none, none, some (.int a3), some (.int a4), none, none]) rfl ?_
    refine ab_forget (i := 3) (L2 := [some (.ref 199), none, none, none, some (.int a4), none, none]) rfl ?_
    refine ab_forget (i := 4) (L2 := [some (.ref 199), none, none, none, none, none, none]) rfl ?_
    exact (hm12t.1 c13)
  · refine ab_iload dX10_areBelieved_43 rfl ?_
    refine ab_iconst (v := 4) dX10_areBelieved_45 (by decide) ?_
    refine ab_imul dX10_areBelieved_46 ?_
    refine ab_iconst (v := 3) dX10_areBelieved_47 (by decide) ?_
    refine ab_imul dX10_areBelieved_48 ?_
    refine ab_goto (tgt := 56) dX10_areBelieved_49 (by decide) ?_
    refine ab_forget (i := 1) (L2 := [some (.ref 199), none, some (.int a2), some (.int a3), some (.int a4), none, none]) rfl ?_
    refine ab_forget (i := 2) (L2 := [some (.ref 199), none, none, some (.int a3), some (.int a4), none, none]) rfl ?_
    refine ab_forget (i := 3) (L2 := [some (.ref 199), none, none, none, some (.int a4), none, none]) rfl ?_
    refine ab_forget (i := 4) (L2 := [some (.ref 199), none, none, none, none, none, none]) rfl ?_
    exact (hm12t.2 c13)
theorem tMX10_areBelieved_56 {d : Nat} {Q : ab_Qt} {sc : Nat × (Nat → Int32)} {i : Nat → Nat → Int32} {l : Nat → Nat → Int64} {dd : Nat → Nat → Value} {x : Nat} {s1 : Int32} 
    (h : (∀ i1, i1 = ab_u i 199 3 s1 → ab_Fr MX10_areBelieved (d + 1) Q 65 [some (.ref 199), none, none, none, none, some (.int 0), some (.int 0)] [] (0, 0) (i1, l, dd, x) (ab_E0 sc))) :
    ab_Fr MX10_areBelieved (d + 1) Q 56 [some (.ref 199), none, none, none, none, none, none] [.int s1, .ref 199] (0, 0) (i, l, dd, x) (ab_E0 sc) := by
  refine ab_putI dX10_areBelieved_56 fl_X10_42 kd_199 rfl ?_
  obtain ⟨i1, e2⟩ : ∃ z, z = ab_u i 199 3 s1 := ⟨_, rfl⟩
  show ab_Fr MX10_areBelieved (d + 1) Q 59 [some (.ref 199), none, none, none, none, none, none] [] (0, 0) (ab_u i 199 3 s1, l, dd, x) (ab_E0 sc)
  rw [show ab_u i 199 3 s1 = i1 from e2.symm]
  refine ab_iconst (v := 0) dX10_areBelieved_59 (by decide) ?_
  refine ab_istore dX10_areBelieved_60 (Nat.le_of_ble_eq_true rfl) (L2 := [some (.ref 199), none, none, none, none, some (.int 0), none]) rfl ?_
  refine ab_iconst (v := 0) dX10_areBelieved_62 (by decide) ?_
  refine ab_istore dX10_areBelieved_63 (Nat.le_of_ble_eq_true rfl) (L2 := [some (.ref 199), none, none, none, none, some (.int 0), some (.int 0)]) rfl ?_
  exact (h i1 e2)
theorem tMX10_areBelieved_65 {d : Nat} {Q : ab_Qt} {sc : Nat × (Nat → Int32)} {i : Nat → Nat → Int32} {l : Nat → Nat → Int64} {dd : Nat → Nat → Value} {x : Nat} {a5 : Int32} {a6 : Int32} 
    (h : (∃ m1, dd 199 1 = .ref m1 ∧ ab_isV m1 ∧ (((i m1 0) ≤ a6 → ab_Fr MX10_areBelieved (d + 1) Q 106 [some (.ref 199), none, none, none, none, some (.int a5), some (.int 0)] [] (0, 0) (i, l, dd, x) (ab_E0 sc)) ∧ (¬ (i m1 0) ≤ a6 → (vp_in ((i 199 3) + a6) 15 ∧ ab_Fr MX10_areBelieved (d + 1) Q 65 [some (.ref 199), none, none, none, none, some (.int (if a5 < ((ab_wo ((i 199 3) + a6).toNatClampNeg) + 1) then ((ab_wo ((i 199 3) + a6).toNatClampNeg) + 1) else a5)), some (.int (a6 + 1))] [] (0, 0) (i, l, dd, x) (ab_E0 sc)))))) :
    ab_Fr MX10_areBelieved (d + 1) Q 65 [some (.ref 199), none, none, none, none, some (.int a5), some (.int a6)] [] (0, 0) (i, l, dd, x) (ab_E0 sc) := by
  refine ab_iload dX10_areBelieved_65 rfl ?_
  refine ab_aloadn dX10_areBelieved_67 rfl ?_
  obtain ⟨m1, hm2d, hm2, hm2t⟩ := h
  refine ab_getf (v := .ref m1) dX10_areBelieved_68 fl_X10_21 kd_199 hm2d ?_
  refine ab_getf (v := .int (i m1 0)) dX10_areBelieved_71 fl_X10_36 (kV hm2) rfl ?_
  refine ab_icmp_ge (tgt := 103) dX10_areBelieved_74 (by decide) (fun c3 => ?_) (fun c3 => ?_)
  · refine ab_iconst (v := 0) dX10_areBelieved_103 (by decide) ?_
    refine ab_istore dX10_areBelieved_104 (Nat.le_of_ble_eq_true rfl) (L2 := [some (.ref 199), none, none, none, none, some (.int a5), some (.int 0)]) rfl ?_
    exact (hm2t.1 c3)
  · refine ab_iload dX10_areBelieved_77 rfl ?_
    refine ab_getsW dX10_areBelieved_79 wd_1016 ?_
    refine ab_aloadn dX10_areBelieved_82 rfl ?_
    refine ab_getf (v := .int (i 199 3)) dX10_areBelieved_83 fl_X10_42 kd_199 rfl ?_
    refine ab_iload dX10_areBelieved_86 rfl ?_
    refine ab_iadd dX10_areBelieved_88 ?_
    refine ab_old (v := (ab_wo ((i 199 3) + a6).toNatClampNeg)) dX10_areBelieved_89 (hm2t.2 c3).1 rfl ?_
    refine ab_iconst (v := 1) dX10_areBelieved_90 (by decide) ?_
    refine ab_iadd dX10_areBelieved_91 ?_
    refine ab_max (v := (if a5 < ((ab_wo ((i 199 3) + a6).toNatClampNeg) + 1) then ((ab_wo ((i 199 3) + a6).toNatClampNeg) + 1) else a5)) dX10_areBelieved_92 wd_1017 ⟨wd_1018, wd_151, wd_1019⟩ (Nat.le_of_ble_eq_true rfl) ⟨Nat.zero_le _, Nat.zero_le _⟩ rfl ?_
    refine ab_istore dX10_areBelieved_95 (Nat.le_of_ble_eq_true rfl) (L2 := [some (.ref 199), none, none, none, none, some (.int (if a5 < ((ab_wo ((i 199 3) + a6).toNatClampNeg) + 1) then ((ab_wo ((i 199 3) + a6).toNatClampNeg) + 1) else a5)), some (.int a6)]) rfl ?_
    refine ab_iinc (v := (a6 + 1)) dX10_areBelieved_97 rfl (by rfl) (Nat.le_of_ble_eq_true rfl) (L2 := [some (.ref 199), none, none, none, none, some (.int (if a5 < ((ab_wo ((i 199 3) + a6).toNatClampNeg) + 1) then ((ab_wo ((i 199 3) + a6).toNatClampNeg) + 1) else a5)), some (.int (a6 + 1))]) rfl ?_
    refine ab_goto (tgt := 65) dX10_areBelieved_100 (by decide) ?_
    exact (hm2t.2 c3).2
theorem tMX10_areBelieved_106 {d : Nat} {Q : ab_Qt} {sc : Nat × (Nat → Int32)} {i : Nat → Nat → Int32} {l : Nat → Nat → Int64} {dd : Nat → Nat → Value} {x : Nat} {a5 : Int32} {a6 : Int32} 
    (h : ((a5 ≤ a6 → ab_Fr MX10_areBelieved (d + 1) Q 128 [some (.ref 199), none, none, none, none, some (.int a5), some (.int 0)] [] (0, 0) (i, l, dd, x) (ab_E0 sc)) ∧ (¬ a5 ≤ a6 → (∃ (P3 : ab_S → Prop), ab_Sp MX10_hearWord d [.ref 199, .int a6] (i, l, dd, x) (ab_E0 sc) (none) P3 ∧ ∀ i6 l7 dd8 x9, P3 (i6, l7, dd8, x9) → ab_Fr MX10_areBelieved (d + 1) Q 106 [some (.ref 199), none, none, none, none, some (.int a5), some (.int (a6 + 1))] [] (0, 0) (i6, l7, dd8, x9) (ab_E0 sc))))) :
    ab_Fr MX10_areBelieved (d + 1) Q 106 [some (.ref 199), none, none, none, none, some (.int a5), some (.int a6)] [] (0, 0) (i, l, dd, x) (ab_E0 sc) := by
  refine ab_iload dX10_areBelieved_106 rfl ?_
  refine ab_iload dX10_areBelieved_108 rfl ?_
  refine ab_icmp_ge (tgt := 125) dX10_areBelieved_110 (by decide) (fun c1 => ?_) (fun c1 => ?_)
  · refine ab_iconst (v := 0) dX10_areBelieved_125 (by decide) ?_
    refine ab_istore dX10_areBelieved_126 (Nat.le_of_ble_eq_true rfl) (L2 := [some (.ref 199), none, none, none, none, some (.int a5), some (.int 0)]) rfl ?_
    exact (h.1 c1)
  · refine ab_aloadn dX10_areBelieved_113 rfl ?_
    refine ab_iload dX10_areBelieved_114 rfl ?_
    obtain ⟨P3, hs4, hk5⟩ := (h.2 c1)
    refine ab_callV (vs := [.int a6]) (st := []) dX10_areBelieved_116 okMX10_hearWord wd_1020 kd_199 rfl rfl rfl (Nat.le_of_ble_eq_true rfl) ⟨Nat.le_of_ble_eq_true rfl, Nat.le_of_ble_eq_true rfl⟩ hs4 ?_
    rintro v9 ⟨i6, l7, dd8, x9⟩ E9 - ⟨rfl, rfl, hp10⟩
    show ab_Fr MX10_areBelieved (d + 1) Q 119 [some (.ref 199), none, none, none, none, some (.int a5), some (.int a6)] [] (0, 0) (i6, l7, dd8, x9) (ab_E0 sc)
    refine ab_iinc (v := (a6 + 1)) dX10_areBelieved_119 rfl (by rfl) (Nat.le_of_ble_eq_true rfl) (L2 := [some (.ref 199), none, none, none, none, some (.int a5), some (.int (a6 + 1))]) rfl ?_
    refine ab_goto (tgt := 106) dX10_areBelieved_122 (by decide) ?_
    exact (hk5 i6 l7 dd8 x9 hp10)
theorem tMX10_areBelieved_128 {d : Nat} {Q : ab_Qt} {sc : Nat × (Nat → Int32)} {i : Nat → Nat → Int32} {l : Nat → Nat → Int64} {dd : Nat → Nat → Value} {x : Nat} {a5 : Int32} {a6 : Int32} 
    (h : (∃ m1, dd 199 1 = .ref m1 ∧ ab_isV m1 ∧ (((i m1 0) ≤ a6 → Q (some (some (.int 1))) (i, l, dd, x) (ab_E0 sc)) ∧ (¬ (i m1 0) ≤ a6 → (∃ (r4 : Int32) (P5 : ab_S → Prop), ab_Sp MX10_liesWith d [.ref 199, .int a6, .int a5] (i, l, dd, x) (ab_E0 sc) (some (.int r4)) P5 ∧ ∀ i8 l9 dd10 x11, P5 (i8, l9, dd10, x11) → ((r4 = 0 → ab_Fr MX10_areBelieved (d + 1) Q 128 [some (.ref 199), none, none, none, none, some (.int a5), some (.int (a6 + 1))] [] (0, 0) (i8, l9, dd10, x11) (ab_E0 sc)) ∧ (¬ r4 = 0 → Q (some (some (.int 0))) (i8, l9, dd10, x11) (ab_E0 sc)))))))) :
    ab_Fr MX10_areBelieved (d + 1) Q 128 [some (.ref 199), none, none, none, none, some (.int a5), some (.int a6)] [] (0, 0) (i, l, dd, x) (ab_E0 sc) := by
  refine ab_iload dX10_areBelieved_128 rfl ?_
  refine ab_aloadn dX10_areBelieved_130 rfl ?_
  obtain ⟨m1, hm2d, hm2, hm2t⟩ := h
  refine ab_getf (v := .ref m1) dX10_areBelieved_131 fl_X10_21 kd_199 hm2d ?_
  refine ab_getf (v := .int (i m1 0)) dX10_areBelieved_134 fl_X10_36 (kV hm2) rfl ?_
  refine ab_icmp_ge (tgt := 159) dX10_areBelieved_137 (by decide) (fun c3 => ?_) (fun c3 => ?_)
  · refine ab_iconst (v := 1) dX10_areBelieved_159 (by decide) ?_
    exact ab_zret dX10_areBelieved_160 rfl (by decide) ⟨Nat.zero_le _, Nat.zero_le _⟩ (hm2t.1 c3)
  · refine ab_aloadn dX10_areBelieved_140 rfl ?_
    refine ab_iload dX10_areBelieved_141 rfl ?_
    refine ab_iload dX10_areBelieved_143 rfl ?_
    obtain ⟨r4, P5, hs6, hk7⟩ := (hm2t.2 c3)
    refine ab_callV (vs := [.int a6, .int a5]) (st := []) dX10_areBelieved_145 okMX10_liesWith wd_1027 kd_199 rfl rfl rfl (Nat.le_of_ble_eq_true rfl) ⟨Nat.le_of_ble_eq_true rfl, Nat.le_of_ble_eq_true rfl⟩ hs6 ?_
    rintro v9 ⟨i8, l9, dd10, x11⟩ E9 - ⟨rfl, rfl, hp12⟩
    show ab_Fr MX10_areBelieved (d + 1) Q 148 [some (.ref 199), none, none, none, none, some (.int a5), some (.int a6)] [.int r4] (0, 0) (i8, l9, dd10, x11) (ab_E0 sc)
    refine ab_if_eq (tgt := 153) dX10_areBelieved_148 (by decide) (fun c13 => ?_) (fun c13 => ?_)
    · refine ab_iinc (v := (a6 + 1)) dX10_areBelieved_153 rfl (by rfl) (Nat.le_of_ble_eq_true rfl) (L2 := [some (.ref 199), none, none, none, none, some (.int a5), some (.int (a6 + 1))]) rfl ?_
      refine ab_goto (tgt := 128) dX10_areBelieved_156 (by decide) ?_
      exact ((hk7 i8 l9 dd10 x11 hp12).1 c13)
    · refine ab_iconst (v := 0) dX10_areBelieved_151 (by decide) ?_
      exact ab_zret dX10_areBelieved_152 rfl (by decide) ⟨Nat.zero_le _, Nat.zero_le _⟩ ((hk7 i8 l9 dd10 x11 hp12).2 c13)
theorem tMX10_hearWord_0 {d : Nat} {Q : ab_Qt} {sc : Nat × (Nat → Int32)} {i : Nat → Nat → Int32} {l : Nat → Nat → Int64} {dd : Nat → Nat → Value} {x : Nat} {a1 : Int32} 
    (h : ab_Fr MX10_hearWord (d + 1) Q 2 [some (.ref 199), some (.int a1), some (.int 0), none] [] (0, 0) (i, l, dd, x) (ab_E0 sc)) :
    ab_Fr MX10_hearWord (d + 1) Q 0 [some (.ref 199), some (.int a1), none, none] [] (0, 0) (i, l, dd, x) (ab_E0 sc) := by
  refine ab_iconst (v := 0) dX10_hearWord_0 (by decide) ?_
  refine ab_istoren dX10_hearWord_1 (Nat.le_of_ble_eq_true rfl) (L2 := [some (.ref 199), some (.int a1), some (.int 0), none]) rfl ?_
  exact h
theorem tMX10_hearWord_2 {d : Nat} {Q : ab_Qt} {sc : Nat × (Nat → Int32)} {i : Nat → Nat → Int32} {l : Nat → Nat → Int64} {dd : Nat → Nat → Value} {x : Nat} {a1 : Int32} {a2 : Int32} 
    (h : (∃ m1, dd 199 2 = .ref m1 ∧ ab_isV m1 ∧ (((i m1 0) ≤ a2 → Q (some none) (i, l, dd, x) (ab_E0 sc)) ∧ (¬ (i m1 0) ≤ a2 → ab_Fr MX10_hearWord (d + 1) Q 15 [some (.ref 199), some (.int a1), some (.int a2), some (.int 0)] [] (0, 0) (i, l, dd, x) (ab_E0 sc))))) :
    ab_Fr MX10_hearWord (d + 1) Q 2 [some (.ref 199), some (.int a1), some (.int a2), none] [] (0, 0) (i, l, dd, x) (ab_E0 sc) := by
  refine ab_iloadn dX10_hearWord_2 rfl ?_
  refine ab_aloadn dX10_hearWord_3 rfl ?_
  obtain ⟨m1, hm2d, hm2, hm2t⟩ := h
  refine ab_getf (v := .ref m1) dX10_hearWord_4 fl_X10_25 kd_199 hm2d ?_
  refine ab_getf (v := .int (i m1 0)) dX10_hearWord_7 fl_X10_36 (kV hm2) rfl ?_
  refine ab_icmp_ge (tgt := 103) dX10_hearWord_10 (by decide) (fun c3 => ?_) (fun c3 => ?_)
  · exact ab_vret dX10_hearWord_103 rfl ⟨Nat.zero_le _, Nat.zero_le _⟩ (hm2t.1 c3)
  · refine ab_iconst (v := 0) dX10_hearWord_13 (by decide) ?_
    refine ab_istoren dX10_hearWord_14 (Nat.le_of_ble_eq_true rfl) (L2 := [some (.ref 199), some (.int a1), some (.int a2), some (.int 0)]) rfl ?_
    exact (hm2t.2 c3)
theorem tMX10_hearWord_15 {d : Nat} {Q : ab_Qt} {sc : Nat × (Nat → Int32)} {i : Nat → Nat → Int32} {l : Nat → Nat → Int64} {dd : Nat → Nat → Value} {x : Nat} {a1 : Int32} {a2 : Int32} {a3 : Int32} 
    (h : ((3 ≤ a3 → (∃ m2, dd 199 2 = .ref m2 ∧ ab_isV m2 ∧ ∃ m4, dd 199 0 = .ref m4 ∧ ab_isM m4 ∧ ∃ (r6 : Int32) (P7 : ab_S → Prop), ab_Sp MX0_leastOf d [.ref (m2 + 3), .int (i m4 0), .ref 200, .int 0] (i, l, dd, x) (ab_E0 sc) (some (.int r6)) P7 ∧ ∀ i10 l11 dd12 x13, P7 (i10, l11, dd12, x13) → vp_in ((a1 * 3) + a2) 9 ∧ ∀ i15, i15 = ab_u i10 201 ((a1 * 3) + a2).toNatClampNeg r6 → ab_Fr MX10_hearWord (d + 1) Q 2 [some (.ref 199), some (.int a1), some (.int (a2 + 1)), none] [] (0, 0) (i15, l11, dd12, x13) (ab_E0 sc))) ∧ (¬ 3 ≤ a3 → (∃ m17, dd 199 0 = .ref m17 ∧ ab_isM m17 ∧ vp_in a3 3 ∧ ∃ (r19 : Int32) (P20 : ab_S → Prop), ab_Sp MX10_likelyWord d [.ref 199, .int a1, .int a3] (i, l, dd, x) (ab_E0 sc) (some (.int r19)) P20 ∧ ∀ i23 l24 dd25 x26, P20 (i23, l24, dd25, x26) → ∃ m28, dd25 199 2 = .ref m28 ∧ ab_isV m28 ∧ vp_in ((a3 * 3) + a2) 9 ∧ vp_in a3 3 ∧ ∀ l30, l30 = ab_u l24 200 a3.toNatClampNeg (((i (m17 + 1) a3.toNatClampNeg).toInt64 * r19.toInt64) * (i23 (m28 + 1) ((a3 * 3) + a2).toNatClampNeg).toInt64) → ab_Fr MX10_hearWord (d + 1) Q 15 [some (.ref 199), some (.int a1), some (.int a2), some (.int (a3 + 1))] [] (0, 0) (i23, l30, dd25, x26) (ab_E0 sc))))) :
    ab_Fr MX10_hearWord (d + 1) Q 15 [some (.ref 199), some (.int a1), some (.int a2), some (.int a3)] [] (0, 0) (i, l, dd, x) (ab_E0 sc) := by
  refine ab_iloadn dX10_hearWord_15 rfl ?_
  refine ab_iconst (v := 3) dX10_hearWord_16 (by decide) ?_
  refine ab_icmp_ge (tgt := 65) dX10_hearWord_17 (by decide) (fun c1 => ?_) (fun c1 => ?_)
  · refine ab_aloadn dX10_hearWord_65 rfl ?_
    refine ab_getf (v := .ref 201) dX10_hearWord_66 fl_X10_32 kd_199 ff_199_5 ?_
    refine ab_iloadn dX10_hearWord_69 rfl ?_
    refine ab_iconst (v := 3) dX10_hearWord_70 (by decide) ?_
    refine ab_imul dX10_hearWord_71 ?_
    refine ab_iloadn dX10_hearWord_72 rfl ?_
    refine ab_iadd dX10_hearWord_73 ?_
    refine ab_aloadn dX10_hearWord_74 rfl ?_
    obtain ⟨m2, hm3d, hm3, hm3t⟩ := (h.1 c1)
    refine ab_getf (v := .ref m2) dX10_hearWord_75 fl_X10_25 kd_199 hm3d ?_
    refine ab_getf (v := .ref (m2 + 3)) dX10_hearWord_78 fl_X10_71 (kV hm3) (fV_6 hm3) ?_
    refine ab_aloadn dX10_hearWord_81 rfl ?_
    obtain ⟨m4, hm5d, hm5, hm5t⟩ := hm3t
    refine ab_getf (v := .ref m4) dX10_hearWord_82 fl_X10_9 kd_199 hm5d ?_
    refine ab_getf (v := .int (i m4 0)) dX10_hearWord_85 fl_X10_75 (kM hm5) rfl ?_
    refine ab_aloadn dX10_hearWord_88 rfl ?_
    refine ab_getf (v := .ref 200) dX10_hearWord_89 fl_X10_28 kd_199 ff_199_4 ?_
    refine ab_iconst (v := 0) dX10_hearWord_92 (by decide) ?_
    obtain ⟨r6, P7, hs8, hk9⟩ := hm5t
    refine ab_callV (vs := [.int (i m4 0), .ref 200, .int 0]) (st := [.int ((a1 * 3) + a2), .ref 201]) dX10_hearWord_93 okMX0_leastOf wd_1026 (kLo (isV_3 hm3)) rfl rfl rfl (Nat.le_of_ble_eq_true rfl) ⟨Nat.le_of_ble_eq_true rfl, Nat.le_of_ble_eq_true rfl⟩ hs8 ?_
    rintro v9 ⟨i10, l11, dd12, x13⟩ E9 - ⟨rfl, rfl, hp14⟩
    show ab_Fr MX10_hearWord (d + 1) Q 96 [some (.ref 199), some (.int a1), some (.int a2), some (.int a3)] [.int r6, .int ((a1 * 3) + a2), .ref 201] (0, 0) (i10, l11, dd12, x13) (ab_E0 sc)
    refine ab_iastore dX10_hearWord_96 kd_201 (hk9 i10 l11 dd12 x13 hp14).1 ?_
    obtain ⟨i15, e16⟩ : ∃ z, z = ab_u i10 201 ((a1 * 3) + a2).toNatClampNeg r6 := ⟨_, rfl⟩
    rw [show ab_u i10 201 ((a1 * 3) + a2).toNatClampNeg r6 = i15 from e16.symm]
    refine ab_iinc (v := (a2 + 1)) dX10_hearWord_97 rfl (by rfl) (Nat.le_of_ble_eq_true rfl) (L2 := [some (.ref 199), some (.int a1), some (.int (a2 + 1)), some (.int a3)]) rfl ?_
    refine ab_goto (tgt := 2) dX10_hearWord_100 (by decide) ?_
    refine ab_forget (i := 3) (L2 := [some (.ref 199), some (.int a1), some (.int (a2 + 1)), none]) rfl ?_
    exact ((hk9 i10 l11 dd12 x13 hp14).2 i15 e16)
  · refine ab_aloadn dX10_hearWord_20 rfl ?_
    refine ab_getf (v := .ref 200) dX10_hearWord_21 fl_X10_28 kd_199 ff_199_4 ?_
    refine ab_iloadn dX10_hearWord_24 rfl ?_
    refine ab_aloadn dX10_hearWord_25 rfl ?_
    obtain ⟨m17, hm18d, hm18, hm18t⟩ := (h.2 c1)
    refine ab_getf (v := .ref m17) dX10_hearWord_26 fl_X10_9 kd_199 hm18d ?_
    refine ab_getf (v := .ref (m17 + 1)) dX10_hearWord_29 fl_X10_62 (kM hm18) (fM_6 hm18) ?_
    refine ab_iloadn dX10_hearWord_32 rfl ?_
    refine ab_iaload (v := (i (m17 + 1) a3.toNatClampNeg)) dX10_hearWord_33 (kM_1 hm18) hm18t.1 rfl ?_
    refine ab_i2l dX10_hearWord_34 rfl ?_
    refine ab_aloadn dX10_hearWord_35 rfl ?_
    refine ab_iloadn dX10_hearWord_36 rfl ?_
    refine ab_iloadn dX10_hearWord_37 rfl ?_
    obtain ⟨r19, P20, hs21, hk22⟩ := hm18t.2
    refine ab_callV (vs := [.int a1, .int a3]) (st := [.long ((i (m17 + 1) a3.toNatClampNeg).toInt64), .int a3, .ref 200]) dX10_hearWord_38 okMX10_likelyWord wd_1023 kd_199 rfl rfl rfl (Nat.le_of_ble_eq_true rfl) ⟨Nat.le_of_ble_eq_true rfl, Nat.le_of_ble_eq_true rfl⟩ hs21 ?_
    rintro v9 ⟨i23, l24, dd25, x26⟩ E9 - ⟨rfl, rfl, hp27⟩
    show ab_Fr MX10_hearWord (d + 1) Q 41 [some (.ref 199), some (.int a1), some (.int a2), some (.int a3)] [.int r19, .long ((i (m17 + 1) a3.toNatClampNeg).toInt64), .int a3, .ref 200] (0, 0) (i23, l24, dd25, x26) (ab_E0 sc)
    refine ab_i2l dX10_hearWord_41 rfl ?_
    refine ab_lmul dX10_hearWord_42 ?_
    refine ab_aloadn dX10_hearWord_43 rfl ?_
    obtain ⟨m28, hm29d, hm29, hm29t⟩ := (hk22 i23 l24 dd25 x26 hp27)
    refine ab_getf (v := .ref m28) dX10_hearWord_44 fl_X10_25 kd_199 hm29d ?_
    refine ab_getf (v := .ref (m28 + 1)) dX10_hearWord_47 fl_X10_68 (kV hm29) (fV_4 hm29) ?_
    refine ab_iloadn dX10_hearWord_50 rfl ?_
    refine ab_iconst (v := 3) dX10_hearWord_51 (by decide) ?_
    refine ab_imul dX10_hearWord_52 ?_
    refine ab_iloadn dX10_hearWord_53 rfl ?_
    refine ab_iadd dX10_hearWord_54 ?_
    refine ab_iaload (v := (i23 (m28 + 1) ((a3 * 3) + a2).toNatClampNeg)) dX10_hearWord_55 (kV_1 hm29) hm29t.1 rfl ?_
    refine ab_i2l dX10_hearWord_56 rfl ?_
    refine ab_lmul dX10_hearWord_57 ?_
    refine ab_lastore dX10_hearWord_58 kd_200 hm29t.2.1 ?_
    obtain ⟨l30, e31⟩ : ∃ z, z = ab_u l24 200 a3.toNatClampNeg (((i (m17 + 1) a3.toNatClampNeg).toInt64 * r19.toInt64) * (i23 (m28 + 1) ((a3 * 3) + a2).toNatClampNeg).toInt64) := ⟨_, rfl⟩
    rw [show ab_u l24 200 a3.toNatClampNeg (((i (m17 + 1) a3.toNatClampNeg).toInt64 * r19.toInt64) * (i23 (m28 + 1) ((a3 * 3) + a2).toNatClampNeg).toInt64) = l30 from e31.symm]
    refine ab_iinc (v := (a3 + 1)) dX10_hearWord_59 rfl (by rfl) (Nat.le_of_ble_eq_true rfl) (L2 := [some (.ref 199), some (.int a1), some (.int a2), some (.int (a3 + 1))]) rfl ?_
    refine ab_goto (tgt := 15) dX10_hearWord_62 (by decide) ?_
    exact (hm29t.2.2 l30 e31)
theorem tMX10_likelyWord_0 {d : Nat} {Q : ab_Qt} {sc : Nat × (Nat → Int32)} {i : Nat → Nat → Int32} {l : Nat → Nat → Int64} {dd : Nat → Nat → Value} {x : Nat} {a1 : Int32} {a2 : Int32} 
    (h : ab_Fr MX10_likelyWord (d + 1) Q 5 [some (.ref 199), some (.int a1), some (.int a2), some (.int 0), some (.int 0)] [] (0, 0) (i, l, dd, x) (ab_E0 sc)) :
    ab_Fr MX10_likelyWord (d + 1) Q 0 [some (.ref 199), some (.int a1), some (.int a2), none, none] [] (0, 0) (i, l, dd, x) (ab_E0 sc) := by
  refine ab_iconst (v := 0) dX10_likelyWord_0 (by decide) ?_
  refine ab_istoren dX10_likelyWord_1 (Nat.le_of_ble_eq_true rfl) (L2 := [some (.ref 199), some (.int a1), some (.int a2), some (.int 0), none]) rfl ?_
  refine ab_iconst (v := 0) dX10_likelyWord_2 (by decide) ?_
  refine ab_istore dX10_likelyWord_3 (Nat.le_of_ble_eq_true rfl) (L2 := [some (.ref 199), some (.int a1), some (.int a2), some (.int 0), some (.int 0)]) rfl ?_
  exact h
theorem tMX10_likelyWord_5 {d : Nat} {Q : ab_Qt} {sc : Nat × (Nat → Int32)} {i : Nat → Nat → Int32} {l : Nat → Nat → Int64} {dd : Nat → Nat → Value} {x : Nat} {a1 : Int32} {a2 : Int32} {a3 : Int32} {a4 : Int32} 
    (h : (∃ m1, dd 199 1 = .ref m1 ∧ ab_isV m1 ∧ (((i m1 0) ≤ a4 → Q (some (some (.int a3))) (i, l, dd, x) (ab_E0 sc)) ∧ (¬ (i m1 0) ≤ a4 → (vp_in ((i 199 3) + a4) 15 ∧ ((¬ (ab_wo ((i 199 3) + a4).toNatClampNeg) = a1 → ab_Fr MX10_likelyWord (d + 1) Q 5 [some (.ref 199), some (.int a1), some (.int a2), some (.int (a3 + 0)), some (.int (a4 + 1))] [] (0, 0) (i, l, dd, x) (ab_E0 sc)) ∧ ((ab_wo ((i 199 3) + a4).toNatClampNeg) = a1 → (vp_in ((a2 * 3) + a4) 9 ∧ ab_Fr MX10_likelyWord (d + 1) Q 5 [some (.ref 199), some (.int a1), some (.int a2), some (.int (a3 + (i (m1 + 1) ((a2 * 3) + a4).toNatClampNeg))), some (.int (a4 + 1))] [] (0, 0) (i, l, dd, x) (ab_E0 sc))))))))) :
    ab_Fr MX10_likelyWord (d + 1) Q 5 [some (.ref 199), some (.int a1), some (.int a2), some (.int a3), some (.int a4)] [] (0, 0) (i, l, dd, x) (ab_E0 sc) := by
  refine ab_iload dX10_likelyWord_5 rfl ?_
  refine ab_aloadn dX10_likelyWord_7 rfl ?_
  obtain ⟨m1, hm2d, hm2, hm2t⟩ := h
  refine ab_getf (v := .ref m1) dX10_likelyWord_8 fl_X10_21 kd_199 hm2d ?_
  refine ab_getf (v := .int (i m1 0)) dX10_likelyWord_11 fl_X10_36 (kV hm2) rfl ?_
  refine ab_icmp_ge (tgt := 59) dX10_likelyWord_14 (by decide) (fun c3 => ?_) (fun c3 => ?_)
  · refine ab_iloadn dX10_likelyWord_59 rfl ?_
    exact ab_iret dX10_likelyWord_60 rfl ⟨Nat.zero_le _, Nat.zero_le _⟩ (hm2t.1 c3)
  · refine ab_iloadn dX10_likelyWord_17 rfl ?_
    refine ab_getsW dX10_likelyWord_18 wd_1016 ?_
    refine ab_aloadn dX10_likelyWord_21 rfl ?_
    refine ab_getf (v := .int (i 199 3)) dX10_likelyWord_22 fl_X10_42 kd_199 rfl ?_
    refine ab_iload dX10_likelyWord_25 rfl ?_
    refine ab_iadd dX10_likelyWord_27 ?_
    refine ab_old (v := (ab_wo ((i 199 3) + a4).toNatClampNeg)) dX10_likelyWord_28 (hm2t.2 c3).1 rfl ?_
    refine ab_iloadn dX10_likelyWord_29 rfl ?_
    refine ab_icmp_ne (tgt := 50) dX10_likelyWord_30 (by decide) (fun c4 => ?_) (fun c4 => ?_)
    · refine ab_iconst (v := 0) dX10_likelyWord_50 (by decide) ?_
      refine ab_iadd dX10_likelyWord_51 ?_
      refine ab_istoren dX10_likelyWord_52 (Nat.le_of_ble_eq_true rfl) (L2 := [some (.ref 199), some (.int a1), some (.int a2), some (.int (a3 + 0)), some (.int a4)]) rfl ?_
      refine ab_iinc (v := (a4 + 1)) dX10_likelyWord_53 rfl (by rfl) (Nat.le_of_ble_eq_true rfl) (L2 := [some (.ref 199), some (.int a1), some (.int a2), some (.int (a3 + 0)), some (.int (a4 + 1))]) rfl ?_
      refine ab_goto (tgt := 5) dX10_likelyWord_56 (by decide) ?_
      exact ((hm2t.2 c3).2.1 c4)
    · refine ab_aloadn dX10_likelyWord_33 rfl ?_
      refine ab_getf (v := .ref m1) dX10_likelyWord_34 fl_X10_21 kd_199 hm2d ?_
      refine ab_getf (v := .ref (m1 + 1)) dX10_likelyWord_37 fl_X10_68 (kV hm2) (fV_4 hm2) ?_
      refine ab_iloadn dX10_likelyWord_40 rfl ?_
      refine ab_iconst (v := 3) dX10_likelyWord_41 (by decide) ?_
      refine ab_imul dX10_likelyWord_42 ?_
      refine ab_iload dX10_likelyWord_43 rfl ?_
      refine ab_iadd dX10_likelyWord_45 ?_
      refine ab_iaload (v := (i (m1 + 1) ((a2 * 3) + a4).toNatClampNeg)) dX10_likelyWord_46 (kV_1 hm2) ((hm2t.2 c3).2.2 c4).1 rfl ?_
      refine ab_goto (tgt := 51) dX10_likelyWord_47 (by decide) ?_
      refine ab_iadd dX10_likelyWord_51 ?_
      refine ab_istoren dX10_likelyWord_52 (Nat.le_of_ble_eq_true rfl) (L2 := [some (.ref 199), some (.int a1), some (.int a2), some (.int (a3 + (i (m1 + 1) ((a2 * 3) + a4).toNatClampNeg))), some (.int a4)]) rfl ?_
      refine ab_iinc (v := (a4 + 1)) dX10_likelyWord_53 rfl (by rfl) (Nat.le_of_ble_eq_true rfl) (L2 := [some (.ref 199), some (.int a1), some (.int a2), some (.int (a3 + (i (m1 + 1) ((a2 * 3) + a4).toNatClampNeg))), some (.int (a4 + 1))]) rfl ?_
      refine ab_goto (tgt := 5) dX10_likelyWord_56 (by decide) ?_
      exact ((hm2t.2 c3).2.2 c4).2
theorem tMX10_liesWith_0 {d : Nat} {Q : ab_Qt} {sc : Nat × (Nat → Int32)} {i : Nat → Nat → Int32} {l : Nat → Nat → Int64} {dd : Nat → Nat → Value} {x : Nat} {a1 : Int32} {a2 : Int32} 
    (h : (vp_in ((i 199 3) + a1) 15 ∧ ∃ (r1 : Int64) (P2 : ab_S → Prop), ab_Sp MX10_lostBy d [.ref 199, .int a1, .int (ab_wo ((i 199 3) + a1).toNatClampNeg)] (i, l, dd, x) (ab_E0 sc) (some (.long r1)) P2 ∧ ∀ i5 l6 dd7 x8, P2 (i5, l6, dd7, x8) → ab_Fr MX10_liesWith (d + 1) Q 19 [some (.ref 199), some (.int a1), some (.int a2), some (.long r1), none, some (.int 0)] [] (0, 0) (i5, l6, dd7, x8) (ab_E0 sc))) :
    ab_Fr MX10_liesWith (d + 1) Q 0 [some (.ref 199), some (.int a1), some (.int a2), none, none, none] [] (0, 0) (i, l, dd, x) (ab_E0 sc) := by
  refine ab_aloadn dX10_liesWith_0 rfl ?_
  refine ab_iloadn dX10_liesWith_1 rfl ?_
  refine ab_getsW dX10_liesWith_2 wd_1016 ?_
  refine ab_aloadn dX10_liesWith_5 rfl ?_
  refine ab_getf (v := .int (i 199 3)) dX10_liesWith_6 fl_X10_42 kd_199 rfl ?_
  refine ab_iloadn dX10_liesWith_9 rfl ?_
  refine ab_iadd dX10_liesWith_10 ?_
  refine ab_old (v := (ab_wo ((i 199 3) + a1).toNatClampNeg)) dX10_liesWith_11 h.1 rfl ?_
  obtain ⟨r1, P2, hs3, hk4⟩ := h.2
  refine ab_callV (vs := [.int a1, .int (ab_wo ((i 199 3) + a1).toNatClampNeg)]) (st := []) dX10_liesWith_12 okMX10_lostBy wd_1030 kd_199 rfl rfl rfl (Nat.le_of_ble_eq_true rfl) ⟨Nat.le_of_ble_eq_true rfl, Nat.le_of_ble_eq_true rfl⟩ hs3 ?_
  rintro v9 ⟨i5, l6, dd7, x8⟩ E9 - ⟨rfl, rfl, hp9⟩
  show ab_Fr MX10_liesWith (d + 1) Q 15 [some (.ref 199), some (.int a1), some (.int a2), none, none, none] [.long r1] (0, 0) (i5, l6, dd7, x8) (ab_E0 sc)
  refine ab_lstoren dX10_liesWith_15 (Nat.le_of_ble_eq_true rfl) (L2 := [some (.ref 199), some (.int a1), some (.int a2), some (.long r1), none, none]) rfl ?_
  refine ab_iconst (v := 0) dX10_liesWith_16 (by decide) ?_
  refine ab_istore dX10_liesWith_17 (Nat.le_of_ble_eq_true rfl) (L2 := [some (.ref 199), some (.int a1), some (.int a2), some (.long r1), none, some (.int 0)]) rfl ?_
  exact (hk4 i5 l6 dd7 x8 hp9)
theorem tMX10_liesWith_19 {d : Nat} {Q : ab_Qt} {sc : Nat × (Nat → Int32)} {i : Nat → Nat → Int32} {l : Nat → Nat → Int64} {dd : Nat → Nat → Value} {x : Nat} {a1 : Int32} {a2 : Int32} {a3 : Int64} {a5 : Int32} 
    (h : ((a2 ≤ a5 → Q (some (some (.int 0))) (i, l, dd, x) (ab_E0 sc)) ∧ (¬ a2 ≤ a5 → (∃ (r2 : Int64) (P3 : ab_S → Prop), ab_Sp MX10_lostBy d [.ref 199, .int a1, .int a5] (i, l, dd, x) (ab_E0 sc) (some (.long r2)) P3 ∧ ∀ i6 l7 dd8 x9, P3 (i6, l7, dd8, x9) → ((¬ r2 < a3 → ab_Fr MX10_liesWith (d + 1) Q 19 [some (.ref 199), some (.int a1), some (.int a2), some (.long a3), none, some (.int (a5 + 1))] [] (0, 0) (i6, l7, dd8, x9) (ab_E0 sc)) ∧ (r2 < a3 → Q (some (some (.int 1))) (i6, l7, dd8, x9) (ab_E0 sc))))))) :
    ab_Fr MX10_liesWith (d + 1) Q 19 [some (.ref 199), some (.int a1), some (.int a2), some (.long a3), none, some (.int a5)] [] (0, 0) (i, l, dd, x) (ab_E0 sc) := by
  refine ab_iload dX10_liesWith_19 rfl ?_
  refine ab_iloadn dX10_liesWith_21 rfl ?_
  refine ab_icmp_ge (tgt := 45) dX10_liesWith_22 (by decide) (fun c1 => ?_) (fun c1 => ?_)
  · refine ab_iconst (v := 0) dX10_liesWith_45 (by decide) ?_
    exact ab_zret dX10_liesWith_46 rfl (by decide) ⟨Nat.zero_le _, Nat.zero_le _⟩ (h.1 c1)
  · refine ab_aloadn dX10_liesWith_25 rfl ?_
    refine ab_iloadn dX10_liesWith_26 rfl ?_
    refine ab_iload dX10_liesWith_27 rfl ?_
    obtain ⟨r2, P3, hs4, hk5⟩ := (h.2 c1)
    refine ab_callV (vs := [.int a1, .int a5]) (st := []) dX10_liesWith_29 okMX10_lostBy wd_1030 kd_199 rfl rfl rfl (Nat.le_of_ble_eq_true rfl) ⟨Nat.le_of_ble_eq_true rfl, Nat.le_of_ble_eq_true rfl⟩ hs4 ?_
    rintro v9 ⟨i6, l7, dd8, x9⟩ E9 - ⟨rfl, rfl, hp10⟩
    show ab_Fr MX10_liesWith (d + 1) Q 32 [some (.ref 199), some (.int a1), some (.int a2), some (.long a3), none, some (.int a5)] [.long r2] (0, 0) (i6, l7, dd8, x9) (ab_E0 sc)
    refine ab_lloadn dX10_liesWith_32 rfl ?_
    refine ab_lcge (tgt := 39) dX10_liesWith_33 dX10_liesWith_34 (by decide) (fun c11 => ?_) (fun c11 => ?_)
    · refine ab_iinc (v := (a5 + 1)) dX10_liesWith_39 rfl (by rfl) (Nat.le_of_ble_eq_true rfl) (L2 := [some (.ref 199), some (.int a1), some (.int a2), some (.long a3), none, some (.int (a5 + 1))]) rfl ?_
      refine ab_goto (tgt := 19) dX10_liesWith_42 (by decide) ?_
      exact ((hk5 i6 l7 dd8 x9 hp10).1 c11)
    · refine ab_iconst (v := 1) dX10_liesWith_37 (by decide) ?_
      exact ab_zret dX10_liesWith_38 rfl (by decide) ⟨Nat.zero_le _, Nat.zero_le _⟩ ((hk5 i6 l7 dd8 x9 hp10).2 c11)
theorem tMX10_lostBy_0 {d : Nat} {Q : ab_Qt} {sc : Nat × (Nat → Int32)} {i : Nat → Nat → Int32} {l : Nat → Nat → Int64} {dd : Nat → Nat → Value} {x : Nat} {a1 : Int32} {a2 : Int32} 
    (h : ab_Fr MX10_lostBy (d + 1) Q 5 [some (.ref 199), some (.int a1), some (.int a2), some (.long 0), none, some (.int 0), none, none] [] (0, 0) (i, l, dd, x) (ab_E0 sc)) :
    ab_Fr MX10_lostBy (d + 1) Q 0 [some (.ref 199), some (.int a1), some (.int a2), none, none, none, none, none] [] (0, 0) (i, l, dd, x) (ab_E0 sc) := by
  refine ab_lconst (v := 0) dX10_lostBy_0 (by decide) ?_
  refine ab_lstoren dX10_lostBy_1 (Nat.le_of_ble_eq_true rfl) (L2 := [some (.ref 199), some (.int a1), some (.int a2), some (.long 0), none, none, none, none]) rfl ?_
  refine ab_iconst (v := 0) dX10_lostBy_2 (by decide) ?_
  refine ab_istore dX10_lostBy_3 (Nat.le_of_ble_eq_true rfl) (L2 := [some (.ref 199), some (.int a1), some (.int a2), some (.long 0), none, some (.int 0), none, none]) rfl ?_
  exact h
theorem tMX10_lostBy_5 {d : Nat} {Q : ab_Qt} {sc : Nat × (Nat → Int32)} {i : Nat → Nat → Int32} {l : Nat → Nat → Int64} {dd : Nat → Nat → Value} {x : Nat} {a1 : Int32} {a2 : Int32} {a3 : Int64} {a5 : Int32} 
    (h : (∃ m1, dd 199 2 = .ref m1 ∧ ab_isV m1 ∧ (((i m1 0) ≤ a5 → Q (some (some (.long a3))) (i, l, dd, x) (ab_E0 sc)) ∧ (¬ (i m1 0) ≤ a5 → ab_Fr MX10_lostBy (d + 1) Q 20 [some (.ref 199), some (.int a1), some (.int a2), some (.long a3), none, some (.int a5), some (.int 0), none] [] (0, 0) (i, l, dd, x) (ab_E0 sc))))) :
    ab_Fr MX10_lostBy (d + 1) Q 5 [some (.ref 199), some (.int a1), some (.int a2), some (.long a3), none, some (.int a5), none, none] [] (0, 0) (i, l, dd, x) (ab_E0 sc) := by
  refine ab_iload dX10_lostBy_5 rfl ?_
  refine ab_aloadn dX10_lostBy_7 rfl ?_
  obtain ⟨m1, hm2d, hm2, hm2t⟩ := h
  refine ab_getf (v := .ref m1) dX10_lostBy_8 fl_X10_25 kd_199 hm2d ?_
  refine ab_getf (v := .int (i m1 0)) dX10_lostBy_11 fl_X10_36 (kV hm2) rfl ?_
  refine ab_icmp_ge (tgt := 121) dX10_lostBy_14 (by decide) (fun c3 => ?_) (fun c3 => ?_)
  · refine ab_lloadn dX10_lostBy_121 rfl ?_
    exact ab_lret dX10_lostBy_122 rfl ⟨Nat.zero_le _, Nat.zero_le _⟩ (hm2t.1 c3)
  · refine ab_iconst (v := 0) dX10_lostBy_17 (by decide) ?_
    refine ab_istore dX10_lostBy_18 (Nat.le_of_ble_eq_true rfl) (L2 := [some (.ref 199), some (.int a1), some (.int a2), some (.long a3), none, some (.int a5), some (.int 0), none]) rfl ?_
    exact (hm2t.2 c3)
theorem tMX10_lostBy_20 {d : Nat} {Q : ab_Qt} {sc : Nat × (Nat → Int32)} {i : Nat → Nat → Int32} {l : Nat → Nat → Int64} {dd : Nat → Nat → Value} {x : Nat} {a1 : Int32} {a2 : Int32} {a3 : Int64} {a5 : Int32} {a6 : Int32} 
    (h : ((3 ≤ a6 → (∃ m2, dd 199 1 = .ref m2 ∧ ab_isV m2 ∧ vp_in ((a2 * 3) + a5) 9 ∧ ∃ (r4 : Int64) (P5 : ab_S → Prop), ab_Sp MX0_lostAt d [.ref (m2 + 3), .int (i 201 ((a2 * 3) + a5).toNatClampNeg), .ref 200, .int 0] (i, l, dd, x) (ab_E0 sc) (some (.long r4)) P5 ∧ ∀ i8 l9 dd10 x11, P5 (i8, l9, dd10, x11) → ab_Fr MX10_lostBy (d + 1) Q 5 [some (.ref 199), some (.int a1), some (.int a2), some (.long (a3 + r4)), none, some (.int (a5 + 1)), none, none] [] (0, 0) (i8, l9, dd10, x11) (ab_E0 sc))) ∧ (¬ 3 ≤ a6 → (∃ m13, dd 199 1 = .ref m13 ∧ ab_isV m13 ∧ vp_in ((a6 * 3) + a1) 9 ∧ ∃ m15, dd 199 2 = .ref m15 ∧ ab_isV m15 ∧ vp_in ((a6 * 3) + a5) 9 ∧ ∃ m17, dd 199 0 = .ref m17 ∧ ab_isM m17 ∧ vp_in a6 3 ∧ vp_in a6 3 ∧ ∀ l19, l19 = ab_u l 200 a6.toNatClampNeg ((i (m17 + 1) a6.toNatClampNeg).toInt64 * ((i (m13 + 1) ((a6 * 3) + a1).toNatClampNeg) * (i (m15 + 1) ((a6 * 3) + a5).toNatClampNeg)).toInt64) → ab_Fr MX10_lostBy (d + 1) Q 20 [some (.ref 199), some (.int a1), some (.int a2), some (.long a3), none, some (.int a5), some (.int (a6 + 1)), none] [] (0, 0) (i, l19, dd, x) (ab_E0 sc))))) :
    ab_Fr MX10_lostBy (d + 1) Q 20 [some (.ref 199), some (.int a1), some (.int a2), some (.long a3), none, some (.int a5), some (.int a6), none] [] (0, 0) (i, l, dd, x) (ab_E0 sc) := by
  refine ab_iload dX10_lostBy_20 rfl ?_
  refine ab_iconst (v := 3) dX10_lostBy_22 (by decide) ?_
  refine ab_icmp_ge (tgt := 86) dX10_lostBy_23 (by decide) (fun c1 => ?_) (fun c1 => ?_)
  · refine ab_lloadn dX10_lostBy_86 rfl ?_
    refine ab_aloadn dX10_lostBy_87 rfl ?_
    obtain ⟨m2, hm3d, hm3, hm3t⟩ := (h.1 c1)
    refine ab_getf (v := .ref m2) dX10_lostBy_88 fl_X10_21 kd_199 hm3d ?_
    refine ab_getf (v := .ref (m2 + 3)) dX10_lostBy_91 fl_X10_71 (kV hm3) (fV_6 hm3) ?_
    refine ab_aloadn dX10_lostBy_94 rfl ?_
    refine ab_getf (v := .ref 201) dX10_lostBy_95 fl_X10_32 kd_199 ff_199_5 ?_
    refine ab_iloadn dX10_lostBy_98 rfl ?_
    refine ab_iconst (v := 3) dX10_lostBy_99 (by decide) ?_
    refine ab_imul dX10_lostBy_100 ?_
    refine ab_iload dX10_lostBy_101 rfl ?_
    refine ab_iadd dX10_lostBy_103 ?_
    refine ab_iaload (v := (i 201 ((a2 * 3) + a5).toNatClampNeg)) dX10_lostBy_104 kd_201 hm3t.1 rfl ?_
    refine ab_aloadn dX10_lostBy_105 rfl ?_
    refine ab_getf (v := .ref 200) dX10_lostBy_106 fl_X10_28 kd_199 ff_199_4 ?_
    refine ab_iconst (v := 0) dX10_lostBy_109 (by decide) ?_
    obtain ⟨r4, P5, hs6, hk7⟩ := hm3t.2
    refine ab_callV (vs := [.int (i 201 ((a2 * 3) + a5).toNatClampNeg), .ref 200, .int 0]) (st := [.long a3]) dX10_lostBy_110 okMX0_lostAt wd_1033 (kLo (isV_3 hm3)) rfl rfl rfl (Nat.le_of_ble_eq_true rfl) ⟨Nat.le_of_ble_eq_true rfl, Nat.le_of_ble_eq_true rfl⟩ hs6 ?_
    rintro v9 ⟨i8, l9, dd10, x11⟩ E9 - ⟨rfl, rfl, hp12⟩
    show ab_Fr MX10_lostBy (d + 1) Q 113 [some (.ref 199), some (.int a1), some (.int a2), some (.long a3), none, some (.int a5), some (.int a6), none] [.long r4, .long a3] (0, 0) (i8, l9, dd10, x11) (ab_E0 sc)
    refine ab_ladd dX10_lostBy_113 ?_
    refine ab_lstoren dX10_lostBy_114 (Nat.le_of_ble_eq_true rfl) (L2 := [some (.ref 199), some (.int a1), some (.int a2), some (.long (a3 + r4)), none, some (.int a5), some (.int a6), none]) rfl ?_
    refine ab_iinc (v := (a5 + 1)) dX10_lostBy_115 rfl (by rfl) (Nat.le_of_ble_eq_true rfl) (L2 := [some (.ref 199), some (.int a1), some (.int a2), some (.long (a3 + r4)), none, some (.int (a5 + 1)), some (.int a6), none]) rfl ?_
    refine ab_goto (tgt := 5) dX10_lostBy_118 (by decide) ?_
    refine ab_forget (i := 6) (L2 := [some (.ref 199), some (.int a1), some (.int a2), some (.long (a3 + r4)), none, some (.int (a5 + 1)), none, none]) rfl ?_
    exact (hk7 i8 l9 dd10 x11 hp12)
  · refine ab_aloadn dX10_lostBy_26 rfl ?_
    obtain ⟨m13, hm14d, hm14, hm14t⟩ := (h.2 c1)
    refine ab_getf (v := .ref m13) dX10_lostBy_27 fl_X10_21 kd_199 hm14d ?_
    refine ab_getf (v := .ref (m13 + 1)) dX10_lostBy_30 fl_X10_68 (kV hm14) (fV_4 hm14) ?_
    refine ab_iload dX10_lostBy_33 rfl ?_
    refine ab_iconst (v := 3) dX10_lostBy_35 (by decide) ?_
    refine ab_imul dX10_lostBy_36 ?_
    refine ab_iloadn dX10_lostBy_37 rfl ?_
    refine ab_iadd dX10_lostBy_38 ?_
    refine ab_iaload (v := (i (m13 + 1) ((a6 * 3) + a1).toNatClampNeg)) dX10_lostBy_39 (kV_1 hm14) hm14t.1 rfl ?_
    refine ab_aloadn dX10_lostBy_40 rfl ?_
    obtain ⟨m15, hm16d, hm16, hm16t⟩ := hm14t.2
    refine ab_getf (v := .ref m15) dX10_lostBy_41 fl_X10_25 kd_199 hm16d ?_
    refine ab_getf (v := .ref (m15 + 1)) dX10_lostBy_44 fl_X10_68 (kV hm16) (fV_4 hm16) ?_
    refine ab_iload dX10_lostBy_47 rfl ?_
    refine ab_iconst (v := 3) dX10_lostBy_49 (by decide) ?_
    refine ab_imul dX10_lostBy_50 ?_
    refine ab_iload dX10_lostBy_51 rfl ?_
    refine ab_iadd dX10_lostBy_53 ?_
    refine ab_iaload (v := (i (m15 + 1) ((a6 * 3) + a5).toNatClampNeg)) dX10_lostBy_54 (kV_1 hm16) hm16t.1 rfl ?_
    refine ab_imul dX10_lostBy_55 ?_
    refine ab_istore dX10_lostBy_56 (Nat.le_of_ble_eq_true rfl) (L2 := [some (.ref 199), some (.int a1), some (.int a2), some (.long a3), none, some (.int a5), some (.int a6), some (.int ((i (m13 + 1) ((a6 * 3) + a1).toNatClampNeg) * (i (m15 + 1) ((a6 * 3) + a5).toNatClampNeg)))]) rfl ?_
    refine ab_aloadn dX10_lostBy_58 rfl ?_
    refine ab_getf (v := .ref 200) dX10_lostBy_59 fl_X10_28 kd_199 ff_199_4 ?_
    refine ab_iload dX10_lostBy_62 rfl ?_
    refine ab_aloadn dX10_lostBy_64 rfl ?_
    obtain ⟨m17, hm18d, hm18, hm18t⟩ := hm16t.2
    refine ab_getf (v := .ref m17) dX10_lostBy_65 fl_X10_9 kd_199 hm18d ?_
    refine ab_getf (v := .ref (m17 + 1)) dX10_lostBy_68 fl_X10_62 (kM hm18) (fM_6 hm18) ?_
    refine ab_iload dX10_lostBy_71 rfl ?_
    refine ab_iaload (v := (i (m17 + 1) a6.toNatClampNeg)) dX10_lostBy_73 (kM_1 hm18) hm18t.1 rfl ?_
    refine ab_i2l dX10_lostBy_74 rfl ?_
    refine ab_iload dX10_lostBy_75 rfl ?_
    refine ab_i2l dX10_lostBy_77 rfl ?_
    refine ab_lmul dX10_lostBy_78 ?_
    refine ab_lastore dX10_lostBy_79 kd_200 hm18t.2.1 ?_
    obtain ⟨l19, e20⟩ : ∃ z, z = ab_u l 200 a6.toNatClampNeg ((i (m17 + 1) a6.toNatClampNeg).toInt64 * ((i (m13 + 1) ((a6 * 3) + a1).toNatClampNeg) * (i (m15 + 1) ((a6 * 3) + a5).toNatClampNeg)).toInt64) := ⟨_, rfl⟩
    rw [show ab_u l 200 a6.toNatClampNeg ((i (m17 + 1) a6.toNatClampNeg).toInt64 * ((i (m13 + 1) ((a6 * 3) + a1).toNatClampNeg) * (i (m15 + 1) ((a6 * 3) + a5).toNatClampNeg)).toInt64) = l19 from e20.symm]
    refine ab_iinc (v := (a6 + 1)) dX10_lostBy_80 rfl (by rfl) (Nat.le_of_ble_eq_true rfl) (L2 := [some (.ref 199), some (.int a1), some (.int a2), some (.long a3), none, some (.int a5), some (.int (a6 + 1)), some (.int ((i (m13 + 1) ((a6 * 3) + a1).toNatClampNeg) * (i (m15 + 1) ((a6 * 3) + a5).toNatClampNeg)))]) rfl ?_
    refine ab_goto (tgt := 20) dX10_lostBy_83 (by decide) ?_
    refine ab_forget (i := 7) (L2 := [some (.ref 199), some (.int a1), some (.int a2), some (.long a3), none, some (.int a5), some (.int (a6 + 1)), none]) rfl ?_
    exact (hm18t.2.2 l19 e20)
theorem tMX1_begin_0 {d : Nat} {Q : ab_Qt} {sc : Nat × (Nat → Int32)} {i : Nat → Nat → Int32} {l : Nat → Nat → Int64} {dd : Nat → Nat → Value} {x : Nat} {a0 : Nat} (k_a0 : ab_isM a0)
    (h : (∀ i1, i1 = ab_u i a0 0 0 → ∀ i3, i3 = ab_u i1 a0 1 0 → ∀ i5, i5 = ab_u i3 a0 2 0 → ∀ i7, i7 = ab_u i5 a0 5 (-1) → ∃ (P10 : ab_S → Prop), ab_Sp MX0_becomePlain d [.ref (a0 + 2)] (i7, l, dd, x) (ab_E0 sc) (none) P10 ∧ ∀ i13 l14 dd15 x16, P10 (i13, l14, dd15, x16) → ab_Fr MX1_begin (d + 1) Q 29 [some (.ref a0), some (.int 0)] [] (0, 0) (i13, l14, dd15, x16) (ab_E0 sc))) :
    ab_Fr MX1_begin (d + 1) Q 0 [some (.ref a0), none] [] (0, 0) (i, l, dd, x) (ab_E0 sc) := by
  refine ab_aloadn dX1_begin_0 rfl ?_
  refine ab_iconst (v := 0) dX1_begin_1 (by decide) ?_
  refine ab_putI dX1_begin_2 fl_X1_43 (kM k_a0) rfl ?_
  obtain ⟨i1, e2⟩ : ∃ z, z = ab_u i a0 0 0 := ⟨_, rfl⟩
  show ab_Fr MX1_begin (d + 1) Q 5 [some (.ref a0), none] [] (0, 0) (ab_u i a0 0 0, l, dd, x) (ab_E0 sc)
  rw [show ab_u i a0 0 0 = i1 from e2.symm]
  refine ab_aloadn dX1_begin_5 rfl ?_
  refine ab_iconst (v := 0) dX1_begin_6 (by decide) ?_
  refine ab_putI dX1_begin_7 fl_X1_46 (kM k_a0) rfl ?_
  obtain ⟨i3, e4⟩ : ∃ z, z = ab_u i1 a0 1 0 := ⟨_, rfl⟩
  show ab_Fr MX1_begin (d + 1) Q 10 [some (.ref a0), none] [] (0, 0) (ab_u i1 a0 1 0, l, dd, x) (ab_E0 sc)
  rw [show ab_u i1 a0 1 0 = i3 from e4.symm]
  refine ab_aloadn dX1_begin_10 rfl ?_
  refine ab_iconst (v := 0) dX1_begin_11 (by decide) ?_
  refine ab_putI dX1_begin_12 fl_X1_49 (kM k_a0) rfl ?_
  obtain ⟨i5, e6⟩ : ∃ z, z = ab_u i3 a0 2 0 := ⟨_, rfl⟩
  show ab_Fr MX1_begin (d + 1) Q 15 [some (.ref a0), none] [] (0, 0) (ab_u i3 a0 2 0, l, dd, x) (ab_E0 sc)
  rw [show ab_u i3 a0 2 0 = i5 from e6.symm]
  refine ab_aloadn dX1_begin_15 rfl ?_
  refine ab_iconst (v := (-1)) dX1_begin_16 (by decide) ?_
  refine ab_putI dX1_begin_17 fl_X1_9 (kM k_a0) rfl ?_
  obtain ⟨i7, e8⟩ : ∃ z, z = ab_u i5 a0 5 (-1) := ⟨_, rfl⟩
  show ab_Fr MX1_begin (d + 1) Q 20 [some (.ref a0), none] [] (0, 0) (ab_u i5 a0 5 (-1), l, dd, x) (ab_E0 sc)
  rw [show ab_u i5 a0 5 (-1) = i7 from e8.symm]
  refine ab_aloadn dX1_begin_20 rfl ?_
  refine ab_getf (v := .ref (a0 + 2)) dX1_begin_21 fl_X1_22 (kM k_a0) (fM_7 k_a0) ?_
  obtain ⟨P10, hs11, hk12⟩ := ((((h i1 e2) i3 e4) i5 e6) i7 e8)
  refine ab_callV (vs := []) (st := []) dX1_begin_24 okMX0_becomePlain wd_556 (kLo (isM_2 k_a0)) rfl rfl rfl (Nat.le_of_ble_eq_true rfl) ⟨Nat.le_of_ble_eq_true rfl, Nat.le_of_ble_eq_true rfl⟩ hs11 ?_
  rintro v9 ⟨i13, l14, dd15, x16⟩ E9 - ⟨rfl, rfl, hp17⟩
  show ab_Fr MX1_begin (d + 1) Q 27 [some (.ref a0), none] [] (0, 0) (i13, l14, dd15, x16) (ab_E0 sc)
  refine ab_iconst (v := 0) dX1_begin_27 (by decide) ?_
  refine ab_istoren dX1_begin_28 (Nat.le_of_ble_eq_true rfl) (L2 := [some (.ref a0), some (.int 0)]) rfl ?_
  exact (hk12 i13 l14 dd15 x16 hp17)
theorem tMX1_begin_29 {d : Nat} {Q : ab_Qt} {sc : Nat × (Nat → Int32)} {i : Nat → Nat → Int32} {l : Nat → Nat → Int64} {dd : Nat → Nat → Value} {x : Nat} {a0 : Nat} {a1 : Int32} (k_a0 : ab_isM a0)
    (h : ((3 ≤ a1 → Q (some none) (i, l, dd, x) (ab_E0 sc)) ∧ (¬ 3 ≤ a1 → (vp_in a1 3 ∧ ∀ i2, i2 = ab_u i (a0 + 1) a1.toNatClampNeg 0 → ab_Fr MX1_begin (d + 1) Q 29 [some (.ref a0), some (.int (a1 + 1))] [] (0, 0) (i2, l, dd, x) (ab_E0 sc))))) :
    ab_Fr MX1_begin (d + 1) Q 29 [some (.ref a0), some (.int a1)] [] (0, 0) (i, l, dd, x) (ab_E0 sc) := by
  refine ab_iloadn dX1_begin_29 rfl ?_
  refine ab_iconst (v := 3) dX1_begin_30 (by decide) ?_
  refine ab_icmp_ge (tgt := 47) dX1_begin_31 (by decide) (fun c1 => ?_) (fun c1 => ?_)
  · exact ab_vret dX1_begin_47 rfl ⟨Nat.zero_le _, Nat.zero_le _⟩ (h.1 c1)
  · refine ab_aloadn dX1_begin_34 rfl ?_
    refine ab_getf (v := .ref (a0 + 1)) dX1_begin_35 fl_X1_15 (kM k_a0) (fM_6 k_a0) ?_
    refine ab_iloadn dX1_begin_38 rfl ?_
    refine ab_iconst (v := 0) dX1_begin_39 (by decide) ?_
    refine ab_iastore dX1_begin_40 (kM_1 k_a0) (h.2 c1).1 ?_
    obtain ⟨i2, e3⟩ : ∃ z, z = ab_u i (a0 + 1) a1.toNatClampNeg 0 := ⟨_, rfl⟩
    rw [show ab_u i (a0 + 1) a1.toNatClampNeg 0 = i2 from e3.symm]
    refine ab_iinc (v := (a1 + 1)) dX1_begin_41 rfl (by rfl) (Nat.le_of_ble_eq_true rfl) (L2 := [some (.ref a0), some (.int (a1 + 1))]) rfl ?_
    refine ab_goto (tgt := 29) dX1_begin_44 (by decide) ?_
    exact ((h.2 c1).2 i2 e3)
theorem tMX1_isEmpty_0 {d : Nat} {Q : ab_Qt} {sc : Nat × (Nat → Int32)} {i : Nat → Nat → Int32} {l : Nat → Nat → Int64} {dd : Nat → Nat → Value} {x : Nat} {a0 : Nat} (k_a0 : ab_isM a0)
    (h : ((¬ (i a0 1) = 0 → Q (some (some (.int 0))) (i, l, dd, x) (ab_E0 sc)) ∧ ((i a0 1) = 0 → Q (some (some (.int 1))) (i, l, dd, x) (ab_E0 sc)))) :
    ab_Fr MX1_isEmpty (d + 1) Q 0 [some (.ref a0)] [] (0, 0) (i, l, dd, x) (ab_E0 sc) := by
  refine ab_aloadn dX1_isEmpty_0 rfl ?_
  refine ab_getf (v := .int (i a0 1)) dX1_isEmpty_1 fl_X1_46 (kM k_a0) rfl ?_
  refine ab_if_ne (tgt := 11) dX1_isEmpty_4 (by decide) (fun c1 => ?_) (fun c1 => ?_)
  · refine ab_iconst (v := 0) dX1_isEmpty_11 (by decide) ?_
    exact ab_zret dX1_isEmpty_12 rfl (by decide) ⟨Nat.zero_le _, Nat.zero_le _⟩ (h.1 c1)
  · refine ab_iconst (v := 1) dX1_isEmpty_7 (by decide) ?_
    refine ab_goto (tgt := 12) dX1_isEmpty_8 (by decide) ?_
    exact ab_zret dX1_isEmpty_12 rfl (by decide) ⟨Nat.zero_le _, Nat.zero_le _⟩ (h.2 c1)
theorem tMX1_finish_0 {d : Nat} {Q : ab_Qt} {sc : Nat × (Nat → Int32)} {i : Nat → Nat → Int32} {l : Nat → Nat → Int64} {dd : Nat → Nat → Value} {x : Nat} {a0 : Nat} (k_a0 : ab_isM a0)
    (h : ab_Fr MX1_finish (d + 1) Q 2 [some (.ref a0), some (.int 0), none] [] (0, 0) (i, l, dd, x) (ab_E0 sc)) :
    ab_Fr MX1_finish (d + 1) Q 0 [some (.ref a0), none, none] [] (0, 0) (i, l, dd, x) (ab_E0 sc) := by
  refine ab_iconst (v := 0) dX1_finish_0 (by decide) ?_
  refine ab_istoren dX1_finish_1 (Nat.le_of_ble_eq_true rfl) (L2 := [some (.ref a0), some (.int 0), none]) rfl ?_
  exact h
theorem tMX1_finish_2 {d : Nat} {Q : ab_Qt} {sc : Nat × (Nat → Int32)} {i : Nat → Nat → Int32} {l : Nat → Nat → Int64} {dd : Nat → Nat → Value} {x : Nat} {a0 : Nat} {a1 : Int32} (k_a0 : ab_isM a0)
    (h : (((i a0 1) ≤ a1 → Q (some none) (i, l, dd, x) (ab_E0 sc)) ∧ (¬ (i a0 1) ≤ a1 → (vp_in a1 7 ∧ ∃ (P3 : ab_S → Prop), ab_Sp MX9_fillLosses d [.ref (a0 + 5 + 6 * a1.toNatClampNeg), .ref (a0 + 2)] (i, l, dd, x) (ab_E0 sc) (none) P3 ∧ ∀ i6 l7 dd8 x9, P3 (i6, l7, dd8, x9) → ab_Fr MX1_finish (d + 1) Q 25 [some (.ref a0), some (.int a1), some (.int 0)] [] (0, 0) (i6, l7, dd8, x9) (ab_E0 sc))))) :
    ab_Fr MX1_finish (d + 1) Q 2 [some (.ref a0), some (.int a1), none] [] (0, 0) (i, l, dd, x) (ab_E0 sc) := by
  refine ab_iloadn dX1_finish_2 rfl ?_
  refine ab_aloadn dX1_finish_3 rfl ?_
  refine ab_getf (v := .int (i a0 1)) dX1_finish_4 fl_X1_46 (kM k_a0) rfl ?_
  refine ab_icmp_ge (tgt := 81) dX1_finish_7 (by decide) (fun c1 => ?_) (fun c1 => ?_)
  · exact ab_vret dX1_finish_81 rfl ⟨Nat.zero_le _, Nat.zero_le _⟩ (h.1 c1)
  · refine ab_aloadn dX1_finish_10 rfl ?_
    refine ab_getf (v := .ref (a0 + 4)) dX1_finish_11 fl_X1_28 (kM k_a0) (fM_8 k_a0) ?_
    refine ab_iloadn dX1_finish_14 rfl ?_
    refine ab_aaload (a := (a0 + 5 + 6 * a1.toNatClampNeg)) dX1_finish_15 (Or.inl rfl) (kM_4 k_a0) (h.2 c1).1 (fMv k_a0 (h.2 c1).1) ?_
    refine ab_aloadn dX1_finish_16 rfl ?_
    refine ab_getf (v := .ref (a0 + 2)) dX1_finish_17 fl_X1_22 (kM k_a0) (fM_7 k_a0) ?_
    obtain ⟨P3, hs4, hk5⟩ := (h.2 c1).2
    refine ab_callV (vs := [.ref (a0 + 2)]) (st := []) dX1_finish_20 okMX9_fillLosses wd_633 (kV (isVof k_a0 (h.2 c1).1)) rfl rfl rfl (Nat.le_of_ble_eq_true rfl) ⟨Nat.le_of_ble_eq_true rfl, Nat.le_of_ble_eq_true rfl⟩ hs4 ?_
    rintro v9 ⟨i6, l7, dd8, x9⟩ E9 - ⟨rfl, rfl, hp10⟩
    show ab_Fr MX1_finish (d + 1) Q 23 [some (.ref a0), some (.int a1), none] [] (0, 0) (i6, l7, dd8, x9) (ab_E0 sc)
    refine ab_iconst (v := 0) dX1_finish_23 (by decide) ?_
    refine ab_istoren dX1_finish_24 (Nat.le_of_ble_eq_true rfl) (L2 := [some (.ref a0), some (.int a1), some (.int 0)]) rfl ?_
    exact (hk5 i6 l7 dd8 x9 hp10)
theorem tMX1_finish_25 {d : Nat} {Q : ab_Qt} {sc : Nat × (Nat → Int32)} {i : Nat → Nat → Int32} {l : Nat → Nat → Int64} {dd : Nat → Nat → Value} {x : Nat} {a0 : Nat} {a1 : Int32} {a2 : Int32} (k_a0 : ab_isM a0)
    (h : ((3 ≤ a2 → ab_Fr MX1_finish (d + 1) Q 2 [some (.ref a0), some (.int (a1 + 1)), none] [] (0, 0) (i, l, dd, x) (ab_E0 sc)) ∧ (¬ 3 ≤ a2 → (vp_in a1 7 ∧ (((i (a0 + 5 + 6 * a1.toNatClampNeg) 0) ≤ a2 → (vp_in ((a1 * 3) + a2) 21 ∧ ∀ i3, i3 = ab_u i (a0 + 47) ((a1 * 3) + a2).toNatClampNeg 9 → ab_Fr MX1_finish (d + 1) Q 25 [some (.ref a0), some (.int a1), some (.int (a2 + 1))] [] (0, 0) (i3, l, dd, x) (ab_E0 sc))) ∧ (¬ (i (a0 + 5 + 6 * a1.toNatClampNeg) 0) ≤ a2 → (vp_in a1 7 ∧ ∃ (r5 : Int32) (P6 : ab_S → Prop), ab_Sp MX1_voteOf d [.ref a0, .ref (a0 + 5 + 6 * a1.toNatClampNeg), .int a2] (i, l, dd, x) (ab_E0 sc) (some (.int r5)) P6 ∧ ∀ i9 l10 dd11 x12, P6 (i9, l10, dd11, x12) → vp_in ((a1 * 3) + a2) 21 ∧ ∀ i14, i14 = ab_u i9 (a0 + 47) ((a1 * 3) + a2).toNatClampNeg r5 → ab_Fr MX1_finish (d + 1) Q 25 [some (.ref a0), some (.int a1), some (.int (a2 + 1))] [] (0, 0) (i14, l10, dd11, x12) (ab_E0 sc)))))))) :
    ab_Fr MX1_finish (d + 1) Q 25 [some (.ref a0), some (.int a1), some (.int a2)] [] (0, 0) (i, l, dd, x) (ab_E0 sc) := by
  refine ab_iloadn dX1_finish_25 rfl ?_
  refine ab_iconst (v := 3) dX1_finish_26 (by decide) ?_
  refine ab_icmp_ge (tgt := 75) dX1_finish_27 (by decide) (fun c1 => ?_) (fun c1 => ?_)
  · refine ab_iinc (v := (a1 + 1)) dX1_finish_75 rfl (by rfl) (Nat.le_of_ble_eq_true rfl) (L2 := [some (.ref a0), some (.int (a1 + 1)), some (.int a2)]) rfl ?_
    refine ab_goto (tgt := 2) dX1_finish_78 (by decide) ?_
    refine ab_forget (i := 2) (L2 := [some (.ref a0), some (.int (a1 + 1)), none]) rfl ?_
    exact (h.1 c1)
  · refine ab_aloadn dX1_finish_30 rfl ?_
    refine ab_getf (v := .ref (a0 + 47)) dX1_finish_31 fl_X1_33 (kM k_a0) (fM_9 k_a0) ?_
    refine ab_iloadn dX1_finish_34 rfl ?_
    refine ab_iconst (v := 3) dX1_finish_35 (by decide) ?_
    refine ab_imul dX1_finish_36 ?_
    refine ab_iloadn dX1_finish_37 rfl ?_
    refine ab_iadd dX1_finish_38 ?_
    refine ab_iloadn dX1_finish_39 rfl ?_
    refine ab_aloadn dX1_finish_40 rfl ?_
    refine ab_getf (v := .ref (a0 + 4)) dX1_finish_41 fl_X1_28 (kM k_a0) (fM_8 k_a0) ?_
    refine ab_iloadn dX1_finish_44 rfl ?_
    refine ab_aaload (a := (a0 + 5 + 6 * a1.toNatClampNeg)) dX1_finish_45 (Or.inl rfl) (kM_4 k_a0) (h.2 c1).1 (fMv k_a0 (h.2 c1).1) ?_
    refine ab_getf (v := .int (i (a0 + 5 + 6 * a1.toNatClampNeg) 0)) dX1_finish_46 fl_X1_59 (kV (isVof k_a0 (h.2 c1).1)) rfl ?_
    refine ab_icmp_ge (tgt := 66) dX1_finish_49 (by decide) (fun c2 => ?_) (fun c2 => ?_)
    · refine ab_bipush (v := 9) dX1_finish_66 (by decide) ?_
      refine ab_iastore dX1_finish_68 (kM_47 k_a0) ((h.2 c1).2.1 c2).1 ?_
      obtain ⟨i3, e4⟩ : ∃ z, z = ab_u i (a0 + 47) ((a1 * 3) + a2).toNatClampNeg 9 := ⟨_, rfl⟩
      rw [show ab_u i (a0 + 47) ((a1 * 3) + a2).toNatClampNeg 9 = i3 from e4.symm]
      refine ab_iinc (v := (a2 + 1)) dX1_finish_69 rfl (by rfl) (Nat.le_of_ble_eq_true rfl) (L2 := [some (.ref a0), some (.int a1), some (.int (a2 + 1))]) rfl ?_
      refine ab_goto (tgt := 25) dX1_finish_72 (by decide) ?_
      exact (((h.2 c1).2.1 c2).2 i3 e4)
    · refine ab_aloadn dX1_finish_52 rfl ?_
      refine ab_aloadn dX1_finish_53 rfl ?_
      refine ab_getf (v := .ref (a0 + 4)) dX1_finish_54 fl_X1_28 (kM k_a0) (fM_8 k_a0) ?_
      refine ab_iloadn dX1_finish_57 rfl ?_
      refine ab_aaload (a := (a0 + 5 + 6 * a1.toNatClampNeg)) dX1_finish_58 (Or.inl rfl) (kM_4 k_a0) ((h.2 c1).2.2 c2).1 (fMv k_a0 ((h.2 c1).2.2 c2).1) ?_
      refine ab_iloadn dX1_finish_59 rfl ?_
      obtain ⟨r5, P6, hs7, hk8⟩ := ((h.2 c1).2.2 c2).2
      refine ab_callV (vs := [.ref (a0 + 5 + 6 * a1.toNatClampNeg), .int a2]) (st := [.int ((a1 * 3) + a2), .ref (a0 + 47)]) dX1_finish_60 okMX1_voteOf wd_637 (kM k_a0) rfl rfl rfl (Nat.le_of_ble_eq_true rfl) ⟨Nat.le_of_ble_eq_true rfl, Nat.le_of_ble_eq_true rfl⟩ hs7 ?_
      rintro v9 ⟨i9, l10, dd11, x12⟩ E9 - ⟨rfl, rfl, hp13⟩
      show ab_Fr MX1_finish (d + 1) Q 63 [some (.ref a0), some (.int a1), some (.int a2)] [.int r5, .int ((a1 * 3) + a2), .ref (a0 + 47)] (0, 0) (i9, l10, dd11, x12) (ab_E0 sc)
      refine ab_goto (tgt := 68) dX1_finish_63 (by decide) ?_
      refine ab_iastore dX1_finish_68 (kM_47 k_a0) (hk8 i9 l10 dd11 x12 hp13).1 ?_
      obtain ⟨i14, e15⟩ : ∃ z, z = ab_u i9 (a0 + 47) ((a1 * 3) + a2).toNatClampNeg r5 := ⟨_, rfl⟩
      rw [show ab_u i9 (a0 + 47) ((a1 * 3) + a2).toNatClampNeg r5 = i14 from e15.symm]
      refine ab_iinc (v := (a2 + 1)) dX1_finish_69 rfl (by rfl) (Nat.le_of_ble_eq_true rfl) (L2 := [some (.ref a0), some (.int a1), some (.int (a2 + 1))]) rfl ?_
      refine ab_goto (tgt := 25) dX1_finish_72 (by decide) ?_
      exact ((hk8 i9 l10 dd11 x12 hp13).2 i14 e15)
theorem tMX1_voteOf_0 {d : Nat} {Q : ab_Qt} {sc : Nat × (Nat → Int32)} {i : Nat → Nat → Int32} {l : Nat → Nat → Int64} {dd : Nat → Nat → Value} {x : Nat} {a0 : Nat} {a1 : Nat} {a2 : Int32} (k_a0 : ab_isM a0) (k_a1 : ab_isV a1)
    (h : (((i a1 2).toInt < 1 ∨ 3 < (i a1 2).toInt → (∃ (r2 : Int32) (P3 : ab_S → Prop), ab_Sp MX1_honestVote d [.ref a0, .ref a1, .int a2] (i, l, dd, x) (ab_E0 sc) (some (.int r2)) P3 ∧ ∀ i6 l7 dd8 x9, P3 (i6, l7, dd8, x9) → Q (some (some (.int r2))) (i6, l7, dd8, x9) (ab_E0 sc))) ∧ ((i a1 2).toInt = 1 → (∃ (r11 : Int32) (P12 : ab_S → Prop), ab_Sp MX9_likeliest d [.ref a1, .int (i a0 0), .int a2] (i, l, dd, x) (ab_E0 sc) (some (.int r11)) P12 ∧ ∀ i15 l16 dd17 x18, P12 (i15, l16, dd17, x18) → Q (some (some (.int r11))) (i15, l16, dd17, x18) (ab_E0 sc))) ∧ ((i a1 2).toInt = 2 → (∃ (r20 : Int32) (P21 : ab_S → Prop), ab_Sp MX1_shyVote d [.ref a0, .ref a1, .int a2] (i, l, dd, x) (ab_E0 sc) (some (.int r20)) P21 ∧ ∀ i24 l25 dd26 x27, P21 (i24, l25, dd26, x27) → Q (some (some (.int r20))) (i24, l25, dd26, x27) (ab_E0 sc))) ∧ ((i a1 2).toInt = 3 → (vp_in a2 3 ∧ Q (some (some (.int (i (a1 + 5) a2.toNatClampNeg)))) (i, l, dd, x) (ab_E0 sc))))) :
    ab_Fr MX1_voteOf (d + 1) Q 0 [some (.ref a0), some (.ref a1), some (.int a2)] [] (0, 0) (i, l, dd, x) (ab_E0 sc) := by
  refine ab_aloadn dX1_voteOf_0 rfl ?_
  refine ab_getf (v := .int (i a1 2)) dX1_voteOf_1 fl_X1_89 (kV k_a1) rfl ?_
  rcases ab_tabsplit (i a1 2) 1 3 with c1 | ⟨q, hq, c1⟩
  · refine ab_tabOut (tgt := 56) dX1_voteOf_4 (by simpa using c1) (by decide) ?_
    refine ab_aloadn dX1_voteOf_56 rfl ?_
    refine ab_aloadn dX1_voteOf_57 rfl ?_
    refine ab_iloadn dX1_voteOf_58 rfl ?_
    obtain ⟨r2, P3, hs4, hk5⟩ := (h.1 c1)
    refine ab_callV (vs := [.ref a1, .int a2]) (st := []) dX1_voteOf_59 okMX1_honestVote wd_647 (kM k_a0) rfl rfl rfl (Nat.le_of_ble_eq_true rfl) ⟨Nat.le_of_ble_eq_true rfl, Nat.le_of_ble_eq_true rfl⟩ hs4 ?_
    rintro v9 ⟨i6, l7, dd8, x9⟩ E9 - ⟨rfl, rfl, hp10⟩
    show ab_Fr MX1_voteOf (d + 1) Q 62 [some (.ref a0), some (.ref a1), some (.int a2)] [.int r2] (0, 0) (i6, l7, dd8, x9) (ab_E0 sc)
    exact ab_iret dX1_voteOf_62 rfl ⟨Nat.zero_le _, Nat.zero_le _⟩ (hk5 i6 l7 dd8 x9 hp10)
  · match q, hq with
    | 0, _ =>
        have c1 : (i a1 2).toInt = 1 := by simpa using c1
        refine ab_tabIn (tgt := 32) dX1_voteOf_4 (by rw [c1]; decide) (by rw [c1]; decide) (off := 28) (by rw [c1]; rfl) (by decide) ?_
        refine ab_aloadn dX1_voteOf_32 rfl ?_
        refine ab_aloadn dX1_voteOf_33 rfl ?_
        refine ab_getf (v := .int (i a0 0)) dX1_voteOf_34 fl_X1_43 (kM k_a0) rfl ?_
        refine ab_iloadn dX1_voteOf_37 rfl ?_
        obtain ⟨r11, P12, hs13, hk14⟩ := (h.2.1 c1)
        refine ab_callV (vs := [.int (i a0 0), .int a2]) (st := []) dX1_voteOf_38 okMX9_likeliest wd_640 (kV k_a1) rfl rfl rfl (Nat.le_of_ble_eq_true rfl) ⟨Nat.le_of_ble_eq_true rfl, Nat.le_of_ble_eq_true rfl⟩ hs13 ?_
        rintro v9 ⟨i15, l16, dd17, x18⟩ E9 - ⟨rfl, rfl, hp19⟩
        show ab_Fr MX1_voteOf (d + 1) Q 41 [some (.ref a0), some (.ref a1), some (.int a2)] [.int r11] (0, 0) (i15, l16, dd17, x18) (ab_E0 sc)
        exact ab_iret dX1_voteOf_41 rfl ⟨Nat.zero_le _, Nat.zero_le _⟩ (hk14 i15 l16 dd17 x18 hp19)
    | 1, _ =>
        have c1 : (i a1 2).toInt = 2 := by simpa using c1
        refine ab_tabIn (tgt := 42) dX1_voteOf_4 (by rw [c1]; decide) (by rw [c1]; decide) (off := 38) (by rw [c1]; rfl) (by decide) ?_
        refine ab_aloadn dX1_voteOf_42 rfl ?_
        refine ab_aloadn dX1_voteOf_43 rfl ?_
        refine ab_iloadn dX1_voteOf_44 rfl ?_
        obtain ⟨r20, P21, hs22, hk23⟩ := (h.2.2.1 c1)
        refine ab_callV (vs := [.ref a1, .int a2]) (st := []) dX1_voteOf_45 okMX1_shyVote wd_644 (kM k_a0) rfl rfl rfl (Nat.le_of_ble_eq_true rfl) ⟨Nat.le_of_ble_eq_true rfl, Nat.le_of_ble_eq_true rfl⟩ hs22 ?_
        rintro v9 ⟨i24, l25, dd26, x27⟩ E9 - ⟨rfl, rfl, hp28⟩
        show ab_Fr MX1_voteOf (d + 1) Q 48 [some (.ref a0), some (.ref a1), some (.int a2)] [.int r20] (0, 0) (i24, l25, dd26, x27) (ab_E0 sc)
        exact ab_iret dX1_voteOf_48 rfl ⟨Nat.zero_le _, Nat.zero_le _⟩ (hk23 i24 l25 dd26 x27 hp28)
    | 2, _ =>
        have c1 : (i a1 2).toInt = 3 := by simpa using c1
        refine ab_tabIn (tgt := 49) dX1_voteOf_4 (by rw [c1]; decide) (by rw [c1]; decide) (off := 45) (by rw [c1]; rfl) (by decide) ?_
        refine ab_aloadn dX1_voteOf_49 rfl ?_
        refine ab_getf (v := .ref (a1 + 5)) dX1_voteOf_50 fl_X1_99 (kV k_a1) (fV_7 k_a1) ?_
        refine ab_iloadn dX1_voteOf_53 rfl ?_
        refine ab_iaload (v := (i (a1 + 5) a2.toNatClampNeg)) dX1_voteOf_54 (kV_5 k_a1) (h.2.2.2 c1).1 rfl ?_
        exact ab_iret dX1_voteOf_55 rfl ⟨Nat.zero_le _, Nat.zero_le _⟩ (h.2.2.2 c1).2
    | n + 3, hq => exact absurd hq (by omega)
theorem tMX1_shyVote_0 {d : Nat} {Q : ab_Qt} {sc : Nat × (Nat → Int32)} {i : Nat → Nat → Int32} {l : Nat → Nat → Int64} {dd : Nat → Nat → Value} {x : Nat} {a0 : Nat} {a1 : Nat} {a2 : Int32} (k_a0 : ab_isM a0) (k_a1 : ab_isV a1)
    (h : (∃ (r1 : Int32) (P2 : ab_S → Prop), ab_Sp MX1_honestVote d [.ref a0, .ref a1, .int a2] (i, l, dd, x) (ab_E0 sc) (some (.int r1)) P2 ∧ ∀ i5 l6 dd7 x8, P2 (i5, l6, dd7, x8) → vp_in r1 3 ∧ ((((l6 (a0 + 49) r1.toNatClampNeg) * 20) < ((i5 a1 3).toInt64 * (((l6 (a0 + 49) 0) + (l6 (a0 + 49) 1)) + (l6 (a0 + 49) 2))) → Q (some (some (.int 9))) (i5, l6, dd7, x8) (ab_E0 sc)) ∧ (¬ ((l6 (a0 + 49) r1.toNatClampNeg) * 20) < ((i5 a1 3).toInt64 * (((l6 (a0 + 49) 0) + (l6 (a0 + 49) 1)) + (l6 (a0 + 49) 2))) → Q (some (some (.int r1))) (i5, l6, dd7, x8) (ab_E0 sc))))) :
    ab_Fr MX1_shyVote (d + 1) Q 0 [some (.ref a0), some (.ref a1), some (.int a2), none, none, none] [] (0, 0) (i, l, dd, x) (ab_E0 sc) := by
  refine ab_aloadn dX1_shyVote_0 rfl ?_
  refine ab_aloadn dX1_shyVote_1 rfl ?_
  refine ab_iloadn dX1_shyVote_2 rfl ?_
  obtain ⟨r1, P2, hs3, hk4⟩ := h
  refine ab_callV (vs := [.ref a1, .int a2]) (st := []) dX1_shyVote_3 okMX1_honestVote wd_647 (kM k_a0) rfl rfl rfl (Nat.le_of_ble_eq_true rfl) ⟨Nat.le_of_ble_eq_true rfl, Nat.le_of_ble_eq_true rfl⟩ hs3 ?_
  rintro v9 ⟨i5, l6, dd7, x8⟩ E9 - ⟨rfl, rfl, hp9⟩
  show ab_Fr MX1_shyVote (d + 1) Q 6 [some (.ref a0), some (.ref a1), some (.int a2), none, none, none] [.int r1] (0, 0) (i5, l6, dd7, x8) (ab_E0 sc)
  refine ab_istoren dX1_shyVote_6 (Nat.le_of_ble_eq_true rfl) (L2 := [some (.ref a0), some (.ref a1), some (.int a2), some (.int r1), none, none]) rfl ?_
  refine ab_aloadn dX1_shyVote_7 rfl ?_
  refine ab_getf (v := .ref (a0 + 49)) dX1_shyVote_8 fl_X1_39 (kM k_a0) (fM_11 k_a0) ?_
  refine ab_iconst (v := 0) dX1_shyVote_11 (by decide) ?_
  refine ab_laload (v := (l6 (a0 + 49) 0)) dX1_shyVote_12 (kM_49 k_a0) (ab_vp (by decide)) rfl ?_
  refine ab_aloadn dX1_shyVote_13 rfl ?_
  refine ab_getf (v := .ref (a0 + 49)) dX1_shyVote_14 fl_X1_39 (kM k_a0) (fM_11 k_a0) ?_
  refine ab_iconst (v := 1) dX1_shyVote_17 (by decide) ?_
  refine ab_laload (v := (l6 (a0 + 49) 1)) dX1_shyVote_18 (kM_49 k_a0) (ab_vp (by decide)) rfl ?_
  refine ab_ladd dX1_shyVote_19 ?_
  refine ab_aloadn dX1_shyVote_20 rfl ?_
  refine ab_getf (v := .ref (a0 + 49)) dX1_shyVote_21 fl_X1_39 (kM k_a0) (fM_11 k_a0) ?_
  refine ab_iconst (v := 2) dX1_shyVote_24 (by decide) ?_
  refine ab_laload (v := (l6 (a0 + 49) 2)) dX1_shyVote_25 (kM_49 k_a0) (ab_vp (by decide)) rfl ?_
  refine ab_ladd dX1_shyVote_26 ?_
  refine ab_lstore dX1_shyVote_27 (Nat.le_of_ble_eq_true rfl) (L2 := [some (.ref a0), some (.ref a1), some (.int a2), some (.int r1), some (.long (((l6 (a0 + 49) 0) + (l6 (a0 + 49) 1)) + (l6 (a0 + 49) 2))), none]) rfl ?_
  refine ab_aloadn dX1_shyVote_29 rfl ?_
  refine ab_getf (v := .ref (a0 + 49)) dX1_shyVote_30 fl_X1_39 (kM k_a0) (fM_11 k_a0) ?_
  refine ab_iloadn dX1_shyVote_33 rfl ?_
  refine ab_laload (v := (l6 (a0 + 49) r1.toNatClampNeg)) dX1_shyVote_34 (kM_49 k_a0) (hk4 i5 l6 dd7 x8 hp9).1 rfl ?_
  refine ab_ldc2 dX1_shyVote_35 wd_658 ?_
  refine ab_lmul dX1_shyVote_38 ?_
  refine ab_aloadn dX1_shyVote_39 rfl ?_
  refine ab_getf (v := .int (i5 a1 3)) dX1_shyVote_40 fl_X1_117 (kV k_a1) rfl ?_
  refine ab_i2l dX1_shyVote_43 rfl ?_
  refine ab_lload dX1_shyVote_44 rfl ?_
  refine ab_lmul dX1_shyVote_46 ?_
  refine ab_lclt (tgt := 55) dX1_shyVote_47 dX1_shyVote_48 (by decide) (fun c10 => ?_) (fun c10 => ?_)
  · refine ab_bipush (v := 9) dX1_shyVote_55 (by decide) ?_
    exact ab_iret dX1_shyVote_57 rfl ⟨Nat.zero_le _, Nat.zero_le _⟩ ((hk4 i5 l6 dd7 x8 hp9).2.1 c10)
  · refine ab_iloadn dX1_shyVote_51 rfl ?_
    refine ab_goto (tgt := 57) dX1_shyVote_52 (by decide) ?_
    exact ab_iret dX1_shyVote_57 rfl ⟨Nat.zero_le _, Nat.zero_le _⟩ ((hk4 i5 l6 dd7 x8 hp9).2.2 c10)
theorem tMX1_honestVote_0 {d : Nat} {Q : ab_Qt} {sc : Nat × (Nat → Int32)} {i : Nat → Nat → Int32} {l : Nat → Nat → Int64} {dd : Nat → Nat → Value} {x : Nat} {a0 : Nat} {a1 : Nat} {a2 : Int32} (k_a0 : ab_isM a0) (k_a1 : ab_isV a1)
    (h : ab_Fr MX1_honestVote (d + 1) Q 2 [some (.ref a0), some (.ref a1), some (.int a2), some (.int 0)] [] (0, 0) (i, l, dd, x) (ab_E0 sc)) :
    ab_Fr MX1_honestVote (d + 1) Q 0 [some (.ref a0), some (.ref a1), some (.int a2), none] [] (0, 0) (i, l, dd, x) (ab_E0 sc) := by
  refine ab_iconst (v := 0) dX1_honestVote_0 (by decide) ?_
  refine ab_istoren dX1_honestVote_1 (Nat.le_of_ble_eq_true rfl) (L2 := [some (.ref a0), some (.ref a1), some (.int a2), some (.int 0)]) rfl ?_
  exact h
theorem tMX1_honestVote_2 {d : Nat} {Q : ab_Qt} {sc : Nat × (Nat → Int32)} {i : Nat → Nat → Int32} {l : Nat → Nat → Int64} {dd : Nat → Nat → Value} {x : Nat} {a0 : Nat} {a1 : Nat} {a2 : Int32} {a3 : Int32} (k_a0 : ab_isM a0) (k_a1 : ab_isV a1)
    (h : ((3 ≤ a3 → (∃ (r2 : Int32) (P3 : ab_S → Prop), ab_Sp MX0_leastOf d [.ref (a1 + 3), .int (i a0 0), .ref (a0 + 49), .int 0] (i, l, dd, x) (ab_E0 sc) (some (.int r2)) P3 ∧ ∀ i6 l7 dd8 x9, P3 (i6, l7, dd8, x9) → Q (some (some (.int r2))) (i6, l7, dd8, x9) (ab_E0 sc))) ∧ (¬ 3 ≤ a3 → (vp_in a3 3 ∧ vp_in ((a3 * 3) + a2) 9 ∧ vp_in a3 3 ∧ ∀ l11, l11 = ab_u l (a0 + 49) a3.toNatClampNeg (((i (a0 + 1) a3.toNatClampNeg) * (i (a1 + 1) ((a3 * 3) + a2).toNatClampNeg)).toInt64) → ab_Fr MX1_honestVote (d + 1) Q 2 [some (.ref a0), some (.ref a1), some (.int a2), some (.int (a3 + 1))] [] (0, 0) (i, l11, dd, x) (ab_E0 sc))))) :
    ab_Fr MX1_honestVote (d + 1) Q 2 [some (.ref a0), some (.ref a1), some (.int a2), some (.int a3)] [] (0, 0) (i, l, dd, x) (ab_E0 sc) := by
  refine ab_iloadn dX1_honestVote_2 rfl ?_
  refine ab_iconst (v := 3) dX1_honestVote_3 (by decide) ?_
  refine ab_icmp_ge (tgt := 37) dX1_honestVote_4 (by decide) (fun c1 => ?_) (fun c1 => ?_)
  · refine ab_aloadn dX1_honestVote_37 rfl ?_
    refine ab_getf (v := .ref (a1 + 3)) dX1_honestVote_38 fl_X1_108 (kV k_a1) (fV_6 k_a1) ?_
    refine ab_aloadn dX1_honestVote_41 rfl ?_
    refine ab_getf (v := .int (i a0 0)) dX1_honestVote_42 fl_X1_43 (kM k_a0) rfl ?_
    refine ab_aloadn dX1_honestVote_45 rfl ?_
    refine ab_getf (v := .ref (a0 + 49)) dX1_honestVote_46 fl_X1_39 (kM k_a0) (fM_11 k_a0) ?_
    refine ab_iconst (v := 0) dX1_honestVote_49 (by decide) ?_
    obtain ⟨r2, P3, hs4, hk5⟩ := (h.1 c1)
    refine ab_callV (vs := [.int (i a0 0), .ref (a0 + 49), .int 0]) (st := []) dX1_honestVote_50 okMX0_leastOf wd_650 (kLo (isV_3 k_a1)) rfl rfl rfl (Nat.le_of_ble_eq_true rfl) ⟨Nat.le_of_ble_eq_true rfl, Nat.le_of_ble_eq_true rfl⟩ hs4 ?_
    rintro v9 ⟨i6, l7, dd8, x9⟩ E9 - ⟨rfl, rfl, hp10⟩
    show ab_Fr MX1_honestVote (d + 1) Q 53 [some (.ref a0), some (.ref a1), some (.int a2), some (.int a3)] [.int r2] (0, 0) (i6, l7, dd8, x9) (ab_E0 sc)
    exact ab_iret dX1_honestVote_53 rfl ⟨Nat.zero_le _, Nat.zero_le _⟩ (hk5 i6 l7 dd8 x9 hp10)
  · refine ab_aloadn dX1_honestVote_7 rfl ?_
    refine ab_getf (v := .ref (a0 + 49)) dX1_honestVote_8 fl_X1_39 (kM k_a0) (fM_11 k_a0) ?_
    refine ab_iloadn dX1_honestVote_11 rfl ?_
    refine ab_aloadn dX1_honestVote_12 rfl ?_
    refine ab_getf (v := .ref (a0 + 1)) dX1_honestVote_13 fl_X1_15 (kM k_a0) (fM_6 k_a0) ?_
    refine ab_iloadn dX1_honestVote_16 rfl ?_
    refine ab_iaload (v := (i (a0 + 1) a3.toNatClampNeg)) dX1_honestVote_17 (kM_1 k_a0) (h.2 c1).1 rfl ?_
    refine ab_aloadn dX1_honestVote_18 rfl ?_
    refine ab_getf (v := .ref (a1 + 1)) dX1_honestVote_19 fl_X1_105 (kV k_a1) (fV_4 k_a1) ?_
    refine ab_iloadn dX1_honestVote_22 rfl ?_
    refine ab_iconst (v := 3) dX1_honestVote_23 (by decide) ?_
    refine ab_imul dX1_honestVote_24 ?_
    refine ab_iloadn dX1_honestVote_25 rfl ?_
    refine ab_iadd dX1_honestVote_26 ?_
    refine ab_iaload (v := (i (a1 + 1) ((a3 * 3) + a2).toNatClampNeg)) dX1_honestVote_27 (kV_1 k_a1) (h.2 c1).2.1 rfl ?_
    refine ab_imul dX1_honestVote_28 ?_
    refine ab_i2l dX1_honestVote_29 rfl ?_
    refine ab_lastore dX1_honestVote_30 (kM_49 k_a0) (h.2 c1).2.2.1 ?_
    obtain ⟨l11, e12⟩ : ∃ z, z = ab_u l (a0 + 49) a3.toNatClampNeg (((i (a0 + 1) a3.toNatClampNeg) * (i (a1 + 1) ((a3 * 3) + a2).toNatClampNeg)).toInt64) := ⟨_, rfl⟩
    rw [show ab_u l (a0 + 49) a3.toNatClampNeg (((i (a0 + 1) a3.toNatClampNeg) * (i (a1 + 1) ((a3 * 3) + a2).toNatClampNeg)).toInt64) = l11 from e12.symm]
    refine ab_iinc (v := (a3 + 1)) dX1_honestVote_31 rfl (by rfl) (Nat.le_of_ble_eq_true rfl) (L2 := [some (.ref a0), some (.ref a1), some (.int a2), some (.int (a3 + 1))]) rfl ?_
    refine ab_goto (tgt := 2) dX1_honestVote_34 (by decide) ?_
    exact ((h.2 c1).2.2.2 l11 e12)
theorem tMX1_hasVoter_0 {d : Nat} {Q : ab_Qt} {sc : Nat × (Nat → Int32)} {i : Nat → Nat → Int32} {l : Nat → Nat → Int64} {dd : Nat → Nat → Value} {x : Nat} {a0 : Nat} {a1 : Int32} (k_a0 : ab_isM a0)
    (h : ((a1 < 0 → Q (some (some (.int 0))) (i, l, dd, x) (ab_E0 sc)) ∧ (¬ a1 < 0 → (((i a0 1) ≤ a1 → Q (some (some (.int 0))) (i, l, dd, x) (ab_E0 sc)) ∧ (¬ (i a0 1) ≤ a1 → Q (some (some (.int 1))) (i, l, dd, x) (ab_E0 sc)))))) :
    ab_Fr MX1_hasVoter (d + 1) Q 0 [some (.ref a0), some (.int a1)] [] (0, 0) (i, l, dd, x) (ab_E0 sc) := by
  refine ab_iloadn dX1_hasVoter_0 rfl ?_
  refine ab_if_lt (tgt := 16) dX1_hasVoter_1 (by decide) (fun c1 => ?_) (fun c1 => ?_)
  · refine ab_iconst (v := 0) dX1_hasVoter_16 (by decide) ?_
    exact ab_zret dX1_hasVoter_17 rfl (by decide) ⟨Nat.zero_le _, Nat.zero_le _⟩ (h.1 c1)
  · refine ab_iloadn dX1_hasVoter_4 rfl ?_
    refine ab_aloadn dX1_hasVoter_5 rfl ?_
    refine ab_getf (v := .int (i a0 1)) dX1_hasVoter_6 fl_X1_46 (kM k_a0) rfl ?_
    refine ab_icmp_ge (tgt := 16) dX1_hasVoter_9 (by decide) (fun c2 => ?_) (fun c2 => ?_)
    · refine ab_iconst (v := 0) dX1_hasVoter_16 (by decide) ?_
      exact ab_zret dX1_hasVoter_17 rfl (by decide) ⟨Nat.zero_le _, Nat.zero_le _⟩ ((h.2 c1).1 c2)
    · refine ab_iconst (v := 1) dX1_hasVoter_12 (by decide) ?_
      refine ab_goto (tgt := 17) dX1_hasVoter_13 (by decide) ?_
      exact ab_zret dX1_hasVoter_17 rfl (by decide) ⟨Nat.zero_le _, Nat.zero_le _⟩ ((h.2 c1).2 c2)
theorem tMX1_hasSign_0 {d : Nat} {Q : ab_Qt} {sc : Nat × (Nat → Int32)} {i : Nat → Nat → Int32} {l : Nat → Nat → Int64} {dd : Nat → Nat → Value} {x : Nat} {a0 : Nat} {a1 : Int32} {a2 : Int32} (k_a0 : ab_isM a0)
    (h : (∃ (r1 : Int32) (P2 : ab_S → Prop), ab_Sp MX1_hasVoter d [.ref a0, .int a1] (i, l, dd, x) (ab_E0 sc) (some (.int r1)) P2 ∧ ∀ i5 l6 dd7 x8, P2 (i5, l6, dd7, x8) → ((r1 = 0 → Q (some (some (.int 0))) (i5, l6, dd7, x8) (ab_E0 sc)) ∧ (¬ r1 = 0 → ((a2 < 0 → Q (some (some (.int 0))) (i5, l6, dd7, x8) (ab_E0 sc)) ∧ (¬ a2 < 0 → (vp_in a1 7 ∧ (((i5 (a0 + 5 + 6 * a1.toNatClampNeg) 0) ≤ a2 → Q (some (some (.int 0))) (i5, l6, dd7, x8) (ab_E0 sc)) ∧ (¬ (i5 (a0 + 5 + 6 * a1.toNatClampNeg) 0) ≤ a2 → Q (some (some (.int 1))) (i5, l6, dd7, x8) (ab_E0 sc)))))))))) :
    ab_Fr MX1_hasSign (d + 1) Q 0 [some (.ref a0), some (.int a1), some (.int a2)] [] (0, 0) (i, l, dd, x) (ab_E0 sc) := by
  refine ab_aloadn dX1_hasSign_0 rfl ?_
  refine ab_iloadn dX1_hasSign_1 rfl ?_
  obtain ⟨r1, P2, hs3, hk4⟩ := h
  refine ab_callV (vs := [.int a1]) (st := []) dX1_hasSign_2 okMX1_hasVoter wd_695 (kM k_a0) rfl rfl rfl (Nat.le_of_ble_eq_true rfl) ⟨Nat.le_of_ble_eq_true rfl, Nat.le_of_ble_eq_true rfl⟩ hs3 ?_
  rintro v9 ⟨i5, l6, dd7, x8⟩ E9 - ⟨rfl, rfl, hp9⟩
  show ab_Fr MX1_hasSign (d + 1) Q 5 [some (.ref a0), some (.int a1), some (.int a2)] [.int r1] (0, 0) (i5, l6, dd7, x8) (ab_E0 sc)
  refine ab_if_eq (tgt := 29) dX1_hasSign_5 (by decide) (fun c10 => ?_) (fun c10 => ?_)
  · refine ab_iconst (v := 0) dX1_hasSign_29 (by decide) ?_
    exact ab_zret dX1_hasSign_30 rfl (by decide) ⟨Nat.zero_le _, Nat.zero_le _⟩ ((hk4 i5 l6 dd7 x8 hp9).1 c10)
  · refine ab_iloadn dX1_hasSign_8 rfl ?_
    refine ab_if_lt (tgt := 29) dX1_hasSign_9 (by decide) (fun c11 => ?_) (fun c11 => ?_)
    · refine ab_iconst (v := 0) dX1_hasSign_29 (by decide) ?_
      exact ab_zret dX1_hasSign_30 rfl (by decide) ⟨Nat.zero_le _, Nat.zero_le _⟩ (((hk4 i5 l6 dd7 x8 hp9).2 c10).1 c11)
    · refine ab_iloadn dX1_hasSign_12 rfl ?_
      refine ab_aloadn dX1_hasSign_13 rfl ?_
      refine ab_getf (v := .ref (a0 + 4)) dX1_hasSign_14 fl_X1_28 (kM k_a0) (fM_8 k_a0) ?_
      refine ab_iloadn dX1_hasSign_17 rfl ?_
      refine ab_aaload (a := (a0 + 5 + 6 * a1.toNatClampNeg)) dX1_hasSign_18 (Or.inl rfl) (kM_4 k_a0) (((hk4 i5 l6 dd7 x8 hp9).2 c10).2 c11).1 (fMv k_a0 (((hk4 i5 l6 dd7 x8 hp9).2 c10).2 c11).1) ?_
      refine ab_getf (v := .int (i5 (a0 + 5 + 6 * a1.toNatClampNeg) 0)) dX1_hasSign_19 fl_X1_59 (kV (isVof k_a0 (((hk4 i5 l6 dd7 x8 hp9).2 c10).2 c11).1)) rfl ?_
      refine ab_icmp_ge (tgt := 29) dX1_hasSign_22 (by decide) (fun c12 => ?_) (fun c12 => ?_)
      · refine ab_iconst (v := 0) dX1_hasSign_29 (by decide) ?_
        exact ab_zret dX1_hasSign_30 rfl (by decide) ⟨Nat.zero_le _, Nat.zero_le _⟩ ((((hk4 i5 l6 dd7 x8 hp9).2 c10).2 c11).2.1 c12)
      · refine ab_iconst (v := 1) dX1_hasSign_25 (by decide) ?_
        refine ab_goto (tgt := 30) dX1_hasSign_26 (by decide) ?_
        exact ab_zret dX1_hasSign_30 rfl (by decide) ⟨Nat.zero_le _, Nat.zero_le _⟩ ((((hk4 i5 l6 dd7 x8 hp9).2 c10).2 c11).2.2 c12)
theorem tMX1_hasSigns_0 {d : Nat} {Q : ab_Qt} {sc : Nat × (Nat → Int32)} {i : Nat → Nat → Int32} {l : Nat → Nat → Int64} {dd : Nat → Nat → Value} {x : Nat} {a0 : Nat} (k_a0 : ab_isM a0)
    (h : (∃ (r1 : Int32) (P2 : ab_S → Prop), ab_Sp MX1_isEmpty d [.ref a0] (i, l, dd, x) (ab_E0 sc) (some (.int r1)) P2 ∧ ∀ i5 l6 dd7 x8, P2 (i5, l6, dd7, x8) → ((¬ r1 = 0 → Q (some (some (.int 0))) (i5, l6, dd7, x8) (ab_E0 sc)) ∧ (r1 = 0 → (((i5 4 1) = (i5 a0 1) → ab_Fr MX1_hasSigns (d + 1) Q 22 [some (.ref a0), some (.ref 4), some (.int 0)] [] (0, 0) (i5, l6, dd7, x8) (ab_E0 sc)) ∧ (¬ (i5 4 1) = (i5 a0 1) → Q (some (some (.int 0))) (i5, l6, dd7, x8) (ab_E0 sc))))))) :
    ab_Fr MX1_hasSigns (d + 1) Q 0 [some (.ref a0), some (.ref 4), none] [] (0, 0) (i, l, dd, x) (ab_E0 sc) := by
  refine ab_aloadn dX1_hasSigns_0 rfl ?_
  obtain ⟨r1, P2, hs3, hk4⟩ := h
  refine ab_callV (vs := []) (st := []) dX1_hasSigns_1 okMX1_isEmpty wd_704 (kM k_a0) rfl rfl rfl (Nat.le_of_ble_eq_true rfl) ⟨Nat.le_of_ble_eq_true rfl, Nat.le_of_ble_eq_true rfl⟩ hs3 ?_
  rintro v9 ⟨i5, l6, dd7, x8⟩ E9 - ⟨rfl, rfl, hp9⟩
  show ab_Fr MX1_hasSigns (d + 1) Q 4 [some (.ref a0), some (.ref 4), none] [.int r1] (0, 0) (i5, l6, dd7, x8) (ab_E0 sc)
  refine ab_if_ne (tgt := 18) dX1_hasSigns_4 (by decide) (fun c10 => ?_) (fun c10 => ?_)
  · refine ab_iconst (v := 0) dX1_hasSigns_18 (by decide) ?_
    exact ab_zret dX1_hasSigns_19 rfl (by decide) ⟨Nat.zero_le _, Nat.zero_le _⟩ ((hk4 i5 l6 dd7 x8 hp9).1 c10)
  · refine ab_aloadn dX1_hasSigns_7 rfl ?_
    refine ab_getf (v := .int (i5 4 1)) dX1_hasSigns_8 fl_X1_74 kd_4 rfl ?_
    refine ab_aloadn dX1_hasSigns_11 rfl ?_
    refine ab_getf (v := .int (i5 a0 1)) dX1_hasSigns_12 fl_X1_46 (kM k_a0) rfl ?_
    refine ab_icmp_eq (tgt := 20) dX1_hasSigns_15 (by decide) (fun c11 => ?_) (fun c11 => ?_)
    · refine ab_iconst (v := 0) dX1_hasSigns_20 (by decide) ?_
      refine ab_istoren dX1_hasSigns_21 (Nat.le_of_ble_eq_true rfl) (L2 := [some (.ref a0), some (.ref 4), some (.int 0)]) rfl ?_
      exact (((hk4 i5 l6 dd7 x8 hp9).2 c10).1 c11)
    · refine ab_iconst (v := 0) dX1_hasSigns_18 (by decide) ?_
      exact ab_zret dX1_hasSigns_19 rfl (by decide) ⟨Nat.zero_le _, Nat.zero_le _⟩ (((hk4 i5 l6 dd7 x8 hp9).2 c10).2 c11)
theorem tMX1_hasSigns_22 {d : Nat} {Q : ab_Qt} {sc : Nat × (Nat → Int32)} {i : Nat → Nat → Int32} {l : Nat → Nat → Int64} {dd : Nat → Nat → Value} {x : Nat} {a0 : Nat} {a2 : Int32} (k_a0 : ab_isM a0)
    (h : (((i a0 1) ≤ a2 → Q (some (some (.int 1))) (i, l, dd, x) (ab_E0 sc)) ∧ (¬ (i a0 1) ≤ a2 → (vp_in a2 740 ∧ ∃ (r2 : Int32) (P3 : ab_S → Prop), ab_Sp MX1_hasSign d [.ref a0, .int a2, .int (i 5 a2.toNatClampNeg)] (i, l, dd, x) (ab_E0 sc) (some (.int r2)) P3 ∧ ∀ i6 l7 dd8 x9, P3 (i6, l7, dd8, x9) → ((¬ r2 = 0 → ab_Fr MX1_hasSigns (d + 1) Q 22 [some (.ref a0), some (.ref 4), some (.int (a2 + 1))] [] (0, 0) (i6, l7, dd8, x9) (ab_E0 sc)) ∧ (r2 = 0 → Q (some (some (.int 0))) (i6, l7, dd8, x9) (ab_E0 sc))))))) :
    ab_Fr MX1_hasSigns (d + 1) Q 22 [some (.ref a0), some (.ref 4), some (.int a2)] [] (0, 0) (i, l, dd, x) (ab_E0 sc) := by
  refine ab_iloadn dX1_hasSigns_22 rfl ?_
  refine ab_aloadn dX1_hasSigns_23 rfl ?_
  refine ab_getf (v := .int (i a0 1)) dX1_hasSigns_24 fl_X1_46 (kM k_a0) rfl ?_
  refine ab_icmp_ge (tgt := 52) dX1_hasSigns_27 (by decide) (fun c1 => ?_) (fun c1 => ?_)
  · refine ab_iconst (v := 1) dX1_hasSigns_52 (by decide) ?_
    exact ab_zret dX1_hasSigns_53 rfl (by decide) ⟨Nat.zero_le _, Nat.zero_le _⟩ (h.1 c1)
  · refine ab_aloadn dX1_hasSigns_30 rfl ?_
    refine ab_iloadn dX1_hasSigns_31 rfl ?_
    refine ab_aloadn dX1_hasSigns_32 rfl ?_
    refine ab_getf (v := .ref 5) dX1_hasSigns_33 fl_X1_79 kd_4 ff_4_0 ?_
    refine ab_iloadn dX1_hasSigns_36 rfl ?_
    refine ab_iaload (v := (i 5 a2.toNatClampNeg)) dX1_hasSigns_37 kd_5 (h.2 c1).1 rfl ?_
    obtain ⟨r2, P3, hs4, hk5⟩ := (h.2 c1).2
    refine ab_callV (vs := [.int a2, .int (i 5 a2.toNatClampNeg)]) (st := []) dX1_hasSigns_38 okMX1_hasSign wd_705 (kM k_a0) rfl rfl rfl (Nat.le_of_ble_eq_true rfl) ⟨Nat.le_of_ble_eq_true rfl, Nat.le_of_ble_eq_true rfl⟩ hs4 ?_
    rintro v9 ⟨i6, l7, dd8, x9⟩ E9 - ⟨rfl, rfl, hp10⟩
    show ab_Fr MX1_hasSigns (d + 1) Q 41 [some (.ref a0), some (.ref 4), some (.int a2)] [.int r2] (0, 0) (i6, l7, dd8, x9) (ab_E0 sc)
    refine ab_if_ne (tgt := 46) dX1_hasSigns_41 (by decide) (fun c11 => ?_) (fun c11 => ?_)
    · refine ab_iinc (v := (a2 + 1)) dX1_hasSigns_46 rfl (by rfl) (Nat.le_of_ble_eq_true rfl) (L2 := [some (.ref a0), some (.ref 4), some (.int (a2 + 1))]) rfl ?_
      refine ab_goto (tgt := 22) dX1_hasSigns_49 (by decide) ?_
      exact ((hk5 i6 l7 dd8 x9 hp10).1 c11)
    · refine ab_iconst (v := 0) dX1_hasSigns_44 (by decide) ?_
      exact ab_zret dX1_hasSigns_45 rfl (by decide) ⟨Nat.zero_le _, Nat.zero_le _⟩ ((hk5 i6 l7 dd8 x9 hp10).2 c11)
theorem tMX1_decidesWithSigns_0 {d : Nat} {Q : ab_Qt} {sc : Nat × (Nat → Int32)} {i : Nat → Nat → Int32} {l : Nat → Nat → Int64} {dd : Nat → Nat → Value} {x : Nat} {a0 : Nat} {a1 : Nat} {n_a1 : Nat} (k_a0 : ab_isM a0) (k_a1 : (ab_E0 sc).1 a1 = .inr (0, n_a1))
    (h : (∃ (P2 : ab_S → Prop), ab_Sp MX1_clearTally d [.ref a0] (i, l, dd, x) (ab_E0 sc) (none) P2 ∧ ∀ i5 l6 dd7 x8, P2 (i5, l6, dd7, x8) → ab_Fr MX1_decidesWithSigns (d + 1) Q 6 [some (.ref a0), some (.ref a1), some (.int 0)] [] (0, 0) (i5, l6, dd7, x8) (ab_E0 sc))) :
    ab_Fr MX1_decidesWithSigns (d + 1) Q 0 [some (.ref a0), some (.ref a1), none] [] (0, 0) (i, l, dd, x) (ab_E0 sc) := by
  refine ab_aloadn dX1_decidesWithSigns_0 rfl ?_
  obtain ⟨P2, hs3, hk4⟩ := h
  refine ab_callV (vs := []) (st := []) dX1_decidesWithSigns_1 okMX1_clearTally wd_710 (kM k_a0) rfl rfl rfl (Nat.le_of_ble_eq_true rfl) ⟨Nat.le_of_ble_eq_true rfl, Nat.le_of_ble_eq_true rfl⟩ hs3 ?_
  rintro v9 ⟨i5, l6, dd7, x8⟩ E9 - ⟨rfl, rfl, hp9⟩
  show ab_Fr MX1_decidesWithSigns (d + 1) Q 4 [some (.ref a0), some (.ref a1), none] [] (0, 0) (i5, l6, dd7, x8) (ab_E0 sc)
  refine ab_iconst (v := 0) dX1_decidesWithSigns_4 (by decide) ?_
  refine ab_istoren dX1_decidesWithSigns_5 (Nat.le_of_ble_eq_true rfl) (L2 := [some (.ref a0), some (.ref a1), some (.int 0)]) rfl ?_
  exact (hk4 i5 l6 dd7 x8 hp9)
theorem tMX1_decidesWithSigns_6 {d : Nat} {Q : ab_Qt} {sc : Nat × (Nat → Int32)} {i : Nat → Nat → Int32} {l : Nat → Nat → Int64} {dd : Nat → Nat → Value} {x : Nat} {a0 : Nat} {a1 : Nat} {n_a1 : Nat} {a2 : Int32} (k_a0 : ab_isM a0) (k_a1 : (ab_E0 sc).1 a1 = .inr (0, n_a1))
    (h : (((i a0 1) ≤ a2 → ((¬ (i a0 5) = (-1) → (vp_in (i a0 5) n_a1 ∧ vp_in (((i a0 5) * 3) + (i a1 (i a0 5).toNatClampNeg)) 21 ∧ ab_Fr MX1_decidesWithSigns (d + 1) Q 72 [some (.ref a0), none, none] [.int (i (a0 + 47) (((i a0 5) * 3) + (i a1 (i a0 5).toNatClampNeg)).toNatClampNeg)] (0, 0) (i, l, dd, x) (ab_E0 sc))) ∧ ((i a0 5) = (-1) → ab_Fr MX1_decidesWithSigns (d + 1) Q 72 [some (.ref a0), none, none] [.int 9] (0, 0) (i, l, dd, x) (ab_E0 sc)))) ∧ (¬ (i a0 1) ≤ a2 → (vp_in a2 n_a1 ∧ vp_in ((a2 * 3) + (i a1 a2.toNatClampNeg)) 21 ∧ ∃ (P4 : ab_S → Prop), ab_Sp MX1_addVote d [.ref a0, .ref (a0 + 48), .int a2, .int (i (a0 + 47) ((a2 * 3) + (i a1 a2.toNatClampNeg)).toNatClampNeg)] (i, l, dd, x) (ab_E0 sc) (none) P4 ∧ ∀ i7 l8 dd9 x10, P4 (i7, l8, dd9, x10) → ab_Fr MX1_decidesWithSigns (d + 1) Q 6 [some (.ref a0), some (.ref a1), some (.int (a2 + 1))] [] (0, 0) (i7, l8, dd9, x10) (ab_E0 sc))))) :
    ab_Fr MX1_decidesWithSigns (d + 1) Q 6 [some (.ref a0), some (.ref a1), some (.int a2)] [] (0, 0) (i, l, dd, x) (ab_E0 sc) := by
  refine ab_iloadn dX1_decidesWithSigns_6 rfl ?_
  refine ab_aloadn dX1_decidesWithSigns_7 rfl ?_
  refine ab_getf (v := .int (i a0 1)) dX1_decidesWithSigns_8 fl_X1_46 (kM k_a0) rfl ?_
  refine ab_icmp_ge (tgt := 41) dX1_decidesWithSigns_11 (by decide) (fun c1 => ?_) (fun c1 => ?_)
  · refine ab_aloadn dX1_decidesWithSigns_41 rfl ?_
    refine ab_getf (v := .int (i a0 5)) dX1_decidesWithSigns_42 fl_X1_9 (kM k_a0) rfl ?_
    refine ab_iconst (v := (-1)) dX1_decidesWithSigns_45 (by decide) ?_
    refine ab_icmp_ne (tgt := 54) dX1_decidesWithSigns_46 (by decide) (fun c2 => ?_) (fun c2 => ?_)
    · refine ab_aloadn dX1_decidesWithSigns_54 rfl ?_
      refine ab_getf (v := .ref (a0 + 47)) dX1_decidesWithSigns_55 fl_X1_33 (kM k_a0) (fM_9 k_a0) ?_
      refine ab_aloadn dX1_decidesWithSigns_58 rfl ?_
      refine ab_getf (v := .int (i a0 5)) dX1_decidesWithSigns_59 fl_X1_9 (kM k_a0) rfl ?_
      refine ab_iconst (v := 3) dX1_decidesWithSigns_62 (by decide) ?_
      refine ab_imul dX1_decidesWithSigns_63 ?_
      refine ab_aloadn dX1_decidesWithSigns_64 rfl ?_
      refine ab_aloadn dX1_decidesWithSigns_65 rfl ?_
      refine ab_getf (v := .int (i a0 5)) dX1_decidesWithSigns_66 fl_X1_9 (kM k_a0) rfl ?_
      refine ab_iaload (v := (i a1 (i a0 5).toNatClampNeg)) dX1_decidesWithSigns_69 k_a1 ((h.1 c1).1 c2).1 rfl ?_
      refine ab_iadd dX1_decidesWithSigns_70 ?_
      refine ab_iaload (v := (i (a0 + 47) (((i a0 5) * 3) + (i a1 (i a0 5).toNatClampNeg)).toNatClampNeg)) dX1_decidesWithSigns_71 (kM_47 k_a0) ((h.1 c1).1 c2).2.1 rfl ?_
      refine ab_forget (i := 1) (L2 := [some (.ref a0), none, some (.int a2)]) rfl ?_
      refine ab_forget (i := 2) (L2 := [some (.ref a0), none, none]) rfl ?_
      exact ((h.1 c1).1 c2).2.2
    · refine ab_bipush (v := 9) dX1_decidesWithSigns_49 (by decide) ?_
      refine ab_goto (tgt := 72) dX1_decidesWithSigns_51 (by decide) ?_
      refine ab_forget (i := 1) (L2 := [some (.ref a0), none, some (.int a2)]) rfl ?_
      refine ab_forget (i := 2) (L2 := [some (.ref a0), none, none]) rfl ?_
      exact ((h.1 c1).2 c2)
  · refine ab_aloadn dX1_decidesWithSigns_14 rfl ?_
    refine ab_aloadn dX1_decidesWithSigns_15 rfl ?_
    refine ab_getf (v := .ref (a0 + 48)) dX1_decidesWithSigns_16 fl_X1_36 (kM k_a0) (fM_10 k_a0) ?_
    refine ab_iloadn dX1_decidesWithSigns_19 rfl ?_
    refine ab_aloadn dX1_decidesWithSigns_20 rfl ?_
    refine ab_getf (v := .ref (a0 + 47)) dX1_decidesWithSigns_21 fl_X1_33 (kM k_a0) (fM_9 k_a0) ?_
    refine ab_iloadn dX1_decidesWithSigns_24 rfl ?_
    refine ab_iconst (v := 3) dX1_decidesWithSigns_25 (by decide) ?_
    refine ab_imul dX1_decidesWithSigns_26 ?_
    refine ab_aloadn dX1_decidesWithSigns_27 rfl ?_
    refine ab_iloadn dX1_decidesWithSigns_28 rfl ?_
    refine ab_iaload (v := (i a1 a2.toNatClampNeg)) dX1_decidesWithSigns_29 k_a1 (h.2 c1).1 rfl ?_
    refine ab_iadd dX1_decidesWithSigns_30 ?_
    refine ab_iaload (v := (i (a0 + 47) ((a2 * 3) + (i a1 a2.toNatClampNeg)).toNatClampNeg)) dX1_decidesWithSigns_31 (kM_47 k_a0) (h.2 c1).2.1 rfl ?_
    obtain ⟨P4, hs5, hk6⟩ := (h.2 c1).2.2
    refine ab_callV (vs := [.ref (a0 + 48), .int a2, .int (i (a0 + 47) ((a2 * 3) + (i a1 a2.toNatClampNeg)).toNatClampNeg)]) (st := []) dX1_decidesWithSigns_32 okMX1_addVote wd_713 (kM k_a0) rfl rfl rfl (Nat.le_of_ble_eq_true rfl) ⟨Nat.le_of_ble_eq_true rfl, Nat.le_of_ble_eq_true rfl⟩ hs5 ?_
    rintro v9 ⟨i7, l8, dd9, x10⟩ E9 - ⟨rfl, rfl, hp11⟩
    show ab_Fr MX1_decidesWithSigns (d + 1) Q 35 [some (.ref a0), some (.ref a1), some (.int a2)] [] (0, 0) (i7, l8, dd9, x10) (ab_E0 sc)
    refine ab_iinc (v := (a2 + 1)) dX1_decidesWithSigns_35 rfl (by rfl) (Nat.le_of_ble_eq_true rfl) (L2 := [some (.ref a0), some (.ref a1), some (.int (a2 + 1))]) rfl ?_
    refine ab_goto (tgt := 6) dX1_decidesWithSigns_38 (by decide) ?_
    exact (hk6 i7 l8 dd9 x10 hp11)
theorem tMX1_decidesWithSigns_72 {d : Nat} {Q : ab_Qt} {sc : Nat × (Nat → Int32)} {i : Nat → Nat → Int32} {l : Nat → Nat → Int64} {dd : Nat → Nat → Value} {x : Nat} {a0 : Nat} {s0 : Int32} (k_a0 : ab_isM a0)
    (h : (∃ (r1 : Int32) (P2 : ab_S → Prop), ab_Sp MX1_decides d [.ref a0, .ref (a0 + 48), .int s0] (i, l, dd, x) (ab_E0 sc) (some (.int r1)) P2 ∧ ∀ i5 l6 dd7 x8, P2 (i5, l6, dd7, x8) → Q (some (some (.int r1))) (i5, l6, dd7, x8) (ab_E0 sc))) :
    ab_Fr MX1_decidesWithSigns (d + 1) Q 72 [some (.ref a0), none, none] [.int s0] (0, 0) (i, l, dd, x) (ab_E0 sc) := by
  refine ab_istoren dX1_decidesWithSigns_72 (Nat.le_of_ble_eq_true rfl) (L2 := [some (.ref a0), none, some (.int s0)]) rfl ?_
  refine ab_aloadn dX1_decidesWithSigns_73 rfl ?_
  refine ab_aloadn dX1_decidesWithSigns_74 rfl ?_
  refine ab_getf (v := .ref (a0 + 48)) dX1_decidesWithSigns_75 fl_X1_36 (kM k_a0) (fM_10 k_a0) ?_
  refine ab_iloadn dX1_decidesWithSigns_78 rfl ?_
  obtain ⟨r1, P2, hs3, hk4⟩ := h
  refine ab_callV (vs := [.ref (a0 + 48), .int s0]) (st := []) dX1_decidesWithSigns_79 okMX1_decides wd_717 (kM k_a0) rfl rfl rfl (Nat.le_of_ble_eq_true rfl) ⟨Nat.le_of_ble_eq_true rfl, Nat.le_of_ble_eq_true rfl⟩ hs3 ?_
  rintro v9 ⟨i5, l6, dd7, x8⟩ E9 - ⟨rfl, rfl, hp9⟩
  show ab_Fr MX1_decidesWithSigns (d + 1) Q 82 [some (.ref a0), none, some (.int s0)] [.int r1] (0, 0) (i5, l6, dd7, x8) (ab_E0 sc)
  exact ab_iret dX1_decidesWithSigns_82 rfl ⟨Nat.zero_le _, Nat.zero_le _⟩ (hk4 i5 l6 dd7 x8 hp9)
theorem tMX1_clearTally_0 {d : Nat} {Q : ab_Qt} {sc : Nat × (Nat → Int32)} {i : Nat → Nat → Int32} {l : Nat → Nat → Int64} {dd : Nat → Nat → Value} {x : Nat} {a0 : Nat} (k_a0 : ab_isM a0)
    (h : ab_Fr MX1_clearTally (d + 1) Q 2 [some (.ref a0), some (.int 0)] [] (0, 0) (i, l, dd, x) (ab_E0 sc)) :
    ab_Fr MX1_clearTally (d + 1) Q 0 [some (.ref a0), none] [] (0, 0) (i, l, dd, x) (ab_E0 sc) := by
  refine ab_iconst (v := 0) dX1_clearTally_0 (by decide) ?_
  refine ab_istoren dX1_clearTally_1 (Nat.le_of_ble_eq_true rfl) (L2 := [some (.ref a0), some (.int 0)]) rfl ?_
  exact h
theorem tMX1_clearTally_2 {d : Nat} {Q : ab_Qt} {sc : Nat × (Nat → Int32)} {i : Nat → Nat → Int32} {l : Nat → Nat → Int64} {dd : Nat → Nat → Value} {x : Nat} {a0 : Nat} {a1 : Int32} (k_a0 : ab_isM a0)
    (h : ((3 ≤ a1 → Q (some none) (i, l, dd, x) (ab_E0 sc)) ∧ (¬ 3 ≤ a1 → (vp_in a1 3 ∧ ∀ i2, i2 = ab_u i (a0 + 48) a1.toNatClampNeg 0 → ab_Fr MX1_clearTally (d + 1) Q 2 [some (.ref a0), some (.int (a1 + 1))] [] (0, 0) (i2, l, dd, x) (ab_E0 sc))))) :
    ab_Fr MX1_clearTally (d + 1) Q 2 [some (.ref a0), some (.int a1)] [] (0, 0) (i, l, dd, x) (ab_E0 sc) := by
  refine ab_iloadn dX1_clearTally_2 rfl ?_
  refine ab_iconst (v := 3) dX1_clearTally_3 (by decide) ?_
  refine ab_icmp_ge (tgt := 20) dX1_clearTally_4 (by decide) (fun c1 => ?_) (fun c1 => ?_)
  · exact ab_vret dX1_clearTally_20 rfl ⟨Nat.zero_le _, Nat.zero_le _⟩ (h.1 c1)
  · refine ab_aloadn dX1_clearTally_7 rfl ?_
    refine ab_getf (v := .ref (a0 + 48)) dX1_clearTally_8 fl_X1_36 (kM k_a0) (fM_10 k_a0) ?_
    refine ab_iloadn dX1_clearTally_11 rfl ?_
    refine ab_iconst (v := 0) dX1_clearTally_12 (by decide) ?_
    refine ab_iastore dX1_clearTally_13 (kM_48 k_a0) (h.2 c1).1 ?_
    obtain ⟨i2, e3⟩ : ∃ z, z = ab_u i (a0 + 48) a1.toNatClampNeg 0 := ⟨_, rfl⟩
    rw [show ab_u i (a0 + 48) a1.toNatClampNeg 0 = i2 from e3.symm]
    refine ab_iinc (v := (a1 + 1)) dX1_clearTally_14 rfl (by rfl) (Nat.le_of_ble_eq_true rfl) (L2 := [some (.ref a0), some (.int (a1 + 1))]) rfl ?_
    refine ab_goto (tgt := 2) dX1_clearTally_17 (by decide) ?_
    exact ((h.2 c1).2 i2 e3)
theorem tMX1_addVote_0 {d : Nat} {Q : ab_Qt} {sc : Nat × (Nat → Int32)} {i : Nat → Nat → Int32} {l : Nat → Nat → Int64} {dd : Nat → Nat → Value} {x : Nat} {a0 : Nat} {a1 : Nat} {n_a1 : Nat} {a2 : Int32} {a3 : Int32} (k_a0 : ab_isM a0) (k_a1 : (ab_E0 sc).1 a1 = .inr (0, n_a1))
    (h : ((a3 < 0 → Q (some none) (i, l, dd, x) (ab_E0 sc)) ∧ (¬ a3 < 0 → (((i a0 0) ≤ a3 → Q (some none) (i, l, dd, x) (ab_E0 sc)) ∧ (¬ (i a0 0) ≤ a3 → (vp_in a3 n_a1 ∧ vp_in a2 7 ∧ vp_in a3 n_a1 ∧ ∀ i3, i3 = ab_u i a1 a3.toNatClampNeg ((i a1 a3.toNatClampNeg) + (i (a0 + 5 + 6 * a2.toNatClampNeg) 1)) → Q (some none) (i3, l, dd, x) (ab_E0 sc))))))) :
    ab_Fr MX1_addVote (d + 1) Q 0 [some (.ref a0), some (.ref a1), some (.int a2), some (.int a3)] [] (0, 0) (i, l, dd, x) (ab_E0 sc) := by
  refine ab_iloadn dX1_addVote_0 rfl ?_
  refine ab_if_lt (tgt := 27) dX1_addVote_1 (by decide) (fun c1 => ?_) (fun c1 => ?_)
  · exact ab_vret dX1_addVote_27 rfl ⟨Nat.zero_le _, Nat.zero_le _⟩ (h.1 c1)
  · refine ab_iloadn dX1_addVote_4 rfl ?_
    refine ab_aloadn dX1_addVote_5 rfl ?_
    refine ab_getf (v := .int (i a0 0)) dX1_addVote_6 fl_X1_43 (kM k_a0) rfl ?_
    refine ab_icmp_ge (tgt := 27) dX1_addVote_9 (by decide) (fun c2 => ?_) (fun c2 => ?_)
    · exact ab_vret dX1_addVote_27 rfl ⟨Nat.zero_le _, Nat.zero_le _⟩ ((h.2 c1).1 c2)
    · refine ab_aloadn dX1_addVote_12 rfl ?_
      refine ab_iloadn dX1_addVote_13 rfl ?_
      refine ab_dup2 dX1_addVote_14 rfl rfl ?_
      refine ab_iaload (v := (i a1 a3.toNatClampNeg)) dX1_addVote_15 k_a1 ((h.2 c1).2 c2).1 rfl ?_
      refine ab_aloadn dX1_addVote_16 rfl ?_
      refine ab_getf (v := .ref (a0 + 4)) dX1_addVote_17 fl_X1_28 (kM k_a0) (fM_8 k_a0) ?_
      refine ab_iloadn dX1_addVote_20 rfl ?_
      refine ab_aaload (a := (a0 + 5 + 6 * a2.toNatClampNeg)) dX1_addVote_21 (Or.inl rfl) (kM_4 k_a0) ((h.2 c1).2 c2).2.1 (fMv k_a0 ((h.2 c1).2 c2).2.1) ?_
      refine ab_getf (v := .int (i (a0 + 5 + 6 * a2.toNatClampNeg) 1)) dX1_addVote_22 fl_X1_135 (kV (isVof k_a0 ((h.2 c1).2 c2).2.1)) rfl ?_
      refine ab_iadd dX1_addVote_25 ?_
      refine ab_iastore dX1_addVote_26 k_a1 ((h.2 c1).2 c2).2.2.1 ?_
      obtain ⟨i3, e4⟩ : ∃ z, z = ab_u i a1 a3.toNatClampNeg ((i a1 a3.toNatClampNeg) + (i (a0 + 5 + 6 * a2.toNatClampNeg) 1)) := ⟨_, rfl⟩
      rw [show ab_u i a1 a3.toNatClampNeg ((i a1 a3.toNatClampNeg) + (i (a0 + 5 + 6 * a2.toNatClampNeg) 1)) = i3 from e4.symm]
      exact ab_vret dX1_addVote_27 rfl ⟨Nat.zero_le _, Nat.zero_le _⟩ (((h.2 c1).2 c2).2.2.2 i3 e4)
theorem tMX1_decides_0 {d : Nat} {Q : ab_Qt} {sc : Nat × (Nat → Int32)} {i : Nat → Nat → Int32} {l : Nat → Nat → Int64} {dd : Nat → Nat → Value} {x : Nat} {a0 : Nat} {a1 : Nat} {n_a1 : Nat} {a2 : Int32} (k_a0 : ab_isM a0) (k_a1 : (ab_E0 sc).1 a1 = .inr (0, n_a1))
    (h : (((i a0 2) ≤ 0 → ab_Fr MX1_decides (d + 1) Q 37 [some (.ref a0), some (.ref a1), some (.int a2), some (.int 0), some (.int 1)] [] (0, 0) (i, l, dd, x) (ab_E0 sc)) ∧ (¬ (i a0 2) ≤ 0 → (vp_in (i a0 3) n_a1 ∧ (((i a1 (i a0 3).toNatClampNeg) < (i a0 2) → Q (some (some (.int (i a0 4)))) (i, l, dd, x) (ab_E0 sc)) ∧ (¬ (i a1 (i a0 3).toNatClampNeg) < (i a0 2) → Q (some (some (.int (i a0 3)))) (i, l, dd, x) (ab_E0 sc))))))) :
    ab_Fr MX1_decides (d + 1) Q 0 [some (.ref a0), some (.ref a1), some (.int a2), none, none] [] (0, 0) (i, l, dd, x) (ab_E0 sc) := by
  refine ab_aloadn dX1_decides_0 rfl ?_
  refine ab_getf (v := .int (i a0 2)) dX1_decides_1 fl_X1_49 (kM k_a0) rfl ?_
  refine ab_if_le (tgt := 32) dX1_decides_4 (by decide) (fun c1 => ?_) (fun c1 => ?_)
  · refine ab_iconst (v := 0) dX1_decides_32 (by decide) ?_
    refine ab_istoren dX1_decides_33 (Nat.le_of_ble_eq_true rfl) (L2 := [some (.ref a0), some (.ref a1), some (.int a2), some (.int 0), none]) rfl ?_
    refine ab_iconst (v := 1) dX1_decides_34 (by decide) ?_
    refine ab_istore dX1_decides_35 (Nat.le_of_ble_eq_true rfl) (L2 := [some (.ref a0), some (.ref a1), some (.int a2), some (.int 0), some (.int 1)]) rfl ?_
    exact (h.1 c1)
  · refine ab_aloadn dX1_decides_7 rfl ?_
    refine ab_aloadn dX1_decides_8 rfl ?_
    refine ab_getf (v := .int (i a0 3)) dX1_decides_9 fl_X1_138 (kM k_a0) rfl ?_
    refine ab_iaload (v := (i a1 (i a0 3).toNatClampNeg)) dX1_decides_12 k_a1 (h.2 c1).1 rfl ?_
    refine ab_aloadn dX1_decides_13 rfl ?_
    refine ab_getf (v := .int (i a0 2)) dX1_decides_14 fl_X1_49 (kM k_a0) rfl ?_
    refine ab_icmp_lt (tgt := 27) dX1_decides_17 (by decide) (fun c2 => ?_) (fun c2 => ?_)
    · refine ab_aloadn dX1_decides_27 rfl ?_
      refine ab_getf (v := .int (i a0 4)) dX1_decides_28 fl_X1_141 (kM k_a0) rfl ?_
      exact ab_iret dX1_decides_31 rfl ⟨Nat.zero_le _, Nat.zero_le _⟩ ((h.2 c1).2.1 c2)
    · refine ab_aloadn dX1_decides_20 rfl ?_
      refine ab_getf (v := .int (i a0 3)) dX1_decides_21 fl_X1_138 (kM k_a0) rfl ?_
      refine ab_goto (tgt := 31) dX1_decides_24 (by decide) ?_
      exact ab_iret dX1_decides_31 rfl ⟨Nat.zero_le _, Nat.zero_le _⟩ ((h.2 c1).2.2 c2)
theorem tMX1_decides_37 {d : Nat} {Q : ab_Qt} {sc : Nat × (Nat → Int32)} {i : Nat → Nat → Int32} {l : Nat → Nat → Int64} {dd : Nat → Nat → Value} {x : Nat} {a0 : Nat} {a1 : Nat} {n_a1 : Nat} {a2 : Int32} {a3 : Int32} {a4 : Int32} (k_a0 : ab_isM a0) (k_a1 : (ab_E0 sc).1 a1 = .inr (0, n_a1))
    (h : (((i a0 0) ≤ a4 → ((a2 < 0 → ab_Fr MX1_decides (d + 1) Q 81 [none, some (.ref a1), some (.int a2), some (.int a3), none] [] (0, 0) (i, l, dd, x) (ab_E0 sc)) ∧ (¬ a2 < 0 → (((i a0 0) ≤ a2 → ab_Fr MX1_decides (d + 1) Q 81 [none, some (.ref a1), some (.int a2), some (.int a3), none] [] (0, 0) (i, l, dd, x) (ab_E0 sc)) ∧ (¬ (i a0 0) ≤ a2 → ab_Fr MX1_decides (d + 1) Q 82 [none, some (.ref a1), some (.int a2), some (.int a3), none] [.int 1] (0, 0) (i, l, dd, x) (ab_E0 sc)))))) ∧ (¬ (i a0 0) ≤ a4 → (vp_in a4 n_a1 ∧ vp_in a3 n_a1 ∧ (((i a1 a4.toNatClampNeg) ≤ (i a1 a3.toNatClampNeg) → ab_Fr MX1_decides (d + 1) Q 37 [some (.ref a0), some (.ref a1), some (.int a2), some (.int a3), some (.int (a4 + 1))] [] (0, 0) (i, l, dd, x) (ab_E0 sc)) ∧ (¬ (i a1 a4.toNatClampNeg) ≤ (i a1 a3.toNatClampNeg) → ab_Fr MX1_decides (d + 1) Q 37 [some (.ref a0), some (.ref a1), some (.int a2), some (.int a4), some (.int (a4 + 1))] [] (0, 0) (i, l, dd, x) (ab_E0 sc))))))) :
    ab_Fr MX1_decides (d + 1) Q 37 [some (.ref a0), some (.ref a1), some (.int a2), some (.int a3), some (.int a4)] [] (0, 0) (i, l, dd, x) (ab_E0 sc) := by
  refine ab_iload dX1_decides_37 rfl ?_
  refine ab_aloadn dX1_decides_39 rfl ?_
  refine ab_getf (v := .int (i a0 0)) dX1_decides_40 fl_X1_43 (kM k_a0) rfl ?_
  refine ab_icmp_ge (tgt := 65) dX1_decides_43 (by decide) (fun c1 => ?_) (fun c1 => ?_)
  · refine ab_iloadn dX1_decides_65 rfl ?_
    refine ab_if_lt (tgt := 81) dX1_decides_66 (by decide) (fun c2 => ?_) (fun c2 => ?_)
    · refine ab_forget (i := 0) (L2 := [none, some (.ref a1), some (.int a2), some (.int a3), some (.int a4)]) rfl ?_
      refine ab_forget (i := 4) (L2 := [none, some (.ref a1), some (.int a2), some (.int a3), none]) rfl ?_
      exact ((h.1 c1).1 c2)
    · refine ab_iloadn dX1_decides_69 rfl ?_
      refine ab_aloadn dX1_decides_70 rfl ?_
      refine ab_getf (v := .int (i a0 0)) dX1_decides_71 fl_X1_43 (kM k_a0) rfl ?_
      refine ab_icmp_ge (tgt := 81) dX1_decides_74 (by decide) (fun c3 => ?_) (fun c3 => ?_)
      · refine ab_forget (i := 0) (L2 := [none, some (.ref a1), some (.int a2), some (.int a3), some (.int a4)]) rfl ?_
        refine ab_forget (i := 4) (L2 := [none, some (.ref a1), some (.int a2), some (.int a3), none]) rfl ?_
        exact (((h.1 c1).2 c2).1 c3)
      · refine ab_iconst (v := 1) dX1_decides_77 (by decide) ?_
        refine ab_goto (tgt := 82) dX1_decides_78 (by decide) ?_
        refine ab_forget (i := 0) (L2 := [none, some (.ref a1), some (.int a2), some (.int a3), some (.int a4)]) rfl ?_
        refine ab_forget (i := 4) (L2 := [none, some (.ref a1), some (.int a2), some (.int a3), none]) rfl ?_
        exact (((h.1 c1).2 c2).2 c3)
  · refine ab_aloadn dX1_decides_46 rfl ?_
    refine ab_iload dX1_decides_47 rfl ?_
    refine ab_iaload (v := (i a1 a4.toNatClampNeg)) dX1_decides_49 k_a1 (h.2 c1).1 rfl ?_
    refine ab_aloadn dX1_decides_50 rfl ?_
    refine ab_iloadn dX1_decides_51 rfl ?_
    refine ab_iaload (v := (i a1 a3.toNatClampNeg)) dX1_decides_52 k_a1 (h.2 c1).2.1 rfl ?_
    refine ab_icmp_le (tgt := 59) dX1_decides_53 (by decide) (fun c4 => ?_) (fun c4 => ?_)
    · refine ab_iinc (v := (a4 + 1)) dX1_decides_59 rfl (by rfl) (Nat.le_of_ble_eq_true rfl) (L2 := [some (.ref a0), some (.ref a1), some (.int a2), some (.int a3), some (.int (a4 + 1))]) rfl ?_
      refine ab_goto (tgt := 37) dX1_decides_62 (by decide) ?_
      exact ((h.2 c1).2.2.1 c4)
    · refine ab_iload dX1_decides_56 rfl ?_
      refine ab_istoren dX1_decides_58 (Nat.le_of_ble_eq_true rfl) (L2 := [some (.ref a0), some (.ref a1), some (.int a2), some (.int a4), some (.int a4)]) rfl ?_
      refine ab_iinc (v := (a4 + 1)) dX1_decides_59 rfl (by rfl) (Nat.le_of_ble_eq_true rfl) (L2 := [some (.ref a0), some (.ref a1), some (.int a2), some (.int a4), some (.int (a4 + 1))]) rfl ?_
      refine ab_goto (tgt := 37) dX1_decides_62 (by decide) ?_
      exact ((h.2 c1).2.2.2 c4)
theorem tMX1_decides_81 {d : Nat} {Q : ab_Qt} {sc : Nat × (Nat → Int32)} {i : Nat → Nat → Int32} {l : Nat → Nat → Int64} {dd : Nat → Nat → Value} {x : Nat} {a1 : Nat} {n_a1 : Nat} {a2 : Int32} {a3 : Int32} (k_a1 : (ab_E0 sc).1 a1 = .inr (0, n_a1))
    (h : ab_Fr MX1_decides (d + 1) Q 82 [none, some (.ref a1), some (.int a2), some (.int a3), none] [.int 0] (0, 0) (i, l, dd, x) (ab_E0 sc)) :
    ab_Fr MX1_decides (d + 1) Q 81 [none, some (.ref a1), some (.int a2), some (.int a3), none] [] (0, 0) (i, l, dd, x) (ab_E0 sc) := by
  refine ab_iconst (v := 0) dX1_decides_81 (by decide) ?_
  exact h
theorem tMX1_decides_82 {d : Nat} {Q : ab_Qt} {sc : Nat × (Nat → Int32)} {i : Nat → Nat → Int32} {l : Nat → Nat → Int64} {dd : Nat → Nat → Value} {x : Nat} {a1 : Nat} {n_a1 : Nat} {a2 : Int32} {a3 : Int32} {s0 : Int32} (k_a1 : (ab_E0 sc).1 a1 = .inr (0, n_a1))
    (h : ((s0 = 0 → Q (some (some (.int a3))) (i, l, dd, x) (ab_E0 sc)) ∧ (¬ s0 = 0 → (vp_in a2 n_a1 ∧ vp_in a3 n_a1 ∧ ((¬ (i a1 a2.toNatClampNeg) = (i a1 a3.toNatClampNeg) → Q (some (some (.int a3))) (i, l, dd, x) (ab_E0 sc)) ∧ ((i a1 a2.toNatClampNeg) = (i a1 a3.toNatClampNeg) → Q (some (some (.int a2))) (i, l, dd, x) (ab_E0 sc))))))) :
    ab_Fr MX1_decides (d + 1) Q 82 [none, some (.ref a1), some (.int a2), some (.int a3), none] [.int s0] (0, 0) (i, l, dd, x) (ab_E0 sc) := by
  refine ab_istore dX1_decides_82 (Nat.le_of_ble_eq_true rfl) (L2 := [none, some (.ref a1), some (.int a2), some (.int a3), some (.int s0)]) rfl ?_
  refine ab_iload dX1_decides_84 rfl ?_
  refine ab_if_eq (tgt := 102) dX1_decides_86 (by decide) (fun c1 => ?_) (fun c1 => ?_)
  · refine ab_iloadn dX1_decides_102 rfl ?_
    exact ab_iret dX1_decides_103 rfl ⟨Nat.zero_le _, Nat.zero_le _⟩ (h.1 c1)
  · refine ab_aloadn dX1_decides_89 rfl ?_
    refine ab_iloadn dX1_decides_90 rfl ?_
    refine ab_iaload (v := (i a1 a2.toNatClampNeg)) dX1_decides_91 k_a1 (h.2 c1).1 rfl ?_
    refine ab_aloadn dX1_decides_92 rfl ?_
    refine ab_iloadn dX1_decides_93 rfl ?_
    refine ab_iaload (v := (i a1 a3.toNatClampNeg)) dX1_decides_94 k_a1 (h.2 c1).2.1 rfl ?_
    refine ab_icmp_ne (tgt := 102) dX1_decides_95 (by decide) (fun c2 => ?_) (fun c2 => ?_)
    · refine ab_iloadn dX1_decides_102 rfl ?_
      exact ab_iret dX1_decides_103 rfl ⟨Nat.zero_le _, Nat.zero_le _⟩ ((h.2 c1).2.2.1 c2)
    · refine ab_iloadn dX1_decides_98 rfl ?_
      refine ab_goto (tgt := 103) dX1_decides_99 (by decide) ?_
      exact ab_iret dX1_decides_103 rfl ⟨Nat.zero_le _, Nat.zero_le _⟩ ((h.2 c1).2.2.2 c2)
theorem tMX1_knownBy_0 {d : Nat} {Q : ab_Qt} {sc : Nat × (Nat → Int32)} {i : Nat → Nat → Int32} {l : Nat → Nat → Int64} {dd : Nat → Nat → Value} {x : Nat} {a0 : Nat} {a1 : Nat} {n_a1 : Nat} (k_a0 : ab_isM a0) (k_a1 : (ab_E0 sc).1 a1 = .inr (0, n_a1))
    (h : ab_Fr MX1_knownBy (d + 1) Q 2 [some (.ref a0), some (.ref a1), some (.int 0)] [] (0, 0) (i, l, dd, x) (ab_E0 sc)) :
    ab_Fr MX1_knownBy (d + 1) Q 0 [some (.ref a0), some (.ref a1), none] [] (0, 0) (i, l, dd, x) (ab_E0 sc) := by
  refine ab_iconst (v := 0) dX1_knownBy_0 (by decide) ?_
  refine ab_istoren dX1_knownBy_1 (Nat.le_of_ble_eq_true rfl) (L2 := [some (.ref a0), some (.ref a1), some (.int 0)]) rfl ?_
  exact h
theorem tMX1_knownBy_2 {d : Nat} {Q : ab_Qt} {sc : Nat × (Nat → Int32)} {i : Nat → Nat → Int32} {l : Nat → Nat → Int64} {dd : Nat → Nat → Value} {x : Nat} {a0 : Nat} {a1 : Nat} {n_a1 : Nat} {a2 : Int32} (k_a0 : ab_isM a0) (k_a1 : (ab_E0 sc).1 a1 = .inr (0, n_a1))
    (h : ((3 ≤ a2 → (∃ (r2 : Int32) (P3 : ab_S → Prop), ab_Sp MX0_leastOf d [.ref (a0 + 2), .int (i a0 0), .ref (a0 + 49), .int 0] (i, l, dd, x) (ab_E0 sc) (some (.int r2)) P3 ∧ ∀ i6 l7 dd8 x9, P3 (i6, l7, dd8, x9) → Q (some (some (.int r2))) (i6, l7, dd8, x9) (ab_E0 sc))) ∧ (¬ 3 ≤ a2 → (∃ (r11 : Int64) (P12 : ab_S → Prop), ab_Sp MX1_partsOf d [.ref a0, .int a2, .ref a1] (i, l, dd, x) (ab_E0 sc) (some (.long r11)) P12 ∧ ∀ i15 l16 dd17 x18, P12 (i15, l16, dd17, x18) → vp_in a2 3 ∧ ∀ l20, l20 = ab_u l16 (a0 + 49) a2.toNatClampNeg r11 → ab_Fr MX1_knownBy (d + 1) Q 2 [some (.ref a0), some (.ref a1), some (.int (a2 + 1))] [] (0, 0) (i15, l20, dd17, x18) (ab_E0 sc))))) :
    ab_Fr MX1_knownBy (d + 1) Q 2 [some (.ref a0), some (.ref a1), some (.int a2)] [] (0, 0) (i, l, dd, x) (ab_E0 sc) := by
  refine ab_iloadn dX1_knownBy_2 rfl ?_
  refine ab_iconst (v := 3) dX1_knownBy_3 (by decide) ?_
  refine ab_icmp_ge (tgt := 25) dX1_knownBy_4 (by decide) (fun c1 => ?_) (fun c1 => ?_)
  · refine ab_aloadn dX1_knownBy_25 rfl ?_
    refine ab_getf (v := .ref (a0 + 2)) dX1_knownBy_26 fl_X1_22 (kM k_a0) (fM_7 k_a0) ?_
    refine ab_aloadn dX1_knownBy_29 rfl ?_
    refine ab_getf (v := .int (i a0 0)) dX1_knownBy_30 fl_X1_43 (kM k_a0) rfl ?_
    refine ab_aloadn dX1_knownBy_33 rfl ?_
    refine ab_getf (v := .ref (a0 + 49)) dX1_knownBy_34 fl_X1_39 (kM k_a0) (fM_11 k_a0) ?_
    refine ab_iconst (v := 0) dX1_knownBy_37 (by decide) ?_
    obtain ⟨r2, P3, hs4, hk5⟩ := (h.1 c1)
    refine ab_callV (vs := [.int (i a0 0), .ref (a0 + 49), .int 0]) (st := []) dX1_knownBy_38 okMX0_leastOf wd_650 (kLo (isM_2 k_a0)) rfl rfl rfl (Nat.le_of_ble_eq_true rfl) ⟨Nat.le_of_ble_eq_true rfl, Nat.le_of_ble_eq_true rfl⟩ hs4 ?_
    rintro v9 ⟨i6, l7, dd8, x9⟩ E9 - ⟨rfl, rfl, hp10⟩
    show ab_Fr MX1_knownBy (d + 1) Q 41 [some (.ref a0), some (.ref a1), some (.int a2)] [.int r2] (0, 0) (i6, l7, dd8, x9) (ab_E0 sc)
    exact ab_iret dX1_knownBy_41 rfl ⟨Nat.zero_le _, Nat.zero_le _⟩ (hk5 i6 l7 dd8 x9 hp10)
  · refine ab_aloadn dX1_knownBy_7 rfl ?_
    refine ab_getf (v := .ref (a0 + 49)) dX1_knownBy_8 fl_X1_39 (kM k_a0) (fM_11 k_a0) ?_
    refine ab_iloadn dX1_knownBy_11 rfl ?_
    refine ab_aloadn dX1_knownBy_12 rfl ?_
    refine ab_iloadn dX1_knownBy_13 rfl ?_
    refine ab_aloadn dX1_knownBy_14 rfl ?_
    obtain ⟨r11, P12, hs13, hk14⟩ := (h.2 c1)
    refine ab_callV (vs := [.int a2, .ref a1]) (st := [.int a2, .ref (a0 + 49)]) dX1_knownBy_15 okMX1_partsOf wd_792 (kM k_a0) rfl rfl rfl (Nat.le_of_ble_eq_true rfl) ⟨Nat.le_of_ble_eq_true rfl, Nat.le_of_ble_eq_true rfl⟩ hs13 ?_
    rintro v9 ⟨i15, l16, dd17, x18⟩ E9 - ⟨rfl, rfl, hp19⟩
    show ab_Fr MX1_knownBy (d + 1) Q 18 [some (.ref a0), some (.ref a1), some (.int a2)] [.long r11, .int a2, .ref (a0 + 49)] (0, 0) (i15, l16, dd17, x18) (ab_E0 sc)
    refine ab_lastore dX1_knownBy_18 (kM_49 k_a0) (hk14 i15 l16 dd17 x18 hp19).1 ?_
    obtain ⟨l20, e21⟩ : ∃ z, z = ab_u l16 (a0 + 49) a2.toNatClampNeg r11 := ⟨_, rfl⟩
    rw [show ab_u l16 (a0 + 49) a2.toNatClampNeg r11 = l20 from e21.symm]
    refine ab_iinc (v := (a2 + 1)) dX1_knownBy_19 rfl (by rfl) (Nat.le_of_ble_eq_true rfl) (L2 := [some (.ref a0), some (.ref a1), some (.int (a2 + 1))]) rfl ?_
    refine ab_goto (tgt := 2) dX1_knownBy_22 (by decide) ?_
    exact ((hk14 i15 l16 dd17 x18 hp19).2 l20 e21)
theorem tMX1_partsOf_0 {d : Nat} {Q : ab_Qt} {sc : Nat × (Nat → Int32)} {i : Nat → Nat → Int32} {l : Nat → Nat → Int64} {dd : Nat → Nat → Value} {x : Nat} {a0 : Nat} {a1 : Int32} {a2 : Nat} {n_a2 : Nat} (k_a0 : ab_isM a0) (k_a2 : (ab_E0 sc).1 a2 = .inr (0, n_a2))
    (h : (vp_in a1 3 ∧ ab_Fr MX1_partsOf (d + 1) Q 11 [some (.ref a0), some (.int a1), some (.ref a2), some (.long ((i (a0 + 1) a1.toNatClampNeg).toInt64)), none, some (.int 0)] [] (0, 0) (i, l, dd, x) (ab_E0 sc))) :
    ab_Fr MX1_partsOf (d + 1) Q 0 [some (.ref a0), some (.int a1), some (.ref a2), none, none, none] [] (0, 0) (i, l, dd, x) (ab_E0 sc) := by
  refine ab_aloadn dX1_partsOf_0 rfl ?_
  refine ab_getf (v := .ref (a0 + 1)) dX1_partsOf_1 fl_X1_15 (kM k_a0) (fM_6 k_a0) ?_
  refine ab_iloadn dX1_partsOf_4 rfl ?_
  refine ab_iaload (v := (i (a0 + 1) a1.toNatClampNeg)) dX1_partsOf_5 (kM_1 k_a0) h.1 rfl ?_
  refine ab_i2l dX1_partsOf_6 rfl ?_
  refine ab_lstoren dX1_partsOf_7 (Nat.le_of_ble_eq_true rfl) (L2 := [some (.ref a0), some (.int a1), some (.ref a2), some (.long ((i (a0 + 1) a1.toNatClampNeg).toInt64)), none, none]) rfl ?_
  refine ab_iconst (v := 0) dX1_partsOf_8 (by decide) ?_
  refine ab_istore dX1_partsOf_9 (Nat.le_of_ble_eq_true rfl) (L2 := [some (.ref a0), some (.int a1), some (.ref a2), some (.long ((i (a0 + 1) a1.toNatClampNeg).toInt64)), none, some (.int 0)]) rfl ?_
  exact h.2
theorem tMX1_partsOf_11 {d : Nat} {Q : ab_Qt} {sc : Nat × (Nat → Int32)} {i : Nat → Nat → Int32} {l : Nat → Nat → Int64} {dd : Nat → Nat → Value} {x : Nat} {a0 : Nat} {a1 : Int32} {a2 : Nat} {n_a2 : Nat} {a3 : Int64} {a5 : Int32} (k_a0 : ab_isM a0) (k_a2 : (ab_E0 sc).1 a2 = .inr (0, n_a2))
    (h : (((i a0 1) ≤ a5 → Q (some (some (.long a3))) (i, l, dd, x) (ab_E0 sc)) ∧ (¬ (i a0 1) ≤ a5 → (vp_in a5 7 ∧ vp_in a5 n_a2 ∧ vp_in ((a1 * 3) + (i a2 a5.toNatClampNeg)) 9 ∧ ab_Fr MX1_partsOf (d + 1) Q 11 [some (.ref a0), some (.int a1), some (.ref a2), some (.long (a3 * (i ((a0 + 5 + 6 * a5.toNatClampNeg) + 1) ((a1 * 3) + (i a2 a5.toNatClampNeg)).toNatClampNeg).toInt64)), none, some (.int (a5 + 1))] [] (0, 0) (i, l, dd, x) (ab_E0 sc))))) :
    ab_Fr MX1_partsOf (d + 1) Q 11 [some (.ref a0), some (.int a1), some (.ref a2), some (.long a3), none, some (.int a5)] [] (0, 0) (i, l, dd, x) (ab_E0 sc) := by
  refine ab_iload dX1_partsOf_11 rfl ?_
  refine ab_aloadn dX1_partsOf_13 rfl ?_
  refine ab_getf (v := .int (i a0 1)) dX1_partsOf_14 fl_X1_46 (kM k_a0) rfl ?_
  refine ab_icmp_ge (tgt := 49) dX1_partsOf_17 (by decide) (fun c1 => ?_) (fun c1 => ?_)
  · refine ab_lloadn dX1_partsOf_49 rfl ?_
    exact ab_lret dX1_partsOf_50 rfl ⟨Nat.zero_le _, Nat.zero_le _⟩ (h.1 c1)
  · refine ab_lloadn dX1_partsOf_20 rfl ?_
    refine ab_aloadn dX1_partsOf_21 rfl ?_
    refine ab_getf (v := .ref (a0 + 4)) dX1_partsOf_22 fl_X1_28 (kM k_a0) (fM_8 k_a0) ?_
    refine ab_iload dX1_partsOf_25 rfl ?_
    refine ab_aaload (a := (a0 + 5 + 6 * a5.toNatClampNeg)) dX1_partsOf_27 (Or.inl rfl) (kM_4 k_a0) (h.2 c1).1 (fMv k_a0 (h.2 c1).1) ?_
    refine ab_getf (v := .ref ((a0 + 5 + 6 * a5.toNatClampNeg) + 1)) dX1_partsOf_28 fl_X1_105 (kV (isVof k_a0 (h.2 c1).1)) (fV_4 (isVof k_a0 (h.2 c1).1)) ?_
    refine ab_iloadn dX1_partsOf_31 rfl ?_
    refine ab_iconst (v := 3) dX1_partsOf_32 (by decide) ?_
    refine ab_imul dX1_partsOf_33 ?_
    refine ab_aloadn dX1_partsOf_34 rfl ?_
    refine ab_iload dX1_partsOf_35 rfl ?_
    refine ab_iaload (v := (i a2 a5.toNatClampNeg)) dX1_partsOf_37 k_a2 (h.2 c1).2.1 rfl ?_
    refine ab_iadd dX1_partsOf_38 ?_
    refine ab_iaload (v := (i ((a0 + 5 + 6 * a5.toNatClampNeg) + 1) ((a1 * 3) + (i a2 a5.toNatClampNeg)).toNatClampNeg)) dX1_partsOf_39 (kV_1 (isVof k_a0 (h.2 c1).1)) (h.2 c1).2.2.1 rfl ?_
    refine ab_i2l dX1_partsOf_40 rfl ?_
    refine ab_lmul dX1_partsOf_41 ?_
    refine ab_lstoren dX1_partsOf_42 (Nat.le_of_ble_eq_true rfl) (L2 := [some (.ref a0), some (.int a1), some (.ref a2), some (.long (a3 * (i ((a0 + 5 + 6 * a5.toNatClampNeg) + 1) ((a1 * 3) + (i a2 a5.toNatClampNeg)).toNatClampNeg).toInt64)), none, some (.int a5)]) rfl ?_
    refine ab_iinc (v := (a5 + 1)) dX1_partsOf_43 rfl (by rfl) (Nat.le_of_ble_eq_true rfl) (L2 := [some (.ref a0), some (.int a1), some (.ref a2), some (.long (a3 * (i ((a0 + 5 + 6 * a5.toNatClampNeg) + 1) ((a1 * 3) + (i a2 a5.toNatClampNeg)).toNatClampNeg).toInt64)), none, some (.int (a5 + 1))]) rfl ?_
    refine ab_goto (tgt := 11) dX1_partsOf_46 (by decide) ?_
    exact (h.2 c1).2.2.2
theorem tMX1_hasTruth_0 {d : Nat} {Q : ab_Qt} {sc : Nat × (Nat → Int32)} {i : Nat → Nat → Int32} {l : Nat → Nat → Int64} {dd : Nat → Nat → Value} {x : Nat} {a0 : Nat} {a1 : Int32} (k_a0 : ab_isM a0)
    (h : ((a1 < 0 → Q (some (some (.int 0))) (i, l, dd, x) (ab_E0 sc)) ∧ (¬ a1 < 0 → (((i a0 0) ≤ a1 → Q (some (some (.int 0))) (i, l, dd, x) (ab_E0 sc)) ∧ (¬ (i a0 0) ≤ a1 → Q (some (some (.int 1))) (i, l, dd, x) (ab_E0 sc)))))) :
    ab_Fr MX1_hasTruth (d + 1) Q 0 [some (.ref a0), some (.int a1)] [] (0, 0) (i, l, dd, x) (ab_E0 sc) := by
  refine ab_iloadn dX1_hasTruth_0 rfl ?_
  refine ab_if_lt (tgt := 16) dX1_hasTruth_1 (by decide) (fun c1 => ?_) (fun c1 => ?_)
  · refine ab_iconst (v := 0) dX1_hasTruth_16 (by decide) ?_
    exact ab_zret dX1_hasTruth_17 rfl (by decide) ⟨Nat.zero_le _, Nat.zero_le _⟩ (h.1 c1)
  · refine ab_iloadn dX1_hasTruth_4 rfl ?_
    refine ab_aloadn dX1_hasTruth_5 rfl ?_
    refine ab_getf (v := .int (i a0 0)) dX1_hasTruth_6 fl_X1_43 (kM k_a0) rfl ?_
    refine ab_icmp_ge (tgt := 16) dX1_hasTruth_9 (by decide) (fun c2 => ?_) (fun c2 => ?_)
    · refine ab_iconst (v := 0) dX1_hasTruth_16 (by decide) ?_
      exact ab_zret dX1_hasTruth_17 rfl (by decide) ⟨Nat.zero_le _, Nat.zero_le _⟩ ((h.2 c1).1 c2)
    · refine ab_iconst (v := 1) dX1_hasTruth_12 (by decide) ?_
      refine ab_goto (tgt := 17) dX1_hasTruth_13 (by decide) ?_
      exact ab_zret dX1_hasTruth_17 rfl (by decide) ⟨Nat.zero_le _, Nat.zero_le _⟩ ((h.2 c1).2 c2)
theorem tMX1_hasOrder_0 {d : Nat} {Q : ab_Qt} {sc : Nat × (Nat → Int32)} {i : Nat → Nat → Int32} {l : Nat → Nat → Int64} {dd : Nat → Nat → Value} {x : Nat} {a0 : Nat} (k_a0 : ab_isM a0)
    (h : (∃ (r1 : Int32) (P2 : ab_S → Prop), ab_Sp MX1_isEmpty d [.ref a0] (i, l, dd, x) (ab_E0 sc) (some (.int r1)) P2 ∧ ∀ i5 l6 dd7 x8, P2 (i5, l6, dd7, x8) → ((¬ r1 = 0 → Q (some (some (.int 0))) (i5, l6, dd7, x8) (ab_E0 sc)) ∧ (r1 = 0 → (((i5 4 1) = (i5 a0 1) → ab_Fr MX1_hasOrder (d + 1) Q 24 [some (.ref a0), some (.ref 4), some (.int 0), some (.int 0), none] [] (0, 0) (i5, l6, dd7, x8) (ab_E0 sc)) ∧ (¬ (i5 4 1) = (i5 a0 1) → Q (some (some (.int 0))) (i5, l6, dd7, x8) (ab_E0 sc))))))) :
    ab_Fr MX1_hasOrder (d + 1) Q 0 [some (.ref a0), some (.ref 4), none, none, none] [] (0, 0) (i, l, dd, x) (ab_E0 sc) := by
  refine ab_aloadn dX1_hasOrder_0 rfl ?_
  obtain ⟨r1, P2, hs3, hk4⟩ := h
  refine ab_callV (vs := []) (st := []) dX1_hasOrder_1 okMX1_isEmpty wd_704 (kM k_a0) rfl rfl rfl (Nat.le_of_ble_eq_true rfl) ⟨Nat.le_of_ble_eq_true rfl, Nat.le_of_ble_eq_true rfl⟩ hs3 ?_
  rintro v9 ⟨i5, l6, dd7, x8⟩ E9 - ⟨rfl, rfl, hp9⟩
  show ab_Fr MX1_hasOrder (d + 1) Q 4 [some (.ref a0), some (.ref 4), none, none, none] [.int r1] (0, 0) (i5, l6, dd7, x8) (ab_E0 sc)
  refine ab_if_ne (tgt := 18) dX1_hasOrder_4 (by decide) (fun c10 => ?_) (fun c10 => ?_)
  · refine ab_iconst (v := 0) dX1_hasOrder_18 (by decide) ?_
    exact ab_zret dX1_hasOrder_19 rfl (by decide) ⟨Nat.zero_le _, Nat.zero_le _⟩ ((hk4 i5 l6 dd7 x8 hp9).1 c10)
  · refine ab_aloadn dX1_hasOrder_7 rfl ?_
    refine ab_getf (v := .int (i5 4 1)) dX1_hasOrder_8 fl_X1_74 kd_4 rfl ?_
    refine ab_aloadn dX1_hasOrder_11 rfl ?_
    refine ab_getf (v := .int (i5 a0 1)) dX1_hasOrder_12 fl_X1_46 (kM k_a0) rfl ?_
    refine ab_icmp_eq (tgt := 20) dX1_hasOrder_15 (by decide) (fun c11 => ?_) (fun c11 => ?_)
    · refine ab_iconst (v := 0) dX1_hasOrder_20 (by decide) ?_
      refine ab_istoren dX1_hasOrder_21 (Nat.le_of_ble_eq_true rfl) (L2 := [some (.ref a0), some (.ref 4), some (.int 0), none, none]) rfl ?_
      refine ab_iconst (v := 0) dX1_hasOrder_22 (by decide) ?_
      refine ab_istoren dX1_hasOrder_23 (Nat.le_of_ble_eq_true rfl) (L2 := [some (.ref a0), some (.ref 4), some (.int 0), some (.int 0), none]) rfl ?_
      exact (((hk4 i5 l6 dd7 x8 hp9).2 c10).1 c11)
    · refine ab_iconst (v := 0) dX1_hasOrder_18 (by decide) ?_
      exact ab_zret dX1_hasOrder_19 rfl (by decide) ⟨Nat.zero_le _, Nat.zero_le _⟩ (((hk4 i5 l6 dd7 x8 hp9).2 c10).2 c11)
theorem tMX1_hasOrder_24 {d : Nat} {Q : ab_Qt} {sc : Nat × (Nat → Int32)} {i : Nat → Nat → Int32} {l : Nat → Nat → Int64} {dd : Nat → Nat → Value} {x : Nat} {a0 : Nat} {a2 : Int32} {a3 : Int32} (k_a0 : ab_isM a0)
    (h : (((i a0 1) ≤ a3 → Q (some (some (.int 1))) (i, l, dd, x) (ab_E0 sc)) ∧ (¬ (i a0 1) ≤ a3 → (vp_in a3 740 ∧ ∃ (r2 : Int32) (P3 : ab_S → Prop), ab_Sp MX1_hasVoter d [.ref a0, .int (i 5 a3.toNatClampNeg)] (i, l, dd, x) (ab_E0 sc) (some (.int r2)) P3 ∧ ∀ i6 l7 dd8 x9, P3 (i6, l7, dd8, x9) → ((r2 = 0 → Q (some (some (.int 0))) (i6, l7, dd8, x9) (ab_E0 sc)) ∧ (¬ r2 = 0 → ((¬ ((a2 >>> ((i 5 a3.toNatClampNeg) &&& 31)) &&& 1) = 1 → ab_Fr MX1_hasOrder (d + 1) Q 24 [some (.ref a0), some (.ref 4), some (.int (a2 ||| (1 <<< ((i 5 a3.toNatClampNeg) &&& 31)))), some (.int (a3 + 1)), none] [] (0, 0) (i6, l7, dd8, x9) (ab_E0 sc)) ∧ (((a2 >>> ((i 5 a3.toNatClampNeg) &&& 31)) &&& 1) = 1 → Q (some (some (.int 0))) (i6, l7, dd8, x9) (ab_E0 sc))))))))) :
    ab_Fr MX1_hasOrder (d + 1) Q 24 [some (.ref a0), some (.ref 4), some (.int a2), some (.int a3), none] [] (0, 0) (i, l, dd, x) (ab_E0 sc) := by
  refine ab_iloadn dX1_hasOrder_24 rfl ?_
  refine ab_aloadn dX1_hasOrder_25 rfl ?_
  refine ab_getf (v := .int (i a0 1)) dX1_hasOrder_26 fl_X1_46 (kM k_a0) rfl ?_
  refine ab_icmp_ge (tgt := 74) dX1_hasOrder_29 (by decide) (fun c1 => ?_) (fun c1 => ?_)
  · refine ab_iconst (v := 1) dX1_hasOrder_74 (by decide) ?_
    exact ab_zret dX1_hasOrder_75 rfl (by decide) ⟨Nat.zero_le _, Nat.zero_le _⟩ (h.1 c1)
  · refine ab_aloadn dX1_hasOrder_32 rfl ?_
    refine ab_getf (v := .ref 5) dX1_hasOrder_33 fl_X1_79 kd_4 ff_4_0 ?_
    refine ab_iloadn dX1_hasOrder_36 rfl ?_
    refine ab_iaload (v := (i 5 a3.toNatClampNeg)) dX1_hasOrder_37 kd_5 (h.2 c1).1 rfl ?_
    refine ab_istore dX1_hasOrder_38 (Nat.le_of_ble_eq_true rfl) (L2 := [some (.ref a0), some (.ref 4), some (.int a2), some (.int a3), some (.int (i 5 a3.toNatClampNeg))]) rfl ?_
    refine ab_aloadn dX1_hasOrder_40 rfl ?_
    refine ab_iload dX1_hasOrder_41 rfl ?_
    obtain ⟨r2, P3, hs4, hk5⟩ := (h.2 c1).2
    refine ab_callV (vs := [.int (i 5 a3.toNatClampNeg)]) (st := []) dX1_hasOrder_43 okMX1_hasVoter wd_695 (kM k_a0) rfl rfl rfl (Nat.le_of_ble_eq_true rfl) ⟨Nat.le_of_ble_eq_true rfl, Nat.le_of_ble_eq_true rfl⟩ hs4 ?_
    rintro v9 ⟨i6, l7, dd8, x9⟩ E9 - ⟨rfl, rfl, hp10⟩
    show ab_Fr MX1_hasOrder (d + 1) Q 46 [some (.ref a0), some (.ref 4), some (.int a2), some (.int a3), some (.int (i 5 a3.toNatClampNeg))] [.int r2] (0, 0) (i6, l7, dd8, x9) (ab_E0 sc)
    refine ab_if_eq (tgt := 59) dX1_hasOrder_46 (by decide) (fun c11 => ?_) (fun c11 => ?_)
    · refine ab_iconst (v := 0) dX1_hasOrder_59 (by decide) ?_
      exact ab_zret dX1_hasOrder_60 rfl (by decide) ⟨Nat.zero_le _, Nat.zero_le _⟩ ((hk5 i6 l7 dd8 x9 hp10).1 c11)
    · refine ab_iloadn dX1_hasOrder_49 rfl ?_
      refine ab_iload dX1_hasOrder_50 rfl ?_
      refine ab_ishr dX1_hasOrder_52 ?_
      refine ab_iconst (v := 1) dX1_hasOrder_53 (by decide) ?_
      refine ab_iand dX1_hasOrder_54 ?_
      refine ab_iconst (v := 1) dX1_hasOrder_55 (by decide) ?_
      refine ab_icmp_ne (tgt := 61) dX1_hasOrder_56 (by decide) (fun c12 => ?_) (fun c12 => ?_)
      · refine ab_iloadn dX1_hasOrder_61 rfl ?_
        refine ab_iconst (v := 1) dX1_hasOrder_62 (by decide) ?_
        refine ab_iload dX1_hasOrder_63 rfl ?_
        refine ab_ishl dX1_hasOrder_65 ?_
        refine ab_ior dX1_hasOrder_66 ?_
        refine ab_istoren dX1_hasOrder_67 (Nat.le_of_ble_eq_true rfl) (L2 := [some (.ref a0), some (.ref 4), some (.int (a2 ||| (1 <<< ((i 5 a3.toNatClampNeg) &&& 31)))), some (.int a3), some (.int (i 5 a3.toNatClampNeg))]) rfl ?_
        refine ab_iinc (v := (a3 + 1)) dX1_hasOrder_68 rfl (by rfl) (Nat.le_of_ble_eq_true rfl) (L2 := [some (.ref a0), some (.ref 4), some (.int (a2 ||| (1 <<< ((i 5 a3.toNatClampNeg) &&& 31)))), some (.int (a3 + 1)), some (.int (i 5 a3.toNatClampNeg))]) rfl ?_
        refine ab_goto (tgt := 24) dX1_hasOrder_71 (by decide) ?_
        refine ab_forget (i := 4) (L2 := [some (.ref a0), some (.ref 4), some (.int (a2 ||| (1 <<< ((i 5 a3.toNatClampNeg) &&& 31)))), some (.int (a3 + 1)), none]) rfl ?_
        exact (((hk5 i6 l7 dd8 x9 hp10).2 c11).1 c12)
      · refine ab_iconst (v := 0) dX1_hasOrder_59 (by decide) ?_
        exact ab_zret dX1_hasOrder_60 rfl (by decide) ⟨Nat.zero_le _, Nat.zero_le _⟩ (((hk5 i6 l7 dd8 x9 hp10).2 c11).2 c12)
theorem tMX1_signsInAll_0 {d : Nat} {Q : ab_Qt} {sc : Nat × (Nat → Int32)} {i : Nat → Nat → Int32} {l : Nat → Nat → Int64} {dd : Nat → Nat → Value} {x : Nat} {a0 : Nat} (k_a0 : ab_isM a0)
    (h : ab_Fr MX1_signsInAll (d + 1) Q 4 [some (.ref a0), some (.int 0), some (.int 0)] [] (0, 0) (i, l, dd, x) (ab_E0 sc)) :
    ab_Fr MX1_signsInAll (d + 1) Q 0 [some (.ref a0), none, none] [] (0, 0) (i, l, dd, x) (ab_E0 sc) := by
  refine ab_iconst (v := 0) dX1_signsInAll_0 (by decide) ?_
  refine ab_istoren dX1_signsInAll_1 (Nat.le_of_ble_eq_true rfl) (L2 := [some (.ref a0), some (.int 0), none]) rfl ?_
  refine ab_iconst (v := 0) dX1_signsInAll_2 (by decide) ?_
  refine ab_istoren dX1_signsInAll_3 (Nat.le_of_ble_eq_true rfl) (L2 := [some (.ref a0), some (.int 0), some (.int 0)]) rfl ?_
  exact h
theorem tMX1_signsInAll_4 {d : Nat} {Q : ab_Qt} {sc : Nat × (Nat → Int32)} {i : Nat → Nat → Int32} {l : Nat → Nat → Int64} {dd : Nat → Nat → Value} {x : Nat} {a0 : Nat} {a1 : Int32} {a2 : Int32} (k_a0 : ab_isM a0)
    (h : (((i a0 1) ≤ a2 → Q (some (some (.int a1))) (i, l, dd, x) (ab_E0 sc)) ∧ (¬ (i a0 1) ≤ a2 → (vp_in a2 7 ∧ ab_Fr MX1_signsInAll (d + 1) Q 4 [some (.ref a0), some (.int (a1 + (i (a0 + 5 + 6 * a2.toNatClampNeg) 0))), some (.int (a2 + 1))] [] (0, 0) (i, l, dd, x) (ab_E0 sc))))) :
    ab_Fr MX1_signsInAll (d + 1) Q 4 [some (.ref a0), some (.int a1), some (.int a2)] [] (0, 0) (i, l, dd, x) (ab_E0 sc) := by
  refine ab_iloadn dX1_signsInAll_4 rfl ?_
  refine ab_aloadn dX1_signsInAll_5 rfl ?_
  refine ab_getf (v := .int (i a0 1)) dX1_signsInAll_6 fl_X1_46 (kM k_a0) rfl ?_
  refine ab_icmp_ge (tgt := 30) dX1_signsInAll_9 (by decide) (fun c1 => ?_) (fun c1 => ?_)
  · refine ab_iloadn dX1_signsInAll_30 rfl ?_
    exact ab_iret dX1_signsInAll_31 rfl ⟨Nat.zero_le _, Nat.zero_le _⟩ (h.1 c1)
  · refine ab_iloadn dX1_signsInAll_12 rfl ?_
    refine ab_aloadn dX1_signsInAll_13 rfl ?_
    refine ab_getf (v := .ref (a0 + 4)) dX1_signsInAll_14 fl_X1_28 (kM k_a0) (fM_8 k_a0) ?_
    refine ab_iloadn dX1_signsInAll_17 rfl ?_
    refine ab_aaload (a := (a0 + 5 + 6 * a2.toNatClampNeg)) dX1_signsInAll_18 (Or.inl rfl) (kM_4 k_a0) (h.2 c1).1 (fMv k_a0 (h.2 c1).1) ?_
    refine ab_getf (v := .int (i (a0 + 5 + 6 * a2.toNatClampNeg) 0)) dX1_signsInAll_19 fl_X1_59 (kV (isVof k_a0 (h.2 c1).1)) rfl ?_
    refine ab_iadd dX1_signsInAll_22 ?_
    refine ab_istoren dX1_signsInAll_23 (Nat.le_of_ble_eq_true rfl) (L2 := [some (.ref a0), some (.int (a1 + (i (a0 + 5 + 6 * a2.toNatClampNeg) 0))), some (.int a2)]) rfl ?_
    refine ab_iinc (v := (a2 + 1)) dX1_signsInAll_24 rfl (by rfl) (Nat.le_of_ble_eq_true rfl) (L2 := [some (.ref a0), some (.int (a1 + (i (a0 + 5 + 6 * a2.toNatClampNeg) 0))), some (.int (a2 + 1))]) rfl ?_
    refine ab_goto (tgt := 4) dX1_signsInAll_27 (by decide) ?_
    exact (h.2 c1).2
theorem tMX1_hasVotes_0 {d : Nat} {Q : ab_Qt} {sc : Nat × (Nat → Int32)} {i : Nat → Nat → Int32} {l : Nat → Nat → Int64} {dd : Nat → Nat → Value} {x : Nat} {a0 : Nat} (k_a0 : ab_isM a0)
    (h : (∃ (r1 : Int32) (P2 : ab_S → Prop), ab_Sp MX1_isEmpty d [.ref a0] (i, l, dd, x) (ab_E0 sc) (some (.int r1)) P2 ∧ ∀ i5 l6 dd7 x8, P2 (i5, l6, dd7, x8) → ((¬ r1 = 0 → Q (some (some (.int 0))) (i5, l6, dd7, x8) (ab_E0 sc)) ∧ (r1 = 0 → (((i5 4 1) = (i5 a0 1) → ab_Fr MX1_hasVotes (d + 1) Q 22 [some (.ref a0), some (.ref 4), some (.int 0)] [] (0, 0) (i5, l6, dd7, x8) (ab_E0 sc)) ∧ (¬ (i5 4 1) = (i5 a0 1) → Q (some (some (.int 0))) (i5, l6, dd7, x8) (ab_E0 sc))))))) :
    ab_Fr MX1_hasVotes (d + 1) Q 0 [some (.ref a0), some (.ref 4), none] [] (0, 0) (i, l, dd, x) (ab_E0 sc) := by
  refine ab_aloadn dX1_hasVotes_0 rfl ?_
  obtain ⟨r1, P2, hs3, hk4⟩ := h
  refine ab_callV (vs := []) (st := []) dX1_hasVotes_1 okMX1_isEmpty wd_704 (kM k_a0) rfl rfl rfl (Nat.le_of_ble_eq_true rfl) ⟨Nat.le_of_ble_eq_true rfl, Nat.le_of_ble_eq_true rfl⟩ hs3 ?_
  rintro v9 ⟨i5, l6, dd7, x8⟩ E9 - ⟨rfl, rfl, hp9⟩
  show ab_Fr MX1_hasVotes (d + 1) Q 4 [some (.ref a0), some (.ref 4), none] [.int r1] (0, 0) (i5, l6, dd7, x8) (ab_E0 sc)
  refine ab_if_ne (tgt := 18) dX1_hasVotes_4 (by decide) (fun c10 => ?_) (fun c10 => ?_)
  · refine ab_iconst (v := 0) dX1_hasVotes_18 (by decide) ?_
    exact ab_zret dX1_hasVotes_19 rfl (by decide) ⟨Nat.zero_le _, Nat.zero_le _⟩ ((hk4 i5 l6 dd7 x8 hp9).1 c10)
  · refine ab_aloadn dX1_hasVotes_7 rfl ?_
    refine ab_getf (v := .int (i5 4 1)) dX1_hasVotes_8 fl_X1_74 kd_4 rfl ?_
    refine ab_aloadn dX1_hasVotes_11 rfl ?_
    refine ab_getf (v := .int (i5 a0 1)) dX1_hasVotes_12 fl_X1_46 (kM k_a0) rfl ?_
    refine ab_icmp_eq (tgt := 20) dX1_hasVotes_15 (by decide) (fun c11 => ?_) (fun c11 => ?_)
    · refine ab_iconst (v := 0) dX1_hasVotes_20 (by decide) ?_
      refine ab_istoren dX1_hasVotes_21 (Nat.le_of_ble_eq_true rfl) (L2 := [some (.ref a0), some (.ref 4), some (.int 0)]) rfl ?_
      exact (((hk4 i5 l6 dd7 x8 hp9).2 c10).1 c11)
    · refine ab_iconst (v := 0) dX1_hasVotes_18 (by decide) ?_
      exact ab_zret dX1_hasVotes_19 rfl (by decide) ⟨Nat.zero_le _, Nat.zero_le _⟩ (((hk4 i5 l6 dd7 x8 hp9).2 c10).2 c11)
theorem tMX1_hasVotes_22 {d : Nat} {Q : ab_Qt} {sc : Nat × (Nat → Int32)} {i : Nat → Nat → Int32} {l : Nat → Nat → Int64} {dd : Nat → Nat → Value} {x : Nat} {a0 : Nat} {a2 : Int32} (k_a0 : ab_isM a0)
    (h : (((i a0 1) ≤ a2 → Q (some (some (.int 1))) (i, l, dd, x) (ab_E0 sc)) ∧ (¬ (i a0 1) ≤ a2 → (vp_in a2 740 ∧ ∃ (r2 : Int32) (P3 : ab_S → Prop), ab_Sp MX1_hasTruth d [.ref a0, .int (i 5 a2.toNatClampNeg)] (i, l, dd, x) (ab_E0 sc) (some (.int r2)) P3 ∧ ∀ i6 l7 dd8 x9, P3 (i6, l7, dd8, x9) → ((¬ r2 = 0 → ab_Fr MX1_hasVotes (d + 1) Q 22 [some (.ref a0), some (.ref 4), some (.int (a2 + 1))] [] (0, 0) (i6, l7, dd8, x9) (ab_E0 sc)) ∧ (r2 = 0 → (vp_in a2 740 ∧ (((i6 5 a2.toNatClampNeg) = 9 → ab_Fr MX1_hasVotes (d + 1) Q 22 [some (.ref a0), some (.ref 4), some (.int (a2 + 1))] [] (0, 0) (i6, l7, dd8, x9) (ab_E0 sc)) ∧ (¬ (i6 5 a2.toNatClampNeg) = 9 → Q (some (some (.int 0))) (i6, l7, dd8, x9) (ab_E0 sc)))))))))) :
    ab_Fr MX1_hasVotes (d + 1) Q 22 [some (.ref a0), some (.ref 4), some (.int a2)] [] (0, 0) (i, l, dd, x) (ab_E0 sc) := by
  refine ab_iloadn dX1_hasVotes_22 rfl ?_
  refine ab_aloadn dX1_hasVotes_23 rfl ?_
  refine ab_getf (v := .int (i a0 1)) dX1_hasVotes_24 fl_X1_46 (kM k_a0) rfl ?_
  refine ab_icmp_ge (tgt := 62) dX1_hasVotes_27 (by decide) (fun c1 => ?_) (fun c1 => ?_)
  · refine ab_iconst (v := 1) dX1_hasVotes_62 (by decide) ?_
    exact ab_zret dX1_hasVotes_63 rfl (by decide) ⟨Nat.zero_le _, Nat.zero_le _⟩ (h.1 c1)
  · refine ab_aloadn dX1_hasVotes_30 rfl ?_
    refine ab_aloadn dX1_hasVotes_31 rfl ?_
    refine ab_getf (v := .ref 5) dX1_hasVotes_32 fl_X1_79 kd_4 ff_4_0 ?_
    refine ab_iloadn dX1_hasVotes_35 rfl ?_
    refine ab_iaload (v := (i 5 a2.toNatClampNeg)) dX1_hasVotes_36 kd_5 (h.2 c1).1 rfl ?_
    obtain ⟨r2, P3, hs4, hk5⟩ := (h.2 c1).2
    refine ab_callV (vs := [.int (i 5 a2.toNatClampNeg)]) (st := []) dX1_hasVotes_37 okMX1_hasTruth wd_1107 (kM k_a0) rfl rfl rfl (Nat.le_of_ble_eq_true rfl) ⟨Nat.le_of_ble_eq_true rfl, Nat.le_of_ble_eq_true rfl⟩ hs4 ?_
    rintro v9 ⟨i6, l7, dd8, x9⟩ E9 - ⟨rfl, rfl, hp10⟩
    show ab_Fr MX1_hasVotes (d + 1) Q 40 [some (.ref a0), some (.ref 4), some (.int a2)] [.int r2] (0, 0) (i6, l7, dd8, x9) (ab_E0 sc)
    refine ab_if_ne (tgt := 56) dX1_hasVotes_40 (by decide) (fun c11 => ?_) (fun c11 => ?_)
    · refine ab_iinc (v := (a2 + 1)) dX1_hasVotes_56 rfl (by rfl) (Nat.le_of_ble_eq_true rfl) (L2 := [some (.ref a0), some (.ref 4), some (.int (a2 + 1))]) rfl ?_
      refine ab_goto (tgt := 22) dX1_hasVotes_59 (by decide) ?_
      exact ((hk5 i6 l7 dd8 x9 hp10).1 c11)
    · refine ab_aloadn dX1_hasVotes_43 rfl ?_
      refine ab_getf (v := .ref 5) dX1_hasVotes_44 fl_X1_79 kd_4 ff_4_0 ?_
      refine ab_iloadn dX1_hasVotes_47 rfl ?_
      refine ab_iaload (v := (i6 5 a2.toNatClampNeg)) dX1_hasVotes_48 kd_5 ((hk5 i6 l7 dd8 x9 hp10).2 c11).1 rfl ?_
      refine ab_bipush (v := 9) dX1_hasVotes_49 (by decide) ?_
      refine ab_icmp_eq (tgt := 56) dX1_hasVotes_51 (by decide) (fun c12 => ?_) (fun c12 => ?_)
      · refine ab_iinc (v := (a2 + 1)) dX1_hasVotes_56 rfl (by rfl) (Nat.le_of_ble_eq_true rfl) (L2 := [some (.ref a0), some (.ref 4), some (.int (a2 + 1))]) rfl ?_
        refine ab_goto (tgt := 22) dX1_hasVotes_59 (by decide) ?_
        exact (((hk5 i6 l7 dd8 x9 hp10).2 c11).2.1 c12)
      · refine ab_iconst (v := 0) dX1_hasVotes_54 (by decide) ?_
        exact ab_zret dX1_hasVotes_55 rfl (by decide) ⟨Nat.zero_le _, Nat.zero_le _⟩ (((hk5 i6 l7 dd8 x9 hp10).2 c11).2.2 c12)
