theorem tMX3_hearOthers_0 {d : Nat} {Q : ab_Qt} {sc : Nat × (Nat → Int32)} {i : Nat → Nat → Int32} {l : Nat → Nat → Int64} {dd : Nat → Nat → Value} {x : Nat} {a1 : Nat} {a2 : Nat} {n_a2 : Nat} {a3 : Int32} (k_a1 : ab_isM a1) (k_a2 : (ab_E0 sc).1 a2 = .inr (0, n_a2))
    (h : (∀ dd1, dd1 = ab_u dd 169 1 (.ref a1) → ∃ (P4 : ab_S → Prop), ab_Sp MX11_empty d [.ref 170] (i, l, dd1, x) (ab_E0 sc) (none) P4 ∧ ∀ i7 l8 dd9 x10, P4 (i7, l8, dd9, x10) → ∃ m12, dd9 169 1 = .ref m12 ∧ ab_isM m12 ∧ ∃ (P15 : ab_S → Prop), ab_Sp MX4_voting d [.ref 160, .ref m12, .ref a2] (i7, l8, dd9, x10) (ab_E0 sc) (none) P15 ∧ ∀ i18 l19 dd20 x21, P15 (i18, l19, dd20, x21) → ∃ (P24 : ab_S → Prop), ab_Sp MX4_leaveOut d [.ref 160, .int a3] (i18, l19, dd20, x21) (ab_E0 sc) (none) P24 ∧ ∀ i27 l28 dd29 x30, P24 (i27, l28, dd29, x30) → ∃ (r32 : Int32) (P33 : ab_S → Prop), ab_Sp MX4_first d [.ref 160] (i27, l28, dd29, x30) (ab_E0 sc) (some (.int r32)) P33 ∧ ∀ i36 l37 dd38 x39, P33 (i36, l37, dd38, x39) → ab_Fr MX3_hearOthers (d + 1) Q 44 [some (.ref 169), none, none, some (.int a3), some (.int r32), some (.int 0), none] [] (0, 0) (i36, l37, dd38, x39) (ab_E0 sc))) :
    ab_Fr MX3_hearOthers (d + 1) Q 0 [some (.ref 169), some (.ref a1), some (.ref a2), some (.int a3), none, none, none] [] (0, 0) (i, l, dd, x) (ab_E0 sc) := by
  refine ab_aloadn dX3_hearOthers_0 rfl ?_
  refine ab_aloadn dX3_hearOthers_1 rfl ?_
  refine ab_putR dX3_hearOthers_2 fl_X3_15 kd_169 rfl ?_
  obtain ⟨dd1, e2⟩ : ∃ z, z = ab_u dd 169 1 (.ref a1) := ⟨_, rfl⟩
  show ab_Fr MX3_hearOthers (d + 1) Q 5 [some (.ref 169), some (.ref a1), some (.ref a2), some (.int a3), none, none, none] [] (0, 0) (i, l, ab_u dd 169 1 (.ref a1), x) (ab_E0 sc)
  rw [show ab_u dd 169 1 (.ref a1) = dd1 from e2.symm]
  refine ab_aloadn dX3_hearOthers_5 rfl ?_
  refine ab_getf (v := .ref 170) dX3_hearOthers_6 fl_X3_19 kd_169 ff_169_2 ?_
  obtain ⟨P4, hs5, hk6⟩ := (h dd1 e2)
  refine ab_callN (vs := [.ref 170]) (st := []) dX3_hearOthers_9 okMX11_empty (List.mem_of_getElem? (i := 1) rfl) rfl rfl (Nat.le_of_ble_eq_true rfl) ⟨Nat.le_of_ble_eq_true rfl, Nat.le_of_ble_eq_true rfl⟩ hs5 ?_
  rintro v9 ⟨i7, l8, dd9, x10⟩ E9 - ⟨rfl, rfl, hp11⟩
  show ab_Fr MX3_hearOthers (d + 1) Q 12 [some (.ref 169), some (.ref a1), some (.ref a2), some (.int a3), none, none, none] [] (0, 0) (i7, l8, dd9, x10) (ab_E0 sc)
  refine ab_aloadn dX3_hearOthers_12 rfl ?_
  refine ab_getf (v := .ref 160) dX3_hearOthers_13 fl_X3_9 kd_169 ff_169_0 ?_
  refine ab_aloadn dX3_hearOthers_16 rfl ?_
  obtain ⟨m12, hm13d, hm13, hm13t⟩ := (hk6 i7 l8 dd9 x10 hp11)
  refine ab_getf (v := .ref m12) dX3_hearOthers_17 fl_X3_15 kd_169 hm13d ?_
  refine ab_aloadn dX3_hearOthers_20 rfl ?_
  obtain ⟨P15, hs16, hk17⟩ := hm13t
  refine ab_callV (vs := [.ref m12, .ref a2]) (st := []) dX3_hearOthers_21 okMX4_voting wd_804 kd_160 rfl rfl rfl (Nat.le_of_ble_eq_true rfl) ⟨Nat.le_of_ble_eq_true rfl, Nat.le_of_ble_eq_true rfl⟩ hs16 ?_
  rintro v9 ⟨i18, l19, dd20, x21⟩ E9 - ⟨rfl, rfl, hp22⟩
  show ab_Fr MX3_hearOthers (d + 1) Q 24 [some (.ref 169), some (.ref a1), some (.ref a2), some (.int a3), none, none, none] [] (0, 0) (i18, l19, dd20, x21) (ab_E0 sc)
  refine ab_aloadn dX3_hearOthers_24 rfl ?_
  refine ab_getf (v := .ref 160) dX3_hearOthers_25 fl_X3_9 kd_169 ff_169_0 ?_
  refine ab_iloadn dX3_hearOthers_28 rfl ?_
  obtain ⟨P24, hs25, hk26⟩ := (hk17 i18 l19 dd20 x21 hp22)
  refine ab_callV (vs := [.int a3]) (st := []) dX3_hearOthers_29 okMX4_leaveOut wd_805 kd_160 rfl rfl rfl (Nat.le_of_ble_eq_true rfl) ⟨Nat.le_of_ble_eq_true rfl, Nat.le_of_ble_eq_true rfl⟩ hs25 ?_
  rintro v9 ⟨i27, l28, dd29, x30⟩ E9 - ⟨rfl, rfl, hp31⟩
  show ab_Fr MX3_hearOthers (d + 1) Q 32 [some (.ref 169), some (.ref a1), some (.ref a2), some (.int a3), none, none, none] [] (0, 0) (i27, l28, dd29, x30) (ab_E0 sc)
  refine ab_aloadn dX3_hearOthers_32 rfl ?_
  refine ab_getf (v := .ref 160) dX3_hearOthers_33 fl_X3_9 kd_169 ff_169_0 ?_
  obtain ⟨r32, P33, hs34, hk35⟩ := (hk26 i27 l28 dd29 x30 hp31)
  refine ab_callV (vs := []) (st := []) dX3_hearOthers_36 okMX4_first wd_809 kd_160 rfl rfl rfl (Nat.le_of_ble_eq_true rfl) ⟨Nat.le_of_ble_eq_true rfl, Nat.le_of_ble_eq_true rfl⟩ hs34 ?_
  rintro v9 ⟨i36, l37, dd38, x39⟩ E9 - ⟨rfl, rfl, hp40⟩
  show ab_Fr MX3_hearOthers (d + 1) Q 39 [some (.ref 169), some (.ref a1), some (.ref a2), some (.int a3), none, none, none] [.int r32] (0, 0) (i36, l37, dd38, x39) (ab_E0 sc)
  refine ab_istore dX3_hearOthers_39 (Nat.le_of_ble_eq_true rfl) (L2 := [some (.ref 169), some (.ref a1), some (.ref a2), some (.int a3), some (.int r32), none, none]) rfl ?_
  refine ab_iconst (v := 0) dX3_hearOthers_41 (by decide) ?_
  refine ab_istore dX3_hearOthers_42 (Nat.le_of_ble_eq_true rfl) (L2 := [some (.ref 169), some (.ref a1), some (.ref a2), some (.int a3), some (.int r32), some (.int 0), none]) rfl ?_
  refine ab_forget (i := 1) (L2 := [some (.ref 169), none, some (.ref a2), some (.int a3), some (.int r32), some (.int 0), none]) rfl ?_
  refine ab_forget (i := 2) (L2 := [some (.ref 169), none, none, some (.int a3), some (.int r32), some (.int 0), none]) rfl ?_
  exact (hk35 i36 l37 dd38 x39 hp40)
theorem tMX3_hearOthers_44 {d : Nat} {Q : ab_Qt} {sc : Nat × (Nat → Int32)} {i : Nat → Nat → Int32} {l : Nat → Nat → Int64} {dd : Nat → Nat → Value} {x : Nat} {a3 : Int32} {a4 : Int32} {a5 : Int32} 
    (h : ((a4 ≤ a5 → Q (some none) (i, l, dd, x) (ab_E0 sc)) ∧ (¬ a4 ≤ a5 → ab_Fr MX3_hearOthers (d + 1) Q 54 [some (.ref 169), none, none, some (.int a3), some (.int a4), some (.int a5), some (.int 0)] [] (0, 0) (i, l, dd, x) (ab_E0 sc)))) :
    ab_Fr MX3_hearOthers (d + 1) Q 44 [some (.ref 169), none, none, some (.int a3), some (.int a4), some (.int a5), none] [] (0, 0) (i, l, dd, x) (ab_E0 sc) := by
  refine ab_iload dX3_hearOthers_44 rfl ?_
  refine ab_iload dX3_hearOthers_46 rfl ?_
  refine ab_icmp_ge (tgt := 92) dX3_hearOthers_48 (by decide) (fun c1 => ?_) (fun c1 => ?_)
  · exact ab_vret dX3_hearOthers_92 rfl ⟨Nat.zero_le _, Nat.zero_le _⟩ (h.1 c1)
  · refine ab_iconst (v := 0) dX3_hearOthers_51 (by decide) ?_
    refine ab_istore dX3_hearOthers_52 (Nat.le_of_ble_eq_true rfl) (L2 := [some (.ref 169), none, none, some (.int a3), some (.int a4), some (.int a5), some (.int 0)]) rfl ?_
    exact (h.2 c1)
theorem tMX3_hearOthers_54 {d : Nat} {Q : ab_Qt} {sc : Nat × (Nat → Int32)} {i : Nat → Nat → Int32} {l : Nat → Nat → Int64} {dd : Nat → Nat → Value} {x : Nat} {a3 : Int32} {a4 : Int32} {a5 : Int32} {a6 : Int32} 
    (h : (∃ m1, dd 169 1 = .ref m1 ∧ ab_isM m1 ∧ (((i m1 0) < a6 → (∃ (P5 : ab_S → Prop), ab_Sp MX4_step d [.ref 160] (i, l, dd, x) (ab_E0 sc) (none) P5 ∧ ∀ i8 l9 dd10 x11, P5 (i8, l9, dd10, x11) → ab_Fr MX3_hearOthers (d + 1) Q 44 [some (.ref 169), none, none, some (.int a3), some (.int a4), some (.int (a5 + 1)), none] [] (0, 0) (i8, l9, dd10, x11) (ab_E0 sc))) ∧ (¬ (i m1 0) < a6 → (∃ (P14 : ab_S → Prop), ab_Sp MX3_addLosing d [.ref 169, .int a3, .int a6] (i, l, dd, x) (ab_E0 sc) (none) P14 ∧ ∀ i17 l18 dd19 x20, P14 (i17, l18, dd19, x20) → ab_Fr MX3_hearOthers (d + 1) Q 54 [some (.ref 169), none, none, some (.int a3), some (.int a4), some (.int a5), some (.int (a6 + 1))] [] (0, 0) (i17, l18, dd19, x20) (ab_E0 sc)))))) :
    ab_Fr MX3_hearOthers (d + 1) Q 54 [some (.ref 169), none, none, some (.int a3), some (.int a4), some (.int a5), some (.int a6)] [] (0, 0) (i, l, dd, x) (ab_E0 sc) := by
  refine ab_iload dX3_hearOthers_54 rfl ?_
  refine ab_aloadn dX3_hearOthers_56 rfl ?_
  obtain ⟨m1, hm2d, hm2, hm2t⟩ := h
  refine ab_getf (v := .ref m1) dX3_hearOthers_57 fl_X3_15 kd_169 hm2d ?_
  refine ab_getf (v := .int (i m1 0)) dX3_hearOthers_60 fl_X3_95 (kM hm2) rfl ?_
  refine ab_icmp_gt (tgt := 79) dX3_hearOthers_63 (by decide) (fun c3 => ?_) (fun c3 => ?_)
  · refine ab_aloadn dX3_hearOthers_79 rfl ?_
    refine ab_getf (v := .ref 160) dX3_hearOthers_80 fl_X3_9 kd_169 ff_169_0 ?_
    obtain ⟨P5, hs6, hk7⟩ := (hm2t.1 c3)
    refine ab_callV (vs := []) (st := []) dX3_hearOthers_83 okMX4_step wd_822 kd_160 rfl rfl rfl (Nat.le_of_ble_eq_true rfl) ⟨Nat.le_of_ble_eq_true rfl, Nat.le_of_ble_eq_true rfl⟩ hs6 ?_
    rintro v9 ⟨i8, l9, dd10, x11⟩ E9 - ⟨rfl, rfl, hp12⟩
    show ab_Fr MX3_hearOthers (d + 1) Q 86 [some (.ref 169), none, none, some (.int a3), some (.int a4), some (.int a5), some (.int a6)] [] (0, 0) (i8, l9, dd10, x11) (ab_E0 sc)
    refine ab_iinc (v := (a5 + 1)) dX3_hearOthers_86 rfl (by rfl) (Nat.le_of_ble_eq_true rfl) (L2 := [some (.ref 169), none, none, some (.int a3), some (.int a4), some (.int (a5 + 1)), some (.int a6)]) rfl ?_
    refine ab_goto (tgt := 44) dX3_hearOthers_89 (by decide) ?_
    refine ab_forget (i := 6) (L2 := [some (.ref 169), none, none, some (.int a3), some (.int a4), some (.int (a5 + 1)), none]) rfl ?_
    exact (hk7 i8 l9 dd10 x11 hp12)
  · refine ab_aloadn dX3_hearOthers_66 rfl ?_
    refine ab_iloadn dX3_hearOthers_67 rfl ?_
    refine ab_iload dX3_hearOthers_68 rfl ?_
    obtain ⟨P14, hs15, hk16⟩ := (hm2t.2 c3)
    refine ab_callV (vs := [.int a3, .int a6]) (st := []) dX3_hearOthers_70 okMX3_addLosing wd_810 kd_169 rfl rfl rfl (Nat.le_of_ble_eq_true rfl) ⟨Nat.le_of_ble_eq_true rfl, Nat.le_of_ble_eq_true rfl⟩ hs15 ?_
    rintro v9 ⟨i17, l18, dd19, x20⟩ E9 - ⟨rfl, rfl, hp21⟩
    show ab_Fr MX3_hearOthers (d + 1) Q 73 [some (.ref 169), none, none, some (.int a3), some (.int a4), some (.int a5), some (.int a6)] [] (0, 0) (i17, l18, dd19, x20) (ab_E0 sc)
    refine ab_iinc (v := (a6 + 1)) dX3_hearOthers_73 rfl (by rfl) (Nat.le_of_ble_eq_true rfl) (L2 := [some (.ref 169), none, none, some (.int a3), some (.int a4), some (.int a5), some (.int (a6 + 1))]) rfl ?_
    refine ab_goto (tgt := 54) dX3_hearOthers_76 (by decide) ?_
    exact (hk16 i17 l18 dd19 x20 hp21)
theorem tMX3_addLosing_0 {d : Nat} {Q : ab_Qt} {sc : Nat × (Nat → Int32)} {i : Nat → Nat → Int32} {l : Nat → Nat → Int64} {dd : Nat → Nat → Value} {x : Nat} {a1 : Int32} {a2 : Int32} 
    (h : (∃ (r1 : Int32) (P2 : ab_S → Prop), ab_Sp MX3_voteAt d [.ref 169, .int a2] (i, l, dd, x) (ab_E0 sc) (some (.int r1)) P2 ∧ ∀ i5 l6 dd7 x8, P2 (i5, l6, dd7, x8) → ∃ (r10 : Int32) (P11 : ab_S → Prop), ab_Sp MX4_decidesIf d [.ref 160, .int a1, .int r1] (i5, l6, dd7, x8) (ab_E0 sc) (some (.int r10)) P11 ∧ ∀ i14 l15 dd16 x17, P11 (i14, l15, dd16, x17) → ∃ m19, dd16 169 1 = .ref m19 ∧ ab_isM m19 ∧ vp_in a1 7 ∧ ab_Fr MX3_addLosing (d + 1) Q 34 [some (.ref 169), none, some (.int a2), some (.int r10), some (.ref (((m19 + 5 + 6 * a1.toNatClampNeg) + 3) + 1)), some (.int 0)] [] (0, 0) (i14, l15, dd16, x17) (ab_E0 sc))) :
    ab_Fr MX3_addLosing (d + 1) Q 0 [some (.ref 169), some (.int a1), some (.int a2), none, none, none] [] (0, 0) (i, l, dd, x) (ab_E0 sc) := by
  refine ab_aloadn dX3_addLosing_0 rfl ?_
  refine ab_getf (v := .ref 160) dX3_addLosing_1 fl_X3_9 kd_169 ff_169_0 ?_
  refine ab_iloadn dX3_addLosing_4 rfl ?_
  refine ab_aloadn dX3_addLosing_5 rfl ?_
  refine ab_iloadn dX3_addLosing_6 rfl ?_
  obtain ⟨r1, P2, hs3, hk4⟩ := h
  refine ab_callV (vs := [.int a2]) (st := [.int a1, .ref 160]) dX3_addLosing_7 okMX3_voteAt wd_813 kd_169 rfl rfl rfl (Nat.le_of_ble_eq_true rfl) ⟨Nat.le_of_ble_eq_true rfl, Nat.le_of_ble_eq_true rfl⟩ hs3 ?_
  rintro v9 ⟨i5, l6, dd7, x8⟩ E9 - ⟨rfl, rfl, hp9⟩
  show ab_Fr MX3_addLosing (d + 1) Q 10 [some (.ref 169), some (.int a1), some (.int a2), none, none, none] [.int r1, .int a1, .ref 160] (0, 0) (i5, l6, dd7, x8) (ab_E0 sc)
  obtain ⟨r10, P11, hs12, hk13⟩ := (hk4 i5 l6 dd7 x8 hp9)
  refine ab_callV (vs := [.int a1, .int r1]) (st := []) dX3_addLosing_10 okMX4_decidesIf wd_816 kd_160 rfl rfl rfl (Nat.le_of_ble_eq_true rfl) ⟨Nat.le_of_ble_eq_true rfl, Nat.le_of_ble_eq_true rfl⟩ hs12 ?_
  rintro v9 ⟨i14, l15, dd16, x17⟩ E9 - ⟨rfl, rfl, hp18⟩
  show ab_Fr MX3_addLosing (d + 1) Q 13 [some (.ref 169), some (.int a1), some (.int a2), none, none, none] [.int r10] (0, 0) (i14, l15, dd16, x17) (ab_E0 sc)
  refine ab_istoren dX3_addLosing_13 (Nat.le_of_ble_eq_true rfl) (L2 := [some (.ref 169), some (.int a1), some (.int a2), some (.int r10), none, none]) rfl ?_
  refine ab_aloadn dX3_addLosing_14 rfl ?_
  obtain ⟨m19, hm20d, hm20, hm20t⟩ := (hk13 i14 l15 dd16 x17 hp18)
  refine ab_getf (v := .ref m19) dX3_addLosing_15 fl_X3_15 kd_169 hm20d ?_
  refine ab_getf (v := .ref (m19 + 4)) dX3_addLosing_18 fl_X3_111 (kM hm20) (fM_8 hm20) ?_
  refine ab_iloadn dX3_addLosing_21 rfl ?_
  refine ab_aaload (a := (m19 + 5 + 6 * a1.toNatClampNeg)) dX3_addLosing_22 (Or.inl rfl) (kM_4 hm20) hm20t.1 (fMv hm20 hm20t.1) ?_
  refine ab_getf (v := .ref ((m19 + 5 + 6 * a1.toNatClampNeg) + 3)) dX3_addLosing_23 fl_X3_115 (kV (isVof hm20 hm20t.1)) (fV_6 (isVof hm20 hm20t.1)) ?_
  refine ab_getf (v := .ref (((m19 + 5 + 6 * a1.toNatClampNeg) + 3) + 1)) dX3_addLosing_26 fl_X3_121 (kLo (isV_3 (isVof hm20 hm20t.1))) (fLo_0 (isV_3 (isVof hm20 hm20t.1))) ?_
  refine ab_astore dX3_addLosing_29 (Nat.le_of_ble_eq_true rfl) (L2 := [some (.ref 169), some (.int a1), some (.int a2), some (.int r10), some (.ref (((m19 + 5 + 6 * a1.toNatClampNeg) + 3) + 1)), none]) rfl ?_
  refine ab_iconst (v := 0) dX3_addLosing_31 (by decide) ?_
  refine ab_istore dX3_addLosing_32 (Nat.le_of_ble_eq_true rfl) (L2 := [some (.ref 169), some (.int a1), some (.int a2), some (.int r10), some (.ref (((m19 + 5 + 6 * a1.toNatClampNeg) + 3) + 1)), some (.int 0)]) rfl ?_
  refine ab_forget (i := 1) (L2 := [some (.ref 169), none, some (.int a2), some (.int r10), some (.ref (((m19 + 5 + 6 * a1.toNatClampNeg) + 3) + 1)), some (.int 0)]) rfl ?_
  exact hm20t.2
theorem tMX3_addLosing_34 {d : Nat} {Q : ab_Qt} {sc : Nat × (Nat → Int32)} {i : Nat → Nat → Int32} {l : Nat → Nat → Int64} {dd : Nat → Nat → Value} {x : Nat} {a2 : Int32} {a3 : Int32} {a4 : Nat} {n_a4 : Nat} {a5 : Int32} (k_a4 : (ab_E0 sc).1 a4 = .inr (0, n_a4))
    (h : ((3 ≤ a5 → Q (some none) (i, l, dd, x) (ab_E0 sc)) ∧ (¬ 3 ≤ a5 → (vp_in ((a2 * 3) + a5) 12 ∧ ∃ (r2 : Int64) (P3 : ab_S → Prop), ab_Sp MX4_partsNow d [.ref 160, .int a5] (i, l, dd, x) (ab_E0 sc) (some (.long r2)) P3 ∧ ∀ i6 l7 dd8 x9, P3 (i6, l7, dd8, x9) → vp_in ((a5 * 3) + a3) n_a4 ∧ vp_in ((a2 * 3) + a5) 12 ∧ ∀ l11, l11 = ab_u l7 170 ((a2 * 3) + a5).toNatClampNeg ((l 170 ((a2 * 3) + a5).toNatClampNeg) + (r2 * (i6 a4 ((a5 * 3) + a3).toNatClampNeg).toInt64)) → ab_Fr MX3_addLosing (d + 1) Q 34 [some (.ref 169), none, some (.int a2), some (.int a3), some (.ref a4), some (.int (a5 + 1))] [] (0, 0) (i6, l11, dd8, x9) (ab_E0 sc))))) :
    ab_Fr MX3_addLosing (d + 1) Q 34 [some (.ref 169), none, some (.int a2), some (.int a3), some (.ref a4), some (.int a5)] [] (0, 0) (i, l, dd, x) (ab_E0 sc) := by
  refine ab_iload dX3_addLosing_34 rfl ?_
  refine ab_iconst (v := 3) dX3_addLosing_36 (by decide) ?_
  refine ab_icmp_ge (tgt := 80) dX3_addLosing_37 (by decide) (fun c1 => ?_) (fun c1 => ?_)
  · exact ab_vret dX3_addLosing_80 rfl ⟨Nat.zero_le _, Nat.zero_le _⟩ (h.1 c1)
  · refine ab_aloadn dX3_addLosing_40 rfl ?_
    refine ab_getf (v := .ref 170) dX3_addLosing_41 fl_X3_19 kd_169 ff_169_2 ?_
    refine ab_iloadn dX3_addLosing_44 rfl ?_
    refine ab_iconst (v := 3) dX3_addLosing_45 (by decide) ?_
    refine ab_imul dX3_addLosing_46 ?_
    refine ab_iload dX3_addLosing_47 rfl ?_
    refine ab_iadd dX3_addLosing_49 ?_
    refine ab_dup2 dX3_addLosing_50 rfl rfl ?_
    refine ab_laload (v := (l 170 ((a2 * 3) + a5).toNatClampNeg)) dX3_addLosing_51 kd_170 (h.2 c1).1 rfl ?_
    refine ab_aloadn dX3_addLosing_52 rfl ?_
    refine ab_getf (v := .ref 160) dX3_addLosing_53 fl_X3_9 kd_169 ff_169_0 ?_
    refine ab_iload dX3_addLosing_56 rfl ?_
    obtain ⟨r2, P3, hs4, hk5⟩ := (h.2 c1).2
    refine ab_callV (vs := [.int a5]) (st := [.long (l 170 ((a2 * 3) + a5).toNatClampNeg), .int ((a2 * 3) + a5), .ref 170]) dX3_addLosing_58 okMX4_partsNow wd_821 kd_160 rfl rfl rfl (Nat.le_of_ble_eq_true rfl) ⟨Nat.le_of_ble_eq_true rfl, Nat.le_of_ble_eq_true rfl⟩ hs4 ?_
    rintro v9 ⟨i6, l7, dd8, x9⟩ E9 - ⟨rfl, rfl, hp10⟩
    show ab_Fr MX3_addLosing (d + 1) Q 61 [some (.ref 169), none, some (.int a2), some (.int a3), some (.ref a4), some (.int a5)] [.long r2, .long (l 170 ((a2 * 3) + a5).toNatClampNeg), .int ((a2 * 3) + a5), .ref 170] (0, 0) (i6, l7, dd8, x9) (ab_E0 sc)
    refine ab_aload dX3_addLosing_61 rfl ?_
    refine ab_iload dX3_addLosing_63 rfl ?_
    refine ab_iconst (v := 3) dX3_addLosing_65 (by decide) ?_
    refine ab_imul dX3_addLosing_66 ?_
    refine ab_iloadn dX3_addLosing_67 rfl ?_
    refine ab_iadd dX3_addLosing_68 ?_
    refine ab_iaload (v := (i6 a4 ((a5 * 3) + a3).toNatClampNeg)) dX3_addLosing_69 k_a4 (hk5 i6 l7 dd8 x9 hp10).1 rfl ?_
    refine ab_i2l dX3_addLosing_70 rfl ?_
    refine ab_lmul dX3_addLosing_71 ?_
    refine ab_ladd dX3_addLosing_72 ?_
    refine ab_lastore dX3_addLosing_73 kd_170 (hk5 i6 l7 dd8 x9 hp10).2.1 ?_
    obtain ⟨l11, e12⟩ : ∃ z, z = ab_u l7 170 ((a2 * 3) + a5).toNatClampNeg ((l 170 ((a2 * 3) + a5).toNatClampNeg) + (r2 * (i6 a4 ((a5 * 3) + a3).toNatClampNeg).toInt64)) := ⟨_, rfl⟩
    rw [show ab_u l7 170 ((a2 * 3) + a5).toNatClampNeg ((l 170 ((a2 * 3) + a5).toNatClampNeg) + (r2 * (i6 a4 ((a5 * 3) + a3).toNatClampNeg).toInt64)) = l11 from e12.symm]
    refine ab_iinc (v := (a5 + 1)) dX3_addLosing_74 rfl (by rfl) (Nat.le_of_ble_eq_true rfl) (L2 := [some (.ref 169), none, some (.int a2), some (.int a3), some (.ref a4), some (.int (a5 + 1))]) rfl ?_
    refine ab_goto (tgt := 34) dX3_addLosing_77 (by decide) ?_
    exact ((hk5 i6 l7 dd8 x9 hp10).2.2 l11 e12)
theorem tMX3_voteAt_0 {d : Nat} {Q : ab_Qt} {sc : Nat × (Nat → Int32)} {i : Nat → Nat → Int32} {l : Nat → Nat → Int64} {dd : Nat → Nat → Value} {x : Nat} {a1 : Int32} 
    (h : (∃ m1, dd 169 1 = .ref m1 ∧ ab_isM m1 ∧ (((i m1 0) ≤ a1 → Q (some (some (.int 9))) (i, l, dd, x) (ab_E0 sc)) ∧ (¬ (i m1 0) ≤ a1 → Q (some (some (.int a1))) (i, l, dd, x) (ab_E0 sc))))) :
    ab_Fr MX3_voteAt (d + 1) Q 0 [some (.ref 169), some (.int a1)] [] (0, 0) (i, l, dd, x) (ab_E0 sc) := by
  refine ab_iloadn dX3_voteAt_0 rfl ?_
  refine ab_aloadn dX3_voteAt_1 rfl ?_
  obtain ⟨m1, hm2d, hm2, hm2t⟩ := h
  refine ab_getf (v := .ref m1) dX3_voteAt_2 fl_X3_15 kd_169 hm2d ?_
  refine ab_getf (v := .int (i m1 0)) dX3_voteAt_5 fl_X3_95 (kM hm2) rfl ?_
  refine ab_icmp_ge (tgt := 15) dX3_voteAt_8 (by decide) (fun c3 => ?_) (fun c3 => ?_)
  · refine ab_bipush (v := 9) dX3_voteAt_15 (by decide) ?_
    exact ab_iret dX3_voteAt_17 rfl ⟨Nat.zero_le _, Nat.zero_le _⟩ (hm2t.1 c3)
  · refine ab_iloadn dX3_voteAt_11 rfl ?_
    refine ab_goto (tgt := 17) dX3_voteAt_12 (by decide) ?_
    exact ab_iret dX3_voteAt_17 rfl ⟨Nat.zero_le _, Nat.zero_le _⟩ (hm2t.2 c3)
theorem tMX3_best_0 {d : Nat} {Q : ab_Qt} {sc : Nat × (Nat → Int32)} {i : Nat → Nat → Int32} {l : Nat → Nat → Int64} {dd : Nat → Nat → Value} {x : Nat} {a1 : Int32} {a2 : Int32} {a3 : Int32} 
    (h : (∃ m1, dd 169 1 = .ref m1 ∧ ab_isM m1 ∧ ∃ (r3 : Int32) (P4 : ab_S → Prop), ab_Sp MX1_hasTruth d [.ref m1, .int a3] (i, l, dd, x) (ab_E0 sc) (some (.int r3)) P4 ∧ ∀ i7 l8 dd9 x10, P4 (i7, l8, dd9, x10) → ((r3 = 0 → (∃ m13, dd9 169 1 = .ref m13 ∧ ab_isM m13 ∧ ab_Fr MX3_best (d + 1) Q 22 [some (.ref 169), some (.int a1), some (.int a2), none, none, none, none, none, none, none, none] [.int (i7 m13 0)] (0, 0) (i7, l8, dd9, x10) (ab_E0 sc))) ∧ (¬ r3 = 0 → ab_Fr MX3_best (d + 1) Q 22 [some (.ref 169), some (.int a1), some (.int a2), none, none, none, none, none, none, none, none] [.int a3] (0, 0) (i7, l8, dd9, x10) (ab_E0 sc))))) :
    ab_Fr MX3_best (d + 1) Q 0 [some (.ref 169), some (.int a1), some (.int a2), some (.int a3), none, none, none, none, none, none, none] [] (0, 0) (i, l, dd, x) (ab_E0 sc) := by
  refine ab_aloadn dX3_best_0 rfl ?_
  obtain ⟨m1, hm2d, hm2, hm2t⟩ := h
  refine ab_getf (v := .ref m1) dX3_best_1 fl_X3_15 kd_169 hm2d ?_
  refine ab_iloadn dX3_best_4 rfl ?_
  obtain ⟨r3, P4, hs5, hk6⟩ := hm2t
  refine ab_callV (vs := [.int a3]) (st := []) dX3_best_5 okMX1_hasTruth wd_827 (kM hm2) rfl rfl rfl (Nat.le_of_ble_eq_true rfl) ⟨Nat.le_of_ble_eq_true rfl, Nat.le_of_ble_eq_true rfl⟩ hs5 ?_
  rintro v9 ⟨i7, l8, dd9, x10⟩ E9 - ⟨rfl, rfl, hp11⟩
  show ab_Fr MX3_best (d + 1) Q 8 [some (.ref 169), some (.int a1), some (.int a2), some (.int a3), none, none, none, none, none, none, none] [.int r3] (0, 0) (i7, l8, dd9, x10) (ab_E0 sc)
  refine ab_if_eq (tgt := 15) dX3_best_8 (by decide) (fun c12 => ?_) (fun c12 => ?_)
  · refine ab_aloadn dX3_best_15 rfl ?_
    obtain ⟨m13, hm14d, hm14, hm14t⟩ := ((hk6 i7 l8 dd9 x10 hp11).1 c12)
    refine ab_getf (v := .ref m13) dX3_best_16 fl_X3_15 kd_169 hm14d ?_
    refine ab_getf (v := .int (i7 m13 0)) dX3_best_19 fl_X3_95 (kM hm14) rfl ?_
    refine ab_forget (i := 3) (L2 := [some (.ref 169), some (.int a1), some (.int a2), none, none, none, none, none, none, none, none]) rfl ?_
    exact hm14t
  · refine ab_iloadn dX3_best_11 rfl ?_
    refine ab_goto (tgt := 22) dX3_best_12 (by decide) ?_
    refine ab_forget (i := 3) (L2 := [some (.ref 169), some (.int a1), some (.int a2), none, none, none, none, none, none, none, none]) rfl ?_
    exact ((hk6 i7 l8 dd9 x10 hp11).2 c12)
theorem tMX3_best_22 {d : Nat} {Q : ab_Qt} {sc : Nat × (Nat → Int32)} {i : Nat → Nat → Int32} {l : Nat → Nat → Int64} {dd : Nat → Nat → Value} {x : Nat} {a1 : Int32} {a2 : Int32} {s0 : Int32} 
    (h : (∃ (r1 : Int64) (P2 : ab_S → Prop), ab_Sp MX3_lostBy d [.ref 169, .int a1, .int a2, .int s0] (i, l, dd, x) (ab_E0 sc) (some (.long r1)) P2 ∧ ∀ i5 l6 dd7 x8, P2 (i5, l6, dd7, x8) → ab_Fr MX3_best (d + 1) Q 41 [some (.ref 169), some (.int a1), some (.int a2), none, none, some (.int s0), some (.long r1), none, some (.int 0), none, none] [] (0, 0) (i5, l6, dd7, x8) (ab_E0 sc))) :
    ab_Fr MX3_best (d + 1) Q 22 [some (.ref 169), some (.int a1), some (.int a2), none, none, none, none, none, none, none, none] [.int s0] (0, 0) (i, l, dd, x) (ab_E0 sc) := by
  refine ab_istore dX3_best_22 (Nat.le_of_ble_eq_true rfl) (L2 := [some (.ref 169), some (.int a1), some (.int a2), none, some (.int s0), none, none, none, none, none, none]) rfl ?_
  refine ab_iload dX3_best_24 rfl ?_
  refine ab_istore dX3_best_26 (Nat.le_of_ble_eq_true rfl) (L2 := [some (.ref 169), some (.int a1), some (.int a2), none, some (.int s0), some (.int s0), none, none, none, none, none]) rfl ?_
  refine ab_aloadn dX3_best_28 rfl ?_
  refine ab_iloadn dX3_best_29 rfl ?_
  refine ab_iloadn dX3_best_30 rfl ?_
  refine ab_iload dX3_best_31 rfl ?_
  obtain ⟨r1, P2, hs3, hk4⟩ := h
  refine ab_callV (vs := [.int a1, .int a2, .int s0]) (st := []) dX3_best_33 okMX3_lostBy wd_831 kd_169 rfl rfl rfl (Nat.le_of_ble_eq_true rfl) ⟨Nat.le_of_ble_eq_true rfl, Nat.le_of_ble_eq_true rfl⟩ hs3 ?_
  rintro v9 ⟨i5, l6, dd7, x8⟩ E9 - ⟨rfl, rfl, hp9⟩
  show ab_Fr MX3_best (d + 1) Q 36 [some (.ref 169), some (.int a1), some (.int a2), none, some (.int s0), some (.int s0), none, none, none, none, none] [.long r1] (0, 0) (i5, l6, dd7, x8) (ab_E0 sc)
  refine ab_lstore dX3_best_36 (Nat.le_of_ble_eq_true rfl) (L2 := [some (.ref 169), some (.int a1), some (.int a2), none, some (.int s0), some (.int s0), some (.long r1), none, none, none, none]) rfl ?_
  refine ab_iconst (v := 0) dX3_best_38 (by decide) ?_
  refine ab_istore dX3_best_39 (Nat.le_of_ble_eq_true rfl) (L2 := [some (.ref 169), some (.int a1), some (.int a2), none, some (.int s0), some (.int s0), some (.long r1), none, some (.int 0), none, none]) rfl ?_
  refine ab_forget (i := 4) (L2 := [some (.ref 169), some (.int a1), some (.int a2), none, none, some (.int s0), some (.long r1), none, some (.int 0), none, none]) rfl ?_
  exact (hk4 i5 l6 dd7 x8 hp9)
theorem tMX3_best_41 {d : Nat} {Q : ab_Qt} {sc : Nat × (Nat → Int32)} {i : Nat → Nat → Int32} {l : Nat → Nat → Int64} {dd : Nat → Nat → Value} {x : Nat} {a1 : Int32} {a2 : Int32} {a5 : Int32} {a6 : Int64} {a8 : Int32} 
    (h : (∃ m1, dd 169 1 = .ref m1 ∧ ab_isM m1 ∧ (((i m1 0) < a8 → (∃ (r4 : Int32) (P5 : ab_S → Prop), ab_Sp MX3_voteAt d [.ref 169, .int a5] (i, l, dd, x) (ab_E0 sc) (some (.int r4)) P5 ∧ ∀ i8 l9 dd10 x11, P5 (i8, l9, dd10, x11) → Q (some (some (.int r4))) (i8, l9, dd10, x11) (ab_E0 sc))) ∧ (¬ (i m1 0) < a8 → (∃ (r13 : Int64) (P14 : ab_S → Prop), ab_Sp MX3_lostBy d [.ref 169, .int a1, .int a2, .int a8] (i, l, dd, x) (ab_E0 sc) (some (.long r13)) P14 ∧ ∀ i17 l18 dd19 x20, P14 (i17, l18, dd19, x20) → ((¬ r13 < a6 → ab_Fr MX3_best (d + 1) Q 41 [some (.ref 169), some (.int a1), some (.int a2), none, none, some (.int a5), some (.long a6), none, some (.int (a8 + 1)), none, none] [] (0, 0) (i17, l18, dd19, x20) (ab_E0 sc)) ∧ (r13 < a6 → ab_Fr MX3_best (d + 1) Q 41 [some (.ref 169), some (.int a1), some (.int a2), none, none, some (.int a8), some (.long r13), none, some (.int (a8 + 1)), none, none] [] (0, 0) (i17, l18, dd19, x20) (ab_E0 sc)))))))) :
    ab_Fr MX3_best (d + 1) Q 41 [some (.ref 169), some (.int a1), some (.int a2), none, none, some (.int a5), some (.long a6), none, some (.int a8), none, none] [] (0, 0) (i, l, dd, x) (ab_E0 sc) := by
  refine ab_iload dX3_best_41 rfl ?_
  refine ab_aloadn dX3_best_43 rfl ?_
  obtain ⟨m1, hm2d, hm2, hm2t⟩ := h
  refine ab_getf (v := .ref m1) dX3_best_44 fl_X3_15 kd_169 hm2d ?_
  refine ab_getf (v := .int (i m1 0)) dX3_best_47 fl_X3_95 (kM hm2) rfl ?_
  refine ab_icmp_gt (tgt := 85) dX3_best_50 (by decide) (fun c3 => ?_) (fun c3 => ?_)
  · refine ab_aloadn dX3_best_85 rfl ?_
    refine ab_iload dX3_best_86 rfl ?_
    obtain ⟨r4, P5, hs6, hk7⟩ := (hm2t.1 c3)
    refine ab_callV (vs := [.int a5]) (st := []) dX3_best_88 okMX3_voteAt wd_813 kd_169 rfl rfl rfl (Nat.le_of_ble_eq_true rfl) ⟨Nat.le_of_ble_eq_true rfl, Nat.le_of_ble_eq_true rfl⟩ hs6 ?_
    rintro v9 ⟨i8, l9, dd10, x11⟩ E9 - ⟨rfl, rfl, hp12⟩
    show ab_Fr MX3_best (d + 1) Q 91 [some (.ref 169), some (.int a1), some (.int a2), none, none, some (.int a5), some (.long a6), none, some (.int a8), none, none] [.int r4] (0, 0) (i8, l9, dd10, x11) (ab_E0 sc)
    exact ab_iret dX3_best_91 rfl ⟨Nat.zero_le _, Nat.zero_le _⟩ (hk7 i8 l9 dd10 x11 hp12)
  · refine ab_aloadn dX3_best_53 rfl ?_
    refine ab_iloadn dX3_best_54 rfl ?_
    refine ab_iloadn dX3_best_55 rfl ?_
    refine ab_iload dX3_best_56 rfl ?_
    obtain ⟨r13, P14, hs15, hk16⟩ := (hm2t.2 c3)
    refine ab_callV (vs := [.int a1, .int a2, .int a8]) (st := []) dX3_best_58 okMX3_lostBy wd_831 kd_169 rfl rfl rfl (Nat.le_of_ble_eq_true rfl) ⟨Nat.le_of_ble_eq_true rfl, Nat.le_of_ble_eq_true rfl⟩ hs15 ?_
    rintro v9 ⟨i17, l18, dd19, x20⟩ E9 - ⟨rfl, rfl, hp21⟩
    show ab_Fr MX3_best (d + 1) Q 61 [some (.ref 169), some (.int a1), some (.int a2), none, none, some (.int a5), some (.long a6), none, some (.int a8), none, none] [.long r13] (0, 0) (i17, l18, dd19, x20) (ab_E0 sc)
    refine ab_lstore dX3_best_61 (Nat.le_of_ble_eq_true rfl) (L2 := [some (.ref 169), some (.int a1), some (.int a2), none, none, some (.int a5), some (.long a6), none, some (.int a8), some (.long r13), none]) rfl ?_
    refine ab_lload dX3_best_63 rfl ?_
    refine ab_lload dX3_best_65 rfl ?_
    refine ab_lcge (tgt := 79) dX3_best_67 dX3_best_68 (by decide) (fun c22 => ?_) (fun c22 => ?_)
    · refine ab_iinc (v := (a8 + 1)) dX3_best_79 rfl (by rfl) (Nat.le_of_ble_eq_true rfl) (L2 := [some (.ref 169), some (.int a1), some (.int a2), none, none, some (.int a5), some (.long a6), none, some (.int (a8 + 1)), some (.long r13), none]) rfl ?_
      refine ab_goto (tgt := 41) dX3_best_82 (by decide) ?_
      refine ab_forget (i := 9) (L2 := [some (.ref 169), some (.int a1), some (.int a2), none, none, some (.int a5), some (.long a6), none, some (.int (a8 + 1)), none, none]) rfl ?_
      exact ((hk16 i17 l18 dd19 x20 hp21).1 c22)
    · refine ab_lload dX3_best_71 rfl ?_
      refine ab_lstore dX3_best_73 (Nat.le_of_ble_eq_true rfl) (L2 := [some (.ref 169), some (.int a1), some (.int a2), none, none, some (.int a5), some (.long r13), none, some (.int a8), some (.long r13), none]) rfl ?_
      refine ab_iload dX3_best_75 rfl ?_
      refine ab_istore dX3_best_77 (Nat.le_of_ble_eq_true rfl) (L2 := [some (.ref 169), some (.int a1), some (.int a2), none, none, some (.int a8), some (.long r13), none, some (.int a8), some (.long r13), none]) rfl ?_
      refine ab_iinc (v := (a8 + 1)) dX3_best_79 rfl (by rfl) (Nat.le_of_ble_eq_true rfl) (L2 := [some (.ref 169), some (.int a1), some (.int a2), none, none, some (.int a8), some (.long r13), none, some (.int (a8 + 1)), some (.long r13), none]) rfl ?_
      refine ab_goto (tgt := 41) dX3_best_82 (by decide) ?_
      refine ab_forget (i := 9) (L2 := [some (.ref 169), some (.int a1), some (.int a2), none, none, some (.int a8), some (.long r13), none, some (.int (a8 + 1)), none, none]) rfl ?_
      exact ((hk16 i17 l18 dd19 x20 hp21).2 c22)
theorem tMX3_lostBy_0 {d : Nat} {Q : ab_Qt} {sc : Nat × (Nat → Int32)} {i : Nat → Nat → Int32} {l : Nat → Nat → Int64} {dd : Nat → Nat → Value} {x : Nat} {a1 : Int32} {a2 : Int32} {a3 : Int32} 
    (h : (∃ m1, dd 169 1 = .ref m1 ∧ ab_isM m1 ∧ vp_in a1 7 ∧ ab_Fr MX3_lostBy (d + 1) Q 20 [some (.ref 169), none, some (.int a2), some (.int a3), some (.ref ((m1 + 5 + 6 * a1.toNatClampNeg) + 1)), some (.long 0), none, some (.int 0)] [] (0, 0) (i, l, dd, x) (ab_E0 sc))) :
    ab_Fr MX3_lostBy (d + 1) Q 0 [some (.ref 169), some (.int a1), some (.int a2), some (.int a3), none, none, none, none] [] (0, 0) (i, l, dd, x) (ab_E0 sc) := by
  refine ab_aloadn dX3_lostBy_0 rfl ?_
  obtain ⟨m1, hm2d, hm2, hm2t⟩ := h
  refine ab_getf (v := .ref m1) dX3_lostBy_1 fl_X3_15 kd_169 hm2d ?_
  refine ab_getf (v := .ref (m1 + 4)) dX3_lostBy_4 fl_X3_111 (kM hm2) (fM_8 hm2) ?_
  refine ab_iloadn dX3_lostBy_7 rfl ?_
  refine ab_aaload (a := (m1 + 5 + 6 * a1.toNatClampNeg)) dX3_lostBy_8 (Or.inl rfl) (kM_4 hm2) hm2t.1 (fMv hm2 hm2t.1) ?_
  refine ab_getf (v := .ref ((m1 + 5 + 6 * a1.toNatClampNeg) + 1)) dX3_lostBy_9 fl_X3_126 (kV (isVof hm2 hm2t.1)) (fV_4 (isVof hm2 hm2t.1)) ?_
  refine ab_astore dX3_lostBy_12 (Nat.le_of_ble_eq_true rfl) (L2 := [some (.ref 169), some (.int a1), some (.int a2), some (.int a3), some (.ref ((m1 + 5 + 6 * a1.toNatClampNeg) + 1)), none, none, none]) rfl ?_
  refine ab_lconst (v := 0) dX3_lostBy_14 (by decide) ?_
  refine ab_lstore dX3_lostBy_15 (Nat.le_of_ble_eq_true rfl) (L2 := [some (.ref 169), some (.int a1), some (.int a2), some (.int a3), some (.ref ((m1 + 5 + 6 * a1.toNatClampNeg) + 1)), some (.long 0), none, none]) rfl ?_
  refine ab_iconst (v := 0) dX3_lostBy_17 (by decide) ?_
  refine ab_istore dX3_lostBy_18 (Nat.le_of_ble_eq_true rfl) (L2 := [some (.ref 169), some (.int a1), some (.int a2), some (.int a3), some (.ref ((m1 + 5 + 6 * a1.toNatClampNeg) + 1)), some (.long 0), none, some (.int 0)]) rfl ?_
  refine ab_forget (i := 1) (L2 := [some (.ref 169), none, some (.int a2), some (.int a3), some (.ref ((m1 + 5 + 6 * a1.toNatClampNeg) + 1)), some (.long 0), none, some (.int 0)]) rfl ?_
  exact hm2t.2
theorem tMX3_lostBy_20 {d : Nat} {Q : ab_Qt} {sc : Nat × (Nat → Int32)} {i : Nat → Nat → Int32} {l : Nat → Nat → Int64} {dd : Nat → Nat → Value} {x : Nat} {a2 : Int32} {a3 : Int32} {a4 : Nat} {n_a4 : Nat} {a5 : Int64} {a7 : Int32} (k_a4 : (ab_E0 sc).1 a4 = .inr (0, n_a4))
    (h : ((3 ≤ a7 → Q (some (some (.long a5))) (i, l, dd, x) (ab_E0 sc)) ∧ (¬ 3 ≤ a7 → (vp_in ((a3 * 3) + a7) 12 ∧ vp_in ((a7 * 3) + a2) n_a4 ∧ ab_Fr MX3_lostBy (d + 1) Q 20 [some (.ref 169), none, some (.int a2), some (.int a3), some (.ref a4), some (.long (a5 + ((l 170 ((a3 * 3) + a7).toNatClampNeg) * (i a4 ((a7 * 3) + a2).toNatClampNeg).toInt64))), none, some (.int (a7 + 1))] [] (0, 0) (i, l, dd, x) (ab_E0 sc))))) :
    ab_Fr MX3_lostBy (d + 1) Q 20 [some (.ref 169), none, some (.int a2), some (.int a3), some (.ref a4), some (.long a5), none, some (.int a7)] [] (0, 0) (i, l, dd, x) (ab_E0 sc) := by
  refine ab_iload dX3_lostBy_20 rfl ?_
  refine ab_iconst (v := 3) dX3_lostBy_22 (by decide) ?_
  refine ab_icmp_ge (tgt := 59) dX3_lostBy_23 (by decide) (fun c1 => ?_) (fun c1 => ?_)
  · refine ab_lload dX3_lostBy_59 rfl ?_
    exact ab_lret dX3_lostBy_61 rfl ⟨Nat.zero_le _, Nat.zero_le _⟩ (h.1 c1)
  · refine ab_lload dX3_lostBy_26 rfl ?_
    refine ab_aloadn dX3_lostBy_28 rfl ?_
    refine ab_getf (v := .ref 170) dX3_lostBy_29 fl_X3_19 kd_169 ff_169_2 ?_
    refine ab_iloadn dX3_lostBy_32 rfl ?_
    refine ab_iconst (v := 3) dX3_lostBy_33 (by decide) ?_
    refine ab_imul dX3_lostBy_34 ?_
    refine ab_iload dX3_lostBy_35 rfl ?_
    refine ab_iadd dX3_lostBy_37 ?_
    refine ab_laload (v := (l 170 ((a3 * 3) + a7).toNatClampNeg)) dX3_lostBy_38 kd_170 (h.2 c1).1 rfl ?_
    refine ab_aload dX3_lostBy_39 rfl ?_
    refine ab_iload dX3_lostBy_41 rfl ?_
    refine ab_iconst (v := 3) dX3_lostBy_43 (by decide) ?_
    refine ab_imul dX3_lostBy_44 ?_
    refine ab_iloadn dX3_lostBy_45 rfl ?_
    refine ab_iadd dX3_lostBy_46 ?_
    refine ab_iaload (v := (i a4 ((a7 * 3) + a2).toNatClampNeg)) dX3_lostBy_47 k_a4 (h.2 c1).2.1 rfl ?_
    refine ab_i2l dX3_lostBy_48 rfl ?_
    refine ab_lmul dX3_lostBy_49 ?_
    refine ab_ladd dX3_lostBy_50 ?_
    refine ab_lstore dX3_lostBy_51 (Nat.le_of_ble_eq_true rfl) (L2 := [some (.ref 169), none, some (.int a2), some (.int a3), some (.ref a4), some (.long (a5 + ((l 170 ((a3 * 3) + a7).toNatClampNeg) * (i a4 ((a7 * 3) + a2).toNatClampNeg).toInt64))), none, some (.int a7)]) rfl ?_
    refine ab_iinc (v := (a7 + 1)) dX3_lostBy_53 rfl (by rfl) (Nat.le_of_ble_eq_true rfl) (L2 := [some (.ref 169), none, some (.int a2), some (.int a3), some (.ref a4), some (.long (a5 + ((l 170 ((a3 * 3) + a7).toNatClampNeg) * (i a4 ((a7 * 3) + a2).toNatClampNeg).toInt64))), none, some (.int (a7 + 1))]) rfl ?_
    refine ab_goto (tgt := 20) dX3_lostBy_56 (by decide) ?_
    exact (h.2 c1).2.2
theorem tMX3_isFit_0 {d : Nat} {Q : ab_Qt} {sc : Nat × (Nat → Int32)} {i : Nat → Nat → Int32} {l : Nat → Nat → Int64} {dd : Nat → Nat → Value} {x : Nat} {a1 : Nat} {a2 : Nat} {n_a2 : Nat} (k_a1 : ab_isM a1) (k_a2 : (ab_E0 sc).1 a2 = .inr (0, n_a2))
    (h : ab_Fr MX3_isFit (d + 1) Q 2 [some (.ref 169), some (.ref a1), some (.ref a2), some (.int 0), none, none] [] (0, 0) (i, l, dd, x) (ab_E0 sc)) :
    ab_Fr MX3_isFit (d + 1) Q 0 [some (.ref 169), some (.ref a1), some (.ref a2), none, none, none] [] (0, 0) (i, l, dd, x) (ab_E0 sc) := by
  refine ab_iconst (v := 0) dX3_isFit_0 (by decide) ?_
  refine ab_istoren dX3_isFit_1 (Nat.le_of_ble_eq_true rfl) (L2 := [some (.ref 169), some (.ref a1), some (.ref a2), some (.int 0), none, none]) rfl ?_
  exact h
theorem tMX3_isFit_2 {d : Nat} {Q : ab_Qt} {sc : Nat × (Nat → Int32)} {i : Nat → Nat → Int32} {l : Nat → Nat → Int64} {dd : Nat → Nat → Value} {x : Nat} {a1 : Nat} {a2 : Nat} {n_a2 : Nat} {a3 : Int32} (k_a1 : ab_isM a1) (k_a2 : (ab_E0 sc).1 a2 = .inr (0, n_a2))
    (h : (((i a1 1) ≤ a3 → Q (some (some (.int 1))) (i, l, dd, x) (ab_E0 sc)) ∧ (¬ (i a1 1) ≤ a3 → (∃ (P3 : ab_S → Prop), ab_Sp MX3_hearOthers d [.ref 169, .ref a1, .ref a2, .int a3] (i, l, dd, x) (ab_E0 sc) (none) P3 ∧ ∀ i6 l7 dd8 x9, P3 (i6, l7, dd8, x9) → ab_Fr MX3_isFit (d + 1) Q 20 [some (.ref 169), some (.ref a1), some (.ref a2), some (.int a3), some (.int 0), none] [] (0, 0) (i6, l7, dd8, x9) (ab_E0 sc))))) :
    ab_Fr MX3_isFit (d + 1) Q 2 [some (.ref 169), some (.ref a1), some (.ref a2), some (.int a3), none, none] [] (0, 0) (i, l, dd, x) (ab_E0 sc) := by
  refine ab_iloadn dX3_isFit_2 rfl ?_
  refine ab_aloadn dX3_isFit_3 rfl ?_
  refine ab_getf (v := .int (i a1 1)) dX3_isFit_4 fl_X3_136 (kM k_a1) rfl ?_
  refine ab_icmp_ge (tgt := 72) dX3_isFit_7 (by decide) (fun c1 => ?_) (fun c1 => ?_)
  · refine ab_iconst (v := 1) dX3_isFit_72 (by decide) ?_
    exact ab_zret dX3_isFit_73 rfl (by decide) ⟨Nat.zero_le _, Nat.zero_le _⟩ (h.1 c1)
  · refine ab_aloadn dX3_isFit_10 rfl ?_
    refine ab_aloadn dX3_isFit_11 rfl ?_
    refine ab_aloadn dX3_isFit_12 rfl ?_
    refine ab_iloadn dX3_isFit_13 rfl ?_
    obtain ⟨P3, hs4, hk5⟩ := (h.2 c1)
    refine ab_callV (vs := [.ref a1, .ref a2, .int a3]) (st := []) dX3_isFit_14 okMX3_hearOthers wd_842 kd_169 rfl rfl rfl (Nat.le_of_ble_eq_true rfl) ⟨Nat.le_of_ble_eq_true rfl, Nat.le_of_ble_eq_true rfl⟩ hs4 ?_
    rintro v9 ⟨i6, l7, dd8, x9⟩ E9 - ⟨rfl, rfl, hp10⟩
    show ab_Fr MX3_isFit (d + 1) Q 17 [some (.ref 169), some (.ref a1), some (.ref a2), some (.int a3), none, none] [] (0, 0) (i6, l7, dd8, x9) (ab_E0 sc)
    refine ab_iconst (v := 0) dX3_isFit_17 (by decide) ?_
    refine ab_istore dX3_isFit_18 (Nat.le_of_ble_eq_true rfl) (L2 := [some (.ref 169), some (.ref a1), some (.ref a2), some (.int a3), some (.int 0), none]) rfl ?_
    exact (hk5 i6 l7 dd8 x9 hp10)
theorem tMX3_isFit_20 {d : Nat} {Q : ab_Qt} {sc : Nat × (Nat → Int32)} {i : Nat → Nat → Int32} {l : Nat → Nat → Int64} {dd : Nat → Nat → Value} {x : Nat} {a1 : Nat} {a2 : Nat} {n_a2 : Nat} {a3 : Int32} {a4 : Int32} (k_a1 : ab_isM a1) (k_a2 : (ab_E0 sc).1 a2 = .inr (0, n_a2))
    (h : (vp_in a3 7 ∧ (((i (a1 + 5 + 6 * a3.toNatClampNeg) 0) ≤ a4 → ab_Fr MX3_isFit (d + 1) Q 2 [some (.ref 169), some (.ref a1), some (.ref a2), some (.int (a3 + 1)), none, none] [] (0, 0) (i, l, dd, x) (ab_E0 sc)) ∧ (¬ (i (a1 + 5 + 6 * a3.toNatClampNeg) 0) ≤ a4 → (vp_in ((a3 * 3) + a4) n_a2 ∧ ∃ (r2 : Int32) (P3 : ab_S → Prop), ab_Sp MX3_best d [.ref 169, .int a3, .int a4, .int (i a2 ((a3 * 3) + a4).toNatClampNeg)] (i, l, dd, x) (ab_E0 sc) (some (.int r2)) P3 ∧ ∀ i6 l7 dd8 x9, P3 (i6, l7, dd8, x9) → ((r2 = (i a2 ((a3 * 3) + a4).toNatClampNeg) → ab_Fr MX3_isFit (d + 1) Q 20 [some (.ref 169), some (.ref a1), some (.ref a2), some (.int a3), some (.int (a4 + 1)), none] [] (0, 0) (i6, l7, dd8, x9) (ab_E0 sc)) ∧ (¬ r2 = (i a2 ((a3 * 3) + a4).toNatClampNeg) → Q (some (some (.int 0))) (i6, l7, dd8, x9) (ab_E0 sc)))))))) :
    ab_Fr MX3_isFit (d + 1) Q 20 [some (.ref 169), some (.ref a1), some (.ref a2), some (.int a3), some (.int a4), none] [] (0, 0) (i, l, dd, x) (ab_E0 sc) := by
  refine ab_iload dX3_isFit_20 rfl ?_
  refine ab_aloadn dX3_isFit_22 rfl ?_
  refine ab_getf (v := .ref (a1 + 4)) dX3_isFit_23 fl_X3_111 (kM k_a1) (fM_8 k_a1) ?_
  refine ab_iloadn dX3_isFit_26 rfl ?_
  refine ab_aaload (a := (a1 + 5 + 6 * a3.toNatClampNeg)) dX3_isFit_27 (Or.inl rfl) (kM_4 k_a1) h.1 (fMv k_a1 h.1) ?_
  refine ab_getf (v := .int (i (a1 + 5 + 6 * a3.toNatClampNeg) 0)) dX3_isFit_28 fl_X3_143 (kV (isVof k_a1 h.1)) rfl ?_
  refine ab_icmp_ge (tgt := 66) dX3_isFit_31 (by decide) (fun c1 => ?_) (fun c1 => ?_)
  · refine ab_iinc (v := (a3 + 1)) dX3_isFit_66 rfl (by rfl) (Nat.le_of_ble_eq_true rfl) (L2 := [some (.ref 169), some (.ref a1), some (.ref a2), some (.int (a3 + 1)), some (.int a4), none]) rfl ?_
    refine ab_goto (tgt := 2) dX3_isFit_69 (by decide) ?_
    refine ab_forget (i := 4) (L2 := [some (.ref 169), some (.ref a1), some (.ref a2), some (.int (a3 + 1)), none, none]) rfl ?_
    exact (h.2.1 c1)
  · refine ab_aloadn dX3_isFit_34 rfl ?_
    refine ab_iloadn dX3_isFit_35 rfl ?_
    refine ab_iconst (v := 3) dX3_isFit_36 (by decide) ?_
    refine ab_imul dX3_isFit_37 ?_
    refine ab_iload dX3_isFit_38 rfl ?_
    refine ab_iadd dX3_isFit_40 ?_
    refine ab_iaload (v := (i a2 ((a3 * 3) + a4).toNatClampNeg)) dX3_isFit_41 k_a2 (h.2.2 c1).1 rfl ?_
    refine ab_istore dX3_isFit_42 (Nat.le_of_ble_eq_true rfl) (L2 := [some (.ref 169), some (.ref a1), some (.ref a2), some (.int a3), some (.int a4), some (.int (i a2 ((a3 * 3) + a4).toNatClampNeg))]) rfl ?_
    refine ab_aloadn dX3_isFit_44 rfl ?_
    refine ab_iloadn dX3_isFit_45 rfl ?_
    refine ab_iload dX3_isFit_46 rfl ?_
    refine ab_iload dX3_isFit_48 rfl ?_
    obtain ⟨r2, P3, hs4, hk5⟩ := (h.2.2 c1).2
    refine ab_callV (vs := [.int a3, .int a4, .int (i a2 ((a3 * 3) + a4).toNatClampNeg)]) (st := []) dX3_isFit_50 okMX3_best wd_843 kd_169 rfl rfl rfl (Nat.le_of_ble_eq_true rfl) ⟨Nat.le_of_ble_eq_true rfl, Nat.le_of_ble_eq_true rfl⟩ hs4 ?_
    rintro v9 ⟨i6, l7, dd8, x9⟩ E9 - ⟨rfl, rfl, hp10⟩
    show ab_Fr MX3_isFit (d + 1) Q 53 [some (.ref 169), some (.ref a1), some (.ref a2), some (.int a3), some (.int a4), some (.int (i a2 ((a3 * 3) + a4).toNatClampNeg))] [.int r2] (0, 0) (i6, l7, dd8, x9) (ab_E0 sc)
    refine ab_iload dX3_isFit_53 rfl ?_
    refine ab_icmp_eq (tgt := 60) dX3_isFit_55 (by decide) (fun c11 => ?_) (fun c11 => ?_)
    · refine ab_iinc (v := (a4 + 1)) dX3_isFit_60 rfl (by rfl) (Nat.le_of_ble_eq_true rfl) (L2 := [some (.ref 169), some (.ref a1), some (.ref a2), some (.int a3), some (.int (a4 + 1)), some (.int (i a2 ((a3 * 3) + a4).toNatClampNeg))]) rfl ?_
      refine ab_goto (tgt := 20) dX3_isFit_63 (by decide) ?_
      refine ab_forget (i := 5) (L2 := [some (.ref 169), some (.ref a1), some (.ref a2), some (.int a3), some (.int (a4 + 1)), none]) rfl ?_
      exact ((hk5 i6 l7 dd8 x9 hp10).1 c11)
    · refine ab_iconst (v := 0) dX3_isFit_58 (by decide) ?_
      exact ab_zret dX3_isFit_59 rfl (by decide) ⟨Nat.zero_le _, Nat.zero_le _⟩ ((hk5 i6 l7 dd8 x9 hp10).2 c11)
theorem tMX3_settleVotes_0 {d : Nat} {Q : ab_Qt} {sc : Nat × (Nat → Int32)} {i : Nat → Nat → Int32} {l : Nat → Nat → Int64} {dd : Nat → Nat → Value} {x : Nat} {a1 : Nat} (k_a1 : ab_isM a1)
    (h : ab_Fr MX3_settleVotes (d + 1) Q 2 [some (.ref 169), some (.ref a1), some (.int 0)] [] (0, 0) (i, l, dd, x) (ab_E0 sc)) :
    ab_Fr MX3_settleVotes (d + 1) Q 0 [some (.ref 169), some (.ref a1), none] [] (0, 0) (i, l, dd, x) (ab_E0 sc) := by
  refine ab_iconst (v := 0) dX3_settleVotes_0 (by decide) ?_
  refine ab_istoren dX3_settleVotes_1 (Nat.le_of_ble_eq_true rfl) (L2 := [some (.ref 169), some (.ref a1), some (.int 0)]) rfl ?_
  exact h
theorem tMX3_settleVotes_2 {d : Nat} {Q : ab_Qt} {sc : Nat × (Nat → Int32)} {i : Nat → Nat → Int32} {l : Nat → Nat → Int64} {dd : Nat → Nat → Value} {x : Nat} {a1 : Nat} {a2 : Int32} (k_a1 : ab_isM a1)
    (h : ((21 ≤ a2 → ab_Fr MX3_settleVotes (d + 1) Q 28 [some (.ref 169), some (.ref a1), some (.int 1)] [] (0, 0) (i, l, dd, x) (ab_E0 sc)) ∧ (¬ 21 ≤ a2 → (vp_in a2 21 ∧ vp_in a2 21 ∧ ∀ i2, i2 = ab_u i 173 a2.toNatClampNeg (i (a1 + 47) a2.toNatClampNeg) → ab_Fr MX3_settleVotes (d + 1) Q 2 [some (.ref 169), some (.ref a1), some (.int (a2 + 1))] [] (0, 0) (i2, l, dd, x) (ab_E0 sc))))) :
    ab_Fr MX3_settleVotes (d + 1) Q 2 [some (.ref 169), some (.ref a1), some (.int a2)] [] (0, 0) (i, l, dd, x) (ab_E0 sc) := by
  refine ab_iloadn dX3_settleVotes_2 rfl ?_
  refine ab_bipush (v := 21) dX3_settleVotes_3 (by decide) ?_
  refine ab_icmp_ge (tgt := 26) dX3_settleVotes_5 (by decide) (fun c1 => ?_) (fun c1 => ?_)
  · refine ab_iconst (v := 1) dX3_settleVotes_26 (by decide) ?_
    refine ab_istoren dX3_settleVotes_27 (Nat.le_of_ble_eq_true rfl) (L2 := [some (.ref 169), some (.ref a1), some (.int 1)]) rfl ?_
    exact (h.1 c1)
  · refine ab_aloadn dX3_settleVotes_8 rfl ?_
    refine ab_getf (v := .ref 173) dX3_settleVotes_9 fl_X3_29 kd_169 ff_169_5 ?_
    refine ab_iloadn dX3_settleVotes_12 rfl ?_
    refine ab_aloadn dX3_settleVotes_13 rfl ?_
    refine ab_getf (v := .ref (a1 + 47)) dX3_settleVotes_14 fl_X3_61 (kM k_a1) (fM_9 k_a1) ?_
    refine ab_iloadn dX3_settleVotes_17 rfl ?_
    refine ab_iaload (v := (i (a1 + 47) a2.toNatClampNeg)) dX3_settleVotes_18 (kM_47 k_a1) (h.2 c1).1 rfl ?_
    refine ab_iastore dX3_settleVotes_19 kd_173 (h.2 c1).2.1 ?_
    obtain ⟨i2, e3⟩ : ∃ z, z = ab_u i 173 a2.toNatClampNeg (i (a1 + 47) a2.toNatClampNeg) := ⟨_, rfl⟩
    rw [show ab_u i 173 a2.toNatClampNeg (i (a1 + 47) a2.toNatClampNeg) = i2 from e3.symm]
    refine ab_iinc (v := (a2 + 1)) dX3_settleVotes_20 rfl (by rfl) (Nat.le_of_ble_eq_true rfl) (L2 := [some (.ref 169), some (.ref a1), some (.int (a2 + 1))]) rfl ?_
    refine ab_goto (tgt := 2) dX3_settleVotes_23 (by decide) ?_
    exact ((h.2 c1).2.2 i2 e3)
theorem tMX3_settleVotes_28 {d : Nat} {Q : ab_Qt} {sc : Nat × (Nat → Int32)} {i : Nat → Nat → Int32} {l : Nat → Nat → Int64} {dd : Nat → Nat → Value} {x : Nat} {a1 : Nat} {a2 : Int32} (k_a1 : ab_isM a1)
    (h : ((50 < a2 → Q (some (some (.int (-1)))) (i, l, dd, x) (ab_E0 sc)) ∧ (¬ 50 < a2 → (∃ (r2 : Int32) (P3 : ab_S → Prop), ab_Sp MX3_changesInRound d [.ref 169, .ref a1] (i, l, dd, x) (ab_E0 sc) (some (.int r2)) P3 ∧ ∀ i6 l7 dd8 x9, P3 (i6, l7, dd8, x9) → ((¬ r2 = 0 → ab_Fr MX3_settleVotes (d + 1) Q 28 [some (.ref 169), some (.ref a1), some (.int (a2 + 1))] [] (0, 0) (i6, l7, dd8, x9) (ab_E0 sc)) ∧ (r2 = 0 → (∃ (P13 : ab_S → Prop), ab_Sp MX3_keepVotes d [.ref 169, .ref a1, .ref 174] (i6, l7, dd8, x9) (ab_E0 sc) (none) P13 ∧ ∀ i16 l17 dd18 x19, P13 (i16, l17, dd18, x19) → ∃ (P22 : ab_S → Prop), ab_Sp MX3_countTrial d [.ref 169, .ref a1] (i16, l17, dd18, x19) (ab_E0 sc) (none) P22 ∧ ∀ i25 l26 dd27 x28, P22 (i25, l26, dd27, x28) → ∃ (r30 : Int64) (P31 : ab_S → Prop), ab_Sp MX11_rightOf d [.ref 172] (i25, l26, dd27, x28) (ab_E0 sc) (some (.long r30)) P31 ∧ ∀ i34 l35 dd36 x37, P31 (i34, l35, dd36, x37) → ∀ l39, l39 = ab_u l35 169 7 r30 → ∃ (r41 : Int64) (P42 : ab_S → Prop), ab_Sp MX0_lostBy d [.ref (a1 + 2), .ref 172] (i34, l39, dd36, x37) (ab_E0 sc) (some (.long r41)) P42 ∧ ∀ i45 l46 dd47 x48, P42 (i45, l46, dd47, x48) → ∀ l50, l50 = ab_u l46 169 8 r41 → Q (some (some (.int a2))) (i45, l50, dd47, x48) (ab_E0 sc)))))))) :
    ab_Fr MX3_settleVotes (d + 1) Q 28 [some (.ref 169), some (.ref a1), some (.int a2)] [] (0, 0) (i, l, dd, x) (ab_E0 sc) := by
  refine ab_iloadn dX3_settleVotes_28 rfl ?_
  refine ab_bipush (v := 50) dX3_settleVotes_29 (by decide) ?_
  refine ab_icmp_gt (tgt := 90) dX3_settleVotes_31 (by decide) (fun c1 => ?_) (fun c1 => ?_)
  · refine ab_iconst (v := (-1)) dX3_settleVotes_90 (by decide) ?_
    exact ab_iret dX3_settleVotes_91 rfl ⟨Nat.zero_le _, Nat.zero_le _⟩ (h.1 c1)
  · refine ab_aloadn dX3_settleVotes_34 rfl ?_
    refine ab_aloadn dX3_settleVotes_35 rfl ?_
    obtain ⟨r2, P3, hs4, hk5⟩ := (h.2 c1)
    refine ab_callV (vs := [.ref a1]) (st := []) dX3_settleVotes_36 okMX3_changesInRound wd_852 kd_169 rfl rfl rfl (Nat.le_of_ble_eq_true rfl) ⟨Nat.le_of_ble_eq_true rfl, Nat.le_of_ble_eq_true rfl⟩ hs4 ?_
    rintro v9 ⟨i6, l7, dd8, x9⟩ E9 - ⟨rfl, rfl, hp10⟩
    show ab_Fr MX3_settleVotes (d + 1) Q 39 [some (.ref 169), some (.ref a1), some (.int a2)] [.int r2] (0, 0) (i6, l7, dd8, x9) (ab_E0 sc)
    refine ab_if_ne (tgt := 84) dX3_settleVotes_39 (by decide) (fun c11 => ?_) (fun c11 => ?_)
    · refine ab_iinc (v := (a2 + 1)) dX3_settleVotes_84 rfl (by rfl) (Nat.le_of_ble_eq_true rfl) (L2 := [some (.ref 169), some (.ref a1), some (.int (a2 + 1))]) rfl ?_
      refine ab_goto (tgt := 28) dX3_settleVotes_87 (by decide) ?_
      exact ((hk5 i6 l7 dd8 x9 hp10).1 c11)
    · refine ab_aloadn dX3_settleVotes_42 rfl ?_
      refine ab_aloadn dX3_settleVotes_43 rfl ?_
      refine ab_aloadn dX3_settleVotes_44 rfl ?_
      refine ab_getf (v := .ref 174) dX3_settleVotes_45 fl_X3_33 kd_169 ff_169_6 ?_
      obtain ⟨P13, hs14, hk15⟩ := ((hk5 i6 l7 dd8 x9 hp10).2 c11)
      refine ab_callV (vs := [.ref a1, .ref 174]) (st := []) dX3_settleVotes_48 okMX3_keepVotes wd_855 kd_169 rfl rfl rfl (Nat.le_of_ble_eq_true rfl) ⟨Nat.le_of_ble_eq_true rfl, Nat.le_of_ble_eq_true rfl⟩ hs14 ?_
      rintro v9 ⟨i16, l17, dd18, x19⟩ E9 - ⟨rfl, rfl, hp20⟩
      show ab_Fr MX3_settleVotes (d + 1) Q 51 [some (.ref 169), some (.ref a1), some (.int a2)] [] (0, 0) (i16, l17, dd18, x19) (ab_E0 sc)
      refine ab_aloadn dX3_settleVotes_51 rfl ?_
      refine ab_aloadn dX3_settleVotes_52 rfl ?_
      obtain ⟨P22, hs23, hk24⟩ := (hk15 i16 l17 dd18 x19 hp20)
      refine ab_callV (vs := [.ref a1]) (st := []) dX3_settleVotes_53 okMX3_countTrial wd_859 kd_169 rfl rfl rfl (Nat.le_of_ble_eq_true rfl) ⟨Nat.le_of_ble_eq_true rfl, Nat.le_of_ble_eq_true rfl⟩ hs23 ?_
      rintro v9 ⟨i25, l26, dd27, x28⟩ E9 - ⟨rfl, rfl, hp29⟩
      show ab_Fr MX3_settleVotes (d + 1) Q 56 [some (.ref 169), some (.ref a1), some (.int a2)] [] (0, 0) (i25, l26, dd27, x28) (ab_E0 sc)
      refine ab_aloadn dX3_settleVotes_56 rfl ?_
      refine ab_aloadn dX3_settleVotes_57 rfl ?_
      refine ab_getf (v := .ref 172) dX3_settleVotes_58 fl_X3_26 kd_169 ff_169_4 ?_
      obtain ⟨r30, P31, hs32, hk33⟩ := (hk24 i25 l26 dd27 x28 hp29)
      refine ab_callN (vs := [.ref 172]) (st := [.ref 169]) dX3_settleVotes_61 okMX11_rightOf (List.mem_of_getElem? (i := 2) rfl) rfl rfl (Nat.le_of_ble_eq_true rfl) ⟨Nat.le_of_ble_eq_true rfl, Nat.le_of_ble_eq_true rfl⟩ hs32 ?_
      rintro v9 ⟨i34, l35, dd36, x37⟩ E9 - ⟨rfl, rfl, hp38⟩
      show ab_Fr MX3_settleVotes (d + 1) Q 64 [some (.ref 169), some (.ref a1), some (.int a2)] [.long r30, .ref 169] (0, 0) (i34, l35, dd36, x37) (ab_E0 sc)
      refine ab_putL dX3_settleVotes_64 fl_X3_41 kd_169 rfl ?_
      obtain ⟨l39, e40⟩ : ∃ z, z = ab_u l35 169 7 r30 := ⟨_, rfl⟩
      show ab_Fr MX3_settleVotes (d + 1) Q 67 [some (.ref 169), some (.ref a1), some (.int a2)] [] (0, 0) (i34, ab_u l35 169 7 r30, dd36, x37) (ab_E0 sc)
      rw [show ab_u l35 169 7 r30 = l39 from e40.symm]
      refine ab_aloadn dX3_settleVotes_67 rfl ?_
      refine ab_aloadn dX3_settleVotes_68 rfl ?_
      refine ab_getf (v := .ref (a1 + 2)) dX3_settleVotes_69 fl_X3_165 (kM k_a1) (fM_7 k_a1) ?_
      refine ab_aloadn dX3_settleVotes_72 rfl ?_
      refine ab_getf (v := .ref 172) dX3_settleVotes_73 fl_X3_26 kd_169 ff_169_4 ?_
      obtain ⟨r41, P42, hs43, hk44⟩ := ((hk33 i34 l35 dd36 x37 hp38) l39 e40)
      refine ab_callV (vs := [.ref 172]) (st := [.ref 169]) dX3_settleVotes_76 okMX0_lostBy wd_863 (kLo (isM_2 k_a1)) rfl rfl rfl (Nat.le_of_ble_eq_true rfl) ⟨Nat.le_of_ble_eq_true rfl, Nat.le_of_ble_eq_true rfl⟩ hs43 ?_
      rintro v9 ⟨i45, l46, dd47, x48⟩ E9 - ⟨rfl, rfl, hp49⟩
      show ab_Fr MX3_settleVotes (d + 1) Q 79 [some (.ref 169), some (.ref a1), some (.int a2)] [.long r41, .ref 169] (0, 0) (i45, l46, dd47, x48) (ab_E0 sc)
      refine ab_putL dX3_settleVotes_79 fl_X3_45 kd_169 rfl ?_
      obtain ⟨l50, e51⟩ : ∃ z, z = ab_u l46 169 8 r41 := ⟨_, rfl⟩
      show ab_Fr MX3_settleVotes (d + 1) Q 82 [some (.ref 169), some (.ref a1), some (.int a2)] [] (0, 0) (i45, ab_u l46 169 8 r41, dd47, x48) (ab_E0 sc)
      rw [show ab_u l46 169 8 r41 = l50 from e51.symm]
      refine ab_iloadn dX3_settleVotes_82 rfl ?_
      exact ab_iret dX3_settleVotes_83 rfl ⟨Nat.zero_le _, Nat.zero_le _⟩ ((hk44 i45 l46 dd47 x48 hp49) l50 e51)
theorem tMX3_changesInRound_0 {d : Nat} {Q : ab_Qt} {sc : Nat × (Nat → Int32)} {i : Nat → Nat → Int32} {l : Nat → Nat → Int64} {dd : Nat → Nat → Value} {x : Nat} {a1 : Nat} (k_a1 : ab_isM a1)
    (h : ab_Fr MX3_changesInRound (d + 1) Q 4 [some (.ref 169), some (.ref a1), some (.int 0), some (.int 0), none, none] [] (0, 0) (i, l, dd, x) (ab_E0 sc)) :
    ab_Fr MX3_changesInRound (d + 1) Q 0 [some (.ref 169), some (.ref a1), none, none, none, none] [] (0, 0) (i, l, dd, x) (ab_E0 sc) := by
  refine ab_iconst (v := 0) dX3_changesInRound_0 (by decide) ?_
  refine ab_istoren dX3_changesInRound_1 (Nat.le_of_ble_eq_true rfl) (L2 := [some (.ref 169), some (.ref a1), some (.int 0), none, none, none]) rfl ?_
  refine ab_iconst (v := 0) dX3_changesInRound_2 (by decide) ?_
  refine ab_istoren dX3_changesInRound_3 (Nat.le_of_ble_eq_true rfl) (L2 := [some (.ref 169), some (.ref a1), some (.int 0), some (.int 0), none, none]) rfl ?_
  exact h
theorem tMX3_changesInRound_4 {d : Nat} {Q : ab_Qt} {sc : Nat × (Nat → Int32)} {i : Nat → Nat → Int32} {l : Nat → Nat → Int64} {dd : Nat → Nat → Value} {x : Nat} {a1 : Nat} {a2 : Int32} {a3 : Int32} (k_a1 : ab_isM a1)
    (h : (((i a1 1) ≤ a3 → ((a2 = 0 ∨ a2 = 1) ∧ Q (some (some (.int a2))) (i, l, dd, x) (ab_E0 sc))) ∧ (¬ (i a1 1) ≤ a3 → (∃ (P3 : ab_S → Prop), ab_Sp MX3_hearOthers d [.ref 169, .ref a1, .ref 173, .int a3] (i, l, dd, x) (ab_E0 sc) (none) P3 ∧ ∀ i6 l7 dd8 x9, P3 (i6, l7, dd8, x9) → ab_Fr MX3_changesInRound (d + 1) Q 25 [some (.ref 169), some (.ref a1), some (.int a2), some (.int a3), some (.int 0), none] [] (0, 0) (i6, l7, dd8, x9) (ab_E0 sc))))) :
    ab_Fr MX3_changesInRound (d + 1) Q 4 [some (.ref 169), some (.ref a1), some (.int a2), some (.int a3), none, none] [] (0, 0) (i, l, dd, x) (ab_E0 sc) := by
  refine ab_iloadn dX3_changesInRound_4 rfl ?_
  refine ab_aloadn dX3_changesInRound_5 rfl ?_
  refine ab_getf (v := .int (i a1 1)) dX3_changesInRound_6 fl_X3_136 (kM k_a1) rfl ?_
  refine ab_icmp_ge (tgt := 108) dX3_changesInRound_9 (by decide) (fun c1 => ?_) (fun c1 => ?_)
  · refine ab_iloadn dX3_changesInRound_108 rfl ?_
    exact ab_zret dX3_changesInRound_109 rfl (h.1 c1).1 ⟨Nat.zero_le _, Nat.zero_le _⟩ (h.1 c1).2
  · refine ab_aloadn dX3_changesInRound_12 rfl ?_
    refine ab_aloadn dX3_changesInRound_13 rfl ?_
    refine ab_aloadn dX3_changesInRound_14 rfl ?_
    refine ab_getf (v := .ref 173) dX3_changesInRound_15 fl_X3_29 kd_169 ff_169_5 ?_
    refine ab_iloadn dX3_changesInRound_18 rfl ?_
    obtain ⟨P3, hs4, hk5⟩ := (h.2 c1)
    refine ab_callV (vs := [.ref a1, .ref 173, .int a3]) (st := []) dX3_changesInRound_19 okMX3_hearOthers wd_842 kd_169 rfl rfl rfl (Nat.le_of_ble_eq_true rfl) ⟨Nat.le_of_ble_eq_true rfl, Nat.le_of_ble_eq_true rfl⟩ hs4 ?_
    rintro v9 ⟨i6, l7, dd8, x9⟩ E9 - ⟨rfl, rfl, hp10⟩
    show ab_Fr MX3_changesInRound (d + 1) Q 22 [some (.ref 169), some (.ref a1), some (.int a2), some (.int a3), none, none] [] (0, 0) (i6, l7, dd8, x9) (ab_E0 sc)
    refine ab_iconst (v := 0) dX3_changesInRound_22 (by decide) ?_
    refine ab_istore dX3_changesInRound_23 (Nat.le_of_ble_eq_true rfl) (L2 := [some (.ref 169), some (.ref a1), some (.int a2), some (.int a3), some (.int 0), none]) rfl ?_
    exact (hk5 i6 l7 dd8 x9 hp10)
theorem tMX3_changesInRound_25 {d : Nat} {Q : ab_Qt} {sc : Nat × (Nat → Int32)} {i : Nat → Nat → Int32} {l : Nat → Nat → Int64} {dd : Nat → Nat → Value} {x : Nat} {a1 : Nat} {a2 : Int32} {a3 : Int32} {a4 : Int32} (k_a1 : ab_isM a1)
    (h : (vp_in a3 7 ∧ (((i (a1 + 5 + 6 * a3.toNatClampNeg) 0) ≤ a4 → ab_Fr MX3_changesInRound (d + 1) Q 4 [some (.ref 169), some (.ref a1), some (.int a2), some (.int (a3 + 1)), none, none] [] (0, 0) (i, l, dd, x) (ab_E0 sc)) ∧ (¬ (i (a1 + 5 + 6 * a3.toNatClampNeg) 0) ≤ a4 → (vp_in ((a3 * 3) + a4) 21 ∧ ∃ (r2 : Int32) (P3 : ab_S → Prop), ab_Sp MX3_best d [.ref 169, .int a3, .int a4, .int (i 173 ((a3 * 3) + a4).toNatClampNeg)] (i, l, dd, x) (ab_E0 sc) (some (.int r2)) P3 ∧ ∀ i6 l7 dd8 x9, P3 (i6, l7, dd8, x9) → vp_in ((a3 * 3) + a4) 21 ∧ ∀ i11, i11 = ab_u i6 173 ((a3 * 3) + a4).toNatClampNeg r2 → vp_in ((a3 * 3) + a4) 21 ∧ (((i11 173 ((a3 * 3) + a4).toNatClampNeg) = (i 173 ((a3 * 3) + a4).toNatClampNeg) → ab_Fr MX3_changesInRound (d + 1) Q 25 [some (.ref 169), some (.ref a1), some (.int (a2 ||| 0)), some (.int a3), some (.int (a4 + 1)), none] [] (0, 0) (i11, l7, dd8, x9) (ab_E0 sc)) ∧ (¬ (i11 173 ((a3 * 3) + a4).toNatClampNeg) = (i 173 ((a3 * 3) + a4).toNatClampNeg) → ab_Fr MX3_changesInRound (d + 1) Q 25 [some (.ref 169), some (.ref a1), some (.int (a2 ||| 1)), some (.int a3), some (.int (a4 + 1)), none] [] (0, 0) (i11, l7, dd8, x9) (ab_E0 sc)))))))) :
    ab_Fr MX3_changesInRound (d + 1) Q 25 [some (.ref 169), some (.ref a1), some (.int a2), some (.int a3), some (.int a4), none] [] (0, 0) (i, l, dd, x) (ab_E0 sc) := by
  refine ab_iload dX3_changesInRound_25 rfl ?_
  refine ab_aloadn dX3_changesInRound_27 rfl ?_
  refine ab_getf (v := .ref (a1 + 4)) dX3_changesInRound_28 fl_X3_111 (kM k_a1) (fM_8 k_a1) ?_
  refine ab_iloadn dX3_changesInRound_31 rfl ?_
  refine ab_aaload (a := (a1 + 5 + 6 * a3.toNatClampNeg)) dX3_changesInRound_32 (Or.inl rfl) (kM_4 k_a1) h.1 (fMv k_a1 h.1) ?_
  refine ab_getf (v := .int (i (a1 + 5 + 6 * a3.toNatClampNeg) 0)) dX3_changesInRound_33 fl_X3_143 (kV (isVof k_a1 h.1)) rfl ?_
  refine ab_icmp_ge (tgt := 102) dX3_changesInRound_36 (by decide) (fun c1 => ?_) (fun c1 => ?_)
  · refine ab_iinc (v := (a3 + 1)) dX3_changesInRound_102 rfl (by rfl) (Nat.le_of_ble_eq_true rfl) (L2 := [some (.ref 169), some (.ref a1), some (.int a2), some (.int (a3 + 1)), some (.int a4), none]) rfl ?_
    refine ab_goto (tgt := 4) dX3_changesInRound_105 (by decide) ?_
    refine ab_forget (i := 4) (L2 := [some (.ref 169), some (.ref a1), some (.int a2), some (.int (a3 + 1)), none, none]) rfl ?_
    exact (h.2.1 c1)
  · refine ab_aloadn dX3_changesInRound_39 rfl ?_
    refine ab_getf (v := .ref 173) dX3_changesInRound_40 fl_X3_29 kd_169 ff_169_5 ?_
    refine ab_iloadn dX3_changesInRound_43 rfl ?_
    refine ab_iconst (v := 3) dX3_changesInRound_44 (by decide) ?_
    refine ab_imul dX3_changesInRound_45 ?_
    refine ab_iload dX3_changesInRound_46 rfl ?_
    refine ab_iadd dX3_changesInRound_48 ?_
    refine ab_iaload (v := (i 173 ((a3 * 3) + a4).toNatClampNeg)) dX3_changesInRound_49 kd_173 (h.2.2 c1).1 rfl ?_
    refine ab_istore dX3_changesInRound_50 (Nat.le_of_ble_eq_true rfl) (L2 := [some (.ref 169), some (.ref a1), some (.int a2), some (.int a3), some (.int a4), some (.int (i 173 ((a3 * 3) + a4).toNatClampNeg))]) rfl ?_
    refine ab_aloadn dX3_changesInRound_52 rfl ?_
    refine ab_getf (v := .ref 173) dX3_changesInRound_53 fl_X3_29 kd_169 ff_169_5 ?_
    refine ab_iloadn dX3_changesInRound_56 rfl ?_
    refine ab_iconst (v := 3) dX3_changesInRound_57 (by decide) ?_
    refine ab_imul dX3_changesInRound_58 ?_
    refine ab_iload dX3_changesInRound_59 rfl ?_
    refine ab_iadd dX3_changesInRound_61 ?_
    refine ab_aloadn dX3_changesInRound_62 rfl ?_
    refine ab_iloadn dX3_changesInRound_63 rfl ?_
    refine ab_iload dX3_changesInRound_64 rfl ?_
    refine ab_iload dX3_changesInRound_66 rfl ?_
    obtain ⟨r2, P3, hs4, hk5⟩ := (h.2.2 c1).2
    refine ab_callV (vs := [.int a3, .int a4, .int (i 173 ((a3 * 3) + a4).toNatClampNeg)]) (st := [.int ((a3 * 3) + a4), .ref 173]) dX3_changesInRound_68 okMX3_best wd_843 kd_169 rfl rfl rfl (Nat.le_of_ble_eq_true rfl) ⟨Nat.le_of_ble_eq_true rfl, Nat.le_of_ble_eq_true rfl⟩ hs4 ?_
    rintro v9 ⟨i6, l7, dd8, x9⟩ E9 - ⟨rfl, rfl, hp10⟩
    show ab_Fr MX3_changesInRound (d + 1) Q 71 [some (.ref 169), some (.ref a1), some (.int a2), some (.int a3), some (.int a4), some (.int (i 173 ((a3 * 3) + a4).toNatClampNeg))] [.int r2, .int ((a3 * 3) + a4), .ref 173] (0, 0) (i6, l7, dd8, x9) (ab_E0 sc)
    refine ab_iastore dX3_changesInRound_71 kd_173 (hk5 i6 l7 dd8 x9 hp10).1 ?_
    obtain ⟨i11, e12⟩ : ∃ z, z = ab_u i6 173 ((a3 * 3) + a4).toNatClampNeg r2 := ⟨_, rfl⟩
    rw [show ab_u i6 173 ((a3 * 3) + a4).toNatClampNeg r2 = i11 from e12.symm]
    refine ab_iloadn dX3_changesInRound_72 rfl ?_
    refine ab_aloadn dX3_changesInRound_73 rfl ?_
    refine ab_getf (v := .ref 173) dX3_changesInRound_74 fl_X3_29 kd_169 ff_169_5 ?_
    refine ab_iloadn dX3_changesInRound_77 rfl ?_
    refine ab_iconst (v := 3) dX3_changesInRound_78 (by decide) ?_
    refine ab_imul dX3_changesInRound_79 ?_
    refine ab_iload dX3_changesInRound_80 rfl ?_
    refine ab_iadd dX3_changesInRound_82 ?_
    refine ab_iaload (v := (i11 173 ((a3 * 3) + a4).toNatClampNeg)) dX3_changesInRound_83 kd_173 ((hk5 i6 l7 dd8 x9 hp10).2 i11 e12).1 rfl ?_
    refine ab_iload dX3_changesInRound_84 rfl ?_
    refine ab_icmp_eq (tgt := 93) dX3_changesInRound_86 (by decide) (fun c13 => ?_) (fun c13 => ?_)
    · refine ab_iconst (v := 0) dX3_changesInRound_93 (by decide) ?_
      refine ab_ior dX3_changesInRound_94 ?_
      refine ab_istoren dX3_changesInRound_95 (Nat.le_of_ble_eq_true rfl) (L2 := [some (.ref 169), some (.ref a1), some (.int (a2 ||| 0)), some (.int a3), some (.int a4), some (.int (i 173 ((a3 * 3) + a4).toNatClampNeg))]) rfl ?_
      refine ab_iinc (v := (a4 + 1)) dX3_changesInRound_96 rfl (by rfl) (Nat.le_of_ble_eq_true rfl) (L2 := [some (.ref 169), some (.ref a1), some (.int (a2 ||| 0)), some (.int a3), some (.int (a4 + 1)), some (.int (i 173 ((a3 * 3) + a4).toNatClampNeg))]) rfl ?_
      refine ab_goto (tgt := 25) dX3_changesInRound_99 (by decide) ?_
      refine ab_forget (i := 5) (L2 := [some (.ref 169), some (.ref a1), some (.int (a2 ||| 0)), some (.int a3), some (.int (a4 + 1)), none]) rfl ?_
      exact (((hk5 i6 l7 dd8 x9 hp10).2 i11 e12).2.1 c13)
    · refine ab_iconst (v := 1) dX3_changesInRound_89 (by decide) ?_
      refine ab_goto (tgt := 94) dX3_changesInRound_90 (by decide) ?_
      refine ab_ior dX3_changesInRound_94 ?_
      refine ab_istoren dX3_changesInRound_95 (Nat.le_of_ble_eq_true rfl) (L2 := [some (.ref 169), some (.ref a1), some (.int (a2 ||| 1)), some (.int a3), some (.int a4), some (.int (i 173 ((a3 * 3) + a4).toNatClampNeg))]) rfl ?_
      refine ab_iinc (v := (a4 + 1)) dX3_changesInRound_96 rfl (by rfl) (Nat.le_of_ble_eq_true rfl) (L2 := [some (.ref 169), some (.ref a1), some (.int (a2 ||| 1)), some (.int a3), some (.int (a4 + 1)), some (.int (i 173 ((a3 * 3) + a4).toNatClampNeg))]) rfl ?_
      refine ab_goto (tgt := 25) dX3_changesInRound_99 (by decide) ?_
      refine ab_forget (i := 5) (L2 := [some (.ref 169), some (.ref a1), some (.int (a2 ||| 1)), some (.int a3), some (.int (a4 + 1)), none]) rfl ?_
      exact (((hk5 i6 l7 dd8 x9 hp10).2 i11 e12).2.2 c13)
theorem tMX3_keepVotes_0 {d : Nat} {Q : ab_Qt} {sc : Nat × (Nat → Int32)} {i : Nat → Nat → Int32} {l : Nat → Nat → Int64} {dd : Nat → Nat → Value} {x : Nat} {a1 : Nat} {a2 : Nat} {n_a2 : Nat} (k_a1 : ab_isM a1) (k_a2 : (ab_E0 sc).1 a2 = .inr (0, n_a2))
    (h : ab_Fr MX3_keepVotes (d + 1) Q 2 [some (.ref 169), some (.ref a1), some (.ref a2), some (.int 0), none] [] (0, 0) (i, l, dd, x) (ab_E0 sc)) :
    ab_Fr MX3_keepVotes (d + 1) Q 0 [some (.ref 169), some (.ref a1), some (.ref a2), none, none] [] (0, 0) (i, l, dd, x) (ab_E0 sc) := by
  refine ab_iconst (v := 0) dX3_keepVotes_0 (by decide) ?_
  refine ab_istoren dX3_keepVotes_1 (Nat.le_of_ble_eq_true rfl) (L2 := [some (.ref 169), some (.ref a1), some (.ref a2), some (.int 0), none]) rfl ?_
  exact h
theorem tMX3_keepVotes_2 {d : Nat} {Q : ab_Qt} {sc : Nat × (Nat → Int32)} {i : Nat → Nat → Int32} {l : Nat → Nat → Int64} {dd : Nat → Nat → Value} {x : Nat} {a1 : Nat} {a2 : Nat} {n_a2 : Nat} {a3 : Int32} (k_a1 : ab_isM a1) (k_a2 : (ab_E0 sc).1 a2 = .inr (0, n_a2))
    (h : ((7 ≤ a3 → Q (some none) (i, l, dd, x) (ab_E0 sc)) ∧ (¬ 7 ≤ a3 → ab_Fr MX3_keepVotes (d + 1) Q 11 [some (.ref 169), some (.ref a1), some (.ref a2), some (.int a3), some (.int 0)] [] (0, 0) (i, l, dd, x) (ab_E0 sc)))) :
    ab_Fr MX3_keepVotes (d + 1) Q 2 [some (.ref 169), some (.ref a1), some (.ref a2), some (.int a3), none] [] (0, 0) (i, l, dd, x) (ab_E0 sc) := by
  refine ab_iloadn dX3_keepVotes_2 rfl ?_
  refine ab_bipush (v := 7) dX3_keepVotes_3 (by decide) ?_
  refine ab_icmp_ge (tgt := 62) dX3_keepVotes_5 (by decide) (fun c1 => ?_) (fun c1 => ?_)
  · exact ab_vret dX3_keepVotes_62 rfl ⟨Nat.zero_le _, Nat.zero_le _⟩ (h.1 c1)
  · refine ab_iconst (v := 0) dX3_keepVotes_8 (by decide) ?_
    refine ab_istore dX3_keepVotes_9 (Nat.le_of_ble_eq_true rfl) (L2 := [some (.ref 169), some (.ref a1), some (.ref a2), some (.int a3), some (.int 0)]) rfl ?_
    exact (h.2 c1)
theorem tMX3_keepVotes_11 {d : Nat} {Q : ab_Qt} {sc : Nat × (Nat → Int32)} {i : Nat → Nat → Int32} {l : Nat → Nat → Int64} {dd : Nat → Nat → Value} {x : Nat} {a1 : Nat} {a2 : Nat} {n_a2 : Nat} {a3 : Int32} {a4 : Int32} (k_a1 : ab_isM a1) (k_a2 : (ab_E0 sc).1 a2 = .inr (0, n_a2))
    (h : ((3 ≤ a4 → ab_Fr MX3_keepVotes (d + 1) Q 2 [some (.ref 169), some (.ref a1), some (.ref a2), some (.int (a3 + 1)), none] [] (0, 0) (i, l, dd, x) (ab_E0 sc)) ∧ (¬ 3 ≤ a4 → (∃ (r2 : Int32) (P3 : ab_S → Prop), ab_Sp MX1_hasSign d [.ref a1, .int a3, .int a4] (i, l, dd, x) (ab_E0 sc) (some (.int r2)) P3 ∧ ∀ i6 l7 dd8 x9, P3 (i6, l7, dd8, x9) → ((r2 = 0 → (vp_in ((a3 * 3) + a4) n_a2 ∧ ∀ i12, i12 = ab_u i6 a2 ((a3 * 3) + a4).toNatClampNeg (-1) → ab_Fr MX3_keepVotes (d + 1) Q 11 [some (.ref 169), some (.ref a1), some (.ref a2), some (.int a3), some (.int (a4 + 1))] [] (0, 0) (i12, l7, dd8, x9) (ab_E0 sc))) ∧ (¬ r2 = 0 → (vp_in ((a3 * 3) + a4) 21 ∧ vp_in ((a3 * 3) + a4) n_a2 ∧ ∀ i14, i14 = ab_u i6 a2 ((a3 * 3) + a4).toNatClampNeg (i6 173 ((a3 * 3) + a4).toNatClampNeg) → ab_Fr MX3_keepVotes (d + 1) Q 11 [some (.ref 169), some (.ref a1), some (.ref a2), some (.int a3), some (.int (a4 + 1))] [] (0, 0) (i14, l7, dd8, x9) (ab_E0 sc)))))))) :
    ab_Fr MX3_keepVotes (d + 1) Q 11 [some (.ref 169), some (.ref a1), some (.ref a2), some (.int a3), some (.int a4)] [] (0, 0) (i, l, dd, x) (ab_E0 sc) := by
  refine ab_iload dX3_keepVotes_11 rfl ?_
  refine ab_iconst (v := 3) dX3_keepVotes_13 (by decide) ?_
  refine ab_icmp_ge (tgt := 56) dX3_keepVotes_14 (by decide) (fun c1 => ?_) (fun c1 => ?_)
  · refine ab_iinc (v := (a3 + 1)) dX3_keepVotes_56 rfl (by rfl) (Nat.le_of_ble_eq_true rfl) (L2 := [some (.ref 169), some (.ref a1), some (.ref a2), some (.int (a3 + 1)), some (.int a4)]) rfl ?_
    refine ab_goto (tgt := 2) dX3_keepVotes_59 (by decide) ?_
    refine ab_forget (i := 4) (L2 := [some (.ref 169), some (.ref a1), some (.ref a2), some (.int (a3 + 1)), none]) rfl ?_
    exact (h.1 c1)
  · refine ab_aloadn dX3_keepVotes_17 rfl ?_
    refine ab_iloadn dX3_keepVotes_18 rfl ?_
    refine ab_iconst (v := 3) dX3_keepVotes_19 (by decide) ?_
    refine ab_imul dX3_keepVotes_20 ?_
    refine ab_iload dX3_keepVotes_21 rfl ?_
    refine ab_iadd dX3_keepVotes_23 ?_
    refine ab_aloadn dX3_keepVotes_24 rfl ?_
    refine ab_iloadn dX3_keepVotes_25 rfl ?_
    refine ab_iload dX3_keepVotes_26 rfl ?_
    obtain ⟨r2, P3, hs4, hk5⟩ := (h.2 c1)
    refine ab_callV (vs := [.int a3, .int a4]) (st := [.int ((a3 * 3) + a4), .ref a2]) dX3_keepVotes_28 okMX1_hasSign wd_858 (kM k_a1) rfl rfl rfl (Nat.le_of_ble_eq_true rfl) ⟨Nat.le_of_ble_eq_true rfl, Nat.le_of_ble_eq_true rfl⟩ hs4 ?_
    rintro v9 ⟨i6, l7, dd8, x9⟩ E9 - ⟨rfl, rfl, hp10⟩
    show ab_Fr MX3_keepVotes (d + 1) Q 31 [some (.ref 169), some (.ref a1), some (.ref a2), some (.int a3), some (.int a4)] [.int r2, .int ((a3 * 3) + a4), .ref a2] (0, 0) (i6, l7, dd8, x9) (ab_E0 sc)
    refine ab_if_eq (tgt := 48) dX3_keepVotes_31 (by decide) (fun c11 => ?_) (fun c11 => ?_)
    · refine ab_iconst (v := (-1)) dX3_keepVotes_48 (by decide) ?_
      refine ab_iastore dX3_keepVotes_49 k_a2 ((hk5 i6 l7 dd8 x9 hp10).1 c11).1 ?_
      obtain ⟨i12, e13⟩ : ∃ z, z = ab_u i6 a2 ((a3 * 3) + a4).toNatClampNeg (-1) := ⟨_, rfl⟩
      rw [show ab_u i6 a2 ((a3 * 3) + a4).toNatClampNeg (-1) = i12 from e13.symm]
      refine ab_iinc (v := (a4 + 1)) dX3_keepVotes_50 rfl (by rfl) (Nat.le_of_ble_eq_true rfl) (L2 := [some (.ref 169), some (.ref a1), some (.ref a2), some (.int a3), some (.int (a4 + 1))]) rfl ?_
      refine ab_goto (tgt := 11) dX3_keepVotes_53 (by decide) ?_
      exact (((hk5 i6 l7 dd8 x9 hp10).1 c11).2 i12 e13)
    · refine ab_aloadn dX3_keepVotes_34 rfl ?_
      refine ab_getf (v := .ref 173) dX3_keepVotes_35 fl_X3_29 kd_169 ff_169_5 ?_
      refine ab_iloadn dX3_keepVotes_38 rfl ?_
      refine ab_iconst (v := 3) dX3_keepVotes_39 (by decide) ?_
      refine ab_imul dX3_keepVotes_40 ?_
      refine ab_iload dX3_keepVotes_41 rfl ?_
      refine ab_iadd dX3_keepVotes_43 ?_
      refine ab_iaload (v := (i6 173 ((a3 * 3) + a4).toNatClampNeg)) dX3_keepVotes_44 kd_173 ((hk5 i6 l7 dd8 x9 hp10).2 c11).1 rfl ?_
      refine ab_goto (tgt := 49) dX3_keepVotes_45 (by decide) ?_
      refine ab_iastore dX3_keepVotes_49 k_a2 ((hk5 i6 l7 dd8 x9 hp10).2 c11).2.1 ?_
      obtain ⟨i14, e15⟩ : ∃ z, z = ab_u i6 a2 ((a3 * 3) + a4).toNatClampNeg (i6 173 ((a3 * 3) + a4).toNatClampNeg) := ⟨_, rfl⟩
      rw [show ab_u i6 a2 ((a3 * 3) + a4).toNatClampNeg (i6 173 ((a3 * 3) + a4).toNatClampNeg) = i14 from e15.symm]
      refine ab_iinc (v := (a4 + 1)) dX3_keepVotes_50 rfl (by rfl) (Nat.le_of_ble_eq_true rfl) (L2 := [some (.ref 169), some (.ref a1), some (.ref a2), some (.int a3), some (.int (a4 + 1))]) rfl ?_
      refine ab_goto (tgt := 11) dX3_keepVotes_53 (by decide) ?_
      exact (((hk5 i6 l7 dd8 x9 hp10).2 c11).2.2 i14 e15)
theorem tMX3_countTrial_0 {d : Nat} {Q : ab_Qt} {sc : Nat × (Nat → Int32)} {i : Nat → Nat → Int32} {l : Nat → Nat → Int64} {dd : Nat → Nat → Value} {x : Nat} {a1 : Nat} (k_a1 : ab_isM a1)
    (h : (∃ (P2 : ab_S → Prop), ab_Sp MX4_voting d [.ref 160, .ref a1, .ref 173] (i, l, dd, x) (ab_E0 sc) (none) P2 ∧ ∀ i5 l6 dd7 x8, P2 (i5, l6, dd7, x8) → ∃ (P11 : ab_S → Prop), ab_Sp MX4_sumUp d [.ref 160, .ref 172] (i5, l6, dd7, x8) (ab_E0 sc) (none) P11 ∧ ∀ i14 l15 dd16 x17, P11 (i14, l15, dd16, x17) → Q (some none) (i14, l15, dd16, x17) (ab_E0 sc))) :
    ab_Fr MX3_countTrial (d + 1) Q 0 [some (.ref 169), some (.ref a1)] [] (0, 0) (i, l, dd, x) (ab_E0 sc) := by
  refine ab_aloadn dX3_countTrial_0 rfl ?_
  refine ab_getf (v := .ref 160) dX3_countTrial_1 fl_X3_9 kd_169 ff_169_0 ?_
  refine ab_aloadn dX3_countTrial_4 rfl ?_
  refine ab_aloadn dX3_countTrial_5 rfl ?_
  refine ab_getf (v := .ref 173) dX3_countTrial_6 fl_X3_29 kd_169 ff_169_5 ?_
  obtain ⟨P2, hs3, hk4⟩ := h
  refine ab_callV (vs := [.ref a1, .ref 173]) (st := []) dX3_countTrial_9 okMX4_voting wd_804 kd_160 rfl rfl rfl (Nat.le_of_ble_eq_true rfl) ⟨Nat.le_of_ble_eq_true rfl, Nat.le_of_ble_eq_true rfl⟩ hs3 ?_
  rintro v9 ⟨i5, l6, dd7, x8⟩ E9 - ⟨rfl, rfl, hp9⟩
  show ab_Fr MX3_countTrial (d + 1) Q 12 [some (.ref 169), some (.ref a1)] [] (0, 0) (i5, l6, dd7, x8) (ab_E0 sc)
  refine ab_aloadn dX3_countTrial_12 rfl ?_
  refine ab_getf (v := .ref 160) dX3_countTrial_13 fl_X3_9 kd_169 ff_169_0 ?_
  refine ab_aloadn dX3_countTrial_16 rfl ?_
  refine ab_getf (v := .ref 172) dX3_countTrial_17 fl_X3_26 kd_169 ff_169_4 ?_
  obtain ⟨P11, hs12, hk13⟩ := (hk4 i5 l6 dd7 x8 hp9)
  refine ab_callV (vs := [.ref 172]) (st := []) dX3_countTrial_20 okMX4_sumUp wd_862 kd_160 rfl rfl rfl (Nat.le_of_ble_eq_true rfl) ⟨Nat.le_of_ble_eq_true rfl, Nat.le_of_ble_eq_true rfl⟩ hs12 ?_
  rintro v9 ⟨i14, l15, dd16, x17⟩ E9 - ⟨rfl, rfl, hp18⟩
  show ab_Fr MX3_countTrial (d + 1) Q 23 [some (.ref 169), some (.ref a1)] [] (0, 0) (i14, l15, dd16, x17) (ab_E0 sc)
  exact ab_vret dX3_countTrial_23 rfl ⟨Nat.zero_le _, Nat.zero_le _⟩ (hk13 i14 l15 dd16 x17 hp18)
theorem tMX3_countFits_0 {d : Nat} {Q : ab_Qt} {sc : Nat × (Nat → Int32)} {i : Nat → Nat → Int32} {l : Nat → Nat → Int64} {dd : Nat → Nat → Value} {x : Nat} {a1 : Nat} (k_a1 : ab_isM a1)
    (h : (∀ dd1, dd1 = ab_u dd 169 1 (.ref a1) → ∃ (r3 : Int32) (P4 : ab_S → Prop), ab_Sp MX3_layPlaces d [.ref 169] (i, l, dd1, x) (ab_E0 sc) (some (.int r3)) P4 ∧ ∀ i7 l8 dd9 x10, P4 (i7, l8, dd9, x10) → ab_Fr MX3_countFits (d + 1) Q 21 [some (.ref 169), none, some (.int r3), some (.int 0), some (.long 0), none, some (.int 1), some (.int 0), none, none] [] (0, 0) (i7, l8, dd9, x10) (ab_E0 sc))) :
    ab_Fr MX3_countFits (d + 1) Q 0 [some (.ref 169), some (.ref a1), none, none, none, none, none, none, none, none] [] (0, 0) (i, l, dd, x) (ab_E0 sc) := by
  refine ab_aloadn dX3_countFits_0 rfl ?_
  refine ab_aloadn dX3_countFits_1 rfl ?_
  refine ab_putR dX3_countFits_2 fl_X3_15 kd_169 rfl ?_
  obtain ⟨dd1, e2⟩ : ∃ z, z = ab_u dd 169 1 (.ref a1) := ⟨_, rfl⟩
  show ab_Fr MX3_countFits (d + 1) Q 5 [some (.ref 169), some (.ref a1), none, none, none, none, none, none, none, none] [] (0, 0) (i, l, ab_u dd 169 1 (.ref a1), x) (ab_E0 sc)
  rw [show ab_u dd 169 1 (.ref a1) = dd1 from e2.symm]
  refine ab_aloadn dX3_countFits_5 rfl ?_
  obtain ⟨r3, P4, hs5, hk6⟩ := (h dd1 e2)
  refine ab_callV (vs := []) (st := []) dX3_countFits_6 okMX3_layPlaces wd_1046 kd_169 rfl rfl rfl (Nat.le_of_ble_eq_true rfl) ⟨Nat.le_of_ble_eq_true rfl, Nat.le_of_ble_eq_true rfl⟩ hs5 ?_
  rintro v9 ⟨i7, l8, dd9, x10⟩ E9 - ⟨rfl, rfl, hp11⟩
  show ab_Fr MX3_countFits (d + 1) Q 9 [some (.ref 169), some (.ref a1), none, none, none, none, none, none, none, none] [.int r3] (0, 0) (i7, l8, dd9, x10) (ab_E0 sc)
  refine ab_istoren dX3_countFits_9 (Nat.le_of_ble_eq_true rfl) (L2 := [some (.ref 169), some (.ref a1), some (.int r3), none, none, none, none, none, none, none]) rfl ?_
  refine ab_iconst (v := 0) dX3_countFits_10 (by decide) ?_
  refine ab_istoren dX3_countFits_11 (Nat.le_of_ble_eq_true rfl) (L2 := [some (.ref 169), some (.ref a1), some (.int r3), some (.int 0), none, none, none, none, none, none]) rfl ?_
  refine ab_lconst (v := 0) dX3_countFits_12 (by decide) ?_
  refine ab_lstore dX3_countFits_13 (Nat.le_of_ble_eq_true rfl) (L2 := [some (.ref 169), some (.ref a1), some (.int r3), some (.int 0), some (.long 0), none, none, none, none, none]) rfl ?_
  refine ab_iconst (v := 1) dX3_countFits_15 (by decide) ?_
  refine ab_istore dX3_countFits_16 (Nat.le_of_ble_eq_true rfl) (L2 := [some (.ref 169), some (.ref a1), some (.int r3), some (.int 0), some (.long 0), none, some (.int 1), none, none, none]) rfl ?_
  refine ab_iconst (v := 0) dX3_countFits_18 (by decide) ?_
  refine ab_istore dX3_countFits_19 (Nat.le_of_ble_eq_true rfl) (L2 := [some (.ref 169), some (.ref a1), some (.int r3), some (.int 0), some (.long 0), none, some (.int 1), some (.int 0), none, none]) rfl ?_
  refine ab_forget (i := 1) (L2 := [some (.ref 169), none, some (.int r3), some (.int 0), some (.long 0), none, some (.int 1), some (.int 0), none, none]) rfl ?_
  exact (hk6 i7 l8 dd9 x10 hp11)
theorem tMX3_countFits_21 {d : Nat} {Q : ab_Qt} {sc : Nat × (Nat → Int32)} {i : Nat → Nat → Int32} {l : Nat → Nat → Int64} {dd : Nat → Nat → Value} {x : Nat} {a2 : Int32} {a3 : Int32} {a4 : Int64} {a6 : Int32} {a7 : Int32} 
    (h : ((a2 ≤ a7 → Q (some (some (.int a3))) (i, l, dd, x) (ab_E0 sc)) ∧ (¬ a2 ≤ a7 → ((a6 = 0 → ab_Fr MX3_countFits (d + 1) Q 45 [some (.ref 169), none, some (.int a2), some (.int a3), some (.long a4), none, none, some (.int a7), none, none] [] (0, 0) (i, l, dd, x) (ab_E0 sc)) ∧ (¬ a6 = 0 → (∃ m3, dd 169 1 = .ref m3 ∧ ab_isM m3 ∧ ∃ (P6 : ab_S → Prop), ab_Sp MX3_noteReplies d [.ref 169, .int ((i m3 1) - 1)] (i, l, dd, x) (ab_E0 sc) (none) P6 ∧ ∀ i9 l10 dd11 x12, P6 (i9, l10, dd11, x12) → ab_Fr MX3_countFits (d + 1) Q 45 [some (.ref 169), none, some (.int a2), some (.int a3), some (.long a4), none, none, some (.int a7), none, none] [] (0, 0) (i9, l10, dd11, x12) (ab_E0 sc))))))) :
    ab_Fr MX3_countFits (d + 1) Q 21 [some (.ref 169), none, some (.int a2), some (.int a3), some (.long a4), none, some (.int a6), some (.int a7), none, none] [] (0, 0) (i, l, dd, x) (ab_E0 sc) := by
  refine ab_iload dX3_countFits_21 rfl ?_
  refine ab_iloadn dX3_countFits_23 rfl ?_
  refine ab_icmp_ge (tgt := 143) dX3_countFits_24 (by decide) (fun c1 => ?_) (fun c1 => ?_)
  · refine ab_iloadn dX3_countFits_143 rfl ?_
    exact ab_iret dX3_countFits_144 rfl ⟨Nat.zero_le _, Nat.zero_le _⟩ (h.1 c1)
  · refine ab_iload dX3_countFits_27 rfl ?_
    refine ab_if_eq (tgt := 45) dX3_countFits_29 (by decide) (fun c2 => ?_) (fun c2 => ?_)
    · refine ab_forget (i := 6) (L2 := [some (.ref 169), none, some (.int a2), some (.int a3), some (.long a4), none, none, some (.int a7), none, none]) rfl ?_
      exact ((h.2 c1).1 c2)
    · refine ab_aloadn dX3_countFits_32 rfl ?_
      refine ab_aloadn dX3_countFits_33 rfl ?_
      obtain ⟨m3, hm4d, hm4, hm4t⟩ := ((h.2 c1).2 c2)
      refine ab_getf (v := .ref m3) dX3_countFits_34 fl_X3_15 kd_169 hm4d ?_
      refine ab_getf (v := .int (i m3 1)) dX3_countFits_37 fl_X3_136 (kM hm4) rfl ?_
      refine ab_iconst (v := 1) dX3_countFits_40 (by decide) ?_
      refine ab_isub dX3_countFits_41 ?_
      obtain ⟨P6, hs7, hk8⟩ := hm4t
      refine ab_callV (vs := [.int ((i m3 1) - 1)]) (st := []) dX3_countFits_42 okMX3_noteReplies wd_1050 kd_169 rfl rfl rfl (Nat.le_of_ble_eq_true rfl) ⟨Nat.le_of_ble_eq_true rfl, Nat.le_of_ble_eq_true rfl⟩ hs7 ?_
      rintro v9 ⟨i9, l10, dd11, x12⟩ E9 - ⟨rfl, rfl, hp13⟩
      show ab_Fr MX3_countFits (d + 1) Q 45 [some (.ref 169), none, some (.int a2), some (.int a3), some (.long a4), none, some (.int a6), some (.int a7), none, none] [] (0, 0) (i9, l10, dd11, x12) (ab_E0 sc)
      refine ab_forget (i := 6) (L2 := [some (.ref 169), none, some (.int a2), some (.int a3), some (.long a4), none, none, some (.int a7), none, none]) rfl ?_
      exact (hk8 i9 l10 dd11 x12 hp13)
theorem tMX3_countFits_45 {d : Nat} {Q : ab_Qt} {sc : Nat × (Nat → Int32)} {i : Nat → Nat → Int32} {l : Nat → Nat → Int64} {dd : Nat → Nat → Value} {x : Nat} {a2 : Int32} {a3 : Int32} {a4 : Int64} {a7 : Int32} 
    (h : (∃ m1, dd 169 1 = .ref m1 ∧ ab_isM m1 ∧ ∃ (r3 : Int32) (P4 : ab_S → Prop), ab_Sp MX3_areNoted d [.ref 169, .int ((i m1 1) - 1)] (i, l, dd, x) (ab_E0 sc) (some (.int r3)) P4 ∧ ∀ i7 l8 dd9 x10, P4 (i7, l8, dd9, x10) → ((r3 = 0 → ab_Fr MX3_countFits (d + 1) Q 131 [some (.ref 169), none, some (.int a2), some (.int a3), some (.long a4), none, none, some (.int a7), none, none] [] (0, 0) (i7, l8, dd9, x10) (ab_E0 sc)) ∧ (¬ r3 = 0 → (∃ m13, dd9 169 1 = .ref m13 ∧ ab_isM m13 ∧ ∃ (r15 : Int32) (P16 : ab_S → Prop), ab_Sp MX3_isFit d [.ref 169, .ref m13, .ref 173] (i7, l8, dd9, x10) (ab_E0 sc) (some (.int r15)) P16 ∧ ∀ i19 l20 dd21 x22, P16 (i19, l20, dd21, x22) → ((r15 = 0 → ab_Fr MX3_countFits (d + 1) Q 131 [some (.ref 169), none, some (.int a2), some (.int a3), some (.long a4), none, none, some (.int a7), none, none] [] (0, 0) (i19, l20, dd21, x22) (ab_E0 sc)) ∧ (¬ r15 = 0 → (∃ m25, dd21 169 1 = .ref m25 ∧ ab_isM m25 ∧ ∃ (P28 : ab_S → Prop), ab_Sp MX3_countTrial d [.ref 169, .ref m25] (i19, l20, dd21, x22) (ab_E0 sc) (none) P28 ∧ ∀ i31 l32 dd33 x34, P28 (i31, l32, dd33, x34) → ∃ m36, dd33 169 1 = .ref m36 ∧ ab_isM m36 ∧ ∃ (r38 : Int64) (P39 : ab_S → Prop), ab_Sp MX0_lostBy d [.ref (m36 + 2), .ref 172] (i31, l32, dd33, x34) (ab_E0 sc) (some (.long r38)) P39 ∧ ∀ i42 l43 dd44 x45, P39 (i42, l43, dd44, x45) → ((a3 = 0 → ab_Fr MX3_countFits (d + 1) Q 112 [some (.ref 169), none, some (.int a2), some (.int a3), none, none, none, some (.int a7), some (.long r38), none] [] (0, 0) (i42, l43, dd44, x45) (ab_E0 sc)) ∧ (¬ a3 = 0 → ((¬ r38 < a4 → ab_Fr MX3_countFits (d + 1) Q 128 [some (.ref 169), none, some (.int a2), some (.int a3), some (.long a4), none, none, some (.int a7), none, none] [] (0, 0) (i42, l43, dd44, x45) (ab_E0 sc)) ∧ (r38 < a4 → ab_Fr MX3_countFits (d + 1) Q 112 [some (.ref 169), none, some (.int a2), some (.int a3), none, none, none, some (.int a7), some (.long r38), none] [] (0, 0) (i42, l43, dd44, x45) (ab_E0 sc))))))))))))) :
    ab_Fr MX3_countFits (d + 1) Q 45 [some (.ref 169), none, some (.int a2), some (.int a3), some (.long a4), none, none, some (.int a7), none, none] [] (0, 0) (i, l, dd, x) (ab_E0 sc) := by
  refine ab_aloadn dX3_countFits_45 rfl ?_
  refine ab_aloadn dX3_countFits_46 rfl ?_
  obtain ⟨m1, hm2d, hm2, hm2t⟩ := h
  refine ab_getf (v := .ref m1) dX3_countFits_47 fl_X3_15 kd_169 hm2d ?_
  refine ab_getf (v := .int (i m1 1)) dX3_countFits_50 fl_X3_136 (kM hm2) rfl ?_
  refine ab_iconst (v := 1) dX3_countFits_53 (by decide) ?_
  refine ab_isub dX3_countFits_54 ?_
  obtain ⟨r3, P4, hs5, hk6⟩ := hm2t
  refine ab_callV (vs := [.int ((i m1 1) - 1)]) (st := []) dX3_countFits_55 okMX3_areNoted wd_1053 kd_169 rfl rfl rfl (Nat.le_of_ble_eq_true rfl) ⟨Nat.le_of_ble_eq_true rfl, Nat.le_of_ble_eq_true rfl⟩ hs5 ?_
  rintro v9 ⟨i7, l8, dd9, x10⟩ E9 - ⟨rfl, rfl, hp11⟩
  show ab_Fr MX3_countFits (d + 1) Q 58 [some (.ref 169), none, some (.int a2), some (.int a3), some (.long a4), none, none, some (.int a7), none, none] [.int r3] (0, 0) (i7, l8, dd9, x10) (ab_E0 sc)
  refine ab_if_eq (tgt := 131) dX3_countFits_58 (by decide) (fun c12 => ?_) (fun c12 => ?_)
  · exact ((hk6 i7 l8 dd9 x10 hp11).1 c12)
  · refine ab_aloadn dX3_countFits_61 rfl ?_
    refine ab_aloadn dX3_countFits_62 rfl ?_
    obtain ⟨m13, hm14d, hm14, hm14t⟩ := ((hk6 i7 l8 dd9 x10 hp11).2 c12)
    refine ab_getf (v := .ref m13) dX3_countFits_63 fl_X3_15 kd_169 hm14d ?_
    refine ab_aloadn dX3_countFits_66 rfl ?_
    refine ab_getf (v := .ref 173) dX3_countFits_67 fl_X3_29 kd_169 ff_169_5 ?_
    obtain ⟨r15, P16, hs17, hk18⟩ := hm14t
    refine ab_callV (vs := [.ref m13, .ref 173]) (st := []) dX3_countFits_70 okMX3_isFit wd_1056 kd_169 rfl rfl rfl (Nat.le_of_ble_eq_true rfl) ⟨Nat.le_of_ble_eq_true rfl, Nat.le_of_ble_eq_true rfl⟩ hs17 ?_
    rintro v9 ⟨i19, l20, dd21, x22⟩ E9 - ⟨rfl, rfl, hp23⟩
    show ab_Fr MX3_countFits (d + 1) Q 73 [some (.ref 169), none, some (.int a2), some (.int a3), some (.long a4), none, none, some (.int a7), none, none] [.int r15] (0, 0) (i19, l20, dd21, x22) (ab_E0 sc)
    refine ab_if_eq (tgt := 131) dX3_countFits_73 (by decide) (fun c24 => ?_) (fun c24 => ?_)
    · exact ((hk18 i19 l20 dd21 x22 hp23).1 c24)
    · refine ab_aloadn dX3_countFits_76 rfl ?_
      refine ab_aloadn dX3_countFits_77 rfl ?_
      obtain ⟨m25, hm26d, hm26, hm26t⟩ := ((hk18 i19 l20 dd21 x22 hp23).2 c24)
      refine ab_getf (v := .ref m25) dX3_countFits_78 fl_X3_15 kd_169 hm26d ?_
      obtain ⟨P28, hs29, hk30⟩ := hm26t
      refine ab_callV (vs := [.ref m25]) (st := []) dX3_countFits_81 okMX3_countTrial wd_859 kd_169 rfl rfl rfl (Nat.le_of_ble_eq_true rfl) ⟨Nat.le_of_ble_eq_true rfl, Nat.le_of_ble_eq_true rfl⟩ hs29 ?_
      rintro v9 ⟨i31, l32, dd33, x34⟩ E9 - ⟨rfl, rfl, hp35⟩
      show ab_Fr MX3_countFits (d + 1) Q 84 [some (.ref 169), none, some (.int a2), some (.int a3), some (.long a4), none, none, some (.int a7), none, none] [] (0, 0) (i31, l32, dd33, x34) (ab_E0 sc)
      refine ab_aloadn dX3_countFits_84 rfl ?_
      obtain ⟨m36, hm37d, hm37, hm37t⟩ := (hk30 i31 l32 dd33 x34 hp35)
      refine ab_getf (v := .ref m36) dX3_countFits_85 fl_X3_15 kd_169 hm37d ?_
      refine ab_getf (v := .ref (m36 + 2)) dX3_countFits_88 fl_X3_165 (kM hm37) (fM_7 hm37) ?_
      refine ab_aloadn dX3_countFits_91 rfl ?_
      refine ab_getf (v := .ref 172) dX3_countFits_92 fl_X3_26 kd_169 ff_169_4 ?_
      obtain ⟨r38, P39, hs40, hk41⟩ := hm37t
      refine ab_callV (vs := [.ref 172]) (st := []) dX3_countFits_95 okMX0_lostBy wd_863 (kLo (isM_2 hm37)) rfl rfl rfl (Nat.le_of_ble_eq_true rfl) ⟨Nat.le_of_ble_eq_true rfl, Nat.le_of_ble_eq_true rfl⟩ hs40 ?_
      rintro v9 ⟨i42, l43, dd44, x45⟩ E9 - ⟨rfl, rfl, hp46⟩
      show ab_Fr MX3_countFits (d + 1) Q 98 [some (.ref 169), none, some (.int a2), some (.int a3), some (.long a4), none, none, some (.int a7), none, none] [.long r38] (0, 0) (i42, l43, dd44, x45) (ab_E0 sc)
      refine ab_lstore dX3_countFits_98 (Nat.le_of_ble_eq_true rfl) (L2 := [some (.ref 169), none, some (.int a2), some (.int a3), some (.long a4), none, none, some (.int a7), some (.long r38), none]) rfl ?_
      refine ab_iloadn dX3_countFits_100 rfl ?_
      refine ab_if_eq (tgt := 112) dX3_countFits_101 (by decide) (fun c47 => ?_) (fun c47 => ?_)
      · refine ab_forget (i := 4) (L2 := [some (.ref 169), none, some (.int a2), some (.int a3), none, none, none, some (.int a7), some (.long r38), none]) rfl ?_
        exact ((hk41 i42 l43 dd44 x45 hp46).1 c47)
      · refine ab_lload dX3_countFits_104 rfl ?_
        refine ab_lload dX3_countFits_106 rfl ?_
        refine ab_lcge (tgt := 128) dX3_countFits_108 dX3_countFits_109 (by decide) (fun c48 => ?_) (fun c48 => ?_)
        · refine ab_forget (i := 8) (L2 := [some (.ref 169), none, some (.int a2), some (.int a3), some (.long a4), none, none, some (.int a7), none, none]) rfl ?_
          exact (((hk41 i42 l43 dd44 x45 hp46).2 c47).1 c48)
        · refine ab_forget (i := 4) (L2 := [some (.ref 169), none, some (.int a2), some (.int a3), none, none, none, some (.int a7), some (.long r38), none]) rfl ?_
          exact (((hk41 i42 l43 dd44 x45 hp46).2 c47).2 c48)
theorem tMX3_countFits_112 {d : Nat} {Q : ab_Qt} {sc : Nat × (Nat → Int32)} {i : Nat → Nat → Int32} {l : Nat → Nat → Int64} {dd : Nat → Nat → Value} {x : Nat} {a2 : Int32} {a3 : Int32} {a7 : Int32} {a8 : Int64} 
    (h : (∃ m1, dd 169 1 = .ref m1 ∧ ab_isM m1 ∧ ∃ (P4 : ab_S → Prop), ab_Sp MX3_keepVotes d [.ref 169, .ref m1, .ref 175] (i, l, dd, x) (ab_E0 sc) (none) P4 ∧ ∀ i7 l8 dd9 x10, P4 (i7, l8, dd9, x10) → ab_Fr MX3_countFits (d + 1) Q 128 [some (.ref 169), none, some (.int a2), some (.int a3), some (.long a8), none, none, some (.int a7), none, none] [] (0, 0) (i7, l8, dd9, x10) (ab_E0 sc))) :
    ab_Fr MX3_countFits (d + 1) Q 112 [some (.ref 169), none, some (.int a2), some (.int a3), none, none, none, some (.int a7), some (.long a8), none] [] (0, 0) (i, l, dd, x) (ab_E0 sc) := by
  refine ab_lload dX3_countFits_112 rfl ?_
  refine ab_lstore dX3_countFits_114 (Nat.le_of_ble_eq_true rfl) (L2 := [some (.ref 169), none, some (.int a2), some (.int a3), some (.long a8), none, none, some (.int a7), some (.long a8), none]) rfl ?_
  refine ab_aloadn dX3_countFits_116 rfl ?_
  refine ab_aloadn dX3_countFits_117 rfl ?_
  obtain ⟨m1, hm2d, hm2, hm2t⟩ := h
  refine ab_getf (v := .ref m1) dX3_countFits_118 fl_X3_15 kd_169 hm2d ?_
  refine ab_aloadn dX3_countFits_121 rfl ?_
  refine ab_getf (v := .ref 175) dX3_countFits_122 fl_X3_36 kd_169 ff_169_9 ?_
  obtain ⟨P4, hs5, hk6⟩ := hm2t
  refine ab_callV (vs := [.ref m1, .ref 175]) (st := []) dX3_countFits_125 okMX3_keepVotes wd_855 kd_169 rfl rfl rfl (Nat.le_of_ble_eq_true rfl) ⟨Nat.le_of_ble_eq_true rfl, Nat.le_of_ble_eq_true rfl⟩ hs5 ?_
  rintro v9 ⟨i7, l8, dd9, x10⟩ E9 - ⟨rfl, rfl, hp11⟩
  show ab_Fr MX3_countFits (d + 1) Q 128 [some (.ref 169), none, some (.int a2), some (.int a3), some (.long a8), none, none, some (.int a7), some (.long a8), none] [] (0, 0) (i7, l8, dd9, x10) (ab_E0 sc)
  refine ab_forget (i := 8) (L2 := [some (.ref 169), none, some (.int a2), some (.int a3), some (.long a8), none, none, some (.int a7), none, none]) rfl ?_
  exact (hk6 i7 l8 dd9 x10 hp11)
theorem tMX3_countFits_128 {d : Nat} {Q : ab_Qt} {sc : Nat × (Nat → Int32)} {i : Nat → Nat → Int32} {l : Nat → Nat → Int64} {dd : Nat → Nat → Value} {x : Nat} {a2 : Int32} {a3 : Int32} {a4 : Int64} {a7 : Int32} 
    (h : ab_Fr MX3_countFits (d + 1) Q 131 [some (.ref 169), none, some (.int a2), some (.int (a3 + 1)), some (.long a4), none, none, some (.int a7), none, none] [] (0, 0) (i, l, dd, x) (ab_E0 sc)) :
    ab_Fr MX3_countFits (d + 1) Q 128 [some (.ref 169), none, some (.int a2), some (.int a3), some (.long a4), none, none, some (.int a7), none, none] [] (0, 0) (i, l, dd, x) (ab_E0 sc) := by
  refine ab_iinc (v := (a3 + 1)) dX3_countFits_128 rfl (by rfl) (Nat.le_of_ble_eq_true rfl) (L2 := [some (.ref 169), none, some (.int a2), some (.int (a3 + 1)), some (.long a4), none, none, some (.int a7), none, none]) rfl ?_
  exact h
theorem tMX3_countFits_131 {d : Nat} {Q : ab_Qt} {sc : Nat × (Nat → Int32)} {i : Nat → Nat → Int32} {l : Nat → Nat → Int64} {dd : Nat → Nat → Value} {x : Nat} {a2 : Int32} {a3 : Int32} {a4 : Int64} {a7 : Int32} 
    (h : (∃ (r1 : Int32) (P2 : ab_S → Prop), ab_Sp MX3_nextTable d [.ref 169] (i, l, dd, x) (ab_E0 sc) (some (.int r1)) P2 ∧ ∀ i5 l6 dd7 x8, P2 (i5, l6, dd7, x8) → ab_Fr MX3_countFits (d + 1) Q 21 [some (.ref 169), none, some (.int a2), some (.int a3), some (.long a4), none, some (.int r1), some (.int (a7 + 1)), none, none] [] (0, 0) (i5, l6, dd7, x8) (ab_E0 sc))) :
    ab_Fr MX3_countFits (d + 1) Q 131 [some (.ref 169), none, some (.int a2), some (.int a3), some (.long a4), none, none, some (.int a7), none, none] [] (0, 0) (i, l, dd, x) (ab_E0 sc) := by
  refine ab_aloadn dX3_countFits_131 rfl ?_
  obtain ⟨r1, P2, hs3, hk4⟩ := h
  refine ab_callV (vs := []) (st := []) dX3_countFits_132 okMX3_nextTable wd_1057 kd_169 rfl rfl rfl (Nat.le_of_ble_eq_true rfl) ⟨Nat.le_of_ble_eq_true rfl, Nat.le_of_ble_eq_true rfl⟩ hs3 ?_
  rintro v9 ⟨i5, l6, dd7, x8⟩ E9 - ⟨rfl, rfl, hp9⟩
  show ab_Fr MX3_countFits (d + 1) Q 135 [some (.ref 169), none, some (.int a2), some (.int a3), some (.long a4), none, none, some (.int a7), none, none] [.int r1] (0, 0) (i5, l6, dd7, x8) (ab_E0 sc)
  refine ab_istore dX3_countFits_135 (Nat.le_of_ble_eq_true rfl) (L2 := [some (.ref 169), none, some (.int a2), some (.int a3), some (.long a4), none, some (.int r1), some (.int a7), none, none]) rfl ?_
  refine ab_iinc (v := (a7 + 1)) dX3_countFits_137 rfl (by rfl) (Nat.le_of_ble_eq_true rfl) (L2 := [some (.ref 169), none, some (.int a2), some (.int a3), some (.long a4), none, some (.int r1), some (.int (a7 + 1)), none, none]) rfl ?_
  refine ab_goto (tgt := 21) dX3_countFits_140 (by decide) ?_
  exact (hk4 i5 l6 dd7 x8 hp9)
theorem tMX3_layPlaces_0 {d : Nat} {Q : ab_Qt} {sc : Nat × (Nat → Int32)} {i : Nat → Nat → Int32} {l : Nat → Nat → Int64} {dd : Nat → Nat → Value} {x : Nat}  
    (h : (∀ i1, i1 = ab_u i 169 12 0 → ab_Fr MX3_layPlaces (d + 1) Q 9 [some (.ref 169), some (.int 1), some (.int 0), none] [] (0, 0) (i1, l, dd, x) (ab_E0 sc))) :
    ab_Fr MX3_layPlaces (d + 1) Q 0 [some (.ref 169), none, none, none] [] (0, 0) (i, l, dd, x) (ab_E0 sc) := by
  refine ab_aloadn dX3_layPlaces_0 rfl ?_
  refine ab_iconst (v := 0) dX3_layPlaces_1 (by decide) ?_
  refine ab_putI dX3_layPlaces_2 fl_X3_194 kd_169 rfl ?_
  obtain ⟨i1, e2⟩ : ∃ z, z = ab_u i 169 12 0 := ⟨_, rfl⟩
  show ab_Fr MX3_layPlaces (d + 1) Q 5 [some (.ref 169), none, none, none] [] (0, 0) (ab_u i 169 12 0, l, dd, x) (ab_E0 sc)
  rw [show ab_u i 169 12 0 = i1 from e2.symm]
  refine ab_iconst (v := 1) dX3_layPlaces_5 (by decide) ?_
  refine ab_istoren dX3_layPlaces_6 (Nat.le_of_ble_eq_true rfl) (L2 := [some (.ref 169), some (.int 1), none, none]) rfl ?_
  refine ab_iconst (v := 0) dX3_layPlaces_7 (by decide) ?_
  refine ab_istoren dX3_layPlaces_8 (Nat.le_of_ble_eq_true rfl) (L2 := [some (.ref 169), some (.int 1), some (.int 0), none]) rfl ?_
  exact (h i1 e2)
theorem tMX3_layPlaces_9 {d : Nat} {Q : ab_Qt} {sc : Nat × (Nat → Int32)} {i : Nat → Nat → Int32} {l : Nat → Nat → Int64} {dd : Nat → Nat → Value} {x : Nat} {a1 : Int32} {a2 : Int32} 
    (h : (∃ m1, dd 169 1 = .ref m1 ∧ ab_isM m1 ∧ (((i m1 1) ≤ a2 → Q (some (some (.int (if 4096 < a1 then 4096 else a1)))) (i, l, dd, x) (ab_E0 sc)) ∧ (¬ (i m1 1) ≤ a2 → ab_Fr MX3_layPlaces (d + 1) Q 22 [some (.ref 169), some (.int a1), some (.int a2), some (.int 0)] [] (0, 0) (i, l, dd, x) (ab_E0 sc))))) :
    ab_Fr MX3_layPlaces (d + 1) Q 9 [some (.ref 169), some (.int a1), some (.int a2), none] [] (0, 0) (i, l, dd, x) (ab_E0 sc) := by
  refine ab_iloadn dX3_layPlaces_9 rfl ?_
  refine ab_aloadn dX3_layPlaces_10 rfl ?_
  obtain ⟨m1, hm2d, hm2, hm2t⟩ := h
  refine ab_getf (v := .ref m1) dX3_layPlaces_11 fl_X3_15 kd_169 hm2d ?_
  refine ab_getf (v := .int (i m1 1)) dX3_layPlaces_14 fl_X3_136 (kM hm2) rfl ?_
  refine ab_icmp_ge (tgt := 116) dX3_layPlaces_17 (by decide) (fun c3 => ?_) (fun c3 => ?_)
  · refine ab_iloadn dX3_layPlaces_116 rfl ?_
    refine ab_sipush (v := 4096) dX3_layPlaces_117 (by decide) ?_
    refine ab_min (v := (if 4096 < a1 then 4096 else a1)) dX3_layPlaces_120 wd_1049 ⟨wd_567, wd_151, wd_568⟩ (Nat.le_of_ble_eq_true rfl) ⟨Nat.zero_le _, Nat.zero_le _⟩ rfl ?_
    exact ab_iret dX3_layPlaces_123 rfl ⟨Nat.zero_le _, Nat.zero_le _⟩ (hm2t.1 c3)
  · refine ab_iconst (v := 0) dX3_layPlaces_20 (by decide) ?_
    refine ab_istoren dX3_layPlaces_21 (Nat.le_of_ble_eq_true rfl) (L2 := [some (.ref 169), some (.int a1), some (.int a2), some (.int 0)]) rfl ?_
    exact (hm2t.2 c3)
theorem tMX3_layPlaces_22 {d : Nat} {Q : ab_Qt} {sc : Nat × (Nat → Int32)} {i : Nat → Nat → Int32} {l : Nat → Nat → Int64} {dd : Nat → Nat → Value} {x : Nat} {a1 : Int32} {a2 : Int32} {a3 : Int32} 
    (h : (∃ m1, dd 169 1 = .ref m1 ∧ ab_isM m1 ∧ vp_in a2 7 ∧ (((i (m1 + 5 + 6 * a2.toNatClampNeg) 0) ≤ a3 → ab_Fr MX3_layPlaces (d + 1) Q 9 [some (.ref 169), some (.int a1), some (.int (a2 + 1)), none] [] (0, 0) (i, l, dd, x) (ab_E0 sc)) ∧ (¬ (i (m1 + 5 + 6 * a2.toNatClampNeg) 0) ≤ a3 → ((6 ≤ (i 169 12) → ab_Fr MX3_layPlaces (d + 1) Q 9 [some (.ref 169), some (.int a1), some (.int (a2 + 1)), none] [] (0, 0) (i, l, dd, x) (ab_E0 sc)) ∧ (¬ 6 ≤ (i 169 12) → (vp_in (i 169 12) 6 ∧ ∀ i5, i5 = ab_u i 176 (i 169 12).toNatClampNeg ((a2 * 3) + a3) → vp_in (i5 169 12) 6 ∧ ∀ i7, i7 = ab_u i5 177 (i5 169 12).toNatClampNeg 0 → vp_in ((a2 * 3) + a3) 21 ∧ ∀ i9, i9 = ab_u i7 173 ((a2 * 3) + a3).toNatClampNeg 0 → ∀ i11, i11 = ab_u i9 169 12 ((i9 169 12) + 1) → ab_Fr MX3_layPlaces (d + 1) Q 22 [some (.ref 169), some (.int (a1 * ((i11 m1 0) + 1))), some (.int a2), some (.int (a3 + 1))] [] (0, 0) (i11, l, dd, x) (ab_E0 sc)))))))) :
    ab_Fr MX3_layPlaces (d + 1) Q 22 [some (.ref 169), some (.int a1), some (.int a2), some (.int a3)] [] (0, 0) (i, l, dd, x) (ab_E0 sc) := by
  refine ab_iloadn dX3_layPlaces_22 rfl ?_
  refine ab_aloadn dX3_layPlaces_23 rfl ?_
  obtain ⟨m1, hm2d, hm2, hm2t⟩ := h
  refine ab_getf (v := .ref m1) dX3_layPlaces_24 fl_X3_15 kd_169 hm2d ?_
  refine ab_getf (v := .ref (m1 + 4)) dX3_layPlaces_27 fl_X3_111 (kM hm2) (fM_8 hm2) ?_
  refine ab_iloadn dX3_layPlaces_30 rfl ?_
  refine ab_aaload (a := (m1 + 5 + 6 * a2.toNatClampNeg)) dX3_layPlaces_31 (Or.inl rfl) (kM_4 hm2) hm2t.1 (fMv hm2 hm2t.1) ?_
  refine ab_getf (v := .int (i (m1 + 5 + 6 * a2.toNatClampNeg) 0)) dX3_layPlaces_32 fl_X3_143 (kV (isVof hm2 hm2t.1)) rfl ?_
  refine ab_icmp_ge (tgt := 110) dX3_layPlaces_35 (by decide) (fun c3 => ?_) (fun c3 => ?_)
  · refine ab_iinc (v := (a2 + 1)) dX3_layPlaces_110 rfl (by rfl) (Nat.le_of_ble_eq_true rfl) (L2 := [some (.ref 169), some (.int a1), some (.int (a2 + 1)), some (.int a3)]) rfl ?_
    refine ab_goto (tgt := 9) dX3_layPlaces_113 (by decide) ?_
    refine ab_forget (i := 3) (L2 := [some (.ref 169), some (.int a1), some (.int (a2 + 1)), none]) rfl ?_
    exact (hm2t.2.1 c3)
  · refine ab_aloadn dX3_layPlaces_38 rfl ?_
    refine ab_getf (v := .int (i 169 12)) dX3_layPlaces_39 fl_X3_194 kd_169 rfl ?_
    refine ab_bipush (v := 6) dX3_layPlaces_42 (by decide) ?_
    refine ab_icmp_ge (tgt := 110) dX3_layPlaces_44 (by decide) (fun c4 => ?_) (fun c4 => ?_)
    · refine ab_iinc (v := (a2 + 1)) dX3_layPlaces_110 rfl (by rfl) (Nat.le_of_ble_eq_true rfl) (L2 := [some (.ref 169), some (.int a1), some (.int (a2 + 1)), some (.int a3)]) rfl ?_
      refine ab_goto (tgt := 9) dX3_layPlaces_113 (by decide) ?_
      refine ab_forget (i := 3) (L2 := [some (.ref 169), some (.int a1), some (.int (a2 + 1)), none]) rfl ?_
      exact ((hm2t.2.2 c3).1 c4)
    · refine ab_aloadn dX3_layPlaces_47 rfl ?_
      refine ab_getf (v := .ref 176) dX3_layPlaces_48 fl_X3_48 kd_169 ff_169_10 ?_
      refine ab_aloadn dX3_layPlaces_51 rfl ?_
      refine ab_getf (v := .int (i 169 12)) dX3_layPlaces_52 fl_X3_194 kd_169 rfl ?_
      refine ab_iloadn dX3_layPlaces_55 rfl ?_
      refine ab_iconst (v := 3) dX3_layPlaces_56 (by decide) ?_
      refine ab_imul dX3_layPlaces_57 ?_
      refine ab_iloadn dX3_layPlaces_58 rfl ?_
      refine ab_iadd dX3_layPlaces_59 ?_
      refine ab_iastore dX3_layPlaces_60 kd_176 ((hm2t.2.2 c3).2 c4).1 ?_
      obtain ⟨i5, e6⟩ : ∃ z, z = ab_u i 176 (i 169 12).toNatClampNeg ((a2 * 3) + a3) := ⟨_, rfl⟩
      rw [show ab_u i 176 (i 169 12).toNatClampNeg ((a2 * 3) + a3) = i5 from e6.symm]
      refine ab_aloadn dX3_layPlaces_61 rfl ?_
      refine ab_getf (v := .ref 177) dX3_layPlaces_62 fl_X3_51 kd_169 ff_169_11 ?_
      refine ab_aloadn dX3_layPlaces_65 rfl ?_
      refine ab_getf (v := .int (i5 169 12)) dX3_layPlaces_66 fl_X3_194 kd_169 rfl ?_
      refine ab_iconst (v := 0) dX3_layPlaces_69 (by decide) ?_
      refine ab_iastore dX3_layPlaces_70 kd_177 (((hm2t.2.2 c3).2 c4).2 i5 e6).1 ?_
      obtain ⟨i7, e8⟩ : ∃ z, z = ab_u i5 177 (i5 169 12).toNatClampNeg 0 := ⟨_, rfl⟩
      rw [show ab_u i5 177 (i5 169 12).toNatClampNeg 0 = i7 from e8.symm]
      refine ab_aloadn dX3_layPlaces_71 rfl ?_
      refine ab_getf (v := .ref 173) dX3_layPlaces_72 fl_X3_29 kd_169 ff_169_5 ?_
      refine ab_iloadn dX3_layPlaces_75 rfl ?_
      refine ab_iconst (v := 3) dX3_layPlaces_76 (by decide) ?_
      refine ab_imul dX3_layPlaces_77 ?_
      refine ab_iloadn dX3_layPlaces_78 rfl ?_
      refine ab_iadd dX3_layPlaces_79 ?_
      refine ab_iconst (v := 0) dX3_layPlaces_80 (by decide) ?_
      refine ab_iastore dX3_layPlaces_81 kd_173 ((((hm2t.2.2 c3).2 c4).2 i5 e6).2 i7 e8).1 ?_
      obtain ⟨i9, e10⟩ : ∃ z, z = ab_u i7 173 ((a2 * 3) + a3).toNatClampNeg 0 := ⟨_, rfl⟩
      rw [show ab_u i7 173 ((a2 * 3) + a3).toNatClampNeg 0 = i9 from e10.symm]
      refine ab_aloadn dX3_layPlaces_82 rfl ?_
      refine ab_dup dX3_layPlaces_83 rfl ?_
      refine ab_getf (v := .int (i9 169 12)) dX3_layPlaces_84 fl_X3_194 kd_169 rfl ?_
      refine ab_iconst (v := 1) dX3_layPlaces_87 (by decide) ?_
      refine ab_iadd dX3_layPlaces_88 ?_
      refine ab_putI dX3_layPlaces_89 fl_X3_194 kd_169 rfl ?_
      obtain ⟨i11, e12⟩ : ∃ z, z = ab_u i9 169 12 ((i9 169 12) + 1) := ⟨_, rfl⟩
      show ab_Fr MX3_layPlaces (d + 1) Q 92 [some (.ref 169), some (.int a1), some (.int a2), some (.int a3)] [] (0, 0) (ab_u i9 169 12 ((i9 169 12) + 1), l, dd, x) (ab_E0 sc)
      rw [show ab_u i9 169 12 ((i9 169 12) + 1) = i11 from e12.symm]
      refine ab_iloadn dX3_layPlaces_92 rfl ?_
      refine ab_aloadn dX3_layPlaces_93 rfl ?_
      refine ab_getf (v := .ref m1) dX3_layPlaces_94 fl_X3_15 kd_169 hm2d ?_
      refine ab_getf (v := .int (i11 m1 0)) dX3_layPlaces_97 fl_X3_95 (kM hm2) rfl ?_
      refine ab_iconst (v := 1) dX3_layPlaces_100 (by decide) ?_
      refine ab_iadd dX3_layPlaces_101 ?_
      refine ab_imul dX3_layPlaces_102 ?_
      refine ab_istoren dX3_layPlaces_103 (Nat.le_of_ble_eq_true rfl) (L2 := [some (.ref 169), some (.int (a1 * ((i11 m1 0) + 1))), some (.int a2), some (.int a3)]) rfl ?_
      refine ab_iinc (v := (a3 + 1)) dX3_layPlaces_104 rfl (by rfl) (Nat.le_of_ble_eq_true rfl) (L2 := [some (.ref 169), some (.int (a1 * ((i11 m1 0) + 1))), some (.int a2), some (.int (a3 + 1))]) rfl ?_
      refine ab_goto (tgt := 22) dX3_layPlaces_107 (by decide) ?_
      exact ((((((hm2t.2.2 c3).2 c4).2 i5 e6).2 i7 e8).2 i9 e10) i11 e12)
theorem tMX3_noteReplies_0 {d : Nat} {Q : ab_Qt} {sc : Nat × (Nat → Int32)} {i : Nat → Nat → Int32} {l : Nat → Nat → Int64} {dd : Nat → Nat → Value} {x : Nat} {a1 : Int32} 
    (h : (∃ m1, dd 169 1 = .ref m1 ∧ ab_isM m1 ∧ ∃ (P4 : ab_S → Prop), ab_Sp MX3_hearOthers d [.ref 169, .ref m1, .ref 173, .int a1] (i, l, dd, x) (ab_E0 sc) (none) P4 ∧ ∀ i7 l8 dd9 x10, P4 (i7, l8, dd9, x10) → ab_Fr MX3_noteReplies (d + 1) Q 15 [some (.ref 169), some (.int a1), some (.int 0), none] [] (0, 0) (i7, l8, dd9, x10) (ab_E0 sc))) :
    ab_Fr MX3_noteReplies (d + 1) Q 0 [some (.ref 169), some (.int a1), none, none] [] (0, 0) (i, l, dd, x) (ab_E0 sc) := by
  refine ab_aloadn dX3_noteReplies_0 rfl ?_
  refine ab_aloadn dX3_noteReplies_1 rfl ?_
  obtain ⟨m1, hm2d, hm2, hm2t⟩ := h
  refine ab_getf (v := .ref m1) dX3_noteReplies_2 fl_X3_15 kd_169 hm2d ?_
  refine ab_aloadn dX3_noteReplies_5 rfl ?_
  refine ab_getf (v := .ref 173) dX3_noteReplies_6 fl_X3_29 kd_169 ff_169_5 ?_
  refine ab_iloadn dX3_noteReplies_9 rfl ?_
  obtain ⟨P4, hs5, hk6⟩ := hm2t
  refine ab_callV (vs := [.ref m1, .ref 173, .int a1]) (st := []) dX3_noteReplies_10 okMX3_hearOthers wd_842 kd_169 rfl rfl rfl (Nat.le_of_ble_eq_true rfl) ⟨Nat.le_of_ble_eq_true rfl, Nat.le_of_ble_eq_true rfl⟩ hs5 ?_
  rintro v9 ⟨i7, l8, dd9, x10⟩ E9 - ⟨rfl, rfl, hp11⟩
  show ab_Fr MX3_noteReplies (d + 1) Q 13 [some (.ref 169), some (.int a1), none, none] [] (0, 0) (i7, l8, dd9, x10) (ab_E0 sc)
  refine ab_iconst (v := 0) dX3_noteReplies_13 (by decide) ?_
  refine ab_istoren dX3_noteReplies_14 (Nat.le_of_ble_eq_true rfl) (L2 := [some (.ref 169), some (.int a1), some (.int 0), none]) rfl ?_
  exact (hk6 i7 l8 dd9 x10 hp11)
theorem tMX3_noteReplies_15 {d : Nat} {Q : ab_Qt} {sc : Nat × (Nat → Int32)} {i : Nat → Nat → Int32} {l : Nat → Nat → Int64} {dd : Nat → Nat → Value} {x : Nat} {a1 : Int32} {a2 : Int32} 
    (h : (∃ m1, dd 169 1 = .ref m1 ∧ ab_isM m1 ∧ vp_in a1 7 ∧ (((i (m1 + 5 + 6 * a1.toNatClampNeg) 0) ≤ a2 → Q (some none) (i, l, dd, x) (ab_E0 sc)) ∧ (¬ (i (m1 + 5 + 6 * a1.toNatClampNeg) 0) ≤ a2 → (vp_in a2 3 ∧ ∀ i4, i4 = ab_u i 178 a2.toNatClampNeg 0 → ab_Fr MX3_noteReplies (d + 1) Q 40 [some (.ref 169), some (.int a1), some (.int a2), some (.int 0)] [] (0, 0) (i4, l, dd, x) (ab_E0 sc)))))) :
    ab_Fr MX3_noteReplies (d + 1) Q 15 [some (.ref 169), some (.int a1), some (.int a2), none] [] (0, 0) (i, l, dd, x) (ab_E0 sc) := by
  refine ab_iloadn dX3_noteReplies_15 rfl ?_
  refine ab_aloadn dX3_noteReplies_16 rfl ?_
  obtain ⟨m1, hm2d, hm2, hm2t⟩ := h
  refine ab_getf (v := .ref m1) dX3_noteReplies_17 fl_X3_15 kd_169 hm2d ?_
  refine ab_getf (v := .ref (m1 + 4)) dX3_noteReplies_20 fl_X3_111 (kM hm2) (fM_8 hm2) ?_
  refine ab_iloadn dX3_noteReplies_23 rfl ?_
  refine ab_aaload (a := (m1 + 5 + 6 * a1.toNatClampNeg)) dX3_noteReplies_24 (Or.inl rfl) (kM_4 hm2) hm2t.1 (fMv hm2 hm2t.1) ?_
  refine ab_getf (v := .int (i (m1 + 5 + 6 * a1.toNatClampNeg) 0)) dX3_noteReplies_25 fl_X3_143 (kV (isVof hm2 hm2t.1)) rfl ?_
  refine ab_icmp_ge (tgt := 94) dX3_noteReplies_28 (by decide) (fun c3 => ?_) (fun c3 => ?_)
  · exact ab_vret dX3_noteReplies_94 rfl ⟨Nat.zero_le _, Nat.zero_le _⟩ (hm2t.2.1 c3)
  · refine ab_aloadn dX3_noteReplies_31 rfl ?_
    refine ab_getf (v := .ref 178) dX3_noteReplies_32 fl_X3_54 kd_169 ff_169_13 ?_
    refine ab_iloadn dX3_noteReplies_35 rfl ?_
    refine ab_iconst (v := 0) dX3_noteReplies_36 (by decide) ?_
    refine ab_iastore dX3_noteReplies_37 kd_178 (hm2t.2.2 c3).1 ?_
    obtain ⟨i4, e5⟩ : ∃ z, z = ab_u i 178 a2.toNatClampNeg 0 := ⟨_, rfl⟩
    rw [show ab_u i 178 a2.toNatClampNeg 0 = i4 from e5.symm]
    refine ab_iconst (v := 0) dX3_noteReplies_38 (by decide) ?_
    refine ab_istoren dX3_noteReplies_39 (Nat.le_of_ble_eq_true rfl) (L2 := [some (.ref 169), some (.int a1), some (.int a2), some (.int 0)]) rfl ?_
    exact ((hm2t.2.2 c3).2 i4 e5)
theorem tMX3_noteReplies_40 {d : Nat} {Q : ab_Qt} {sc : Nat × (Nat → Int32)} {i : Nat → Nat → Int32} {l : Nat → Nat → Int64} {dd : Nat → Nat → Value} {x : Nat} {a1 : Int32} {a2 : Int32} {a3 : Int32} 
    (h : (∃ m1, dd 169 1 = .ref m1 ∧ ab_isM m1 ∧ (((i m1 0) < a3 → ab_Fr MX3_noteReplies (d + 1) Q 15 [some (.ref 169), some (.int a1), some (.int (a2 + 1)), none] [] (0, 0) (i, l, dd, x) (ab_E0 sc)) ∧ (¬ (i m1 0) < a3 → (∃ (r4 : Int32) (P5 : ab_S → Prop), ab_Sp MX3_voteAt d [.ref 169, .int a3] (i, l, dd, x) (ab_E0 sc) (some (.int r4)) P5 ∧ ∀ i8 l9 dd10 x11, P5 (i8, l9, dd10, x11) → ∃ (r13 : Int32) (P14 : ab_S → Prop), ab_Sp MX3_best d [.ref 169, .int a1, .int a2, .int r4] (i8, l9, dd10, x11) (ab_E0 sc) (some (.int r13)) P14 ∧ ∀ i17 l18 dd19 x20, P14 (i17, l18, dd19, x20) → ∃ (r22 : Int32) (P23 : ab_S → Prop), ab_Sp MX3_voteAt d [.ref 169, .int a3] (i17, l18, dd19, x20) (ab_E0 sc) (some (.int r22)) P23 ∧ ∀ i26 l27 dd28 x29, P23 (i26, l27, dd28, x29) → ((¬ r13 = r22 → ab_Fr MX3_noteReplies (d + 1) Q 40 [some (.ref 169), some (.int a1), some (.int a2), some (.int (a3 + 1))] [] (0, 0) (i26, l27, dd28, x29) (ab_E0 sc)) ∧ (r13 = r22 → (vp_in a2 3 ∧ vp_in a2 3 ∧ ∀ i32, i32 = ab_u i26 178 a2.toNatClampNeg ((i26 178 a2.toNatClampNeg) ||| (1 <<< (a3 &&& 31))) → ab_Fr MX3_noteReplies (d + 1) Q 40 [some (.ref 169), some (.int a1), some (.int a2), some (.int (a3 + 1))] [] (0, 0) (i32, l27, dd28, x29) (ab_E0 sc))))))))) :
    ab_Fr MX3_noteReplies (d + 1) Q 40 [some (.ref 169), some (.int a1), some (.int a2), some (.int a3)] [] (0, 0) (i, l, dd, x) (ab_E0 sc) := by
  refine ab_iloadn dX3_noteReplies_40 rfl ?_
  refine ab_aloadn dX3_noteReplies_41 rfl ?_
  obtain ⟨m1, hm2d, hm2, hm2t⟩ := h
  refine ab_getf (v := .ref m1) dX3_noteReplies_42 fl_X3_15 kd_169 hm2d ?_
  refine ab_getf (v := .int (i m1 0)) dX3_noteReplies_45 fl_X3_95 (kM hm2) rfl ?_
  refine ab_icmp_gt (tgt := 88) dX3_noteReplies_48 (by decide) (fun c3 => ?_) (fun c3 => ?_)
  · refine ab_iinc (v := (a2 + 1)) dX3_noteReplies_88 rfl (by rfl) (Nat.le_of_ble_eq_true rfl) (L2 := [some (.ref 169), some (.int a1), some (.int (a2 + 1)), some (.int a3)]) rfl ?_
    refine ab_goto (tgt := 15) dX3_noteReplies_91 (by decide) ?_
    refine ab_forget (i := 3) (L2 := [some (.ref 169), some (.int a1), some (.int (a2 + 1)), none]) rfl ?_
    exact (hm2t.1 c3)
  · refine ab_aloadn dX3_noteReplies_51 rfl ?_
    refine ab_iloadn dX3_noteReplies_52 rfl ?_
    refine ab_iloadn dX3_noteReplies_53 rfl ?_
    refine ab_aloadn dX3_noteReplies_54 rfl ?_
    refine ab_iloadn dX3_noteReplies_55 rfl ?_
    obtain ⟨r4, P5, hs6, hk7⟩ := (hm2t.2 c3)
    refine ab_callV (vs := [.int a3]) (st := [.int a2, .int a1, .ref 169]) dX3_noteReplies_56 okMX3_voteAt wd_813 kd_169 rfl rfl rfl (Nat.le_of_ble_eq_true rfl) ⟨Nat.le_of_ble_eq_true rfl, Nat.le_of_ble_eq_true rfl⟩ hs6 ?_
    rintro v9 ⟨i8, l9, dd10, x11⟩ E9 - ⟨rfl, rfl, hp12⟩
    show ab_Fr MX3_noteReplies (d + 1) Q 59 [some (.ref 169), some (.int a1), some (.int a2), some (.int a3)] [.int r4, .int a2, .int a1, .ref 169] (0, 0) (i8, l9, dd10, x11) (ab_E0 sc)
    obtain ⟨r13, P14, hs15, hk16⟩ := (hk7 i8 l9 dd10 x11 hp12)
    refine ab_callV (vs := [.int a1, .int a2, .int r4]) (st := []) dX3_noteReplies_59 okMX3_best wd_843 kd_169 rfl rfl rfl (Nat.le_of_ble_eq_true rfl) ⟨Nat.le_of_ble_eq_true rfl, Nat.le_of_ble_eq_true rfl⟩ hs15 ?_
    rintro v9 ⟨i17, l18, dd19, x20⟩ E9 - ⟨rfl, rfl, hp21⟩
    show ab_Fr MX3_noteReplies (d + 1) Q 62 [some (.ref 169), some (.int a1), some (.int a2), some (.int a3)] [.int r13] (0, 0) (i17, l18, dd19, x20) (ab_E0 sc)
    refine ab_aloadn dX3_noteReplies_62 rfl ?_
    refine ab_iloadn dX3_noteReplies_63 rfl ?_
    obtain ⟨r22, P23, hs24, hk25⟩ := (hk16 i17 l18 dd19 x20 hp21)
    refine ab_callV (vs := [.int a3]) (st := [.int r13]) dX3_noteReplies_64 okMX3_voteAt wd_813 kd_169 rfl rfl rfl (Nat.le_of_ble_eq_true rfl) ⟨Nat.le_of_ble_eq_true rfl, Nat.le_of_ble_eq_true rfl⟩ hs24 ?_
    rintro v9 ⟨i26, l27, dd28, x29⟩ E9 - ⟨rfl, rfl, hp30⟩
    show ab_Fr MX3_noteReplies (d + 1) Q 67 [some (.ref 169), some (.int a1), some (.int a2), some (.int a3)] [.int r22, .int r13] (0, 0) (i26, l27, dd28, x29) (ab_E0 sc)
    refine ab_icmp_ne (tgt := 82) dX3_noteReplies_67 (by decide) (fun c31 => ?_) (fun c31 => ?_)
    · refine ab_iinc (v := (a3 + 1)) dX3_noteReplies_82 rfl (by rfl) (Nat.le_of_ble_eq_true rfl) (L2 := [some (.ref 169), some (.int a1), some (.int a2), some (.int (a3 + 1))]) rfl ?_
      refine ab_goto (tgt := 40) dX3_noteReplies_85 (by decide) ?_
      exact ((hk25 i26 l27 dd28 x29 hp30).1 c31)
    · refine ab_aloadn dX3_noteReplies_70 rfl ?_
      refine ab_getf (v := .ref 178) dX3_noteReplies_71 fl_X3_54 kd_169 ff_169_13 ?_
      refine ab_iloadn dX3_noteReplies_74 rfl ?_
      refine ab_dup2 dX3_noteReplies_75 rfl rfl ?_
      refine ab_iaload (v := (i26 178 a2.toNatClampNeg)) dX3_noteReplies_76 kd_178 ((hk25 i26 l27 dd28 x29 hp30).2 c31).1 rfl ?_
      refine ab_iconst (v := 1) dX3_noteReplies_77 (by decide) ?_
      refine ab_iloadn dX3_noteReplies_78 rfl ?_
      refine ab_ishl dX3_noteReplies_79 ?_
      refine ab_ior dX3_noteReplies_80 ?_
      refine ab_iastore dX3_noteReplies_81 kd_178 ((hk25 i26 l27 dd28 x29 hp30).2 c31).2.1 ?_
      obtain ⟨i32, e33⟩ : ∃ z, z = ab_u i26 178 a2.toNatClampNeg ((i26 178 a2.toNatClampNeg) ||| (1 <<< (a3 &&& 31))) := ⟨_, rfl⟩
      rw [show ab_u i26 178 a2.toNatClampNeg ((i26 178 a2.toNatClampNeg) ||| (1 <<< (a3 &&& 31))) = i32 from e33.symm]
      refine ab_iinc (v := (a3 + 1)) dX3_noteReplies_82 rfl (by rfl) (Nat.le_of_ble_eq_true rfl) (L2 := [some (.ref 169), some (.int a1), some (.int a2), some (.int (a3 + 1))]) rfl ?_
      refine ab_goto (tgt := 40) dX3_noteReplies_85 (by decide) ?_
      exact (((hk25 i26 l27 dd28 x29 hp30).2 c31).2.2 i32 e33)
theorem tMX3_areNoted_0 {d : Nat} {Q : ab_Qt} {sc : Nat × (Nat → Int32)} {i : Nat → Nat → Int32} {l : Nat → Nat → Int64} {dd : Nat → Nat → Value} {x : Nat} {a1 : Int32} 
    (h : ab_Fr MX3_areNoted (d + 1) Q 2 [some (.ref 169), some (.int a1), some (.int 0), none, none] [] (0, 0) (i, l, dd, x) (ab_E0 sc)) :
    ab_Fr MX3_areNoted (d + 1) Q 0 [some (.ref 169), some (.int a1), none, none, none] [] (0, 0) (i, l, dd, x) (ab_E0 sc) := by
  refine ab_iconst (v := 0) dX3_areNoted_0 (by decide) ?_
  refine ab_istoren dX3_areNoted_1 (Nat.le_of_ble_eq_true rfl) (L2 := [some (.ref 169), some (.int a1), some (.int 0), none, none]) rfl ?_
  exact h
theorem tMX3_areNoted_2 {d : Nat} {Q : ab_Qt} {sc : Nat × (Nat → Int32)} {i : Nat → Nat → Int32} {l : Nat → Nat → Int64} {dd : Nat → Nat → Value} {x : Nat} {a1 : Int32} {a2 : Int32} 
    (h : (∃ m1, dd 169 1 = .ref m1 ∧ ab_isM m1 ∧ vp_in a1 7 ∧ (((i (m1 + 5 + 6 * a1.toNatClampNeg) 0) ≤ a2 → Q (some (some (.int 1))) (i, l, dd, x) (ab_E0 sc)) ∧ (¬ (i (m1 + 5 + 6 * a1.toNatClampNeg) 0) ≤ a2 → (vp_in ((a1 * 3) + a2) 21 ∧ ∃ (r4 : Int32) (P5 : ab_S → Prop), ab_Sp MX1_hasTruth d [.ref m1, .int (i 173 ((a1 * 3) + a2).toNatClampNeg)] (i, l, dd, x) (ab_E0 sc) (some (.int r4)) P5 ∧ ∀ i8 l9 dd10 x11, P5 (i8, l9, dd10, x11) → ((r4 = 0 → (∃ m14, dd10 169 1 = .ref m14 ∧ ab_isM m14 ∧ ab_Fr MX3_areNoted (d + 1) Q 51 [some (.ref 169), some (.int a1), some (.int a2), none, none] [.int (i8 m14 0)] (0, 0) (i8, l9, dd10, x11) (ab_E0 sc))) ∧ (¬ r4 = 0 → ab_Fr MX3_areNoted (d + 1) Q 51 [some (.ref 169), some (.int a1), some (.int a2), none, none] [.int (i 173 ((a1 * 3) + a2).toNatClampNeg)] (0, 0) (i8, l9, dd10, x11) (ab_E0 sc)))))))) :
    ab_Fr MX3_areNoted (d + 1) Q 2 [some (.ref 169), some (.int a1), some (.int a2), none, none] [] (0, 0) (i, l, dd, x) (ab_E0 sc) := by
  refine ab_iloadn dX3_areNoted_2 rfl ?_
  refine ab_aloadn dX3_areNoted_3 rfl ?_
  obtain ⟨m1, hm2d, hm2, hm2t⟩ := h
  refine ab_getf (v := .ref m1) dX3_areNoted_4 fl_X3_15 kd_169 hm2d ?_
  refine ab_getf (v := .ref (m1 + 4)) dX3_areNoted_7 fl_X3_111 (kM hm2) (fM_8 hm2) ?_
  refine ab_iloadn dX3_areNoted_10 rfl ?_
  refine ab_aaload (a := (m1 + 5 + 6 * a1.toNatClampNeg)) dX3_areNoted_11 (Or.inl rfl) (kM_4 hm2) hm2t.1 (fMv hm2 hm2t.1) ?_
  refine ab_getf (v := .int (i (m1 + 5 + 6 * a1.toNatClampNeg) 0)) dX3_areNoted_12 fl_X3_143 (kV (isVof hm2 hm2t.1)) rfl ?_
  refine ab_icmp_ge (tgt := 75) dX3_areNoted_15 (by decide) (fun c3 => ?_) (fun c3 => ?_)
  · refine ab_iconst (v := 1) dX3_areNoted_75 (by decide) ?_
    exact ab_zret dX3_areNoted_76 rfl (by decide) ⟨Nat.zero_le _, Nat.zero_le _⟩ (hm2t.2.1 c3)
  · refine ab_aloadn dX3_areNoted_18 rfl ?_
    refine ab_getf (v := .ref 173) dX3_areNoted_19 fl_X3_29 kd_169 ff_169_5 ?_
    refine ab_iloadn dX3_areNoted_22 rfl ?_
    refine ab_iconst (v := 3) dX3_areNoted_23 (by decide) ?_
    refine ab_imul dX3_areNoted_24 ?_
    refine ab_iloadn dX3_areNoted_25 rfl ?_
    refine ab_iadd dX3_areNoted_26 ?_
    refine ab_iaload (v := (i 173 ((a1 * 3) + a2).toNatClampNeg)) dX3_areNoted_27 kd_173 (hm2t.2.2 c3).1 rfl ?_
    refine ab_istoren dX3_areNoted_28 (Nat.le_of_ble_eq_true rfl) (L2 := [some (.ref 169), some (.int a1), some (.int a2), some (.int (i 173 ((a1 * 3) + a2).toNatClampNeg)), none]) rfl ?_
    refine ab_aloadn dX3_areNoted_29 rfl ?_
    refine ab_getf (v := .ref m1) dX3_areNoted_30 fl_X3_15 kd_169 hm2d ?_
    refine ab_iloadn dX3_areNoted_33 rfl ?_
    obtain ⟨r4, P5, hs6, hk7⟩ := (hm2t.2.2 c3).2
    refine ab_callV (vs := [.int (i 173 ((a1 * 3) + a2).toNatClampNeg)]) (st := []) dX3_areNoted_34 okMX1_hasTruth wd_827 (kM hm2) rfl rfl rfl (Nat.le_of_ble_eq_true rfl) ⟨Nat.le_of_ble_eq_true rfl, Nat.le_of_ble_eq_true rfl⟩ hs6 ?_
    rintro v9 ⟨i8, l9, dd10, x11⟩ E9 - ⟨rfl, rfl, hp12⟩
    show ab_Fr MX3_areNoted (d + 1) Q 37 [some (.ref 169), some (.int a1), some (.int a2), some (.int (i 173 ((a1 * 3) + a2).toNatClampNeg)), none] [.int r4] (0, 0) (i8, l9, dd10, x11) (ab_E0 sc)
    refine ab_if_eq (tgt := 44) dX3_areNoted_37 (by decide) (fun c13 => ?_) (fun c13 => ?_)
    · refine ab_aloadn dX3_areNoted_44 rfl ?_
      obtain ⟨m14, hm15d, hm15, hm15t⟩ := ((hk7 i8 l9 dd10 x11 hp12).1 c13)
      refine ab_getf (v := .ref m14) dX3_areNoted_45 fl_X3_15 kd_169 hm15d ?_
      refine ab_getf (v := .int (i8 m14 0)) dX3_areNoted_48 fl_X3_95 (kM hm15) rfl ?_
      refine ab_forget (i := 3) (L2 := [some (.ref 169), some (.int a1), some (.int a2), none, none]) rfl ?_
      exact hm15t
    · refine ab_iloadn dX3_areNoted_40 rfl ?_
      refine ab_goto (tgt := 51) dX3_areNoted_41 (by decide) ?_
      refine ab_forget (i := 3) (L2 := [some (.ref 169), some (.int a1), some (.int a2), none, none]) rfl ?_
      exact ((hk7 i8 l9 dd10 x11 hp12).2 c13)
theorem tMX3_areNoted_51 {d : Nat} {Q : ab_Qt} {sc : Nat × (Nat → Int32)} {i : Nat → Nat → Int32} {l : Nat → Nat → Int64} {dd : Nat → Nat → Value} {x : Nat} {a1 : Int32} {a2 : Int32} {s0 : Int32} 
    (h : (vp_in a2 3 ∧ ((¬ (((i 178 a2.toNatClampNeg) >>> (s0 &&& 31)) &&& 1) = 0 → ab_Fr MX3_areNoted (d + 1) Q 2 [some (.ref 169), some (.int a1), some (.int (a2 + 1)), none, none] [] (0, 0) (i, l, dd, x) (ab_E0 sc)) ∧ ((((i 178 a2.toNatClampNeg) >>> (s0 &&& 31)) &&& 1) = 0 → Q (some (some (.int 0))) (i, l, dd, x) (ab_E0 sc))))) :
    ab_Fr MX3_areNoted (d + 1) Q 51 [some (.ref 169), some (.int a1), some (.int a2), none, none] [.int s0] (0, 0) (i, l, dd, x) (ab_E0 sc) := by
  refine ab_istore dX3_areNoted_51 (Nat.le_of_ble_eq_true rfl) (L2 := [some (.ref 169), some (.int a1), some (.int a2), none, some (.int s0)]) rfl ?_
  refine ab_aloadn dX3_areNoted_53 rfl ?_
  refine ab_getf (v := .ref 178) dX3_areNoted_54 fl_X3_54 kd_169 ff_169_13 ?_
  refine ab_iloadn dX3_areNoted_57 rfl ?_
  refine ab_iaload (v := (i 178 a2.toNatClampNeg)) dX3_areNoted_58 kd_178 h.1 rfl ?_
  refine ab_iload dX3_areNoted_59 rfl ?_
  refine ab_ishr dX3_areNoted_61 ?_
  refine ab_iconst (v := 1) dX3_areNoted_62 (by decide) ?_
  refine ab_iand dX3_areNoted_63 ?_
  refine ab_if_ne (tgt := 69) dX3_areNoted_64 (by decide) (fun c1 => ?_) (fun c1 => ?_)
  · refine ab_iinc (v := (a2 + 1)) dX3_areNoted_69 rfl (by rfl) (Nat.le_of_ble_eq_true rfl) (L2 := [some (.ref 169), some (.int a1), some (.int (a2 + 1)), none, some (.int s0)]) rfl ?_
    refine ab_goto (tgt := 2) dX3_areNoted_72 (by decide) ?_
    refine ab_forget (i := 4) (L2 := [some (.ref 169), some (.int a1), some (.int (a2 + 1)), none, none]) rfl ?_
    exact (h.2.1 c1)
  · refine ab_iconst (v := 0) dX3_areNoted_67 (by decide) ?_
    exact ab_zret dX3_areNoted_68 rfl (by decide) ⟨Nat.zero_le _, Nat.zero_le _⟩ (h.2.2 c1)
theorem tMX3_nextTable_0 {d : Nat} {Q : ab_Qt} {sc : Nat × (Nat → Int32)} {i : Nat → Nat → Int32} {l : Nat → Nat → Int64} {dd : Nat → Nat → Value} {x : Nat}  
    (h : ab_Fr MX3_nextTable (d + 1) Q 11 [some (.ref 169), some (.int 1), some (.int 0), some (.int ((i 169 12) - 1))] [] (0, 0) (i, l, dd, x) (ab_E0 sc)) :
    ab_Fr MX3_nextTable (d + 1) Q 0 [some (.ref 169), none, none, none] [] (0, 0) (i, l, dd, x) (ab_E0 sc) := by
  refine ab_iconst (v := 1) dX3_nextTable_0 (by decide) ?_
  refine ab_istoren dX3_nextTable_1 (Nat.le_of_ble_eq_true rfl) (L2 := [some (.ref 169), some (.int 1), none, none]) rfl ?_
  refine ab_iconst (v := 0) dX3_nextTable_2 (by decide) ?_
  refine ab_istoren dX3_nextTable_3 (Nat.le_of_ble_eq_true rfl) (L2 := [some (.ref 169), some (.int 1), some (.int 0), none]) rfl ?_
  refine ab_aloadn dX3_nextTable_4 rfl ?_
  refine ab_getf (v := .int (i 169 12)) dX3_nextTable_5 fl_X3_194 kd_169 rfl ?_
  refine ab_iconst (v := 1) dX3_nextTable_8 (by decide) ?_
  refine ab_isub dX3_nextTable_9 ?_
  refine ab_istoren dX3_nextTable_10 (Nat.le_of_ble_eq_true rfl) (L2 := [some (.ref 169), some (.int 1), some (.int 0), some (.int ((i 169 12) - 1))]) rfl ?_
  exact h
theorem tMX3_nextTable_11 {d : Nat} {Q : ab_Qt} {sc : Nat × (Nat → Int32)} {i : Nat → Nat → Int32} {l : Nat → Nat → Int64} {dd : Nat → Nat → Value} {x : Nat} {a1 : Int32} {a2 : Int32} {a3 : Int32} 
    (h : ((a3 < 0 → ((a2 = 0 ∨ a2 = 1) ∧ Q (some (some (.int a2))) (i, l, dd, x) (ab_E0 sc))) ∧ (¬ a3 < 0 → ((a1 = 0 → ((a2 = 0 ∨ a2 = 1) ∧ Q (some (some (.int a2))) (i, l, dd, x) (ab_E0 sc))) ∧ (¬ a1 = 0 → (vp_in a3 6 ∧ ∃ m3, dd 169 1 = .ref m3 ∧ ab_isM m3 ∧ (((i 177 a3.toNatClampNeg) < (i m3 0) → ab_Fr MX3_nextTable (d + 1) Q 40 [some (.ref 169), none, none, some (.int a3)] [.int 0] (0, 0) (i, l, dd, x) (ab_E0 sc)) ∧ (¬ (i 177 a3.toNatClampNeg) < (i m3 0) → ab_Fr MX3_nextTable (d + 1) Q 40 [some (.ref 169), none, none, some (.int a3)] [.int 1] (0, 0) (i, l, dd, x) (ab_E0 sc))))))))) :
    ab_Fr MX3_nextTable (d + 1) Q 11 [some (.ref 169), some (.int a1), some (.int a2), some (.int a3)] [] (0, 0) (i, l, dd, x) (ab_E0 sc) := by
  refine ab_iloadn dX3_nextTable_11 rfl ?_
  refine ab_if_lt (tgt := 116) dX3_nextTable_12 (by decide) (fun c1 => ?_) (fun c1 => ?_)
  · refine ab_iloadn dX3_nextTable_116 rfl ?_
    exact ab_zret dX3_nextTable_117 rfl (h.1 c1).1 ⟨Nat.zero_le _, Nat.zero_le _⟩ (h.1 c1).2
  · refine ab_iloadn dX3_nextTable_15 rfl ?_
    refine ab_if_eq (tgt := 116) dX3_nextTable_16 (by decide) (fun c2 => ?_) (fun c2 => ?_)
    · refine ab_iloadn dX3_nextTable_116 rfl ?_
      exact ab_zret dX3_nextTable_117 rfl ((h.2 c1).1 c2).1 ⟨Nat.zero_le _, Nat.zero_le _⟩ ((h.2 c1).1 c2).2
    · refine ab_aloadn dX3_nextTable_19 rfl ?_
      refine ab_getf (v := .ref 177) dX3_nextTable_20 fl_X3_51 kd_169 ff_169_11 ?_
      refine ab_iloadn dX3_nextTable_23 rfl ?_
      refine ab_iaload (v := (i 177 a3.toNatClampNeg)) dX3_nextTable_24 kd_177 ((h.2 c1).2 c2).1 rfl ?_
      refine ab_aloadn dX3_nextTable_25 rfl ?_
      obtain ⟨m3, hm4d, hm4, hm4t⟩ := ((h.2 c1).2 c2).2
      refine ab_getf (v := .ref m3) dX3_nextTable_26 fl_X3_15 kd_169 hm4d ?_
      refine ab_getf (v := .int (i m3 0)) dX3_nextTable_29 fl_X3_95 (kM hm4) rfl ?_
      refine ab_icmp_lt (tgt := 39) dX3_nextTable_32 (by decide) (fun c5 => ?_) (fun c5 => ?_)
      · refine ab_iconst (v := 0) dX3_nextTable_39 (by decide) ?_
        refine ab_forget (i := 1) (L2 := [some (.ref 169), none, some (.int a2), some (.int a3)]) rfl ?_
        refine ab_forget (i := 2) (L2 := [some (.ref 169), none, none, some (.int a3)]) rfl ?_
        exact (hm4t.1 c5)
      · refine ab_iconst (v := 1) dX3_nextTable_35 (by decide) ?_
        refine ab_goto (tgt := 40) dX3_nextTable_36 (by decide) ?_
        refine ab_forget (i := 1) (L2 := [some (.ref 169), none, some (.int a2), some (.int a3)]) rfl ?_
        refine ab_forget (i := 2) (L2 := [some (.ref 169), none, none, some (.int a3)]) rfl ?_
        exact (hm4t.2 c5)
theorem tMX3_nextTable_40 {d : Nat} {Q : ab_Qt} {sc : Nat × (Nat → Int32)} {i : Nat → Nat → Int32} {l : Nat → Nat → Int64} {dd : Nat → Nat → Value} {x : Nat} {a3 : Int32} {s0 : Int32} 
    (h : ((s0 = 0 → (vp_in a3 6 ∧ ab_Fr MX3_nextTable (d + 1) Q 62 [some (.ref 169), some (.int s0), none, some (.int a3)] [.int ((i 177 a3.toNatClampNeg) + 1), .int a3, .ref 177] (0, 0) (i, l, dd, x) (ab_E0 sc))) ∧ (¬ s0 = 0 → ab_Fr MX3_nextTable (d + 1) Q 62 [some (.ref 169), some (.int s0), none, some (.int a3)] [.int 0, .int a3, .ref 177] (0, 0) (i, l, dd, x) (ab_E0 sc)))) :
    ab_Fr MX3_nextTable (d + 1) Q 40 [some (.ref 169), none, none, some (.int a3)] [.int s0] (0, 0) (i, l, dd, x) (ab_E0 sc) := by
  refine ab_istoren dX3_nextTable_40 (Nat.le_of_ble_eq_true rfl) (L2 := [some (.ref 169), some (.int s0), none, some (.int a3)]) rfl ?_
  refine ab_aloadn dX3_nextTable_41 rfl ?_
  refine ab_getf (v := .ref 177) dX3_nextTable_42 fl_X3_51 kd_169 ff_169_11 ?_
  refine ab_iloadn dX3_nextTable_45 rfl ?_
  refine ab_iloadn dX3_nextTable_46 rfl ?_
  refine ab_if_eq (tgt := 54) dX3_nextTable_47 (by decide) (fun c1 => ?_) (fun c1 => ?_)
  · refine ab_aloadn dX3_nextTable_54 rfl ?_
    refine ab_getf (v := .ref 177) dX3_nextTable_55 fl_X3_51 kd_169 ff_169_11 ?_
    refine ab_iloadn dX3_nextTable_58 rfl ?_
    refine ab_iaload (v := (i 177 a3.toNatClampNeg)) dX3_nextTable_59 kd_177 (h.1 c1).1 rfl ?_
    refine ab_iconst (v := 1) dX3_nextTable_60 (by decide) ?_
    refine ab_iadd dX3_nextTable_61 ?_
    exact (h.1 c1).2
  · refine ab_iconst (v := 0) dX3_nextTable_50 (by decide) ?_
    refine ab_goto (tgt := 62) dX3_nextTable_51 (by decide) ?_
    exact (h.2 c1)
theorem tMX3_nextTable_62 {d : Nat} {Q : ab_Qt} {sc : Nat × (Nat → Int32)} {i : Nat → Nat → Int32} {l : Nat → Nat → Int64} {dd : Nat → Nat → Value} {x : Nat} {a1 : Int32} {a3 : Int32} {s0 : Nat} {n_s0 : Nat} {s1 : Int32} {s2 : Int32} (k_s0 : (ab_E0 sc).1 s0 = .inr (0, n_s0))
    (h : (vp_in s1 n_s0 ∧ ∀ i1, i1 = ab_u i s0 s1.toNatClampNeg s2 → vp_in a3 6 ∧ vp_in a3 6 ∧ ∃ (r3 : Int32) (P4 : ab_S → Prop), ab_Sp MX3_voteAt d [.ref 169, .int (i1 177 a3.toNatClampNeg)] (i1, l, dd, x) (ab_E0 sc) (some (.int r3)) P4 ∧ ∀ i7 l8 dd9 x10, P4 (i7, l8, dd9, x10) → vp_in (i1 176 a3.toNatClampNeg) 21 ∧ ∀ i12, i12 = ab_u i7 173 (i1 176 a3.toNatClampNeg).toNatClampNeg r3 → vp_in a3 6 ∧ ∃ m14, dd9 169 1 = .ref m14 ∧ ab_isM m14 ∧ (((((i12 m14 1) - 1) * 3) ≤ (i12 176 a3.toNatClampNeg) → ab_Fr MX3_nextTable (d + 1) Q 11 [some (.ref 169), some (.int a1), some (.int 0), some (.int (a3 + (-1)))] [] (0, 0) (i12, l8, dd9, x10) (ab_E0 sc)) ∧ (¬ (((i12 m14 1) - 1) * 3) ≤ (i12 176 a3.toNatClampNeg) → ab_Fr MX3_nextTable (d + 1) Q 11 [some (.ref 169), some (.int a1), some (.int 1), some (.int (a3 + (-1)))] [] (0, 0) (i12, l8, dd9, x10) (ab_E0 sc))))) :
    ab_Fr MX3_nextTable (d + 1) Q 62 [some (.ref 169), some (.int a1), none, some (.int a3)] [.int s2, .int s1, .ref s0] (0, 0) (i, l, dd, x) (ab_E0 sc) := by
  refine ab_iastore dX3_nextTable_62 k_s0 h.1 ?_
  obtain ⟨i1, e2⟩ : ∃ z, z = ab_u i s0 s1.toNatClampNeg s2 := ⟨_, rfl⟩
  rw [show ab_u i s0 s1.toNatClampNeg s2 = i1 from e2.symm]
  refine ab_aloadn dX3_nextTable_63 rfl ?_
  refine ab_getf (v := .ref 173) dX3_nextTable_64 fl_X3_29 kd_169 ff_169_5 ?_
  refine ab_aloadn dX3_nextTable_67 rfl ?_
  refine ab_getf (v := .ref 176) dX3_nextTable_68 fl_X3_48 kd_169 ff_169_10 ?_
  refine ab_iloadn dX3_nextTable_71 rfl ?_
  refine ab_iaload (v := (i1 176 a3.toNatClampNeg)) dX3_nextTable_72 kd_176 (h.2 i1 e2).1 rfl ?_
  refine ab_aloadn dX3_nextTable_73 rfl ?_
  refine ab_aloadn dX3_nextTable_74 rfl ?_
  refine ab_getf (v := .ref 177) dX3_nextTable_75 fl_X3_51 kd_169 ff_169_11 ?_
  refine ab_iloadn dX3_nextTable_78 rfl ?_
  refine ab_iaload (v := (i1 177 a3.toNatClampNeg)) dX3_nextTable_79 kd_177 (h.2 i1 e2).2.1 rfl ?_
  obtain ⟨r3, P4, hs5, hk6⟩ := (h.2 i1 e2).2.2
  refine ab_callV (vs := [.int (i1 177 a3.toNatClampNeg)]) (st := [.int (i1 176 a3.toNatClampNeg), .ref 173]) dX3_nextTable_80 okMX3_voteAt wd_813 kd_169 rfl rfl rfl (Nat.le_of_ble_eq_true rfl) ⟨Nat.le_of_ble_eq_true rfl, Nat.le_of_ble_eq_true rfl⟩ hs5 ?_
  rintro v9 ⟨i7, l8, dd9, x10⟩ E9 - ⟨rfl, rfl, hp11⟩
  show ab_Fr MX3_nextTable (d + 1) Q 83 [some (.ref 169), some (.int a1), none, some (.int a3)] [.int r3, .int (i1 176 a3.toNatClampNeg), .ref 173] (0, 0) (i7, l8, dd9, x10) (ab_E0 sc)
  refine ab_iastore dX3_nextTable_83 kd_173 (hk6 i7 l8 dd9 x10 hp11).1 ?_
  obtain ⟨i12, e13⟩ : ∃ z, z = ab_u i7 173 (i1 176 a3.toNatClampNeg).toNatClampNeg r3 := ⟨_, rfl⟩
  rw [show ab_u i7 173 (i1 176 a3.toNatClampNeg).toNatClampNeg r3 = i12 from e13.symm]
  refine ab_aloadn dX3_nextTable_84 rfl ?_
  refine ab_getf (v := .ref 176) dX3_nextTable_85 fl_X3_48 kd_169 ff_169_10 ?_
  refine ab_iloadn dX3_nextTable_88 rfl ?_
  refine ab_iaload (v := (i12 176 a3.toNatClampNeg)) dX3_nextTable_89 kd_176 ((hk6 i7 l8 dd9 x10 hp11).2 i12 e13).1 rfl ?_
  refine ab_aloadn dX3_nextTable_90 rfl ?_
  obtain ⟨m14, hm15d, hm15, hm15t⟩ := ((hk6 i7 l8 dd9 x10 hp11).2 i12 e13).2
  refine ab_getf (v := .ref m14) dX3_nextTable_91 fl_X3_15 kd_169 hm15d ?_
  refine ab_getf (v := .int (i12 m14 1)) dX3_nextTable_94 fl_X3_136 (kM hm15) rfl ?_
  refine ab_iconst (v := 1) dX3_nextTable_97 (by decide) ?_
  refine ab_isub dX3_nextTable_98 ?_
  refine ab_iconst (v := 3) dX3_nextTable_99 (by decide) ?_
  refine ab_imul dX3_nextTable_100 ?_
  refine ab_icmp_ge (tgt := 108) dX3_nextTable_101 (by decide) (fun c16 => ?_) (fun c16 => ?_)
  · refine ab_iconst (v := 0) dX3_nextTable_108 (by decide) ?_
    refine ab_istoren dX3_nextTable_109 (Nat.le_of_ble_eq_true rfl) (L2 := [some (.ref 169), some (.int a1), some (.int 0), some (.int a3)]) rfl ?_
    refine ab_iinc (v := (a3 + (-1))) dX3_nextTable_110 rfl (by rfl) (Nat.le_of_ble_eq_true rfl) (L2 := [some (.ref 169), some (.int a1), some (.int 0), some (.int (a3 + (-1)))]) rfl ?_
    refine ab_goto (tgt := 11) dX3_nextTable_113 (by decide) ?_
    exact (hm15t.1 c16)
  · refine ab_iconst (v := 1) dX3_nextTable_104 (by decide) ?_
    refine ab_goto (tgt := 109) dX3_nextTable_105 (by decide) ?_
    refine ab_istoren dX3_nextTable_109 (Nat.le_of_ble_eq_true rfl) (L2 := [some (.ref 169), some (.int a1), some (.int 1), some (.int a3)]) rfl ?_
    refine ab_iinc (v := (a3 + (-1))) dX3_nextTable_110 rfl (by rfl) (Nat.le_of_ble_eq_true rfl) (L2 := [some (.ref 169), some (.int a1), some (.int 1), some (.int (a3 + (-1)))]) rfl ?_
    refine ab_goto (tgt := 11) dX3_nextTable_113 (by decide) ?_
    exact (hm15t.2 c16)
theorem tMX3_countTurns_0 {d : Nat} {Q : ab_Qt} {sc : Nat × (Nat → Int32)} {i : Nat → Nat → Int32} {l : Nat → Nat → Int64} {dd : Nat → Nat → Value} {x : Nat} {a1 : Nat} {a2 : Int32} {a3 : Int32} (k_a1 : ab_isM a1)
    (h : (∀ dd1, dd1 = ab_u dd 169 1 (.ref a1) → ∃ (P4 : ab_S → Prop), ab_Sp MX11_empty d [.ref 171] (i, l, dd1, x) (ab_E0 sc) (none) P4 ∧ ∀ i7 l8 dd9 x10, P4 (i7, l8, dd9, x10) → ∃ m12, dd9 169 1 = .ref m12 ∧ ab_isM m12 ∧ ∃ (P15 : ab_S → Prop), ab_Sp MX4_voting d [.ref 160, .ref m12, .ref (m12 + 47)] (i7, l8, dd9, x10) (ab_E0 sc) (none) P15 ∧ ∀ i18 l19 dd20 x21, P15 (i18, l19, dd20, x21) → ∃ (P24 : ab_S → Prop), ab_Sp MX4_pin d [.ref 160, .int a2, .int a3, .int 9] (i18, l19, dd20, x21) (ab_E0 sc) (none) P24 ∧ ∀ i27 l28 dd29 x30, P24 (i27, l28, dd29, x30) → ∃ (r32 : Int32) (P33 : ab_S → Prop), ab_Sp MX4_first d [.ref 160] (i27, l28, dd29, x30) (ab_E0 sc) (some (.int r32)) P33 ∧ ∀ i36 l37 dd38 x39, P33 (i36, l37, dd38, x39) → ab_Fr MX3_countTurns (d + 1) Q 53 [some (.ref 169), none, some (.int a2), none, some (.int r32), some (.int 0), none] [] (0, 0) (i36, l37, dd38, x39) (ab_E0 sc))) :
    ab_Fr MX3_countTurns (d + 1) Q 0 [some (.ref 169), some (.ref a1), some (.int a2), some (.int a3), none, none, none] [] (0, 0) (i, l, dd, x) (ab_E0 sc) := by
  refine ab_aloadn dX3_countTurns_0 rfl ?_
  refine ab_aloadn dX3_countTurns_1 rfl ?_
  refine ab_putR dX3_countTurns_2 fl_X3_15 kd_169 rfl ?_
  obtain ⟨dd1, e2⟩ : ∃ z, z = ab_u dd 169 1 (.ref a1) := ⟨_, rfl⟩
  show ab_Fr MX3_countTurns (d + 1) Q 5 [some (.ref 169), some (.ref a1), some (.int a2), some (.int a3), none, none, none] [] (0, 0) (i, l, ab_u dd 169 1 (.ref a1), x) (ab_E0 sc)
  rw [show ab_u dd 169 1 (.ref a1) = dd1 from e2.symm]
  refine ab_aloadn dX3_countTurns_5 rfl ?_
  refine ab_getf (v := .ref 171) dX3_countTurns_6 fl_X3_23 kd_169 ff_169_3 ?_
  obtain ⟨P4, hs5, hk6⟩ := (h dd1 e2)
  refine ab_callN (vs := [.ref 171]) (st := []) dX3_countTurns_9 okMX11_empty (List.mem_of_getElem? (i := 1) rfl) rfl rfl (Nat.le_of_ble_eq_true rfl) ⟨Nat.le_of_ble_eq_true rfl, Nat.le_of_ble_eq_true rfl⟩ hs5 ?_
  rintro v9 ⟨i7, l8, dd9, x10⟩ E9 - ⟨rfl, rfl, hp11⟩
  show ab_Fr MX3_countTurns (d + 1) Q 12 [some (.ref 169), some (.ref a1), some (.int a2), some (.int a3), none, none, none] [] (0, 0) (i7, l8, dd9, x10) (ab_E0 sc)
  refine ab_aloadn dX3_countTurns_12 rfl ?_
  refine ab_getf (v := .ref 160) dX3_countTurns_13 fl_X3_9 kd_169 ff_169_0 ?_
  refine ab_aloadn dX3_countTurns_16 rfl ?_
  obtain ⟨m12, hm13d, hm13, hm13t⟩ := (hk6 i7 l8 dd9 x10 hp11)
  refine ab_getf (v := .ref m12) dX3_countTurns_17 fl_X3_15 kd_169 hm13d ?_
  refine ab_aloadn dX3_countTurns_20 rfl ?_
  refine ab_getf (v := .ref m12) dX3_countTurns_21 fl_X3_15 kd_169 hm13d ?_
  refine ab_getf (v := .ref (m12 + 47)) dX3_countTurns_24 fl_X3_61 (kM hm13) (fM_9 hm13) ?_
  obtain ⟨P15, hs16, hk17⟩ := hm13t
  refine ab_callV (vs := [.ref m12, .ref (m12 + 47)]) (st := []) dX3_countTurns_27 okMX4_voting wd_804 kd_160 rfl rfl rfl (Nat.le_of_ble_eq_true rfl) ⟨Nat.le_of_ble_eq_true rfl, Nat.le_of_ble_eq_true rfl⟩ hs16 ?_
  rintro v9 ⟨i18, l19, dd20, x21⟩ E9 - ⟨rfl, rfl, hp22⟩
  show ab_Fr MX3_countTurns (d + 1) Q 30 [some (.ref 169), some (.ref a1), some (.int a2), some (.int a3), none, none, none] [] (0, 0) (i18, l19, dd20, x21) (ab_E0 sc)
  refine ab_aloadn dX3_countTurns_30 rfl ?_
  refine ab_getf (v := .ref 160) dX3_countTurns_31 fl_X3_9 kd_169 ff_169_0 ?_
  refine ab_iloadn dX3_countTurns_34 rfl ?_
  refine ab_iloadn dX3_countTurns_35 rfl ?_
  refine ab_bipush (v := 9) dX3_countTurns_36 (by decide) ?_
  obtain ⟨P24, hs25, hk26⟩ := (hk17 i18 l19 dd20 x21 hp22)
  refine ab_callV (vs := [.int a2, .int a3, .int 9]) (st := []) dX3_countTurns_38 okMX4_pin wd_1208 kd_160 rfl rfl rfl (Nat.le_of_ble_eq_true rfl) ⟨Nat.le_of_ble_eq_true rfl, Nat.le_of_ble_eq_true rfl⟩ hs25 ?_
  rintro v9 ⟨i27, l28, dd29, x30⟩ E9 - ⟨rfl, rfl, hp31⟩
  show ab_Fr MX3_countTurns (d + 1) Q 41 [some (.ref 169), some (.ref a1), some (.int a2), some (.int a3), none, none, none] [] (0, 0) (i27, l28, dd29, x30) (ab_E0 sc)
  refine ab_aloadn dX3_countTurns_41 rfl ?_
  refine ab_getf (v := .ref 160) dX3_countTurns_42 fl_X3_9 kd_169 ff_169_0 ?_
  obtain ⟨r32, P33, hs34, hk35⟩ := (hk26 i27 l28 dd29 x30 hp31)
  refine ab_callV (vs := []) (st := []) dX3_countTurns_45 okMX4_first wd_809 kd_160 rfl rfl rfl (Nat.le_of_ble_eq_true rfl) ⟨Nat.le_of_ble_eq_true rfl, Nat.le_of_ble_eq_true rfl⟩ hs34 ?_
  rintro v9 ⟨i36, l37, dd38, x39⟩ E9 - ⟨rfl, rfl, hp40⟩
  show ab_Fr MX3_countTurns (d + 1) Q 48 [some (.ref 169), some (.ref a1), some (.int a2), some (.int a3), none, none, none] [.int r32] (0, 0) (i36, l37, dd38, x39) (ab_E0 sc)
  refine ab_istore dX3_countTurns_48 (Nat.le_of_ble_eq_true rfl) (L2 := [some (.ref 169), some (.ref a1), some (.int a2), some (.int a3), some (.int r32), none, none]) rfl ?_
  refine ab_iconst (v := 0) dX3_countTurns_50 (by decide) ?_
  refine ab_istore dX3_countTurns_51 (Nat.le_of_ble_eq_true rfl) (L2 := [some (.ref 169), some (.ref a1), some (.int a2), some (.int a3), some (.int r32), some (.int 0), none]) rfl ?_
  refine ab_forget (i := 1) (L2 := [some (.ref 169), none, some (.int a2), some (.int a3), some (.int r32), some (.int 0), none]) rfl ?_
  refine ab_forget (i := 3) (L2 := [some (.ref 169), none, some (.int a2), none, some (.int r32), some (.int 0), none]) rfl ?_
  exact (hk35 i36 l37 dd38 x39 hp40)
theorem tMX3_countTurns_53 {d : Nat} {Q : ab_Qt} {sc : Nat × (Nat → Int32)} {i : Nat → Nat → Int32} {l : Nat → Nat → Int64} {dd : Nat → Nat → Value} {x : Nat} {a2 : Int32} {a4 : Int32} {a5 : Int32} 
    (h : ((a4 ≤ a5 → Q (some none) (i, l, dd, x) (ab_E0 sc)) ∧ (¬ a4 ≤ a5 → (∃ (r2 : Int32) (P3 : ab_S → Prop), ab_Sp MX3_turnsNow d [.ref 169, .int a2] (i, l, dd, x) (ab_E0 sc) (some (.int r2)) P3 ∧ ∀ i6 l7 dd8 x9, P3 (i6, l7, dd8, x9) → ((r2 = 0 → ab_Fr MX3_countTurns (d + 1) Q 102 [some (.ref 169), none, some (.int a2), none, some (.int a4), some (.int a5), none] [] (0, 0) (i6, l7, dd8, x9) (ab_E0 sc)) ∧ (¬ r2 = 0 → ab_Fr MX3_countTurns (d + 1) Q 71 [some (.ref 169), none, some (.int a2), none, some (.int a4), some (.int a5), some (.int 0)] [] (0, 0) (i6, l7, dd8, x9) (ab_E0 sc))))))) :
    ab_Fr MX3_countTurns (d + 1) Q 53 [some (.ref 169), none, some (.int a2), none, some (.int a4), some (.int a5), none] [] (0, 0) (i, l, dd, x) (ab_E0 sc) := by
  refine ab_iload dX3_countTurns_53 rfl ?_
  refine ab_iload dX3_countTurns_55 rfl ?_
  refine ab_icmp_ge (tgt := 115) dX3_countTurns_57 (by decide) (fun c1 => ?_) (fun c1 => ?_)
  · exact ab_vret dX3_countTurns_115 rfl ⟨Nat.zero_le _, Nat.zero_le _⟩ (h.1 c1)
  · refine ab_aloadn dX3_countTurns_60 rfl ?_
    refine ab_iloadn dX3_countTurns_61 rfl ?_
    obtain ⟨r2, P3, hs4, hk5⟩ := (h.2 c1)
    refine ab_callV (vs := [.int a2]) (st := []) dX3_countTurns_62 okMX3_turnsNow wd_1212 kd_169 rfl rfl rfl (Nat.le_of_ble_eq_true rfl) ⟨Nat.le_of_ble_eq_true rfl, Nat.le_of_ble_eq_true rfl⟩ hs4 ?_
    rintro v9 ⟨i6, l7, dd8, x9⟩ E9 - ⟨rfl, rfl, hp10⟩
    show ab_Fr MX3_countTurns (d + 1) Q 65 [some (.ref 169), none, some (.int a2), none, some (.int a4), some (.int a5), none] [.int r2] (0, 0) (i6, l7, dd8, x9) (ab_E0 sc)
    refine ab_if_eq (tgt := 102) dX3_countTurns_65 (by decide) (fun c11 => ?_) (fun c11 => ?_)
    · exact ((hk5 i6 l7 dd8 x9 hp10).1 c11)
    · refine ab_iconst (v := 0) dX3_countTurns_68 (by decide) ?_
      refine ab_istore dX3_countTurns_69 (Nat.le_of_ble_eq_true rfl) (L2 := [some (.ref 169), none, some (.int a2), none, some (.int a4), some (.int a5), some (.int 0)]) rfl ?_
      exact ((hk5 i6 l7 dd8 x9 hp10).2 c11)
theorem tMX3_countTurns_71 {d : Nat} {Q : ab_Qt} {sc : Nat × (Nat → Int32)} {i : Nat → Nat → Int32} {l : Nat → Nat → Int64} {dd : Nat → Nat → Value} {x : Nat} {a2 : Int32} {a4 : Int32} {a5 : Int32} {a6 : Int32} 
    (h : ((3 ≤ a6 → ab_Fr MX3_countTurns (d + 1) Q 102 [some (.ref 169), none, some (.int a2), none, some (.int a4), some (.int a5), none] [] (0, 0) (i, l, dd, x) (ab_E0 sc)) ∧ (¬ 3 ≤ a6 → (vp_in a6 3 ∧ ∃ (r2 : Int64) (P3 : ab_S → Prop), ab_Sp MX4_partsNow d [.ref 160, .int a6] (i, l, dd, x) (ab_E0 sc) (some (.long r2)) P3 ∧ ∀ i6 l7 dd8 x9, P3 (i6, l7, dd8, x9) → vp_in a6 3 ∧ ∀ l11, l11 = ab_u l7 171 a6.toNatClampNeg ((l 171 a6.toNatClampNeg) + r2) → ab_Fr MX3_countTurns (d + 1) Q 71 [some (.ref 169), none, some (.int a2), none, some (.int a4), some (.int a5), some (.int (a6 + 1))] [] (0, 0) (i6, l11, dd8, x9) (ab_E0 sc))))) :
    ab_Fr MX3_countTurns (d + 1) Q 71 [some (.ref 169), none, some (.int a2), none, some (.int a4), some (.int a5), some (.int a6)] [] (0, 0) (i, l, dd, x) (ab_E0 sc) := by
  refine ab_iload dX3_countTurns_71 rfl ?_
  refine ab_iconst (v := 3) dX3_countTurns_73 (by decide) ?_
  refine ab_icmp_ge (tgt := 102) dX3_countTurns_74 (by decide) (fun c1 => ?_) (fun c1 => ?_)
  · refine ab_forget (i := 6) (L2 := [some (.ref 169), none, some (.int a2), none, some (.int a4), some (.int a5), none]) rfl ?_
    exact (h.1 c1)
  · refine ab_aloadn dX3_countTurns_77 rfl ?_
    refine ab_getf (v := .ref 171) dX3_countTurns_78 fl_X3_23 kd_169 ff_169_3 ?_
    refine ab_iload dX3_countTurns_81 rfl ?_
    refine ab_dup2 dX3_countTurns_83 rfl rfl ?_
    refine ab_laload (v := (l 171 a6.toNatClampNeg)) dX3_countTurns_84 kd_171 (h.2 c1).1 rfl ?_
    refine ab_aloadn dX3_countTurns_85 rfl ?_
    refine ab_getf (v := .ref 160) dX3_countTurns_86 fl_X3_9 kd_169 ff_169_0 ?_
    refine ab_iload dX3_countTurns_89 rfl ?_
    obtain ⟨r2, P3, hs4, hk5⟩ := (h.2 c1).2
    refine ab_callV (vs := [.int a6]) (st := [.long (l 171 a6.toNatClampNeg), .int a6, .ref 171]) dX3_countTurns_91 okMX4_partsNow wd_821 kd_160 rfl rfl rfl (Nat.le_of_ble_eq_true rfl) ⟨Nat.le_of_ble_eq_true rfl, Nat.le_of_ble_eq_true rfl⟩ hs4 ?_
    rintro v9 ⟨i6, l7, dd8, x9⟩ E9 - ⟨rfl, rfl, hp10⟩
    show ab_Fr MX3_countTurns (d + 1) Q 94 [some (.ref 169), none, some (.int a2), none, some (.int a4), some (.int a5), some (.int a6)] [.long r2, .long (l 171 a6.toNatClampNeg), .int a6, .ref 171] (0, 0) (i6, l7, dd8, x9) (ab_E0 sc)
    refine ab_ladd dX3_countTurns_94 ?_
    refine ab_lastore dX3_countTurns_95 kd_171 (hk5 i6 l7 dd8 x9 hp10).1 ?_
    obtain ⟨l11, e12⟩ : ∃ z, z = ab_u l7 171 a6.toNatClampNeg ((l 171 a6.toNatClampNeg) + r2) := ⟨_, rfl⟩
    rw [show ab_u l7 171 a6.toNatClampNeg ((l 171 a6.toNatClampNeg) + r2) = l11 from e12.symm]
    refine ab_iinc (v := (a6 + 1)) dX3_countTurns_96 rfl (by rfl) (Nat.le_of_ble_eq_true rfl) (L2 := [some (.ref 169), none, some (.int a2), none, some (.int a4), some (.int a5), some (.int (a6 + 1))]) rfl ?_
    refine ab_goto (tgt := 71) dX3_countTurns_99 (by decide) ?_
    exact ((hk5 i6 l7 dd8 x9 hp10).2 l11 e12)
theorem tMX3_countTurns_102 {d : Nat} {Q : ab_Qt} {sc : Nat × (Nat → Int32)} {i : Nat → Nat → Int32} {l : Nat → Nat → Int64} {dd : Nat → Nat → Value} {x : Nat} {a2 : Int32} {a4 : Int32} {a5 : Int32} 
    (h : (∃ (P2 : ab_S → Prop), ab_Sp MX4_step d [.ref 160] (i, l, dd, x) (ab_E0 sc) (none) P2 ∧ ∀ i5 l6 dd7 x8, P2 (i5, l6, dd7, x8) → ab_Fr MX3_countTurns (d + 1) Q 53 [some (.ref 169), none, some (.int a2), none, some (.int a4), some (.int (a5 + 1)), none] [] (0, 0) (i5, l6, dd7, x8) (ab_E0 sc))) :
    ab_Fr MX3_countTurns (d + 1) Q 102 [some (.ref 169), none, some (.int a2), none, some (.int a4), some (.int a5), none] [] (0, 0) (i, l, dd, x) (ab_E0 sc) := by
  refine ab_aloadn dX3_countTurns_102 rfl ?_
  refine ab_getf (v := .ref 160) dX3_countTurns_103 fl_X3_9 kd_169 ff_169_0 ?_
  obtain ⟨P2, hs3, hk4⟩ := h
  refine ab_callV (vs := []) (st := []) dX3_countTurns_106 okMX4_step wd_822 kd_160 rfl rfl rfl (Nat.le_of_ble_eq_true rfl) ⟨Nat.le_of_ble_eq_true rfl, Nat.le_of_ble_eq_true rfl⟩ hs3 ?_
  rintro v9 ⟨i5, l6, dd7, x8⟩ E9 - ⟨rfl, rfl, hp9⟩
  show ab_Fr MX3_countTurns (d + 1) Q 109 [some (.ref 169), none, some (.int a2), none, some (.int a4), some (.int a5), none] [] (0, 0) (i5, l6, dd7, x8) (ab_E0 sc)
  refine ab_iinc (v := (a5 + 1)) dX3_countTurns_109 rfl (by rfl) (Nat.le_of_ble_eq_true rfl) (L2 := [some (.ref 169), none, some (.int a2), none, some (.int a4), some (.int (a5 + 1)), none]) rfl ?_
  refine ab_goto (tgt := 53) dX3_countTurns_112 (by decide) ?_
  exact (hk4 i5 l6 dd7 x8 hp9)
theorem tMX3_turnsNow_0 {d : Nat} {Q : ab_Qt} {sc : Nat × (Nat → Int32)} {i : Nat → Nat → Int32} {l : Nat → Nat → Int64} {dd : Nat → Nat → Value} {x : Nat} {a1 : Int32} 
    (h : (∃ (r1 : Int32) (P2 : ab_S → Prop), ab_Sp MX4_decidesIf d [.ref 160, .int a1, .int 9] (i, l, dd, x) (ab_E0 sc) (some (.int r1)) P2 ∧ ∀ i5 l6 dd7 x8, P2 (i5, l6, dd7, x8) → ab_Fr MX3_turnsNow (d + 1) Q 13 [some (.ref 169), some (.int a1), some (.int r1), some (.int 0)] [] (0, 0) (i5, l6, dd7, x8) (ab_E0 sc))) :
    ab_Fr MX3_turnsNow (d + 1) Q 0 [some (.ref 169), some (.int a1), none, none] [] (0, 0) (i, l, dd, x) (ab_E0 sc) := by
  refine ab_aloadn dX3_turnsNow_0 rfl ?_
  refine ab_getf (v := .ref 160) dX3_turnsNow_1 fl_X3_9 kd_169 ff_169_0 ?_
  refine ab_iloadn dX3_turnsNow_4 rfl ?_
  refine ab_bipush (v := 9) dX3_turnsNow_5 (by decide) ?_
  obtain ⟨r1, P2, hs3, hk4⟩ := h
  refine ab_callV (vs := [.int a1, .int 9]) (st := []) dX3_turnsNow_7 okMX4_decidesIf wd_816 kd_160 rfl rfl rfl (Nat.le_of_ble_eq_true rfl) ⟨Nat.le_of_ble_eq_true rfl, Nat.le_of_ble_eq_true rfl⟩ hs3 ?_
  rintro v9 ⟨i5, l6, dd7, x8⟩ E9 - ⟨rfl, rfl, hp9⟩
  show ab_Fr MX3_turnsNow (d + 1) Q 10 [some (.ref 169), some (.int a1), none, none] [.int r1] (0, 0) (i5, l6, dd7, x8) (ab_E0 sc)
  refine ab_istoren dX3_turnsNow_10 (Nat.le_of_ble_eq_true rfl) (L2 := [some (.ref 169), some (.int a1), some (.int r1), none]) rfl ?_
  refine ab_iconst (v := 0) dX3_turnsNow_11 (by decide) ?_
  refine ab_istoren dX3_turnsNow_12 (Nat.le_of_ble_eq_true rfl) (L2 := [some (.ref 169), some (.int a1), some (.int r1), some (.int 0)]) rfl ?_
  exact (hk4 i5 l6 dd7 x8 hp9)
theorem tMX3_turnsNow_13 {d : Nat} {Q : ab_Qt} {sc : Nat × (Nat → Int32)} {i : Nat → Nat → Int32} {l : Nat → Nat → Int64} {dd : Nat → Nat → Value} {x : Nat} {a1 : Int32} {a2 : Int32} {a3 : Int32} 
    (h : (∃ m1, dd 169 1 = .ref m1 ∧ ab_isM m1 ∧ (((i m1 0) ≤ a3 → Q (some (some (.int 0))) (i, l, dd, x) (ab_E0 sc)) ∧ (¬ (i m1 0) ≤ a3 → (∃ (r4 : Int32) (P5 : ab_S → Prop), ab_Sp MX4_decidesIf d [.ref 160, .int a1, .int a3] (i, l, dd, x) (ab_E0 sc) (some (.int r4)) P5 ∧ ∀ i8 l9 dd10 x11, P5 (i8, l9, dd10, x11) → ((r4 = a2 → ab_Fr MX3_turnsNow (d + 1) Q 13 [some (.ref 169), some (.int a1), some (.int a2), some (.int (a3 + 1))] [] (0, 0) (i8, l9, dd10, x11) (ab_E0 sc)) ∧ (¬ r4 = a2 → Q (some (some (.int 1))) (i8, l9, dd10, x11) (ab_E0 sc)))))))) :
    ab_Fr MX3_turnsNow (d + 1) Q 13 [some (.ref 169), some (.int a1), some (.int a2), some (.int a3)] [] (0, 0) (i, l, dd, x) (ab_E0 sc) := by
  refine ab_iloadn dX3_turnsNow_13 rfl ?_
  refine ab_aloadn dX3_turnsNow_14 rfl ?_
  obtain ⟨m1, hm2d, hm2, hm2t⟩ := h
  refine ab_getf (v := .ref m1) dX3_turnsNow_15 fl_X3_15 kd_169 hm2d ?_
  refine ab_getf (v := .int (i m1 0)) dX3_turnsNow_18 fl_X3_95 (kM hm2) rfl ?_
  refine ab_icmp_ge (tgt := 45) dX3_turnsNow_21 (by decide) (fun c3 => ?_) (fun c3 => ?_)
  · refine ab_iconst (v := 0) dX3_turnsNow_45 (by decide) ?_
    exact ab_zret dX3_turnsNow_46 rfl (by decide) ⟨Nat.zero_le _, Nat.zero_le _⟩ (hm2t.1 c3)
  · refine ab_aloadn dX3_turnsNow_24 rfl ?_
    refine ab_getf (v := .ref 160) dX3_turnsNow_25 fl_X3_9 kd_169 ff_169_0 ?_
    refine ab_iloadn dX3_turnsNow_28 rfl ?_
    refine ab_iloadn dX3_turnsNow_29 rfl ?_
    obtain ⟨r4, P5, hs6, hk7⟩ := (hm2t.2 c3)
    refine ab_callV (vs := [.int a1, .int a3]) (st := []) dX3_turnsNow_30 okMX4_decidesIf wd_816 kd_160 rfl rfl rfl (Nat.le_of_ble_eq_true rfl) ⟨Nat.le_of_ble_eq_true rfl, Nat.le_of_ble_eq_true rfl⟩ hs6 ?_
    rintro v9 ⟨i8, l9, dd10, x11⟩ E9 - ⟨rfl, rfl, hp12⟩
    show ab_Fr MX3_turnsNow (d + 1) Q 33 [some (.ref 169), some (.int a1), some (.int a2), some (.int a3)] [.int r4] (0, 0) (i8, l9, dd10, x11) (ab_E0 sc)
    refine ab_iloadn dX3_turnsNow_33 rfl ?_
    refine ab_icmp_eq (tgt := 39) dX3_turnsNow_34 (by decide) (fun c13 => ?_) (fun c13 => ?_)
    · refine ab_iinc (v := (a3 + 1)) dX3_turnsNow_39 rfl (by rfl) (Nat.le_of_ble_eq_true rfl) (L2 := [some (.ref 169), some (.int a1), some (.int a2), some (.int (a3 + 1))]) rfl ?_
      refine ab_goto (tgt := 13) dX3_turnsNow_42 (by decide) ?_
      exact ((hk7 i8 l9 dd10 x11 hp12).1 c13)
    · refine ab_iconst (v := 1) dX3_turnsNow_37 (by decide) ?_
      exact ab_zret dX3_turnsNow_38 rfl (by decide) ⟨Nat.zero_le _, Nat.zero_le _⟩ ((hk7 i8 l9 dd10 x11 hp12).2 c13)
theorem tMX8_speakAll_0 {d : Nat} {Q : ab_Qt} {sc : Nat × (Nat → Int32)} {i : Nat → Nat → Int32} {l : Nat → Nat → Int64} {dd : Nat → Nat → Value} {x : Nat} {a0 : Nat} {a1 : Nat} {a2 : Nat} {n_a2 : Nat} (k_a0 : ab_isT a0) (k_a1 : ab_isM a1) (k_a2 : (ab_E0 sc).1 a2 = .inr (0, n_a2))
    (h : (∀ dd1, dd1 = ab_u dd a0 0 (.ref a1) → ab_Fr MX8_speakAll (d + 1) Q 7 [some (.ref a0), none, some (.ref a2), some (.int 0)] [] (0, 0) (i, l, dd1, x) (ab_E0 sc))) :
    ab_Fr MX8_speakAll (d + 1) Q 0 [some (.ref a0), some (.ref a1), some (.ref a2), none] [] (0, 0) (i, l, dd, x) (ab_E0 sc) := by
  refine ab_aloadn dX8_speakAll_0 rfl ?_
  refine ab_aloadn dX8_speakAll_1 rfl ?_
  refine ab_putR dX8_speakAll_2 fl_X8_9 (kT k_a0) rfl ?_
  obtain ⟨dd1, e2⟩ : ∃ z, z = ab_u dd a0 0 (.ref a1) := ⟨_, rfl⟩
  show ab_Fr MX8_speakAll (d + 1) Q 5 [some (.ref a0), some (.ref a1), some (.ref a2), none] [] (0, 0) (i, l, ab_u dd a0 0 (.ref a1), x) (ab_E0 sc)
  rw [show ab_u dd a0 0 (.ref a1) = dd1 from e2.symm]
  refine ab_iconst (v := 0) dX8_speakAll_5 (by decide) ?_
  refine ab_istoren dX8_speakAll_6 (Nat.le_of_ble_eq_true rfl) (L2 := [some (.ref a0), some (.ref a1), some (.ref a2), some (.int 0)]) rfl ?_
  refine ab_forget (i := 1) (L2 := [some (.ref a0), none, some (.ref a2), some (.int 0)]) rfl ?_
  exact (h dd1 e2)
theorem tMX8_speakAll_7 {d : Nat} {Q : ab_Qt} {sc : Nat × (Nat → Int32)} {i : Nat → Nat → Int32} {l : Nat → Nat → Int64} {dd : Nat → Nat → Value} {x : Nat} {a0 : Nat} {a2 : Nat} {n_a2 : Nat} {a3 : Int32} (k_a0 : ab_isT a0) (k_a2 : (ab_E0 sc).1 a2 = .inr (0, n_a2))
    (h : (∃ m1, dd a0 0 = .ref m1 ∧ ab_isM m1 ∧ (((i m1 1) ≤ a3 → (∃ (P5 : ab_S → Prop), ab_Sp MX8_speakInOrder d [.ref a0] (i, l, dd, x) (ab_E0 sc) (none) P5 ∧ ∀ i8 l9 dd10 x11, P5 (i8, l9, dd10, x11) → Q (some none) (i8, l9, dd10, x11) (ab_E0 sc))) ∧ (¬ (i m1 1) ≤ a3 → (vp_in a3 n_a2 ∧ vp_in a3 7 ∧ ∀ i13, i13 = ab_u i (a0 + 1) a3.toNatClampNeg (i a2 a3.toNatClampNeg) → ab_Fr MX8_speakAll (d + 1) Q 7 [some (.ref a0), none, some (.ref a2), some (.int (a3 + 1))] [] (0, 0) (i13, l, dd, x) (ab_E0 sc)))))) :
    ab_Fr MX8_speakAll (d + 1) Q 7 [some (.ref a0), none, some (.ref a2), some (.int a3)] [] (0, 0) (i, l, dd, x) (ab_E0 sc) := by
  refine ab_iloadn dX8_speakAll_7 rfl ?_
  refine ab_aloadn dX8_speakAll_8 rfl ?_
  obtain ⟨m1, hm2d, hm2, hm2t⟩ := h
  refine ab_getf (v := .ref m1) dX8_speakAll_9 fl_X8_9 (kT k_a0) hm2d ?_
  refine ab_getf (v := .int (i m1 1)) dX8_speakAll_12 fl_X8_42 (kM hm2) rfl ?_
  refine ab_icmp_ge (tgt := 33) dX8_speakAll_15 (by decide) (fun c3 => ?_) (fun c3 => ?_)
  · refine ab_aloadn dX8_speakAll_33 rfl ?_
    obtain ⟨P5, hs6, hk7⟩ := (hm2t.1 c3)
    refine ab_callV (vs := []) (st := []) dX8_speakAll_34 okMX8_speakInOrder wd_888 (kT k_a0) rfl rfl rfl (Nat.le_of_ble_eq_true rfl) ⟨Nat.le_of_ble_eq_true rfl, Nat.le_of_ble_eq_true rfl⟩ hs6 ?_
    rintro v9 ⟨i8, l9, dd10, x11⟩ E9 - ⟨rfl, rfl, hp12⟩
    show ab_Fr MX8_speakAll (d + 1) Q 37 [some (.ref a0), none, some (.ref a2), some (.int a3)] [] (0, 0) (i8, l9, dd10, x11) (ab_E0 sc)
    exact ab_vret dX8_speakAll_37 rfl ⟨Nat.zero_le _, Nat.zero_le _⟩ (hk7 i8 l9 dd10 x11 hp12)
  · refine ab_aloadn dX8_speakAll_18 rfl ?_
    refine ab_getf (v := .ref (a0 + 1)) dX8_speakAll_19 fl_X8_15 (kT k_a0) (fT_1 k_a0) ?_
    refine ab_iloadn dX8_speakAll_22 rfl ?_
    refine ab_aloadn dX8_speakAll_23 rfl ?_
    refine ab_iloadn dX8_speakAll_24 rfl ?_
    refine ab_iaload (v := (i a2 a3.toNatClampNeg)) dX8_speakAll_25 k_a2 (hm2t.2 c3).1 rfl ?_
    refine ab_iastore dX8_speakAll_26 (kT_1 k_a0) (hm2t.2 c3).2.1 ?_
    obtain ⟨i13, e14⟩ : ∃ z, z = ab_u i (a0 + 1) a3.toNatClampNeg (i a2 a3.toNatClampNeg) := ⟨_, rfl⟩
    rw [show ab_u i (a0 + 1) a3.toNatClampNeg (i a2 a3.toNatClampNeg) = i13 from e14.symm]
    refine ab_iinc (v := (a3 + 1)) dX8_speakAll_27 rfl (by rfl) (Nat.le_of_ble_eq_true rfl) (L2 := [some (.ref a0), none, some (.ref a2), some (.int (a3 + 1))]) rfl ?_
    refine ab_goto (tgt := 7) dX8_speakAll_30 (by decide) ?_
    exact ((hm2t.2 c3).2.2 i13 e14)
theorem tMX8_speakInOrder_0 {d : Nat} {Q : ab_Qt} {sc : Nat × (Nat → Int32)} {i : Nat → Nat → Int32} {l : Nat → Nat → Int64} {dd : Nat → Nat → Value} {x : Nat} {a0 : Nat} (k_a0 : ab_isT a0)
    (h : (∃ (P2 : ab_S → Prop), ab_Sp MX11_empty d [.ref (a0 + 5)] (i, l, dd, x) (ab_E0 sc) (none) P2 ∧ ∀ i5 l6 dd7 x8, P2 (i5, l6, dd7, x8) → ∀ l10, l10 = ab_u l6 a0 6 0 → ∀ l12, l12 = ab_u l10 a0 7 0 → ∃ (P15 : ab_S → Prop), ab_Sp MX8_openTalk d [.ref a0] (i5, l12, dd7, x8) (ab_E0 sc) (none) P15 ∧ ∀ i18 l19 dd20 x21, P15 (i18, l19, dd20, x21) → ∃ (P24 : ab_S → Prop), ab_Sp MX8_speak d [.ref a0, .int 0, .int (-1), .int 0] (i18, l19, dd20, x21) (ab_E0 sc) (none) P24 ∧ ∀ i27 l28 dd29 x30, P24 (i27, l28, dd29, x30) → Q (some none) (i27, l28, dd29, x30) (ab_E0 sc))) :
    ab_Fr MX8_speakInOrder (d + 1) Q 0 [some (.ref a0)] [] (0, 0) (i, l, dd, x) (ab_E0 sc) := by
  refine ab_aloadn dX8_speakInOrder_0 rfl ?_
  refine ab_getf (v := .ref (a0 + 5)) dX8_speakInOrder_1 fl_X8_29 (kT k_a0) (fT_5 k_a0) ?_
  obtain ⟨P2, hs3, hk4⟩ := h
  refine ab_callN (vs := [.ref (a0 + 5)]) (st := []) dX8_speakInOrder_4 okMX11_empty (List.mem_of_getElem? (i := 3) rfl) rfl rfl (Nat.le_of_ble_eq_true rfl) ⟨Nat.le_of_ble_eq_true rfl, Nat.le_of_ble_eq_true rfl⟩ hs3 ?_
  rintro v9 ⟨i5, l6, dd7, x8⟩ E9 - ⟨rfl, rfl, hp9⟩
  show ab_Fr MX8_speakInOrder (d + 1) Q 7 [some (.ref a0)] [] (0, 0) (i5, l6, dd7, x8) (ab_E0 sc)
  refine ab_aloadn dX8_speakInOrder_7 rfl ?_
  refine ab_lconst (v := 0) dX8_speakInOrder_8 (by decide) ?_
  refine ab_putL dX8_speakInOrder_9 fl_X8_53 (kT k_a0) rfl ?_
  obtain ⟨l10, e11⟩ : ∃ z, z = ab_u l6 a0 6 0 := ⟨_, rfl⟩
  show ab_Fr MX8_speakInOrder (d + 1) Q 12 [some (.ref a0)] [] (0, 0) (i5, ab_u l6 a0 6 0, dd7, x8) (ab_E0 sc)
  rw [show ab_u l6 a0 6 0 = l10 from e11.symm]
  refine ab_aloadn dX8_speakInOrder_12 rfl ?_
  refine ab_lconst (v := 0) dX8_speakInOrder_13 (by decide) ?_
  refine ab_putL dX8_speakInOrder_14 fl_X8_57 (kT k_a0) rfl ?_
  obtain ⟨l12, e13⟩ : ∃ z, z = ab_u l10 a0 7 0 := ⟨_, rfl⟩
  show ab_Fr MX8_speakInOrder (d + 1) Q 17 [some (.ref a0)] [] (0, 0) (i5, ab_u l10 a0 7 0, dd7, x8) (ab_E0 sc)
  rw [show ab_u l10 a0 7 0 = l12 from e13.symm]
  refine ab_aloadn dX8_speakInOrder_17 rfl ?_
  obtain ⟨P15, hs16, hk17⟩ := (((hk4 i5 l6 dd7 x8 hp9) l10 e11) l12 e13)
  refine ab_callV (vs := []) (st := []) dX8_speakInOrder_18 okMX8_openTalk wd_891 (kT k_a0) rfl rfl rfl (Nat.le_of_ble_eq_true rfl) ⟨Nat.le_of_ble_eq_true rfl, Nat.le_of_ble_eq_true rfl⟩ hs16 ?_
  rintro v9 ⟨i18, l19, dd20, x21⟩ E9 - ⟨rfl, rfl, hp22⟩
  show ab_Fr MX8_speakInOrder (d + 1) Q 21 [some (.ref a0)] [] (0, 0) (i18, l19, dd20, x21) (ab_E0 sc)
  refine ab_aloadn dX8_speakInOrder_21 rfl ?_
  refine ab_iconst (v := 0) dX8_speakInOrder_22 (by decide) ?_
  refine ab_iconst (v := (-1)) dX8_speakInOrder_23 (by decide) ?_
  refine ab_iconst (v := 0) dX8_speakInOrder_24 (by decide) ?_
  obtain ⟨P24, hs25, hk26⟩ := (hk17 i18 l19 dd20 x21 hp22)
  refine ab_callV (vs := [.int 0, .int (-1), .int 0]) (st := []) dX8_speakInOrder_25 okMX8_speak wd_894 (kT k_a0) rfl rfl rfl (Nat.le_of_ble_eq_true rfl) ⟨Nat.le_of_ble_eq_true rfl, Nat.le_of_ble_eq_true rfl⟩ hs25 ?_
  rintro v9 ⟨i27, l28, dd29, x30⟩ E9 - ⟨rfl, rfl, hp31⟩
  show ab_Fr MX8_speakInOrder (d + 1) Q 28 [some (.ref a0)] [] (0, 0) (i27, l28, dd29, x30) (ab_E0 sc)
  exact ab_vret dX8_speakInOrder_28 rfl ⟨Nat.zero_le _, Nat.zero_le _⟩ (hk26 i27 l28 dd29 x30 hp31)
theorem tMX8_openTalk_0 {d : Nat} {Q : ab_Qt} {sc : Nat × (Nat → Int32)} {i : Nat → Nat → Int32} {l : Nat → Nat → Int64} {dd : Nat → Nat → Value} {x : Nat} {a0 : Nat} (k_a0 : ab_isT a0)
    (h : ab_Fr MX8_openTalk (d + 1) Q 2 [some (.ref a0), some (.int 0)] [] (0, 0) (i, l, dd, x) (ab_E0 sc)) :
    ab_Fr MX8_openTalk (d + 1) Q 0 [some (.ref a0), none] [] (0, 0) (i, l, dd, x) (ab_E0 sc) := by
  refine ab_iconst (v := 0) dX8_openTalk_0 (by decide) ?_
  refine ab_istoren dX8_openTalk_1 (Nat.le_of_ble_eq_true rfl) (L2 := [some (.ref a0), some (.int 0)]) rfl ?_
  exact h
theorem tMX8_openTalk_2 {d : Nat} {Q : ab_Qt} {sc : Nat × (Nat → Int32)} {i : Nat → Nat → Int32} {l : Nat → Nat → Int64} {dd : Nat → Nat → Value} {x : Nat} {a0 : Nat} {a1 : Int32} (k_a0 : ab_isT a0)
    (h : ((3 ≤ a1 → Q (some none) (i, l, dd, x) (ab_E0 sc)) ∧ (¬ 3 ≤ a1 → (∃ m2, dd a0 0 = .ref m2 ∧ ab_isM m2 ∧ vp_in a1 3 ∧ vp_in a1 24 ∧ ∀ l4, l4 = ab_u l (a0 + 3) a1.toNatClampNeg ((i (m2 + 1) a1.toNatClampNeg).toInt64) → ab_Fr MX8_openTalk (d + 1) Q 2 [some (.ref a0), some (.int (a1 + 1))] [] (0, 0) (i, l4, dd, x) (ab_E0 sc))))) :
    ab_Fr MX8_openTalk (d + 1) Q 2 [some (.ref a0), some (.int a1)] [] (0, 0) (i, l, dd, x) (ab_E0 sc) := by
  refine ab_iloadn dX8_openTalk_2 rfl ?_
  refine ab_iconst (v := 3) dX8_openTalk_3 (by decide) ?_
  refine ab_icmp_ge (tgt := 29) dX8_openTalk_4 (by decide) (fun c1 => ?_) (fun c1 => ?_)
  · exact ab_vret dX8_openTalk_29 rfl ⟨Nat.zero_le _, Nat.zero_le _⟩ (h.1 c1)
  · refine ab_aloadn dX8_openTalk_7 rfl ?_
    refine ab_getf (v := .ref (a0 + 3)) dX8_openTalk_8 fl_X8_22 (kT k_a0) (fT_3 k_a0) ?_
    refine ab_iloadn dX8_openTalk_11 rfl ?_
    refine ab_aloadn dX8_openTalk_12 rfl ?_
    obtain ⟨m2, hm3d, hm3, hm3t⟩ := (h.2 c1)
    refine ab_getf (v := .ref m2) dX8_openTalk_13 fl_X8_9 (kT k_a0) hm3d ?_
    refine ab_getf (v := .ref (m2 + 1)) dX8_openTalk_16 fl_X8_67 (kM hm3) (fM_6 hm3) ?_
    refine ab_iloadn dX8_openTalk_19 rfl ?_
    refine ab_iaload (v := (i (m2 + 1) a1.toNatClampNeg)) dX8_openTalk_20 (kM_1 hm3) hm3t.1 rfl ?_
    refine ab_i2l dX8_openTalk_21 rfl ?_
    refine ab_lastore dX8_openTalk_22 (kT_3 k_a0) hm3t.2.1 ?_
    obtain ⟨l4, e5⟩ : ∃ z, z = ab_u l (a0 + 3) a1.toNatClampNeg ((i (m2 + 1) a1.toNatClampNeg).toInt64) := ⟨_, rfl⟩
    rw [show ab_u l (a0 + 3) a1.toNatClampNeg ((i (m2 + 1) a1.toNatClampNeg).toInt64) = l4 from e5.symm]
    refine ab_iinc (v := (a1 + 1)) dX8_openTalk_23 rfl (by rfl) (Nat.le_of_ble_eq_true rfl) (L2 := [some (.ref a0), some (.int (a1 + 1))]) rfl ?_
    refine ab_goto (tgt := 2) dX8_openTalk_26 (by decide) ?_
    exact (hm3t.2.2 l4 e5)
theorem tMX8_speak_0 {d : Nat} {Q : ab_Qt} {sc : Nat × (Nat → Int32)} {i : Nat → Nat → Int32} {l : Nat → Nat → Int64} {dd : Nat → Nat → Value} {x : Nat} {a0 : Nat} {a1 : Int32} {a2 : Int32} {a3 : Int32} (k_a0 : ab_isT a0)
    (h : (∃ m1, dd a0 0 = .ref m1 ∧ ab_isM m1 ∧ (((i m1 1) ≤ a1 → ab_Fr MX8_speak (d + 1) Q 17 [some (.ref a0), none, some (.int a2), some (.int a3), none, none] [] (0, 0) (i, l, dd, x) (ab_E0 sc)) ∧ (¬ (i m1 1) ≤ a1 → ((a1 < 7 → (∃ (P6 : ab_S → Prop), ab_Sp MX8_ponder d [.ref a0, .int a1] (i, l, dd, x) (ab_E0 sc) (none) P6 ∧ ∀ i9 l10 dd11 x12, P6 (i9, l10, dd11, x12) → ∃ (r14 : Int32) (P15 : ab_S → Prop), ab_Sp MX8_cliffAt d [.ref a0, .int a1, .int a2] (i9, l10, dd11, x12) (ab_E0 sc) (some (.int r14)) P15 ∧ ∀ i18 l19 dd20 x21, P15 (i18, l19, dd20, x21) → ab_Fr MX8_speak (d + 1) Q 40 [some (.ref a0), some (.int a1), none, none, some (.int r14), some (.int 0)] [] (0, 0) (i18, l19, dd20, x21) (ab_E0 sc))) ∧ (¬ a1 < 7 → ab_Fr MX8_speak (d + 1) Q 17 [some (.ref a0), none, some (.int a2), some (.int a3), none, none] [] (0, 0) (i, l, dd, x) (ab_E0 sc))))))) :
    ab_Fr MX8_speak (d + 1) Q 0 [some (.ref a0), some (.int a1), some (.int a2), some (.int a3), none, none] [] (0, 0) (i, l, dd, x) (ab_E0 sc) := by
  refine ab_iloadn dX8_speak_0 rfl ?_
  refine ab_aloadn dX8_speak_1 rfl ?_
  obtain ⟨m1, hm2d, hm2, hm2t⟩ := h
  refine ab_getf (v := .ref m1) dX8_speak_2 fl_X8_9 (kT k_a0) hm2d ?_
  refine ab_getf (v := .int (i m1 1)) dX8_speak_5 fl_X8_42 (kM hm2) rfl ?_
  refine ab_icmp_ge (tgt := 17) dX8_speak_8 (by decide) (fun c3 => ?_) (fun c3 => ?_)
  · refine ab_forget (i := 1) (L2 := [some (.ref a0), none, some (.int a2), some (.int a3), none, none]) rfl ?_
    exact (hm2t.1 c3)
  · refine ab_iloadn dX8_speak_11 rfl ?_
    refine ab_bipush (v := 7) dX8_speak_12 (by decide) ?_
    refine ab_icmp_lt (tgt := 24) dX8_speak_14 (by decide) (fun c4 => ?_) (fun c4 => ?_)
    · refine ab_aloadn dX8_speak_24 rfl ?_
      refine ab_iloadn dX8_speak_25 rfl ?_
      obtain ⟨P6, hs7, hk8⟩ := ((hm2t.2 c3).1 c4)
      refine ab_callV (vs := [.int a1]) (st := []) dX8_speak_26 okMX8_ponder wd_900 (kT k_a0) rfl rfl rfl (Nat.le_of_ble_eq_true rfl) ⟨Nat.le_of_ble_eq_true rfl, Nat.le_of_ble_eq_true rfl⟩ hs7 ?_
      rintro v9 ⟨i9, l10, dd11, x12⟩ E9 - ⟨rfl, rfl, hp13⟩
      show ab_Fr MX8_speak (d + 1) Q 29 [some (.ref a0), some (.int a1), some (.int a2), some (.int a3), none, none] [] (0, 0) (i9, l10, dd11, x12) (ab_E0 sc)
      refine ab_aloadn dX8_speak_29 rfl ?_
      refine ab_iloadn dX8_speak_30 rfl ?_
      refine ab_iloadn dX8_speak_31 rfl ?_
      obtain ⟨r14, P15, hs16, hk17⟩ := (hk8 i9 l10 dd11 x12 hp13)
      refine ab_callV (vs := [.int a1, .int a2]) (st := []) dX8_speak_32 okMX8_cliffAt wd_904 (kT k_a0) rfl rfl rfl (Nat.le_of_ble_eq_true rfl) ⟨Nat.le_of_ble_eq_true rfl, Nat.le_of_ble_eq_true rfl⟩ hs16 ?_
      rintro v9 ⟨i18, l19, dd20, x21⟩ E9 - ⟨rfl, rfl, hp22⟩
      show ab_Fr MX8_speak (d + 1) Q 35 [some (.ref a0), some (.int a1), some (.int a2), some (.int a3), none, none] [.int r14] (0, 0) (i18, l19, dd20, x21) (ab_E0 sc)
      refine ab_istore dX8_speak_35 (Nat.le_of_ble_eq_true rfl) (L2 := [some (.ref a0), some (.int a1), some (.int a2), some (.int a3), some (.int r14), none]) rfl ?_
      refine ab_iconst (v := 0) dX8_speak_37 (by decide) ?_
      refine ab_istore dX8_speak_38 (Nat.le_of_ble_eq_true rfl) (L2 := [some (.ref a0), some (.int a1), some (.int a2), some (.int a3), some (.int r14), some (.int 0)]) rfl ?_
      refine ab_forget (i := 2) (L2 := [some (.ref a0), some (.int a1), none, some (.int a3), some (.int r14), some (.int 0)]) rfl ?_
      refine ab_forget (i := 3) (L2 := [some (.ref a0), some (.int a1), none, none, some (.int r14), some (.int 0)]) rfl ?_
      exact (hk17 i18 l19 dd20 x21 hp22)
    · refine ab_forget (i := 1) (L2 := [some (.ref a0), none, some (.int a2), some (.int a3), none, none]) rfl ?_
      exact ((hm2t.2 c3).2 c4)
theorem tMX8_speak_17 {d : Nat} {Q : ab_Qt} {sc : Nat × (Nat → Int32)} {i : Nat → Nat → Int32} {l : Nat → Nat → Int64} {dd : Nat → Nat → Value} {x : Nat} {a0 : Nat} {a2 : Int32} {a3 : Int32} (k_a0 : ab_isT a0)
    (h : (∃ (P2 : ab_S → Prop), ab_Sp MX8_endTalk d [.ref a0, .int a2, .int a3] (i, l, dd, x) (ab_E0 sc) (none) P2 ∧ ∀ i5 l6 dd7 x8, P2 (i5, l6, dd7, x8) → Q (some none) (i5, l6, dd7, x8) (ab_E0 sc))) :
    ab_Fr MX8_speak (d + 1) Q 17 [some (.ref a0), none, some (.int a2), some (.int a3), none, none] [] (0, 0) (i, l, dd, x) (ab_E0 sc) := by
  refine ab_aloadn dX8_speak_17 rfl ?_
  refine ab_iloadn dX8_speak_18 rfl ?_
  refine ab_iloadn dX8_speak_19 rfl ?_
  obtain ⟨P2, hs3, hk4⟩ := h
  refine ab_callV (vs := [.int a2, .int a3]) (st := []) dX8_speak_20 okMX8_endTalk wd_897 (kT k_a0) rfl rfl rfl (Nat.le_of_ble_eq_true rfl) ⟨Nat.le_of_ble_eq_true rfl, Nat.le_of_ble_eq_true rfl⟩ hs3 ?_
  rintro v9 ⟨i5, l6, dd7, x8⟩ E9 - ⟨rfl, rfl, hp9⟩
  show ab_Fr MX8_speak (d + 1) Q 23 [some (.ref a0), none, some (.int a2), some (.int a3), none, none] [] (0, 0) (i5, l6, dd7, x8) (ab_E0 sc)
  exact ab_vret dX8_speak_23 rfl ⟨Nat.zero_le _, Nat.zero_le _⟩ (hk4 i5 l6 dd7 x8 hp9)
theorem tMX8_speak_40 {d : Nat} {Q : ab_Qt} {sc : Nat × (Nat → Int32)} {i : Nat → Nat → Int32} {l : Nat → Nat → Int64} {dd : Nat → Nat → Value} {x : Nat} {a0 : Nat} {a1 : Int32} {a4 : Int32} {a5 : Int32} (k_a0 : ab_isT a0)
    (h : (∃ m1, dd a0 0 = .ref m1 ∧ ab_isM m1 ∧ (((i m1 0) ≤ a5 → Q (some none) (i, l, dd, x) (ab_E0 sc)) ∧ (¬ (i m1 0) ≤ a5 → (∃ (r4 : Int32) (P5 : ab_S → Prop), ab_Sp MX8_hear d [.ref a0, .int a1, .int a5] (i, l, dd, x) (ab_E0 sc) (some (.int r4)) P5 ∧ ∀ i8 l9 dd10 x11, P5 (i8, l9, dd10, x11) → ((r4 = 0 → ab_Fr MX8_speak (d + 1) Q 40 [some (.ref a0), some (.int a1), none, none, some (.int a4), some (.int (a5 + 1))] [] (0, 0) (i8, l9, dd10, x11) (ab_E0 sc)) ∧ (¬ r4 = 0 → (∃ (P15 : ab_S → Prop), ab_Sp MX8_speak d [.ref a0, .int (a1 + 1), .int a4, .int a5] (i8, l9, dd10, x11) (ab_E0 sc) (none) P15 ∧ ∀ i18 l19 dd20 x21, P15 (i18, l19, dd20, x21) → ab_Fr MX8_speak (d + 1) Q 40 [some (.ref a0), some (.int a1), none, none, some (.int a4), some (.int (a5 + 1))] [] (0, 0) (i18, l19, dd20, x21) (ab_E0 sc))))))))) :
    ab_Fr MX8_speak (d + 1) Q 40 [some (.ref a0), some (.int a1), none, none, some (.int a4), some (.int a5)] [] (0, 0) (i, l, dd, x) (ab_E0 sc) := by
  refine ab_iload dX8_speak_40 rfl ?_
  refine ab_aloadn dX8_speak_42 rfl ?_
  obtain ⟨m1, hm2d, hm2, hm2t⟩ := h
  refine ab_getf (v := .ref m1) dX8_speak_43 fl_X8_9 (kT k_a0) hm2d ?_
  refine ab_getf (v := .int (i m1 0)) dX8_speak_46 fl_X8_82 (kM hm2) rfl ?_
  refine ab_icmp_ge (tgt := 79) dX8_speak_49 (by decide) (fun c3 => ?_) (fun c3 => ?_)
  · exact ab_vret dX8_speak_79 rfl ⟨Nat.zero_le _, Nat.zero_le _⟩ (hm2t.1 c3)
  · refine ab_aloadn dX8_speak_52 rfl ?_
    refine ab_iloadn dX8_speak_53 rfl ?_
    refine ab_iload dX8_speak_54 rfl ?_
    obtain ⟨r4, P5, hs6, hk7⟩ := (hm2t.2 c3)
    refine ab_callV (vs := [.int a1, .int a5]) (st := []) dX8_speak_56 okMX8_hear wd_913 (kT k_a0) rfl rfl rfl (Nat.le_of_ble_eq_true rfl) ⟨Nat.le_of_ble_eq_true rfl, Nat.le_of_ble_eq_true rfl⟩ hs6 ?_
    rintro v9 ⟨i8, l9, dd10, x11⟩ E9 - ⟨rfl, rfl, hp12⟩
    show ab_Fr MX8_speak (d + 1) Q 59 [some (.ref a0), some (.int a1), none, none, some (.int a4), some (.int a5)] [.int r4] (0, 0) (i8, l9, dd10, x11) (ab_E0 sc)
    refine ab_if_eq (tgt := 73) dX8_speak_59 (by decide) (fun c13 => ?_) (fun c13 => ?_)
    · refine ab_iinc (v := (a5 + 1)) dX8_speak_73 rfl (by rfl) (Nat.le_of_ble_eq_true rfl) (L2 := [some (.ref a0), some (.int a1), none, none, some (.int a4), some (.int (a5 + 1))]) rfl ?_
      refine ab_goto (tgt := 40) dX8_speak_76 (by decide) ?_
      exact ((hk7 i8 l9 dd10 x11 hp12).1 c13)
    · refine ab_aloadn dX8_speak_62 rfl ?_
      refine ab_iloadn dX8_speak_63 rfl ?_
      refine ab_iconst (v := 1) dX8_speak_64 (by decide) ?_
      refine ab_iadd dX8_speak_65 ?_
      refine ab_iload dX8_speak_66 rfl ?_
      refine ab_iload dX8_speak_68 rfl ?_
      obtain ⟨P15, hs16, hk17⟩ := ((hk7 i8 l9 dd10 x11 hp12).2 c13)
      refine ab_callV (vs := [.int (a1 + 1), .int a4, .int a5]) (st := []) dX8_speak_70 okMX8_speak wd_894 (kT k_a0) rfl rfl rfl (Nat.le_of_ble_eq_true rfl) ⟨Nat.le_of_ble_eq_true rfl, Nat.le_of_ble_eq_true rfl⟩ hs16 ?_
      rintro v9 ⟨i18, l19, dd20, x21⟩ E9 - ⟨rfl, rfl, hp22⟩
      show ab_Fr MX8_speak (d + 1) Q 73 [some (.ref a0), some (.int a1), none, none, some (.int a4), some (.int a5)] [] (0, 0) (i18, l19, dd20, x21) (ab_E0 sc)
      refine ab_iinc (v := (a5 + 1)) dX8_speak_73 rfl (by rfl) (Nat.le_of_ble_eq_true rfl) (L2 := [some (.ref a0), some (.int a1), none, none, some (.int a4), some (.int (a5 + 1))]) rfl ?_
      refine ab_goto (tgt := 40) dX8_speak_76 (by decide) ?_
      exact (hk17 i18 l19 dd20 x21 hp22)
theorem tMX8_endTalk_0 {d : Nat} {Q : ab_Qt} {sc : Nat × (Nat → Int32)} {i : Nat → Nat → Int32} {l : Nat → Nat → Int64} {dd : Nat → Nat → Value} {x : Nat} {a0 : Nat} {a1 : Int32} {a2 : Int32} (k_a0 : ab_isT a0)
    (h : ((a1 = (-1) → ab_Fr MX8_endTalk (d + 1) Q 22 [some (.ref a0), none, some (.int a2), none, none, none, none] [] (0, 0) (i, l, dd, x) (ab_E0 sc)) ∧ (¬ a1 = (-1) → (∃ m2, dd a0 0 = .ref m2 ∧ ab_isM m2 ∧ ((((i m2 1) - 1) ≤ a1 → ab_Fr MX8_endTalk (d + 1) Q 22 [some (.ref a0), none, some (.int a2), none, none, none, none] [] (0, 0) (i, l, dd, x) (ab_E0 sc)) ∧ (¬ ((i m2 1) - 1) ≤ a1 → ab_Fr MX8_endTalk (d + 1) Q 23 [some (.ref a0), none, some (.int a2), none, none, none, none] [.int 1] (0, 0) (i, l, dd, x) (ab_E0 sc))))))) :
    ab_Fr MX8_endTalk (d + 1) Q 0 [some (.ref a0), some (.int a1), some (.int a2), none, none, none, none] [] (0, 0) (i, l, dd, x) (ab_E0 sc) := by
  refine ab_iloadn dX8_endTalk_0 rfl ?_
  refine ab_iconst (v := (-1)) dX8_endTalk_1 (by decide) ?_
  refine ab_icmp_eq (tgt := 22) dX8_endTalk_2 (by decide) (fun c1 => ?_) (fun c1 => ?_)
  · refine ab_forget (i := 1) (L2 := [some (.ref a0), none, some (.int a2), none, none, none, none]) rfl ?_
    exact (h.1 c1)
  · refine ab_iloadn dX8_endTalk_5 rfl ?_
    refine ab_aloadn dX8_endTalk_6 rfl ?_
    obtain ⟨m2, hm3d, hm3, hm3t⟩ := (h.2 c1)
    refine ab_getf (v := .ref m2) dX8_endTalk_7 fl_X8_9 (kT k_a0) hm3d ?_
    refine ab_getf (v := .int (i m2 1)) dX8_endTalk_10 fl_X8_42 (kM hm3) rfl ?_
    refine ab_iconst (v := 1) dX8_endTalk_13 (by decide) ?_
    refine ab_isub dX8_endTalk_14 ?_
    refine ab_icmp_ge (tgt := 22) dX8_endTalk_15 (by decide) (fun c4 => ?_) (fun c4 => ?_)
    · refine ab_forget (i := 1) (L2 := [some (.ref a0), none, some (.int a2), none, none, none, none]) rfl ?_
      exact (hm3t.1 c4)
    · refine ab_iconst (v := 1) dX8_endTalk_18 (by decide) ?_
      refine ab_goto (tgt := 23) dX8_endTalk_19 (by decide) ?_
      refine ab_forget (i := 1) (L2 := [some (.ref a0), none, some (.int a2), none, none, none, none]) rfl ?_
      exact (hm3t.2 c4)
theorem tMX8_endTalk_22 {d : Nat} {Q : ab_Qt} {sc : Nat × (Nat → Int32)} {i : Nat → Nat → Int32} {l : Nat → Nat → Int64} {dd : Nat → Nat → Value} {x : Nat} {a0 : Nat} {a2 : Int32} (k_a0 : ab_isT a0)
    (h : ab_Fr MX8_endTalk (d + 1) Q 23 [some (.ref a0), none, some (.int a2), none, none, none, none] [.int 0] (0, 0) (i, l, dd, x) (ab_E0 sc)) :
    ab_Fr MX8_endTalk (d + 1) Q 22 [some (.ref a0), none, some (.int a2), none, none, none, none] [] (0, 0) (i, l, dd, x) (ab_E0 sc) := by
  refine ab_iconst (v := 0) dX8_endTalk_22 (by decide) ?_
  exact h
theorem tMX8_endTalk_23 {d : Nat} {Q : ab_Qt} {sc : Nat × (Nat → Int32)} {i : Nat → Nat → Int32} {l : Nat → Nat → Int64} {dd : Nat → Nat → Value} {x : Nat} {a0 : Nat} {a2 : Int32} {s0 : Int32} (k_a0 : ab_isT a0)
    (h : ab_Fr MX8_endTalk (d + 1) Q 27 [some (.ref a0), none, some (.int a2), some (.int s0), some (.int 0), none, none] [] (0, 0) (i, l, dd, x) (ab_E0 sc)) :
    ab_Fr MX8_endTalk (d + 1) Q 23 [some (.ref a0), none, some (.int a2), none, none, none, none] [.int s0] (0, 0) (i, l, dd, x) (ab_E0 sc) := by
  refine ab_istoren dX8_endTalk_23 (Nat.le_of_ble_eq_true rfl) (L2 := [some (.ref a0), none, some (.int a2), some (.int s0), none, none, none]) rfl ?_
  refine ab_iconst (v := 0) dX8_endTalk_24 (by decide) ?_
  refine ab_istore dX8_endTalk_25 (Nat.le_of_ble_eq_true rfl) (L2 := [some (.ref a0), none, some (.int a2), some (.int s0), some (.int 0), none, none]) rfl ?_
  exact h
theorem tMX8_endTalk_27 {d : Nat} {Q : ab_Qt} {sc : Nat × (Nat → Int32)} {i : Nat → Nat → Int32} {l : Nat → Nat → Int64} {dd : Nat → Nat → Value} {x : Nat} {a0 : Nat} {a2 : Int32} {a3 : Int32} {a4 : Int32} (k_a0 : ab_isT a0)
    (h : ((3 ≤ a4 → Q (some none) (i, l, dd, x) (ab_E0 sc)) ∧ (¬ 3 ≤ a4 → (∃ m2, dd a0 0 = .ref m2 ∧ ab_isM m2 ∧ vp_in (((i m2 1) * 3) + a4) 24 ∧ vp_in ((a4 * 3) + a2) 9 ∧ vp_in ((a4 * 3) + a2) 9 ∧ ∀ l4, l4 = ab_u l (a0 + 5) ((a4 * 3) + a2).toNatClampNeg ((l (a0 + 5) ((a4 * 3) + a2).toNatClampNeg) + (l (a0 + 3) (((i m2 1) * 3) + a4).toNatClampNeg)) → ((a3 = 0 → ab_Fr MX8_endTalk (d + 1) Q 27 [some (.ref a0), none, some (.int a2), some (.int a3), some (.int (a4 + 1)), none, none] [] (0, 0) (i, l4, dd, x) (ab_E0 sc)) ∧ (¬ a3 = 0 → (∀ l7, l7 = ab_u l4 a0 6 ((l4 a0 6) + (l (a0 + 3) (((i m2 1) * 3) + a4).toNatClampNeg)) → ((¬ a4 = a2 → (∀ l10, l10 = ab_u l7 a0 7 ((l7 a0 7) + (l (a0 + 3) (((i m2 1) * 3) + a4).toNatClampNeg)) → ab_Fr MX8_endTalk (d + 1) Q 27 [some (.ref a0), none, some (.int a2), some (.int a3), some (.int (a4 + 1)), none, none] [] (0, 0) (i, l10, dd, x) (ab_E0 sc))) ∧ (a4 = a2 → (∀ l12, l12 = ab_u l7 a0 7 ((l7 a0 7) + 0) → ab_Fr MX8_endTalk (d + 1) Q 27 [some (.ref a0), none, some (.int a2), some (.int a3), some (.int (a4 + 1)), none, none] [] (0, 0) (i, l12, dd, x) (ab_E0 sc))))))))))) :
    ab_Fr MX8_endTalk (d + 1) Q 27 [some (.ref a0), none, some (.int a2), some (.int a3), some (.int a4), none, none] [] (0, 0) (i, l, dd, x) (ab_E0 sc) := by
  refine ab_iload dX8_endTalk_27 rfl ?_
  refine ab_iconst (v := 3) dX8_endTalk_29 (by decide) ?_
  refine ab_icmp_ge (tgt := 110) dX8_endTalk_30 (by decide) (fun c1 => ?_) (fun c1 => ?_)
  · exact ab_vret dX8_endTalk_110 rfl ⟨Nat.zero_le _, Nat.zero_le _⟩ (h.1 c1)
  · refine ab_aloadn dX8_endTalk_33 rfl ?_
    refine ab_getf (v := .ref (a0 + 3)) dX8_endTalk_34 fl_X8_22 (kT k_a0) (fT_3 k_a0) ?_
    refine ab_aloadn dX8_endTalk_37 rfl ?_
    obtain ⟨m2, hm3d, hm3, hm3t⟩ := (h.2 c1)
    refine ab_getf (v := .ref m2) dX8_endTalk_38 fl_X8_9 (kT k_a0) hm3d ?_
    refine ab_getf (v := .int (i m2 1)) dX8_endTalk_41 fl_X8_42 (kM hm3) rfl ?_
    refine ab_iconst (v := 3) dX8_endTalk_44 (by decide) ?_
    refine ab_imul dX8_endTalk_45 ?_
    refine ab_iload dX8_endTalk_46 rfl ?_
    refine ab_iadd dX8_endTalk_48 ?_
    refine ab_laload (v := (l (a0 + 3) (((i m2 1) * 3) + a4).toNatClampNeg)) dX8_endTalk_49 (kT_3 k_a0) hm3t.1 rfl ?_
    refine ab_lstore dX8_endTalk_50 (Nat.le_of_ble_eq_true rfl) (L2 := [some (.ref a0), none, some (.int a2), some (.int a3), some (.int a4), some (.long (l (a0 + 3) (((i m2 1) * 3) + a4).toNatClampNeg)), none]) rfl ?_
    refine ab_aloadn dX8_endTalk_52 rfl ?_
    refine ab_getf (v := .ref (a0 + 5)) dX8_endTalk_53 fl_X8_29 (kT k_a0) (fT_5 k_a0) ?_
    refine ab_iload dX8_endTalk_56 rfl ?_
    refine ab_iconst (v := 3) dX8_endTalk_58 (by decide) ?_
    refine ab_imul dX8_endTalk_59 ?_
    refine ab_iloadn dX8_endTalk_60 rfl ?_
    refine ab_iadd dX8_endTalk_61 ?_
    refine ab_dup2 dX8_endTalk_62 rfl rfl ?_
    refine ab_laload (v := (l (a0 + 5) ((a4 * 3) + a2).toNatClampNeg)) dX8_endTalk_63 (kT_5 k_a0) hm3t.2.1 rfl ?_
    refine ab_lload dX8_endTalk_64 rfl ?_
    refine ab_ladd dX8_endTalk_66 ?_
    refine ab_lastore dX8_endTalk_67 (kT_5 k_a0) hm3t.2.2.1 ?_
    obtain ⟨l4, e5⟩ : ∃ z, z = ab_u l (a0 + 5) ((a4 * 3) + a2).toNatClampNeg ((l (a0 + 5) ((a4 * 3) + a2).toNatClampNeg) + (l (a0 + 3) (((i m2 1) * 3) + a4).toNatClampNeg)) := ⟨_, rfl⟩
    rw [show ab_u l (a0 + 5) ((a4 * 3) + a2).toNatClampNeg ((l (a0 + 5) ((a4 * 3) + a2).toNatClampNeg) + (l (a0 + 3) (((i m2 1) * 3) + a4).toNatClampNeg)) = l4 from e5.symm]
    refine ab_iloadn dX8_endTalk_68 rfl ?_
    refine ab_if_eq (tgt := 104) dX8_endTalk_69 (by decide) (fun c6 => ?_) (fun c6 => ?_)
    · refine ab_iinc (v := (a4 + 1)) dX8_endTalk_104 rfl (by rfl) (Nat.le_of_ble_eq_true rfl) (L2 := [some (.ref a0), none, some (.int a2), some (.int a3), some (.int (a4 + 1)), some (.long (l (a0 + 3) (((i m2 1) * 3) + a4).toNatClampNeg)), none]) rfl ?_
      refine ab_goto (tgt := 27) dX8_endTalk_107 (by decide) ?_
      refine ab_forget (i := 5) (L2 := [some (.ref a0), none, some (.int a2), some (.int a3), some (.int (a4 + 1)), none, none]) rfl ?_
      exact ((hm3t.2.2.2 l4 e5).1 c6)
    · refine ab_aloadn dX8_endTalk_72 rfl ?_
      refine ab_dup dX8_endTalk_73 rfl ?_
      refine ab_getf (v := .long (l4 a0 6)) dX8_endTalk_74 fl_X8_53 (kT k_a0) rfl ?_
      refine ab_lload dX8_endTalk_77 rfl ?_
      refine ab_ladd dX8_endTalk_79 ?_
      refine ab_putL dX8_endTalk_80 fl_X8_53 (kT k_a0) rfl ?_
      obtain ⟨l7, e8⟩ : ∃ z, z = ab_u l4 a0 6 ((l4 a0 6) + (l (a0 + 3) (((i m2 1) * 3) + a4).toNatClampNeg)) := ⟨_, rfl⟩
      show ab_Fr MX8_endTalk (d + 1) Q 83 [some (.ref a0), none, some (.int a2), some (.int a3), some (.int a4), some (.long (l (a0 + 3) (((i m2 1) * 3) + a4).toNatClampNeg)), none] [] (0, 0) (i, ab_u l4 a0 6 ((l4 a0 6) + (l (a0 + 3) (((i m2 1) * 3) + a4).toNatClampNeg)), dd, x) (ab_E0 sc)
      rw [show ab_u l4 a0 6 ((l4 a0 6) + (l (a0 + 3) (((i m2 1) * 3) + a4).toNatClampNeg)) = l7 from e8.symm]
      refine ab_aloadn dX8_endTalk_83 rfl ?_
      refine ab_dup dX8_endTalk_84 rfl ?_
      refine ab_getf (v := .long (l7 a0 7)) dX8_endTalk_85 fl_X8_57 (kT k_a0) rfl ?_
      refine ab_iload dX8_endTalk_88 rfl ?_
      refine ab_iloadn dX8_endTalk_90 rfl ?_
      refine ab_icmp_ne (tgt := 98) dX8_endTalk_91 (by decide) (fun c9 => ?_) (fun c9 => ?_)
      · refine ab_lload dX8_endTalk_98 rfl ?_
        refine ab_ladd dX8_endTalk_100 ?_
        refine ab_putL dX8_endTalk_101 fl_X8_57 (kT k_a0) rfl ?_
        obtain ⟨l10, e11⟩ : ∃ z, z = ab_u l7 a0 7 ((l7 a0 7) + (l (a0 + 3) (((i m2 1) * 3) + a4).toNatClampNeg)) := ⟨_, rfl⟩
        show ab_Fr MX8_endTalk (d + 1) Q 104 [some (.ref a0), none, some (.int a2), some (.int a3), some (.int a4), some (.long (l (a0 + 3) (((i m2 1) * 3) + a4).toNatClampNeg)), none] [] (0, 0) (i, ab_u l7 a0 7 ((l7 a0 7) + (l (a0 + 3) (((i m2 1) * 3) + a4).toNatClampNeg)), dd, x) (ab_E0 sc)
        rw [show ab_u l7 a0 7 ((l7 a0 7) + (l (a0 + 3) (((i m2 1) * 3) + a4).toNatClampNeg)) = l10 from e11.symm]
        refine ab_iinc (v := (a4 + 1)) dX8_endTalk_104 rfl (by rfl) (Nat.le_of_ble_eq_true rfl) (L2 := [some (.ref a0), none, some (.int a2), some (.int a3), some (.int (a4 + 1)), some (.long (l (a0 + 3) (((i m2 1) * 3) + a4).toNatClampNeg)), none]) rfl ?_
        refine ab_goto (tgt := 27) dX8_endTalk_107 (by decide) ?_
        refine ab_forget (i := 5) (L2 := [some (.ref a0), none, some (.int a2), some (.int a3), some (.int (a4 + 1)), none, none]) rfl ?_
        exact (((((hm3t.2.2.2 l4 e5).2 c6) l7 e8).1 c9) l10 e11)
      · refine ab_lconst (v := 0) dX8_endTalk_94 (by decide) ?_
        refine ab_goto (tgt := 100) dX8_endTalk_95 (by decide) ?_
        refine ab_ladd dX8_endTalk_100 ?_
        refine ab_putL dX8_endTalk_101 fl_X8_57 (kT k_a0) rfl ?_
        obtain ⟨l12, e13⟩ : ∃ z, z = ab_u l7 a0 7 ((l7 a0 7) + 0) := ⟨_, rfl⟩
        show ab_Fr MX8_endTalk (d + 1) Q 104 [some (.ref a0), none, some (.int a2), some (.int a3), some (.int a4), some (.long (l (a0 + 3) (((i m2 1) * 3) + a4).toNatClampNeg)), none] [] (0, 0) (i, ab_u l7 a0 7 ((l7 a0 7) + 0), dd, x) (ab_E0 sc)
        rw [show ab_u l7 a0 7 ((l7 a0 7) + 0) = l12 from e13.symm]
        refine ab_iinc (v := (a4 + 1)) dX8_endTalk_104 rfl (by rfl) (Nat.le_of_ble_eq_true rfl) (L2 := [some (.ref a0), none, some (.int a2), some (.int a3), some (.int (a4 + 1)), some (.long (l (a0 + 3) (((i m2 1) * 3) + a4).toNatClampNeg)), none]) rfl ?_
        refine ab_goto (tgt := 27) dX8_endTalk_107 (by decide) ?_
        refine ab_forget (i := 5) (L2 := [some (.ref a0), none, some (.int a2), some (.int a3), some (.int (a4 + 1)), none, none]) rfl ?_
        exact (((((hm3t.2.2.2 l4 e5).2 c6) l7 e8).2 c9) l12 e13)
theorem tMX8_ponder_0 {d : Nat} {Q : ab_Qt} {sc : Nat × (Nat → Int32)} {i : Nat → Nat → Int32} {l : Nat → Nat → Int64} {dd : Nat → Nat → Value} {x : Nat} {a0 : Nat} {a1 : Int32} (k_a0 : ab_isT a0)
    (h : (∃ m1, dd a0 0 = .ref m1 ∧ ab_isM m1 ∧ vp_in a1 7 ∧ vp_in (i (a0 + 1) a1.toNatClampNeg) 7 ∧ ab_Fr MX8_ponder (d + 1) Q 17 [some (.ref a0), some (.int a1), some (.ref (m1 + 5 + 6 * (i (a0 + 1) a1.toNatClampNeg).toNatClampNeg)), some (.int 0), none] [] (0, 0) (i, l, dd, x) (ab_E0 sc))) :
    ab_Fr MX8_ponder (d + 1) Q 0 [some (.ref a0), some (.int a1), none, none, none] [] (0, 0) (i, l, dd, x) (ab_E0 sc) := by
  refine ab_aloadn dX8_ponder_0 rfl ?_
  obtain ⟨m1, hm2d, hm2, hm2t⟩ := h
  refine ab_getf (v := .ref m1) dX8_ponder_1 fl_X8_9 (kT k_a0) hm2d ?_
  refine ab_getf (v := .ref (m1 + 4)) dX8_ponder_4 fl_X8_89 (kM hm2) (fM_8 hm2) ?_
  refine ab_aloadn dX8_ponder_7 rfl ?_
  refine ab_getf (v := .ref (a0 + 1)) dX8_ponder_8 fl_X8_15 (kT k_a0) (fT_1 k_a0) ?_
  refine ab_iloadn dX8_ponder_11 rfl ?_
  refine ab_iaload (v := (i (a0 + 1) a1.toNatClampNeg)) dX8_ponder_12 (kT_1 k_a0) hm2t.1 rfl ?_
  refine ab_aaload (a := (m1 + 5 + 6 * (i (a0 + 1) a1.toNatClampNeg).toNatClampNeg)) dX8_ponder_13 (Or.inl rfl) (kM_4 hm2) hm2t.2.1 (fMv hm2 hm2t.2.1) ?_
  refine ab_astoren dX8_ponder_14 (Nat.le_of_ble_eq_true rfl) (L2 := [some (.ref a0), some (.int a1), some (.ref (m1 + 5 + 6 * (i (a0 + 1) a1.toNatClampNeg).toNatClampNeg)), none, none]) rfl ?_
  refine ab_iconst (v := 0) dX8_ponder_15 (by decide) ?_
  refine ab_istoren dX8_ponder_16 (Nat.le_of_ble_eq_true rfl) (L2 := [some (.ref a0), some (.int a1), some (.ref (m1 + 5 + 6 * (i (a0 + 1) a1.toNatClampNeg).toNatClampNeg)), some (.int 0), none]) rfl ?_
  exact hm2t.2.2
theorem tMX8_ponder_17 {d : Nat} {Q : ab_Qt} {sc : Nat × (Nat → Int32)} {i : Nat → Nat → Int32} {l : Nat → Nat → Int64} {dd : Nat → Nat → Value} {x : Nat} {a0 : Nat} {a1 : Int32} {a2 : Nat} {a3 : Int32} (k_a0 : ab_isT a0) (k_a2 : ab_isV a2)
    (h : (((i a2 0) ≤ a3 → Q (some none) (i, l, dd, x) (ab_E0 sc)) ∧ (¬ (i a2 0) ≤ a3 → ab_Fr MX8_ponder (d + 1) Q 28 [some (.ref a0), some (.int a1), some (.ref a2), some (.int a3), some (.int 0)] [] (0, 0) (i, l, dd, x) (ab_E0 sc)))) :
    ab_Fr MX8_ponder (d + 1) Q 17 [some (.ref a0), some (.int a1), some (.ref a2), some (.int a3), none] [] (0, 0) (i, l, dd, x) (ab_E0 sc) := by
  refine ab_iloadn dX8_ponder_17 rfl ?_
  refine ab_aloadn dX8_ponder_18 rfl ?_
  refine ab_getf (v := .int (i a2 0)) dX8_ponder_19 fl_X8_93 (kV k_a2) rfl ?_
  refine ab_icmp_ge (tgt := 106) dX8_ponder_22 (by decide) (fun c1 => ?_) (fun c1 => ?_)
  · exact ab_vret dX8_ponder_106 rfl ⟨Nat.zero_le _, Nat.zero_le _⟩ (h.1 c1)
  · refine ab_iconst (v := 0) dX8_ponder_25 (by decide) ?_
    refine ab_istore dX8_ponder_26 (Nat.le_of_ble_eq_true rfl) (L2 := [some (.ref a0), some (.int a1), some (.ref a2), some (.int a3), some (.int 0)]) rfl ?_
    exact (h.2 c1)
theorem tMX8_ponder_28 {d : Nat} {Q : ab_Qt} {sc : Nat × (Nat → Int32)} {i : Nat → Nat → Int32} {l : Nat → Nat → Int64} {dd : Nat → Nat → Value} {x : Nat} {a0 : Nat} {a1 : Int32} {a2 : Nat} {a3 : Int32} {a4 : Int32} (k_a0 : ab_isT a0) (k_a2 : ab_isV a2)
    (h : ((3 ≤ a4 → (∃ m2, dd a0 0 = .ref m2 ∧ ab_isM m2 ∧ ∃ (r4 : Int32) (P5 : ab_S → Prop), ab_Sp MX0_leastOf d [.ref (a2 + 3), .int (i m2 0), .ref (a0 + 4), .int 0] (i, l, dd, x) (ab_E0 sc) (some (.int r4)) P5 ∧ ∀ i8 l9 dd10 x11, P5 (i8, l9, dd10, x11) → vp_in ((a1 * 3) + a3) 21 ∧ ∀ i13, i13 = ab_u i8 (a0 + 2) ((a1 * 3) + a3).toNatClampNeg r4 → ab_Fr MX8_ponder (d + 1) Q 17 [some (.ref a0), some (.int a1), some (.ref a2), some (.int (a3 + 1)), none] [] (0, 0) (i13, l9, dd10, x11) (ab_E0 sc))) ∧ (¬ 3 ≤ a4 → (vp_in ((a1 * 3) + a4) 24 ∧ vp_in ((a4 * 3) + a3) 9 ∧ vp_in a4 3 ∧ ∀ l15, l15 = ab_u l (a0 + 4) a4.toNatClampNeg ((l (a0 + 3) ((a1 * 3) + a4).toNatClampNeg) * (i (a2 + 1) ((a4 * 3) + a3).toNatClampNeg).toInt64) → ab_Fr MX8_ponder (d + 1) Q 28 [some (.ref a0), some (.int a1), some (.ref a2), some (.int a3), some (.int (a4 + 1))] [] (0, 0) (i, l15, dd, x) (ab_E0 sc))))) :
    ab_Fr MX8_ponder (d + 1) Q 28 [some (.ref a0), some (.int a1), some (.ref a2), some (.int a3), some (.int a4)] [] (0, 0) (i, l, dd, x) (ab_E0 sc) := by
  refine ab_iload dX8_ponder_28 rfl ?_
  refine ab_iconst (v := 3) dX8_ponder_30 (by decide) ?_
  refine ab_icmp_ge (tgt := 71) dX8_ponder_31 (by decide) (fun c1 => ?_) (fun c1 => ?_)
  · refine ab_aloadn dX8_ponder_71 rfl ?_
    refine ab_getf (v := .ref (a0 + 2)) dX8_ponder_72 fl_X8_19 (kT k_a0) (fT_2 k_a0) ?_
    refine ab_iloadn dX8_ponder_75 rfl ?_
    refine ab_iconst (v := 3) dX8_ponder_76 (by decide) ?_
    refine ab_imul dX8_ponder_77 ?_
    refine ab_iloadn dX8_ponder_78 rfl ?_
    refine ab_iadd dX8_ponder_79 ?_
    refine ab_aloadn dX8_ponder_80 rfl ?_
    refine ab_getf (v := .ref (a2 + 3)) dX8_ponder_81 fl_X8_101 (kV k_a2) (fV_6 k_a2) ?_
    refine ab_aloadn dX8_ponder_84 rfl ?_
    obtain ⟨m2, hm3d, hm3, hm3t⟩ := (h.1 c1)
    refine ab_getf (v := .ref m2) dX8_ponder_85 fl_X8_9 (kT k_a0) hm3d ?_
    refine ab_getf (v := .int (i m2 0)) dX8_ponder_88 fl_X8_82 (kM hm3) rfl ?_
    refine ab_aloadn dX8_ponder_91 rfl ?_
    refine ab_getf (v := .ref (a0 + 4)) dX8_ponder_92 fl_X8_26 (kT k_a0) (fT_4 k_a0) ?_
    refine ab_iconst (v := 0) dX8_ponder_95 (by decide) ?_
    obtain ⟨r4, P5, hs6, hk7⟩ := hm3t
    refine ab_callV (vs := [.int (i m2 0), .ref (a0 + 4), .int 0]) (st := [.int ((a1 * 3) + a3), .ref (a0 + 2)]) dX8_ponder_96 okMX0_leastOf wd_903 (kLo (isV_3 k_a2)) rfl rfl rfl (Nat.le_of_ble_eq_true rfl) ⟨Nat.le_of_ble_eq_true rfl, Nat.le_of_ble_eq_true rfl⟩ hs6 ?_
    rintro v9 ⟨i8, l9, dd10, x11⟩ E9 - ⟨rfl, rfl, hp12⟩
    show ab_Fr MX8_ponder (d + 1) Q 99 [some (.ref a0), some (.int a1), some (.ref a2), some (.int a3), some (.int a4)] [.int r4, .int ((a1 * 3) + a3), .ref (a0 + 2)] (0, 0) (i8, l9, dd10, x11) (ab_E0 sc)
    refine ab_iastore dX8_ponder_99 (kT_2 k_a0) (hk7 i8 l9 dd10 x11 hp12).1 ?_
    obtain ⟨i13, e14⟩ : ∃ z, z = ab_u i8 (a0 + 2) ((a1 * 3) + a3).toNatClampNeg r4 := ⟨_, rfl⟩
    rw [show ab_u i8 (a0 + 2) ((a1 * 3) + a3).toNatClampNeg r4 = i13 from e14.symm]
    refine ab_iinc (v := (a3 + 1)) dX8_ponder_100 rfl (by rfl) (Nat.le_of_ble_eq_true rfl) (L2 := [some (.ref a0), some (.int a1), some (.ref a2), some (.int (a3 + 1)), some (.int a4)]) rfl ?_
    refine ab_goto (tgt := 17) dX8_ponder_103 (by decide) ?_
    refine ab_forget (i := 4) (L2 := [some (.ref a0), some (.int a1), some (.ref a2), some (.int (a3 + 1)), none]) rfl ?_
    exact ((hk7 i8 l9 dd10 x11 hp12).2 i13 e14)
  · refine ab_aloadn dX8_ponder_34 rfl ?_
    refine ab_getf (v := .ref (a0 + 4)) dX8_ponder_35 fl_X8_26 (kT k_a0) (fT_4 k_a0) ?_
    refine ab_iload dX8_ponder_38 rfl ?_
    refine ab_aloadn dX8_ponder_40 rfl ?_
    refine ab_getf (v := .ref (a0 + 3)) dX8_ponder_41 fl_X8_22 (kT k_a0) (fT_3 k_a0) ?_
    refine ab_iloadn dX8_ponder_44 rfl ?_
    refine ab_iconst (v := 3) dX8_ponder_45 (by decide) ?_
    refine ab_imul dX8_ponder_46 ?_
    refine ab_iload dX8_ponder_47 rfl ?_
    refine ab_iadd dX8_ponder_49 ?_
    refine ab_laload (v := (l (a0 + 3) ((a1 * 3) + a4).toNatClampNeg)) dX8_ponder_50 (kT_3 k_a0) (h.2 c1).1 rfl ?_
    refine ab_aloadn dX8_ponder_51 rfl ?_
    refine ab_getf (v := .ref (a2 + 1)) dX8_ponder_52 fl_X8_98 (kV k_a2) (fV_4 k_a2) ?_
    refine ab_iload dX8_ponder_55 rfl ?_
    refine ab_iconst (v := 3) dX8_ponder_57 (by decide) ?_
    refine ab_imul dX8_ponder_58 ?_
    refine ab_iloadn dX8_ponder_59 rfl ?_
    refine ab_iadd dX8_ponder_60 ?_
    refine ab_iaload (v := (i (a2 + 1) ((a4 * 3) + a3).toNatClampNeg)) dX8_ponder_61 (kV_1 k_a2) (h.2 c1).2.1 rfl ?_
    refine ab_i2l dX8_ponder_62 rfl ?_
    refine ab_lmul dX8_ponder_63 ?_
    refine ab_lastore dX8_ponder_64 (kT_4 k_a0) (h.2 c1).2.2.1 ?_
    obtain ⟨l15, e16⟩ : ∃ z, z = ab_u l (a0 + 4) a4.toNatClampNeg ((l (a0 + 3) ((a1 * 3) + a4).toNatClampNeg) * (i (a2 + 1) ((a4 * 3) + a3).toNatClampNeg).toInt64) := ⟨_, rfl⟩
    rw [show ab_u l (a0 + 4) a4.toNatClampNeg ((l (a0 + 3) ((a1 * 3) + a4).toNatClampNeg) * (i (a2 + 1) ((a4 * 3) + a3).toNatClampNeg).toInt64) = l15 from e16.symm]
    refine ab_iinc (v := (a4 + 1)) dX8_ponder_65 rfl (by rfl) (Nat.le_of_ble_eq_true rfl) (L2 := [some (.ref a0), some (.int a1), some (.ref a2), some (.int a3), some (.int (a4 + 1))]) rfl ?_
    refine ab_goto (tgt := 28) dX8_ponder_68 (by decide) ?_
    exact ((h.2 c1).2.2.2 l15 e16)
theorem tMX8_cliffAt_0 {d : Nat} {Q : ab_Qt} {sc : Nat × (Nat → Int32)} {i : Nat → Nat → Int32} {l : Nat → Nat → Int64} {dd : Nat → Nat → Value} {x : Nat} {a0 : Nat} {a1 : Int32} {a2 : Int32} (k_a0 : ab_isT a0)
    (h : (∃ (r1 : Int32) (P2 : ab_S → Prop), ab_Sp MX8_follows d [.ref a0, .int a1] (i, l, dd, x) (ab_E0 sc) (some (.int r1)) P2 ∧ ∀ i5 l6 dd7 x8, P2 (i5, l6, dd7, x8) → ((¬ r1 = 0 → ((¬ a2 = (-1) → Q (some (some (.int a2))) (i5, l6, dd7, x8) (ab_E0 sc)) ∧ (a2 = (-1) → Q (some (some (.int a1))) (i5, l6, dd7, x8) (ab_E0 sc)))) ∧ (r1 = 0 → Q (some (some (.int (-1)))) (i5, l6, dd7, x8) (ab_E0 sc))))) :
    ab_Fr MX8_cliffAt (d + 1) Q 0 [some (.ref a0), some (.int a1), some (.int a2)] [] (0, 0) (i, l, dd, x) (ab_E0 sc) := by
  refine ab_aloadn dX8_cliffAt_0 rfl ?_
  refine ab_iloadn dX8_cliffAt_1 rfl ?_
  obtain ⟨r1, P2, hs3, hk4⟩ := h
  refine ab_callV (vs := [.int a1]) (st := []) dX8_cliffAt_2 okMX8_follows wd_907 (kT k_a0) rfl rfl rfl (Nat.le_of_ble_eq_true rfl) ⟨Nat.le_of_ble_eq_true rfl, Nat.le_of_ble_eq_true rfl⟩ hs3 ?_
  rintro v9 ⟨i5, l6, dd7, x8⟩ E9 - ⟨rfl, rfl, hp9⟩
  show ab_Fr MX8_cliffAt (d + 1) Q 5 [some (.ref a0), some (.int a1), some (.int a2)] [.int r1] (0, 0) (i5, l6, dd7, x8) (ab_E0 sc)
  refine ab_if_ne (tgt := 10) dX8_cliffAt_5 (by decide) (fun c10 => ?_) (fun c10 => ?_)
  · refine ab_iloadn dX8_cliffAt_10 rfl ?_
    refine ab_iconst (v := (-1)) dX8_cliffAt_11 (by decide) ?_
    refine ab_icmp_ne (tgt := 19) dX8_cliffAt_12 (by decide) (fun c11 => ?_) (fun c11 => ?_)
    · refine ab_iloadn dX8_cliffAt_19 rfl ?_
      exact ab_iret dX8_cliffAt_20 rfl ⟨Nat.zero_le _, Nat.zero_le _⟩ (((hk4 i5 l6 dd7 x8 hp9).1 c10).1 c11)
    · refine ab_iloadn dX8_cliffAt_15 rfl ?_
      refine ab_goto (tgt := 20) dX8_cliffAt_16 (by decide) ?_
      exact ab_iret dX8_cliffAt_20 rfl ⟨Nat.zero_le _, Nat.zero_le _⟩ (((hk4 i5 l6 dd7 x8 hp9).1 c10).2 c11)
  · refine ab_iconst (v := (-1)) dX8_cliffAt_8 (by decide) ?_
    exact ab_iret dX8_cliffAt_9 rfl ⟨Nat.zero_le _, Nat.zero_le _⟩ ((hk4 i5 l6 dd7 x8 hp9).2 c10)
theorem tMX8_follows_0 {d : Nat} {Q : ab_Qt} {sc : Nat × (Nat → Int32)} {i : Nat → Nat → Int32} {l : Nat → Nat → Int64} {dd : Nat → Nat → Value} {x : Nat} {a0 : Nat} {a1 : Int32} (k_a0 : ab_isT a0)
    (h : (∃ m1, dd a0 0 = .ref m1 ∧ ab_isM m1 ∧ vp_in a1 7 ∧ vp_in (i (a0 + 1) a1.toNatClampNeg) 7 ∧ ab_Fr MX8_follows (d + 1) Q 20 [some (.ref a0), some (.int a1), some (.ref (m1 + 5 + 6 * (i (a0 + 1) a1.toNatClampNeg).toNatClampNeg)), some (.int (-1)), some (.int 0), none] [] (0, 0) (i, l, dd, x) (ab_E0 sc))) :
    ab_Fr MX8_follows (d + 1) Q 0 [some (.ref a0), some (.int a1), none, none, none, none] [] (0, 0) (i, l, dd, x) (ab_E0 sc) := by
  refine ab_aloadn dX8_follows_0 rfl ?_
  obtain ⟨m1, hm2d, hm2, hm2t⟩ := h
  refine ab_getf (v := .ref m1) dX8_follows_1 fl_X8_9 (kT k_a0) hm2d ?_
  refine ab_getf (v := .ref (m1 + 4)) dX8_follows_4 fl_X8_89 (kM hm2) (fM_8 hm2) ?_
  refine ab_aloadn dX8_follows_7 rfl ?_
  refine ab_getf (v := .ref (a0 + 1)) dX8_follows_8 fl_X8_15 (kT k_a0) (fT_1 k_a0) ?_
  refine ab_iloadn dX8_follows_11 rfl ?_
  refine ab_iaload (v := (i (a0 + 1) a1.toNatClampNeg)) dX8_follows_12 (kT_1 k_a0) hm2t.1 rfl ?_
  refine ab_aaload (a := (m1 + 5 + 6 * (i (a0 + 1) a1.toNatClampNeg).toNatClampNeg)) dX8_follows_13 (Or.inl rfl) (kM_4 hm2) hm2t.2.1 (fMv hm2 hm2t.2.1) ?_
  refine ab_astoren dX8_follows_14 (Nat.le_of_ble_eq_true rfl) (L2 := [some (.ref a0), some (.int a1), some (.ref (m1 + 5 + 6 * (i (a0 + 1) a1.toNatClampNeg).toNatClampNeg)), none, none, none]) rfl ?_
  refine ab_iconst (v := (-1)) dX8_follows_15 (by decide) ?_
  refine ab_istoren dX8_follows_16 (Nat.le_of_ble_eq_true rfl) (L2 := [some (.ref a0), some (.int a1), some (.ref (m1 + 5 + 6 * (i (a0 + 1) a1.toNatClampNeg).toNatClampNeg)), some (.int (-1)), none, none]) rfl ?_
  refine ab_iconst (v := 0) dX8_follows_17 (by decide) ?_
  refine ab_istore dX8_follows_18 (Nat.le_of_ble_eq_true rfl) (L2 := [some (.ref a0), some (.int a1), some (.ref (m1 + 5 + 6 * (i (a0 + 1) a1.toNatClampNeg).toNatClampNeg)), some (.int (-1)), some (.int 0), none]) rfl ?_
  exact hm2t.2.2
theorem tMX8_follows_20 {d : Nat} {Q : ab_Qt} {sc : Nat × (Nat → Int32)} {i : Nat → Nat → Int32} {l : Nat → Nat → Int64} {dd : Nat → Nat → Value} {x : Nat} {a0 : Nat} {a1 : Int32} {a2 : Nat} {a3 : Int32} {a4 : Int32} (k_a0 : ab_isT a0) (k_a2 : ab_isV a2)
    (h : (((i a2 0) ≤ a4 → Q (some (some (.int 1))) (i, l, dd, x) (ab_E0 sc)) ∧ (¬ (i a2 0) ≤ a4 → (∃ (r2 : Int32) (P3 : ab_S → Prop), ab_Sp MX8_hasCase d [.ref a0, .int a1, .ref a2, .int a4] (i, l, dd, x) (ab_E0 sc) (some (.int r2)) P3 ∧ ∀ i6 l7 dd8 x9, P3 (i6, l7, dd8, x9) → ((r2 = 0 → ab_Fr MX8_follows (d + 1) Q 20 [some (.ref a0), some (.int a1), some (.ref a2), some (.int a3), some (.int (a4 + 1)), none] [] (0, 0) (i6, l7, dd8, x9) (ab_E0 sc)) ∧ (¬ r2 = 0 → (vp_in ((a1 * 3) + a4) 21 ∧ ((a3 = (-1) → ab_Fr MX8_follows (d + 1) Q 20 [some (.ref a0), some (.int a1), some (.ref a2), some (.int (i6 (a0 + 2) ((a1 * 3) + a4).toNatClampNeg)), some (.int (a4 + 1)), none] [] (0, 0) (i6, l7, dd8, x9) (ab_E0 sc)) ∧ (¬ a3 = (-1) → ((a3 = (i6 (a0 + 2) ((a1 * 3) + a4).toNatClampNeg) → ab_Fr MX8_follows (d + 1) Q 20 [some (.ref a0), some (.int a1), some (.ref a2), some (.int (i6 (a0 + 2) ((a1 * 3) + a4).toNatClampNeg)), some (.int (a4 + 1)), none] [] (0, 0) (i6, l7, dd8, x9) (ab_E0 sc)) ∧ (¬ a3 = (i6 (a0 + 2) ((a1 * 3) + a4).toNatClampNeg) → Q (some (some (.int 0))) (i6, l7, dd8, x9) (ab_E0 sc)))))))))))) :
    ab_Fr MX8_follows (d + 1) Q 20 [some (.ref a0), some (.int a1), some (.ref a2), some (.int a3), some (.int a4), none] [] (0, 0) (i, l, dd, x) (ab_E0 sc) := by
  refine ab_iload dX8_follows_20 rfl ?_
  refine ab_aloadn dX8_follows_22 rfl ?_
  refine ab_getf (v := .int (i a2 0)) dX8_follows_23 fl_X8_93 (kV k_a2) rfl ?_
  refine ab_icmp_ge (tgt := 75) dX8_follows_26 (by decide) (fun c1 => ?_) (fun c1 => ?_)
  · refine ab_iconst (v := 1) dX8_follows_75 (by decide) ?_
    exact ab_zret dX8_follows_76 rfl (by decide) ⟨Nat.zero_le _, Nat.zero_le _⟩ (h.1 c1)
  · refine ab_aloadn dX8_follows_29 rfl ?_
    refine ab_iloadn dX8_follows_30 rfl ?_
    refine ab_aloadn dX8_follows_31 rfl ?_
    refine ab_iload dX8_follows_32 rfl ?_
    obtain ⟨r2, P3, hs4, hk5⟩ := (h.2 c1)
    refine ab_callV (vs := [.int a1, .ref a2, .int a4]) (st := []) dX8_follows_34 okMX8_hasCase wd_910 (kT k_a0) rfl rfl rfl (Nat.le_of_ble_eq_true rfl) ⟨Nat.le_of_ble_eq_true rfl, Nat.le_of_ble_eq_true rfl⟩ hs4 ?_
    rintro v9 ⟨i6, l7, dd8, x9⟩ E9 - ⟨rfl, rfl, hp10⟩
    show ab_Fr MX8_follows (d + 1) Q 37 [some (.ref a0), some (.int a1), some (.ref a2), some (.int a3), some (.int a4), none] [.int r2] (0, 0) (i6, l7, dd8, x9) (ab_E0 sc)
    refine ab_if_eq (tgt := 69) dX8_follows_37 (by decide) (fun c11 => ?_) (fun c11 => ?_)
    · refine ab_iinc (v := (a4 + 1)) dX8_follows_69 rfl (by rfl) (Nat.le_of_ble_eq_true rfl) (L2 := [some (.ref a0), some (.int a1), some (.ref a2), some (.int a3), some (.int (a4 + 1)), none]) rfl ?_
      refine ab_goto (tgt := 20) dX8_follows_72 (by decide) ?_
      exact ((hk5 i6 l7 dd8 x9 hp10).1 c11)
    · refine ab_aloadn dX8_follows_40 rfl ?_
      refine ab_getf (v := .ref (a0 + 2)) dX8_follows_41 fl_X8_19 (kT k_a0) (fT_2 k_a0) ?_
      refine ab_iloadn dX8_follows_44 rfl ?_
      refine ab_iconst (v := 3) dX8_follows_45 (by decide) ?_
      refine ab_imul dX8_follows_46 ?_
      refine ab_iload dX8_follows_47 rfl ?_
      refine ab_iadd dX8_follows_49 ?_
      refine ab_iaload (v := (i6 (a0 + 2) ((a1 * 3) + a4).toNatClampNeg)) dX8_follows_50 (kT_2 k_a0) ((hk5 i6 l7 dd8 x9 hp10).2 c11).1 rfl ?_
      refine ab_istore dX8_follows_51 (Nat.le_of_ble_eq_true rfl) (L2 := [some (.ref a0), some (.int a1), some (.ref a2), some (.int a3), some (.int a4), some (.int (i6 (a0 + 2) ((a1 * 3) + a4).toNatClampNeg))]) rfl ?_
      refine ab_iloadn dX8_follows_53 rfl ?_
      refine ab_iconst (v := (-1)) dX8_follows_54 (by decide) ?_
      refine ab_icmp_eq (tgt := 66) dX8_follows_55 (by decide) (fun c12 => ?_) (fun c12 => ?_)
      · refine ab_iload dX8_follows_66 rfl ?_
        refine ab_istoren dX8_follows_68 (Nat.le_of_ble_eq_true rfl) (L2 := [some (.ref a0), some (.int a1), some (.ref a2), some (.int (i6 (a0 + 2) ((a1 * 3) + a4).toNatClampNeg)), some (.int a4), some (.int (i6 (a0 + 2) ((a1 * 3) + a4).toNatClampNeg))]) rfl ?_
        refine ab_iinc (v := (a4 + 1)) dX8_follows_69 rfl (by rfl) (Nat.le_of_ble_eq_true rfl) (L2 := [some (.ref a0), some (.int a1), some (.ref a2), some (.int (i6 (a0 + 2) ((a1 * 3) + a4).toNatClampNeg)), some (.int (a4 + 1)), some (.int (i6 (a0 + 2) ((a1 * 3) + a4).toNatClampNeg))]) rfl ?_
        refine ab_goto (tgt := 20) dX8_follows_72 (by decide) ?_
        refine ab_forget (i := 5) (L2 := [some (.ref a0), some (.int a1), some (.ref a2), some (.int (i6 (a0 + 2) ((a1 * 3) + a4).toNatClampNeg)), some (.int (a4 + 1)), none]) rfl ?_
        exact (((hk5 i6 l7 dd8 x9 hp10).2 c11).2.1 c12)
      · refine ab_iloadn dX8_follows_58 rfl ?_
        refine ab_iload dX8_follows_59 rfl ?_
        refine ab_icmp_eq (tgt := 66) dX8_follows_61 (by decide) (fun c13 => ?_) (fun c13 => ?_)
        · refine ab_iload dX8_follows_66 rfl ?_
          refine ab_istoren dX8_follows_68 (Nat.le_of_ble_eq_true rfl) (L2 := [some (.ref a0), some (.int a1), some (.ref a2), some (.int (i6 (a0 + 2) ((a1 * 3) + a4).toNatClampNeg)), some (.int a4), some (.int (i6 (a0 + 2) ((a1 * 3) + a4).toNatClampNeg))]) rfl ?_
          refine ab_iinc (v := (a4 + 1)) dX8_follows_69 rfl (by rfl) (Nat.le_of_ble_eq_true rfl) (L2 := [some (.ref a0), some (.int a1), some (.ref a2), some (.int (i6 (a0 + 2) ((a1 * 3) + a4).toNatClampNeg)), some (.int (a4 + 1)), some (.int (i6 (a0 + 2) ((a1 * 3) + a4).toNatClampNeg))]) rfl ?_
          refine ab_goto (tgt := 20) dX8_follows_72 (by decide) ?_
          refine ab_forget (i := 5) (L2 := [some (.ref a0), some (.int a1), some (.ref a2), some (.int (i6 (a0 + 2) ((a1 * 3) + a4).toNatClampNeg)), some (.int (a4 + 1)), none]) rfl ?_
          exact ((((hk5 i6 l7 dd8 x9 hp10).2 c11).2.2 c12).1 c13)
        · refine ab_iconst (v := 0) dX8_follows_64 (by decide) ?_
          exact ab_zret dX8_follows_65 rfl (by decide) ⟨Nat.zero_le _, Nat.zero_le _⟩ ((((hk5 i6 l7 dd8 x9 hp10).2 c11).2.2 c12).2 c13)
theorem tMX8_hasCase_0 {d : Nat} {Q : ab_Qt} {sc : Nat × (Nat → Int32)} {i : Nat → Nat → Int32} {l : Nat → Nat → Int64} {dd : Nat → Nat → Value} {x : Nat} {a0 : Nat} {a1 : Int32} {a2 : Nat} {a3 : Int32} (k_a0 : ab_isT a0) (k_a2 : ab_isV a2)
    (h : ab_Fr MX8_hasCase (d + 1) Q 3 [some (.ref a0), some (.int a1), some (.ref a2), some (.int a3), some (.int 0)] [] (0, 0) (i, l, dd, x) (ab_E0 sc)) :
    ab_Fr MX8_hasCase (d + 1) Q 0 [some (.ref a0), some (.int a1), some (.ref a2), some (.int a3), none] [] (0, 0) (i, l, dd, x) (ab_E0 sc) := by
  refine ab_iconst (v := 0) dX8_hasCase_0 (by decide) ?_
  refine ab_istore dX8_hasCase_1 (Nat.le_of_ble_eq_true rfl) (L2 := [some (.ref a0), some (.int a1), some (.ref a2), some (.int a3), some (.int 0)]) rfl ?_
  exact h
theorem tMX8_hasCase_3 {d : Nat} {Q : ab_Qt} {sc : Nat × (Nat → Int32)} {i : Nat → Nat → Int32} {l : Nat → Nat → Int64} {dd : Nat → Nat → Value} {x : Nat} {a0 : Nat} {a1 : Int32} {a2 : Nat} {a3 : Int32} {a4 : Int32} (k_a0 : ab_isT a0) (k_a2 : ab_isV a2)
    (h : ((3 ≤ a4 → Q (some (some (.int 0))) (i, l, dd, x) (ab_E0 sc)) ∧ (¬ 3 ≤ a4 → (vp_in ((a1 * 3) + a4) 24 ∧ ((¬ 0 < (l (a0 + 3) ((a1 * 3) + a4).toNatClampNeg) → ab_Fr MX8_hasCase (d + 1) Q 3 [some (.ref a0), some (.int a1), some (.ref a2), some (.int a3), some (.int (a4 + 1))] [] (0, 0) (i, l, dd, x) (ab_E0 sc)) ∧ (0 < (l (a0 + 3) ((a1 * 3) + a4).toNatClampNeg) → (vp_in ((a4 * 3) + a3) 9 ∧ (((i (a2 + 1) ((a4 * 3) + a3).toNatClampNeg) ≤ 0 → ab_Fr MX8_hasCase (d + 1) Q 3 [some (.ref a0), some (.int a1), some (.ref a2), some (.int a3), some (.int (a4 + 1))] [] (0, 0) (i, l, dd, x) (ab_E0 sc)) ∧ (¬ (i (a2 + 1) ((a4 * 3) + a3).toNatClampNeg) ≤ 0 → Q (some (some (.int 1))) (i, l, dd, x) (ab_E0 sc)))))))))) :
    ab_Fr MX8_hasCase (d + 1) Q 3 [some (.ref a0), some (.int a1), some (.ref a2), some (.int a3), some (.int a4)] [] (0, 0) (i, l, dd, x) (ab_E0 sc) := by
  refine ab_iload dX8_hasCase_3 rfl ?_
  refine ab_iconst (v := 3) dX8_hasCase_5 (by decide) ?_
  refine ab_icmp_ge (tgt := 47) dX8_hasCase_6 (by decide) (fun c1 => ?_) (fun c1 => ?_)
  · refine ab_iconst (v := 0) dX8_hasCase_47 (by decide) ?_
    exact ab_zret dX8_hasCase_48 rfl (by decide) ⟨Nat.zero_le _, Nat.zero_le _⟩ (h.1 c1)
  · refine ab_aloadn dX8_hasCase_9 rfl ?_
    refine ab_getf (v := .ref (a0 + 3)) dX8_hasCase_10 fl_X8_22 (kT k_a0) (fT_3 k_a0) ?_
    refine ab_iloadn dX8_hasCase_13 rfl ?_
    refine ab_iconst (v := 3) dX8_hasCase_14 (by decide) ?_
    refine ab_imul dX8_hasCase_15 ?_
    refine ab_iload dX8_hasCase_16 rfl ?_
    refine ab_iadd dX8_hasCase_18 ?_
    refine ab_laload (v := (l (a0 + 3) ((a1 * 3) + a4).toNatClampNeg)) dX8_hasCase_19 (kT_3 k_a0) (h.2 c1).1 rfl ?_
    refine ab_lconst (v := 0) dX8_hasCase_20 (by decide) ?_
    refine ab_lcle (tgt := 41) dX8_hasCase_21 dX8_hasCase_22 (by decide) (fun c2 => ?_) (fun c2 => ?_)
    · refine ab_iinc (v := (a4 + 1)) dX8_hasCase_41 rfl (by rfl) (Nat.le_of_ble_eq_true rfl) (L2 := [some (.ref a0), some (.int a1), some (.ref a2), some (.int a3), some (.int (a4 + 1))]) rfl ?_
      refine ab_goto (tgt := 3) dX8_hasCase_44 (by decide) ?_
      exact ((h.2 c1).2.1 c2)
    · refine ab_aloadn dX8_hasCase_25 rfl ?_
      refine ab_getf (v := .ref (a2 + 1)) dX8_hasCase_26 fl_X8_98 (kV k_a2) (fV_4 k_a2) ?_
      refine ab_iload dX8_hasCase_29 rfl ?_
      refine ab_iconst (v := 3) dX8_hasCase_31 (by decide) ?_
      refine ab_imul dX8_hasCase_32 ?_
      refine ab_iloadn dX8_hasCase_33 rfl ?_
      refine ab_iadd dX8_hasCase_34 ?_
      refine ab_iaload (v := (i (a2 + 1) ((a4 * 3) + a3).toNatClampNeg)) dX8_hasCase_35 (kV_1 k_a2) ((h.2 c1).2.2 c2).1 rfl ?_
      refine ab_if_le (tgt := 41) dX8_hasCase_36 (by decide) (fun c3 => ?_) (fun c3 => ?_)
      · refine ab_iinc (v := (a4 + 1)) dX8_hasCase_41 rfl (by rfl) (Nat.le_of_ble_eq_true rfl) (L2 := [some (.ref a0), some (.int a1), some (.ref a2), some (.int a3), some (.int (a4 + 1))]) rfl ?_
        refine ab_goto (tgt := 3) dX8_hasCase_44 (by decide) ?_
        exact (((h.2 c1).2.2 c2).2.1 c3)
      · refine ab_iconst (v := 1) dX8_hasCase_39 (by decide) ?_
        exact ab_zret dX8_hasCase_40 rfl (by decide) ⟨Nat.zero_le _, Nat.zero_le _⟩ (((h.2 c1).2.2 c2).2.2 c3)
theorem tMX8_hear_0 {d : Nat} {Q : ab_Qt} {sc : Nat × (Nat → Int32)} {i : Nat → Nat → Int32} {l : Nat → Nat → Int64} {dd : Nat → Nat → Value} {x : Nat} {a0 : Nat} {a1 : Int32} {a2 : Int32} (k_a0 : ab_isT a0)
    (h : (∃ m1, dd a0 0 = .ref m1 ∧ ab_isM m1 ∧ vp_in a1 7 ∧ vp_in (i (a0 + 1) a1.toNatClampNeg) 7 ∧ ab_Fr MX8_hear (d + 1) Q 21 [some (.ref a0), some (.int a1), some (.int a2), some (.ref (m1 + 5 + 6 * (i (a0 + 1) a1.toNatClampNeg).toNatClampNeg)), some (.int 0), some (.int 0), none, none, none] [] (0, 0) (i, l, dd, x) (ab_E0 sc))) :
    ab_Fr MX8_hear (d + 1) Q 0 [some (.ref a0), some (.int a1), some (.int a2), none, none, none, none, none, none] [] (0, 0) (i, l, dd, x) (ab_E0 sc) := by
  refine ab_aloadn dX8_hear_0 rfl ?_
  obtain ⟨m1, hm2d, hm2, hm2t⟩ := h
  refine ab_getf (v := .ref m1) dX8_hear_1 fl_X8_9 (kT k_a0) hm2d ?_
  refine ab_getf (v := .ref (m1 + 4)) dX8_hear_4 fl_X8_89 (kM hm2) (fM_8 hm2) ?_
  refine ab_aloadn dX8_hear_7 rfl ?_
  refine ab_getf (v := .ref (a0 + 1)) dX8_hear_8 fl_X8_15 (kT k_a0) (fT_1 k_a0) ?_
  refine ab_iloadn dX8_hear_11 rfl ?_
  refine ab_iaload (v := (i (a0 + 1) a1.toNatClampNeg)) dX8_hear_12 (kT_1 k_a0) hm2t.1 rfl ?_
  refine ab_aaload (a := (m1 + 5 + 6 * (i (a0 + 1) a1.toNatClampNeg).toNatClampNeg)) dX8_hear_13 (Or.inl rfl) (kM_4 hm2) hm2t.2.1 (fMv hm2 hm2t.2.1) ?_
  refine ab_astoren dX8_hear_14 (Nat.le_of_ble_eq_true rfl) (L2 := [some (.ref a0), some (.int a1), some (.int a2), some (.ref (m1 + 5 + 6 * (i (a0 + 1) a1.toNatClampNeg).toNatClampNeg)), none, none, none, none, none]) rfl ?_
  refine ab_iconst (v := 0) dX8_hear_15 (by decide) ?_
  refine ab_istore dX8_hear_16 (Nat.le_of_ble_eq_true rfl) (L2 := [some (.ref a0), some (.int a1), some (.int a2), some (.ref (m1 + 5 + 6 * (i (a0 + 1) a1.toNatClampNeg).toNatClampNeg)), some (.int 0), none, none, none, none]) rfl ?_
  refine ab_iconst (v := 0) dX8_hear_18 (by decide) ?_
  refine ab_istore dX8_hear_19 (Nat.le_of_ble_eq_true rfl) (L2 := [some (.ref a0), some (.int a1), some (.int a2), some (.ref (m1 + 5 + 6 * (i (a0 + 1) a1.toNatClampNeg).toNatClampNeg)), some (.int 0), some (.int 0), none, none, none]) rfl ?_
  exact hm2t.2.2
theorem tMX8_hear_21 {d : Nat} {Q : ab_Qt} {sc : Nat × (Nat → Int32)} {i : Nat → Nat → Int32} {l : Nat → Nat → Int64} {dd : Nat → Nat → Value} {x : Nat} {a0 : Nat} {a1 : Int32} {a2 : Int32} {a3 : Nat} {a4 : Int32} {a5 : Int32} (k_a0 : ab_isT a0) (k_a3 : ab_isV a3)
    (h : ((3 ≤ a5 → ((a4 = 0 ∨ a4 = 1) ∧ Q (some (some (.int a4))) (i, l, dd, x) (ab_E0 sc))) ∧ (¬ 3 ≤ a5 → ab_Fr MX8_hear (d + 1) Q 33 [some (.ref a0), some (.int a1), some (.int a2), some (.ref a3), some (.int a4), some (.int a5), some (.long 0), none, some (.int 0)] [] (0, 0) (i, l, dd, x) (ab_E0 sc)))) :
    ab_Fr MX8_hear (d + 1) Q 21 [some (.ref a0), some (.int a1), some (.int a2), some (.ref a3), some (.int a4), some (.int a5), none, none, none] [] (0, 0) (i, l, dd, x) (ab_E0 sc) := by
  refine ab_iload dX8_hear_21 rfl ?_
  refine ab_iconst (v := 3) dX8_hear_23 (by decide) ?_
  refine ab_icmp_ge (tgt := 146) dX8_hear_24 (by decide) (fun c1 => ?_) (fun c1 => ?_)
  · refine ab_iload dX8_hear_146 rfl ?_
    exact ab_zret dX8_hear_148 rfl (h.1 c1).1 ⟨Nat.zero_le _, Nat.zero_le _⟩ (h.1 c1).2
  · refine ab_lconst (v := 0) dX8_hear_27 (by decide) ?_
    refine ab_lstore dX8_hear_28 (Nat.le_of_ble_eq_true rfl) (L2 := [some (.ref a0), some (.int a1), some (.int a2), some (.ref a3), some (.int a4), some (.int a5), some (.long 0), none, none]) rfl ?_
    refine ab_iconst (v := 0) dX8_hear_30 (by decide) ?_
    refine ab_istore dX8_hear_31 (Nat.le_of_ble_eq_true rfl) (L2 := [some (.ref a0), some (.int a1), some (.int a2), some (.ref a3), some (.int a4), some (.int a5), some (.long 0), none, some (.int 0)]) rfl ?_
    exact (h.2 c1)
theorem tMX8_hear_33 {d : Nat} {Q : ab_Qt} {sc : Nat × (Nat → Int32)} {i : Nat → Nat → Int32} {l : Nat → Nat → Int64} {dd : Nat → Nat → Value} {x : Nat} {a0 : Nat} {a1 : Int32} {a2 : Int32} {a3 : Nat} {a4 : Int32} {a5 : Int32} {a6 : Int64} {a8 : Int32} (k_a0 : ab_isT a0) (k_a3 : ab_isV a3)
    (h : (((i a3 0) ≤ a8 → (vp_in ((a1 * 3) + a5) 24 ∧ vp_in (((a1 + 1) * 3) + a5) 24 ∧ ∀ l2, l2 = ab_u l (a0 + 3) (((a1 + 1) * 3) + a5).toNatClampNeg ((l (a0 + 3) ((a1 * 3) + a5).toNatClampNeg) * a6) → vp_in (((a1 + 1) * 3) + a5) 24 ∧ ((¬ 0 < (l2 (a0 + 3) (((a1 + 1) * 3) + a5).toNatClampNeg) → ab_Fr MX8_hear (d + 1) Q 21 [some (.ref a0), some (.int a1), some (.int a2), some (.ref a3), some (.int (a4 ||| 0)), some (.int (a5 + 1)), none, none, none] [] (0, 0) (i, l2, dd, x) (ab_E0 sc)) ∧ (0 < (l2 (a0 + 3) (((a1 + 1) * 3) + a5).toNatClampNeg) → ab_Fr MX8_hear (d + 1) Q 21 [some (.ref a0), some (.int a1), some (.int a2), some (.ref a3), some (.int (a4 ||| 1)), some (.int (a5 + 1)), none, none, none] [] (0, 0) (i, l2, dd, x) (ab_E0 sc))))) ∧ (¬ (i a3 0) ≤ a8 → (vp_in ((a1 * 3) + a8) 21 ∧ ((¬ (i (a0 + 2) ((a1 * 3) + a8).toNatClampNeg) = a2 → ab_Fr MX8_hear (d + 1) Q 33 [some (.ref a0), some (.int a1), some (.int a2), some (.ref a3), some (.int a4), some (.int a5), some (.long (a6 + 0)), none, some (.int (a8 + 1))] [] (0, 0) (i, l, dd, x) (ab_E0 sc)) ∧ ((i (a0 + 2) ((a1 * 3) + a8).toNatClampNeg) = a2 → (vp_in ((a5 * 3) + a8) 9 ∧ ab_Fr MX8_hear (d + 1) Q 33 [some (.ref a0), some (.int a1), some (.int a2), some (.ref a3), some (.int a4), some (.int a5), some (.long (a6 + (i (a3 + 1) ((a5 * 3) + a8).toNatClampNeg).toInt64)), none, some (.int (a8 + 1))] [] (0, 0) (i, l, dd, x) (ab_E0 sc)))))))) :
    ab_Fr MX8_hear (d + 1) Q 33 [some (.ref a0), some (.int a1), some (.int a2), some (.ref a3), some (.int a4), some (.int a5), some (.long a6), none, some (.int a8)] [] (0, 0) (i, l, dd, x) (ab_E0 sc) := by
  refine ab_iload dX8_hear_33 rfl ?_
  refine ab_aloadn dX8_hear_35 rfl ?_
  refine ab_getf (v := .int (i a3 0)) dX8_hear_36 fl_X8_93 (kV k_a3) rfl ?_
  refine ab_icmp_ge (tgt := 85) dX8_hear_39 (by decide) (fun c1 => ?_) (fun c1 => ?_)
  · refine ab_aloadn dX8_hear_85 rfl ?_
    refine ab_getf (v := .ref (a0 + 3)) dX8_hear_86 fl_X8_22 (kT k_a0) (fT_3 k_a0) ?_
    refine ab_iloadn dX8_hear_89 rfl ?_
    refine ab_iconst (v := 1) dX8_hear_90 (by decide) ?_
    refine ab_iadd dX8_hear_91 ?_
    refine ab_iconst (v := 3) dX8_hear_92 (by decide) ?_
    refine ab_imul dX8_hear_93 ?_
    refine ab_iload dX8_hear_94 rfl ?_
    refine ab_iadd dX8_hear_96 ?_
    refine ab_aloadn dX8_hear_97 rfl ?_
    refine ab_getf (v := .ref (a0 + 3)) dX8_hear_98 fl_X8_22 (kT k_a0) (fT_3 k_a0) ?_
    refine ab_iloadn dX8_hear_101 rfl ?_
    refine ab_iconst (v := 3) dX8_hear_102 (by decide) ?_
    refine ab_imul dX8_hear_103 ?_
    refine ab_iload dX8_hear_104 rfl ?_
    refine ab_iadd dX8_hear_106 ?_
    refine ab_laload (v := (l (a0 + 3) ((a1 * 3) + a5).toNatClampNeg)) dX8_hear_107 (kT_3 k_a0) (h.1 c1).1 rfl ?_
    refine ab_lload dX8_hear_108 rfl ?_
    refine ab_lmul dX8_hear_110 ?_
    refine ab_lastore dX8_hear_111 (kT_3 k_a0) (h.1 c1).2.1 ?_
    obtain ⟨l2, e3⟩ : ∃ z, z = ab_u l (a0 + 3) (((a1 + 1) * 3) + a5).toNatClampNeg ((l (a0 + 3) ((a1 * 3) + a5).toNatClampNeg) * a6) := ⟨_, rfl⟩
    rw [show ab_u l (a0 + 3) (((a1 + 1) * 3) + a5).toNatClampNeg ((l (a0 + 3) ((a1 * 3) + a5).toNatClampNeg) * a6) = l2 from e3.symm]
    refine ab_iload dX8_hear_112 rfl ?_
    refine ab_aloadn dX8_hear_114 rfl ?_
    refine ab_getf (v := .ref (a0 + 3)) dX8_hear_115 fl_X8_22 (kT k_a0) (fT_3 k_a0) ?_
    refine ab_iloadn dX8_hear_118 rfl ?_
    refine ab_iconst (v := 1) dX8_hear_119 (by decide) ?_
    refine ab_iadd dX8_hear_120 ?_
    refine ab_iconst (v := 3) dX8_hear_121 (by decide) ?_
    refine ab_imul dX8_hear_122 ?_
    refine ab_iload dX8_hear_123 rfl ?_
    refine ab_iadd dX8_hear_125 ?_
    refine ab_laload (v := (l2 (a0 + 3) (((a1 + 1) * 3) + a5).toNatClampNeg)) dX8_hear_126 (kT_3 k_a0) ((h.1 c1).2.2 l2 e3).1 rfl ?_
    refine ab_lconst (v := 0) dX8_hear_127 (by decide) ?_
    refine ab_lcle (tgt := 136) dX8_hear_128 dX8_hear_129 (by decide) (fun c4 => ?_) (fun c4 => ?_)
    · refine ab_iconst (v := 0) dX8_hear_136 (by decide) ?_
      refine ab_ior dX8_hear_137 ?_
      refine ab_istore dX8_hear_138 (Nat.le_of_ble_eq_true rfl) (L2 := [some (.ref a0), some (.int a1), some (.int a2), some (.ref a3), some (.int (a4 ||| 0)), some (.int a5), some (.long a6), none, some (.int a8)]) rfl ?_
      refine ab_iinc (v := (a5 + 1)) dX8_hear_140 rfl (by rfl) (Nat.le_of_ble_eq_true rfl) (L2 := [some (.ref a0), some (.int a1), some (.int a2), some (.ref a3), some (.int (a4 ||| 0)), some (.int (a5 + 1)), some (.long a6), none, some (.int a8)]) rfl ?_
      refine ab_goto (tgt := 21) dX8_hear_143 (by decide) ?_
      refine ab_forget (i := 6) (L2 := [some (.ref a0), some (.int a1), some (.int a2), some (.ref a3), some (.int (a4 ||| 0)), some (.int (a5 + 1)), none, none, some (.int a8)]) rfl ?_
      refine ab_forget (i := 8) (L2 := [some (.ref a0), some (.int a1), some (.int a2), some (.ref a3), some (.int (a4 ||| 0)), some (.int (a5 + 1)), none, none, none]) rfl ?_
      exact (((h.1 c1).2.2 l2 e3).2.1 c4)
    · refine ab_iconst (v := 1) dX8_hear_132 (by decide) ?_
      refine ab_goto (tgt := 137) dX8_hear_133 (by decide) ?_
      refine ab_ior dX8_hear_137 ?_
      refine ab_istore dX8_hear_138 (Nat.le_of_ble_eq_true rfl) (L2 := [some (.ref a0), some (.int a1), some (.int a2), some (.ref a3), some (.int (a4 ||| 1)), some (.int a5), some (.long a6), none, some (.int a8)]) rfl ?_
      refine ab_iinc (v := (a5 + 1)) dX8_hear_140 rfl (by rfl) (Nat.le_of_ble_eq_true rfl) (L2 := [some (.ref a0), some (.int a1), some (.int a2), some (.ref a3), some (.int (a4 ||| 1)), some (.int (a5 + 1)), some (.long a6), none, some (.int a8)]) rfl ?_
      refine ab_goto (tgt := 21) dX8_hear_143 (by decide) ?_
      refine ab_forget (i := 6) (L2 := [some (.ref a0), some (.int a1), some (.int a2), some (.ref a3), some (.int (a4 ||| 1)), some (.int (a5 + 1)), none, none, some (.int a8)]) rfl ?_
      refine ab_forget (i := 8) (L2 := [some (.ref a0), some (.int a1), some (.int a2), some (.ref a3), some (.int (a4 ||| 1)), some (.int (a5 + 1)), none, none, none]) rfl ?_
      exact (((h.1 c1).2.2 l2 e3).2.2 c4)
  · refine ab_lload dX8_hear_42 rfl ?_
    refine ab_aloadn dX8_hear_44 rfl ?_
    refine ab_getf (v := .ref (a0 + 2)) dX8_hear_45 fl_X8_19 (kT k_a0) (fT_2 k_a0) ?_
    refine ab_iloadn dX8_hear_48 rfl ?_
    refine ab_iconst (v := 3) dX8_hear_49 (by decide) ?_
    refine ab_imul dX8_hear_50 ?_
    refine ab_iload dX8_hear_51 rfl ?_
    refine ab_iadd dX8_hear_53 ?_
    refine ab_iaload (v := (i (a0 + 2) ((a1 * 3) + a8).toNatClampNeg)) dX8_hear_54 (kT_2 k_a0) (h.2 c1).1 rfl ?_
    refine ab_iloadn dX8_hear_55 rfl ?_
    refine ab_icmp_ne (tgt := 75) dX8_hear_56 (by decide) (fun c5 => ?_) (fun c5 => ?_)
    · refine ab_lconst (v := 0) dX8_hear_75 (by decide) ?_
      refine ab_ladd dX8_hear_76 ?_
      refine ab_lstore dX8_hear_77 (Nat.le_of_ble_eq_true rfl) (L2 := [some (.ref a0), some (.int a1), some (.int a2), some (.ref a3), some (.int a4), some (.int a5), some (.long (a6 + 0)), none, some (.int a8)]) rfl ?_
      refine ab_iinc (v := (a8 + 1)) dX8_hear_79 rfl (by rfl) (Nat.le_of_ble_eq_true rfl) (L2 := [some (.ref a0), some (.int a1), some (.int a2), some (.ref a3), some (.int a4), some (.int a5), some (.long (a6 + 0)), none, some (.int (a8 + 1))]) rfl ?_
      refine ab_goto (tgt := 33) dX8_hear_82 (by decide) ?_
      exact ((h.2 c1).2.1 c5)
    · refine ab_aloadn dX8_hear_59 rfl ?_
      refine ab_getf (v := .ref (a3 + 1)) dX8_hear_60 fl_X8_98 (kV k_a3) (fV_4 k_a3) ?_
      refine ab_iload dX8_hear_63 rfl ?_
      refine ab_iconst (v := 3) dX8_hear_65 (by decide) ?_
      refine ab_imul dX8_hear_66 ?_
      refine ab_iload dX8_hear_67 rfl ?_
      refine ab_iadd dX8_hear_69 ?_
      refine ab_iaload (v := (i (a3 + 1) ((a5 * 3) + a8).toNatClampNeg)) dX8_hear_70 (kV_1 k_a3) ((h.2 c1).2.2 c5).1 rfl ?_
      refine ab_i2l dX8_hear_71 rfl ?_
      refine ab_goto (tgt := 76) dX8_hear_72 (by decide) ?_
      refine ab_ladd dX8_hear_76 ?_
      refine ab_lstore dX8_hear_77 (Nat.le_of_ble_eq_true rfl) (L2 := [some (.ref a0), some (.int a1), some (.int a2), some (.ref a3), some (.int a4), some (.int a5), some (.long (a6 + (i (a3 + 1) ((a5 * 3) + a8).toNatClampNeg).toInt64)), none, some (.int a8)]) rfl ?_
      refine ab_iinc (v := (a8 + 1)) dX8_hear_79 rfl (by rfl) (Nat.le_of_ble_eq_true rfl) (L2 := [some (.ref a0), some (.int a1), some (.int a2), some (.ref a3), some (.int a4), some (.int a5), some (.long (a6 + (i (a3 + 1) ((a5 * 3) + a8).toNatClampNeg).toInt64)), none, some (.int (a8 + 1))]) rfl ?_
      refine ab_goto (tgt := 33) dX8_hear_82 (by decide) ?_
      exact ((h.2 c1).2.2 c5).2
theorem tMX8_isSilent_0 {d : Nat} {Q : ab_Qt} {sc : Nat × (Nat → Int32)} {i : Nat → Nat → Int32} {l : Nat → Nat → Int64} {dd : Nat → Nat → Value} {x : Nat} {a0 : Nat} (k_a0 : ab_isT a0)
    (h : (∃ m1, dd a0 0 = .ref m1 ∧ ab_isM m1 ∧ ∃ (r3 : Int32) (P4 : ab_S → Prop), ab_Sp MX1_isEmpty d [.ref m1] (i, l, dd, x) (ab_E0 sc) (some (.int r3)) P4 ∧ ∀ i7 l8 dd9 x10, P4 (i7, l8, dd9, x10) → (r3 = 0 ∨ r3 = 1) ∧ Q (some (some (.int r3))) (i7, l8, dd9, x10) (ab_E0 sc))) :
    ab_Fr MX8_isSilent (d + 1) Q 0 [some (.ref a0)] [] (0, 0) (i, l, dd, x) (ab_E0 sc) := by
  refine ab_aloadn dX8_isSilent_0 rfl ?_
  obtain ⟨m1, hm2d, hm2, hm2t⟩ := h
  refine ab_getf (v := .ref m1) dX8_isSilent_1 fl_X8_9 (kT k_a0) hm2d ?_
  obtain ⟨r3, P4, hs5, hk6⟩ := hm2t
  refine ab_callV (vs := []) (st := []) dX8_isSilent_4 okMX1_isEmpty wd_924 (kM hm2) rfl rfl rfl (Nat.le_of_ble_eq_true rfl) ⟨Nat.le_of_ble_eq_true rfl, Nat.le_of_ble_eq_true rfl⟩ hs5 ?_
  rintro v9 ⟨i7, l8, dd9, x10⟩ E9 - ⟨rfl, rfl, hp11⟩
  show ab_Fr MX8_isSilent (d + 1) Q 7 [some (.ref a0)] [.int r3] (0, 0) (i7, l8, dd9, x10) (ab_E0 sc)
  exact ab_zret dX8_isSilent_7 rfl (hk6 i7 l8 dd9 x10 hp11).1 ⟨Nat.zero_le _, Nat.zero_le _⟩ (hk6 i7 l8 dd9 x10 hp11).2
theorem tMX8_hasSigns_0 {d : Nat} {Q : ab_Qt} {sc : Nat × (Nat → Int32)} {i : Nat → Nat → Int32} {l : Nat → Nat → Int64} {dd : Nat → Nat → Value} {x : Nat} {a0 : Nat} (k_a0 : ab_isT a0)
    (h : (∃ m1, dd a0 0 = .ref m1 ∧ ab_isM m1 ∧ ∃ (r3 : Int32) (P4 : ab_S → Prop), ab_Sp MX1_hasSigns d [.ref m1, .ref 4] (i, l, dd, x) (ab_E0 sc) (some (.int r3)) P4 ∧ ∀ i7 l8 dd9 x10, P4 (i7, l8, dd9, x10) → (r3 = 0 ∨ r3 = 1) ∧ Q (some (some (.int r3))) (i7, l8, dd9, x10) (ab_E0 sc))) :
    ab_Fr MX8_hasSigns (d + 1) Q 0 [some (.ref a0), some (.ref 4)] [] (0, 0) (i, l, dd, x) (ab_E0 sc) := by
  refine ab_aloadn dX8_hasSigns_0 rfl ?_
  obtain ⟨m1, hm2d, hm2, hm2t⟩ := h
  refine ab_getf (v := .ref m1) dX8_hasSigns_1 fl_X8_9 (kT k_a0) hm2d ?_
  refine ab_aloadn dX8_hasSigns_4 rfl ?_
  obtain ⟨r3, P4, hs5, hk6⟩ := hm2t
  refine ab_callV (vs := [.ref 4]) (st := []) dX8_hasSigns_5 okMX1_hasSigns wd_933 (kM hm2) rfl rfl rfl (Nat.le_of_ble_eq_true rfl) ⟨Nat.le_of_ble_eq_true rfl, Nat.le_of_ble_eq_true rfl⟩ hs5 ?_
  rintro v9 ⟨i7, l8, dd9, x10⟩ E9 - ⟨rfl, rfl, hp11⟩
  show ab_Fr MX8_hasSigns (d + 1) Q 8 [some (.ref a0), some (.ref 4)] [.int r3] (0, 0) (i7, l8, dd9, x10) (ab_E0 sc)
  exact ab_zret dX8_hasSigns_8 rfl (hk6 i7 l8 dd9 x10 hp11).1 ⟨Nat.zero_le _, Nat.zero_le _⟩ (hk6 i7 l8 dd9 x10 hp11).2
theorem tMX8_said_0 {d : Nat} {Q : ab_Qt} {sc : Nat × (Nat → Int32)} {i : Nat → Nat → Int32} {l : Nat → Nat → Int64} {dd : Nat → Nat → Value} {x : Nat} {a0 : Nat} {a1 : Nat} {n_a1 : Nat} (k_a0 : ab_isT a0) (k_a1 : (ab_E0 sc).1 a1 = .inr (0, n_a1))
    (h : (∃ (P2 : ab_S → Prop), ab_Sp MX8_openTalk d [.ref a0] (i, l, dd, x) (ab_E0 sc) (none) P2 ∧ ∀ i5 l6 dd7 x8, P2 (i5, l6, dd7, x8) → ab_Fr MX8_said (d + 1) Q 8 [some (.ref a0), some (.ref a1), some (.int 0), some (.int 0)] [] (0, 0) (i5, l6, dd7, x8) (ab_E0 sc))) :
    ab_Fr MX8_said (d + 1) Q 0 [some (.ref a0), some (.ref a1), none, none] [] (0, 0) (i, l, dd, x) (ab_E0 sc) := by
  refine ab_iconst (v := 0) dX8_said_0 (by decide) ?_
  refine ab_istoren dX8_said_1 (Nat.le_of_ble_eq_true rfl) (L2 := [some (.ref a0), some (.ref a1), some (.int 0), none]) rfl ?_
  refine ab_aloadn dX8_said_2 rfl ?_
  obtain ⟨P2, hs3, hk4⟩ := h
  refine ab_callV (vs := []) (st := []) dX8_said_3 okMX8_openTalk wd_891 (kT k_a0) rfl rfl rfl (Nat.le_of_ble_eq_true rfl) ⟨Nat.le_of_ble_eq_true rfl, Nat.le_of_ble_eq_true rfl⟩ hs3 ?_
  rintro v9 ⟨i5, l6, dd7, x8⟩ E9 - ⟨rfl, rfl, hp9⟩
  show ab_Fr MX8_said (d + 1) Q 6 [some (.ref a0), some (.ref a1), some (.int 0), none] [] (0, 0) (i5, l6, dd7, x8) (ab_E0 sc)
  refine ab_iconst (v := 0) dX8_said_6 (by decide) ?_
  refine ab_istoren dX8_said_7 (Nat.le_of_ble_eq_true rfl) (L2 := [some (.ref a0), some (.ref a1), some (.int 0), some (.int 0)]) rfl ?_
  exact (hk4 i5 l6 dd7 x8 hp9)
theorem tMX8_said_8 {d : Nat} {Q : ab_Qt} {sc : Nat × (Nat → Int32)} {i : Nat → Nat → Int32} {l : Nat → Nat → Int64} {dd : Nat → Nat → Value} {x : Nat} {a0 : Nat} {a1 : Nat} {n_a1 : Nat} {a2 : Int32} {a3 : Int32} (k_a0 : ab_isT a0) (k_a1 : (ab_E0 sc).1 a1 = .inr (0, n_a1))
    (h : (∃ m1, dd a0 0 = .ref m1 ∧ ab_isM m1 ∧ (((i m1 1) ≤ a3 → Q (some (some (.int a2))) (i, l, dd, x) (ab_E0 sc)) ∧ (¬ (i m1 1) ≤ a3 → (∃ (r4 : Int32) (P5 : ab_S → Prop), ab_Sp MX8_sayWith d [.ref a0, .int a3, .ref a1] (i, l, dd, x) (ab_E0 sc) (some (.int r4)) P5 ∧ ∀ i8 l9 dd10 x11, P5 (i8, l9, dd10, x11) → ab_Fr MX8_said (d + 1) Q 8 [some (.ref a0), some (.ref a1), some (.int ((a2 * 10) + r4)), some (.int (a3 + 1))] [] (0, 0) (i8, l9, dd10, x11) (ab_E0 sc)))))) :
    ab_Fr MX8_said (d + 1) Q 8 [some (.ref a0), some (.ref a1), some (.int a2), some (.int a3)] [] (0, 0) (i, l, dd, x) (ab_E0 sc) := by
  refine ab_iloadn dX8_said_8 rfl ?_
  refine ab_aloadn dX8_said_9 rfl ?_
  obtain ⟨m1, hm2d, hm2, hm2t⟩ := h
  refine ab_getf (v := .ref m1) dX8_said_10 fl_X8_9 (kT k_a0) hm2d ?_
  refine ab_getf (v := .int (i m1 1)) dX8_said_13 fl_X8_42 (kM hm2) rfl ?_
  refine ab_icmp_ge (tgt := 37) dX8_said_16 (by decide) (fun c3 => ?_) (fun c3 => ?_)
  · refine ab_iloadn dX8_said_37 rfl ?_
    exact ab_iret dX8_said_38 rfl ⟨Nat.zero_le _, Nat.zero_le _⟩ (hm2t.1 c3)
  · refine ab_iloadn dX8_said_19 rfl ?_
    refine ab_bipush (v := 10) dX8_said_20 (by decide) ?_
    refine ab_imul dX8_said_22 ?_
    refine ab_aloadn dX8_said_23 rfl ?_
    refine ab_iloadn dX8_said_24 rfl ?_
    refine ab_aloadn dX8_said_25 rfl ?_
    obtain ⟨r4, P5, hs6, hk7⟩ := (hm2t.2 c3)
    refine ab_callV (vs := [.int a3, .ref a1]) (st := [.int (a2 * 10)]) dX8_said_26 okMX8_sayWith wd_938 (kT k_a0) rfl rfl rfl (Nat.le_of_ble_eq_true rfl) ⟨Nat.le_of_ble_eq_true rfl, Nat.le_of_ble_eq_true rfl⟩ hs6 ?_
    rintro v9 ⟨i8, l9, dd10, x11⟩ E9 - ⟨rfl, rfl, hp12⟩
    show ab_Fr MX8_said (d + 1) Q 29 [some (.ref a0), some (.ref a1), some (.int a2), some (.int a3)] [.int r4, .int (a2 * 10)] (0, 0) (i8, l9, dd10, x11) (ab_E0 sc)
    refine ab_iadd dX8_said_29 ?_
    refine ab_istoren dX8_said_30 (Nat.le_of_ble_eq_true rfl) (L2 := [some (.ref a0), some (.ref a1), some (.int ((a2 * 10) + r4)), some (.int a3)]) rfl ?_
    refine ab_iinc (v := (a3 + 1)) dX8_said_31 rfl (by rfl) (Nat.le_of_ble_eq_true rfl) (L2 := [some (.ref a0), some (.ref a1), some (.int ((a2 * 10) + r4)), some (.int (a3 + 1))]) rfl ?_
    refine ab_goto (tgt := 8) dX8_said_34 (by decide) ?_
    exact (hk7 i8 l9 dd10 x11 hp12)
theorem tMX8_sayWith_0 {d : Nat} {Q : ab_Qt} {sc : Nat × (Nat → Int32)} {i : Nat → Nat → Int32} {l : Nat → Nat → Int64} {dd : Nat → Nat → Value} {x : Nat} {a0 : Nat} {a1 : Int32} {a2 : Nat} {n_a2 : Nat} (k_a0 : ab_isT a0) (k_a2 : (ab_E0 sc).1 a2 = .inr (0, n_a2))
    (h : (∃ (P2 : ab_S → Prop), ab_Sp MX8_ponder d [.ref a0, .int a1] (i, l, dd, x) (ab_E0 sc) (none) P2 ∧ ∀ i5 l6 dd7 x8, P2 (i5, l6, dd7, x8) → vp_in a1 7 ∧ vp_in (i5 (a0 + 1) a1.toNatClampNeg) n_a2 ∧ vp_in ((a1 * 3) + (i5 a2 (i5 (a0 + 1) a1.toNatClampNeg).toNatClampNeg)) 21 ∧ ∃ (r10 : Int32) (P11 : ab_S → Prop), ab_Sp MX8_hear d [.ref a0, .int a1, .int (i5 (a0 + 2) ((a1 * 3) + (i5 a2 (i5 (a0 + 1) a1.toNatClampNeg).toNatClampNeg)).toNatClampNeg)] (i5, l6, dd7, x8) (ab_E0 sc) (some (.int r10)) P11 ∧ ∀ i14 l15 dd16 x17, P11 (i14, l15, dd16, x17) → Q (some (some (.int (i5 (a0 + 2) ((a1 * 3) + (i5 a2 (i5 (a0 + 1) a1.toNatClampNeg).toNatClampNeg)).toNatClampNeg)))) (i14, l15, dd16, x17) (ab_E0 sc))) :
    ab_Fr MX8_sayWith (d + 1) Q 0 [some (.ref a0), some (.int a1), some (.ref a2), none] [] (0, 0) (i, l, dd, x) (ab_E0 sc) := by
  refine ab_aloadn dX8_sayWith_0 rfl ?_
  refine ab_iloadn dX8_sayWith_1 rfl ?_
  obtain ⟨P2, hs3, hk4⟩ := h
  refine ab_callV (vs := [.int a1]) (st := []) dX8_sayWith_2 okMX8_ponder wd_900 (kT k_a0) rfl rfl rfl (Nat.le_of_ble_eq_true rfl) ⟨Nat.le_of_ble_eq_true rfl, Nat.le_of_ble_eq_true rfl⟩ hs3 ?_
  rintro v9 ⟨i5, l6, dd7, x8⟩ E9 - ⟨rfl, rfl, hp9⟩
  show ab_Fr MX8_sayWith (d + 1) Q 5 [some (.ref a0), some (.int a1), some (.ref a2), none] [] (0, 0) (i5, l6, dd7, x8) (ab_E0 sc)
  refine ab_aloadn dX8_sayWith_5 rfl ?_
  refine ab_getf (v := .ref (a0 + 2)) dX8_sayWith_6 fl_X8_19 (kT k_a0) (fT_2 k_a0) ?_
  refine ab_iloadn dX8_sayWith_9 rfl ?_
  refine ab_iconst (v := 3) dX8_sayWith_10 (by decide) ?_
  refine ab_imul dX8_sayWith_11 ?_
  refine ab_aloadn dX8_sayWith_12 rfl ?_
  refine ab_aloadn dX8_sayWith_13 rfl ?_
  refine ab_getf (v := .ref (a0 + 1)) dX8_sayWith_14 fl_X8_15 (kT k_a0) (fT_1 k_a0) ?_
  refine ab_iloadn dX8_sayWith_17 rfl ?_
  refine ab_iaload (v := (i5 (a0 + 1) a1.toNatClampNeg)) dX8_sayWith_18 (kT_1 k_a0) (hk4 i5 l6 dd7 x8 hp9).1 rfl ?_
  refine ab_iaload (v := (i5 a2 (i5 (a0 + 1) a1.toNatClampNeg).toNatClampNeg)) dX8_sayWith_19 k_a2 (hk4 i5 l6 dd7 x8 hp9).2.1 rfl ?_
  refine ab_iadd dX8_sayWith_20 ?_
  refine ab_iaload (v := (i5 (a0 + 2) ((a1 * 3) + (i5 a2 (i5 (a0 + 1) a1.toNatClampNeg).toNatClampNeg)).toNatClampNeg)) dX8_sayWith_21 (kT_2 k_a0) (hk4 i5 l6 dd7 x8 hp9).2.2.1 rfl ?_
  refine ab_istoren dX8_sayWith_22 (Nat.le_of_ble_eq_true rfl) (L2 := [some (.ref a0), some (.int a1), some (.ref a2), some (.int (i5 (a0 + 2) ((a1 * 3) + (i5 a2 (i5 (a0 + 1) a1.toNatClampNeg).toNatClampNeg)).toNatClampNeg))]) rfl ?_
  refine ab_aloadn dX8_sayWith_23 rfl ?_
  refine ab_iloadn dX8_sayWith_24 rfl ?_
  refine ab_iloadn dX8_sayWith_25 rfl ?_
  obtain ⟨r10, P11, hs12, hk13⟩ := (hk4 i5 l6 dd7 x8 hp9).2.2.2
  refine ab_callV (vs := [.int a1, .int (i5 (a0 + 2) ((a1 * 3) + (i5 a2 (i5 (a0 + 1) a1.toNatClampNeg).toNatClampNeg)).toNatClampNeg)]) (st := []) dX8_sayWith_26 okMX8_hear wd_913 (kT k_a0) rfl rfl rfl (Nat.le_of_ble_eq_true rfl) ⟨Nat.le_of_ble_eq_true rfl, Nat.le_of_ble_eq_true rfl⟩ hs12 ?_
  rintro v9 ⟨i14, l15, dd16, x17⟩ E9 - ⟨rfl, rfl, hp18⟩
  show ab_Fr MX8_sayWith (d + 1) Q 29 [some (.ref a0), some (.int a1), some (.ref a2), some (.int (i5 (a0 + 2) ((a1 * 3) + (i5 a2 (i5 (a0 + 1) a1.toNatClampNeg).toNatClampNeg)).toNatClampNeg))] [.int r10] (0, 0) (i14, l15, dd16, x17) (ab_E0 sc)
  refine ab_pop dX8_sayWith_29 rfl ?_
  refine ab_iloadn dX8_sayWith_30 rfl ?_
  exact ab_iret dX8_sayWith_31 rfl ⟨Nat.zero_le _, Nat.zero_le _⟩ (hk13 i14 l15 dd16 x17 hp18)
theorem tMX8_cliffWith_0 {d : Nat} {Q : ab_Qt} {sc : Nat × (Nat → Int32)} {i : Nat → Nat → Int32} {l : Nat → Nat → Int64} {dd : Nat → Nat → Value} {x : Nat} {a0 : Nat} {a1 : Nat} {n_a1 : Nat} (k_a0 : ab_isT a0) (k_a1 : (ab_E0 sc).1 a1 = .inr (0, n_a1))
    (h : (∃ (P2 : ab_S → Prop), ab_Sp MX8_openTalk d [.ref a0] (i, l, dd, x) (ab_E0 sc) (none) P2 ∧ ∀ i5 l6 dd7 x8, P2 (i5, l6, dd7, x8) → ab_Fr MX8_cliffWith (d + 1) Q 8 [some (.ref a0), some (.ref a1), some (.int (-1)), some (.int 0)] [] (0, 0) (i5, l6, dd7, x8) (ab_E0 sc))) :
    ab_Fr MX8_cliffWith (d + 1) Q 0 [some (.ref a0), some (.ref a1), none, none] [] (0, 0) (i, l, dd, x) (ab_E0 sc) := by
  refine ab_iconst (v := (-1)) dX8_cliffWith_0 (by decide) ?_
  refine ab_istoren dX8_cliffWith_1 (Nat.le_of_ble_eq_true rfl) (L2 := [some (.ref a0), some (.ref a1), some (.int (-1)), none]) rfl ?_
  refine ab_aloadn dX8_cliffWith_2 rfl ?_
  obtain ⟨P2, hs3, hk4⟩ := h
  refine ab_callV (vs := []) (st := []) dX8_cliffWith_3 okMX8_openTalk wd_891 (kT k_a0) rfl rfl rfl (Nat.le_of_ble_eq_true rfl) ⟨Nat.le_of_ble_eq_true rfl, Nat.le_of_ble_eq_true rfl⟩ hs3 ?_
  rintro v9 ⟨i5, l6, dd7, x8⟩ E9 - ⟨rfl, rfl, hp9⟩
  show ab_Fr MX8_cliffWith (d + 1) Q 6 [some (.ref a0), some (.ref a1), some (.int (-1)), none] [] (0, 0) (i5, l6, dd7, x8) (ab_E0 sc)
  refine ab_iconst (v := 0) dX8_cliffWith_6 (by decide) ?_
  refine ab_istoren dX8_cliffWith_7 (Nat.le_of_ble_eq_true rfl) (L2 := [some (.ref a0), some (.ref a1), some (.int (-1)), some (.int 0)]) rfl ?_
  exact (hk4 i5 l6 dd7 x8 hp9)
theorem tMX8_cliffWith_8 {d : Nat} {Q : ab_Qt} {sc : Nat × (Nat → Int32)} {i : Nat → Nat → Int32} {l : Nat → Nat → Int64} {dd : Nat → Nat → Value} {x : Nat} {a0 : Nat} {a1 : Nat} {n_a1 : Nat} {a2 : Int32} {a3 : Int32} (k_a0 : ab_isT a0) (k_a1 : (ab_E0 sc).1 a1 = .inr (0, n_a1))
    (h : (∃ m1, dd a0 0 = .ref m1 ∧ ab_isM m1 ∧ (((i m1 1) ≤ a3 → Q (some (some (.int a2))) (i, l, dd, x) (ab_E0 sc)) ∧ (¬ (i m1 1) ≤ a3 → (∃ (r4 : Int32) (P5 : ab_S → Prop), ab_Sp MX8_sayWith d [.ref a0, .int a3, .ref a1] (i, l, dd, x) (ab_E0 sc) (some (.int r4)) P5 ∧ ∀ i8 l9 dd10 x11, P5 (i8, l9, dd10, x11) → ∃ (r13 : Int32) (P14 : ab_S → Prop), ab_Sp MX8_cliffAt d [.ref a0, .int a3, .int a2] (i8, l9, dd10, x11) (ab_E0 sc) (some (.int r13)) P14 ∧ ∀ i17 l18 dd19 x20, P14 (i17, l18, dd19, x20) → ab_Fr MX8_cliffWith (d + 1) Q 8 [some (.ref a0), some (.ref a1), some (.int r13), some (.int (a3 + 1))] [] (0, 0) (i17, l18, dd19, x20) (ab_E0 sc)))))) :
    ab_Fr MX8_cliffWith (d + 1) Q 8 [some (.ref a0), some (.ref a1), some (.int a2), some (.int a3)] [] (0, 0) (i, l, dd, x) (ab_E0 sc) := by
  refine ab_iloadn dX8_cliffWith_8 rfl ?_
  refine ab_aloadn dX8_cliffWith_9 rfl ?_
  obtain ⟨m1, hm2d, hm2, hm2t⟩ := h
  refine ab_getf (v := .ref m1) dX8_cliffWith_10 fl_X8_9 (kT k_a0) hm2d ?_
  refine ab_getf (v := .int (i m1 1)) dX8_cliffWith_13 fl_X8_42 (kM hm2) rfl ?_
  refine ab_icmp_ge (tgt := 39) dX8_cliffWith_16 (by decide) (fun c3 => ?_) (fun c3 => ?_)
  · refine ab_iloadn dX8_cliffWith_39 rfl ?_
    exact ab_iret dX8_cliffWith_40 rfl ⟨Nat.zero_le _, Nat.zero_le _⟩ (hm2t.1 c3)
  · refine ab_aloadn dX8_cliffWith_19 rfl ?_
    refine ab_iloadn dX8_cliffWith_20 rfl ?_
    refine ab_aloadn dX8_cliffWith_21 rfl ?_
    obtain ⟨r4, P5, hs6, hk7⟩ := (hm2t.2 c3)
    refine ab_callV (vs := [.int a3, .ref a1]) (st := []) dX8_cliffWith_22 okMX8_sayWith wd_938 (kT k_a0) rfl rfl rfl (Nat.le_of_ble_eq_true rfl) ⟨Nat.le_of_ble_eq_true rfl, Nat.le_of_ble_eq_true rfl⟩ hs6 ?_
    rintro v9 ⟨i8, l9, dd10, x11⟩ E9 - ⟨rfl, rfl, hp12⟩
    show ab_Fr MX8_cliffWith (d + 1) Q 25 [some (.ref a0), some (.ref a1), some (.int a2), some (.int a3)] [.int r4] (0, 0) (i8, l9, dd10, x11) (ab_E0 sc)
    refine ab_pop dX8_cliffWith_25 rfl ?_
    refine ab_aloadn dX8_cliffWith_26 rfl ?_
    refine ab_iloadn dX8_cliffWith_27 rfl ?_
    refine ab_iloadn dX8_cliffWith_28 rfl ?_
    obtain ⟨r13, P14, hs15, hk16⟩ := (hk7 i8 l9 dd10 x11 hp12)
    refine ab_callV (vs := [.int a3, .int a2]) (st := []) dX8_cliffWith_29 okMX8_cliffAt wd_904 (kT k_a0) rfl rfl rfl (Nat.le_of_ble_eq_true rfl) ⟨Nat.le_of_ble_eq_true rfl, Nat.le_of_ble_eq_true rfl⟩ hs15 ?_
    rintro v9 ⟨i17, l18, dd19, x20⟩ E9 - ⟨rfl, rfl, hp21⟩
    show ab_Fr MX8_cliffWith (d + 1) Q 32 [some (.ref a0), some (.ref a1), some (.int a2), some (.int a3)] [.int r13] (0, 0) (i17, l18, dd19, x20) (ab_E0 sc)
    refine ab_istoren dX8_cliffWith_32 (Nat.le_of_ble_eq_true rfl) (L2 := [some (.ref a0), some (.ref a1), some (.int r13), some (.int a3)]) rfl ?_
    refine ab_iinc (v := (a3 + 1)) dX8_cliffWith_33 rfl (by rfl) (Nat.le_of_ble_eq_true rfl) (L2 := [some (.ref a0), some (.ref a1), some (.int r13), some (.int (a3 + 1))]) rfl ?_
    refine ab_goto (tgt := 8) dX8_cliffWith_36 (by decide) ?_
    exact (hk16 i17 l18 dd19 x20 hp21)
theorem tMX8_tryOrders_0 {d : Nat} {Q : ab_Qt} {sc : Nat × (Nat → Int32)} {i : Nat → Nat → Int32} {l : Nat → Nat → Int64} {dd : Nat → Nat → Value} {x : Nat} {a0 : Nat} {a1 : Nat} (k_a0 : ab_isT a0) (k_a1 : ab_isM a1)
    (h : (∀ dd1, dd1 = ab_u dd a0 0 (.ref a1) → ab_Fr MX8_tryOrders (d + 1) Q 7 [some (.ref a0), none, some (.int 0), none, none, none, none, none, none] [] (0, 0) (i, l, dd1, x) (ab_E0 sc))) :
    ab_Fr MX8_tryOrders (d + 1) Q 0 [some (.ref a0), some (.ref a1), none, none, none, none, none, none, none] [] (0, 0) (i, l, dd, x) (ab_E0 sc) := by
  refine ab_aloadn dX8_tryOrders_0 rfl ?_
  refine ab_aloadn dX8_tryOrders_1 rfl ?_
  refine ab_putR dX8_tryOrders_2 fl_X8_9 (kT k_a0) rfl ?_
  obtain ⟨dd1, e2⟩ : ∃ z, z = ab_u dd a0 0 (.ref a1) := ⟨_, rfl⟩
  show ab_Fr MX8_tryOrders (d + 1) Q 5 [some (.ref a0), some (.ref a1), none, none, none, none, none, none, none] [] (0, 0) (i, l, ab_u dd a0 0 (.ref a1), x) (ab_E0 sc)
  rw [show ab_u dd a0 0 (.ref a1) = dd1 from e2.symm]
  refine ab_iconst (v := 0) dX8_tryOrders_5 (by decide) ?_
  refine ab_istoren dX8_tryOrders_6 (Nat.le_of_ble_eq_true rfl) (L2 := [some (.ref a0), some (.ref a1), some (.int 0), none, none, none, none, none, none]) rfl ?_
  refine ab_forget (i := 1) (L2 := [some (.ref a0), none, some (.int 0), none, none, none, none, none, none]) rfl ?_
  exact (h dd1 e2)
theorem tMX8_tryOrders_7 {d : Nat} {Q : ab_Qt} {sc : Nat × (Nat → Int32)} {i : Nat → Nat → Int32} {l : Nat → Nat → Int64} {dd : Nat → Nat → Value} {x : Nat} {a0 : Nat} {a2 : Int32} (k_a0 : ab_isT a0)
    (h : (∃ m1, dd a0 0 = .ref m1 ∧ ab_isM m1 ∧ (((i m1 1) ≤ a2 → ab_Fr MX8_tryOrders (d + 1) Q 43 [some (.ref a0), none, some (.int 0), some (.long 1152921504606846976), none, some (.int 1), some (.int 0), none, none] [] (0, 0) (i, l, dd, x) (ab_E0 sc)) ∧ (¬ (i m1 1) ≤ a2 → (vp_in a2 7 ∧ ∀ i4, i4 = ab_u i (a0 + 1) a2.toNatClampNeg a2 → ab_Fr MX8_tryOrders (d + 1) Q 7 [some (.ref a0), none, some (.int (a2 + 1)), none, none, none, none, none, none] [] (0, 0) (i4, l, dd, x) (ab_E0 sc)))))) :
    ab_Fr MX8_tryOrders (d + 1) Q 7 [some (.ref a0), none, some (.int a2), none, none, none, none, none, none] [] (0, 0) (i, l, dd, x) (ab_E0 sc) := by
  refine ab_iloadn dX8_tryOrders_7 rfl ?_
  refine ab_aloadn dX8_tryOrders_8 rfl ?_
  obtain ⟨m1, hm2d, hm2, hm2t⟩ := h
  refine ab_getf (v := .ref m1) dX8_tryOrders_9 fl_X8_9 (kT k_a0) hm2d ?_
  refine ab_getf (v := .int (i m1 1)) dX8_tryOrders_12 fl_X8_42 (kM hm2) rfl ?_
  refine ab_icmp_ge (tgt := 31) dX8_tryOrders_15 (by decide) (fun c3 => ?_) (fun c3 => ?_)
  · refine ab_iconst (v := 0) dX8_tryOrders_31 (by decide) ?_
    refine ab_istoren dX8_tryOrders_32 (Nat.le_of_ble_eq_true rfl) (L2 := [some (.ref a0), none, some (.int 0), none, none, none, none, none, none]) rfl ?_
    refine ab_ldc2 dX8_tryOrders_33 wd_957 ?_
    refine ab_lstoren dX8_tryOrders_36 (Nat.le_of_ble_eq_true rfl) (L2 := [some (.ref a0), none, some (.int 0), some (.long 1152921504606846976), none, none, none, none, none]) rfl ?_
    refine ab_iconst (v := 1) dX8_tryOrders_37 (by decide) ?_
    refine ab_istore dX8_tryOrders_38 (Nat.le_of_ble_eq_true rfl) (L2 := [some (.ref a0), none, some (.int 0), some (.long 1152921504606846976), none, some (.int 1), none, none, none]) rfl ?_
    refine ab_iconst (v := 0) dX8_tryOrders_40 (by decide) ?_
    refine ab_istore dX8_tryOrders_41 (Nat.le_of_ble_eq_true rfl) (L2 := [some (.ref a0), none, some (.int 0), some (.long 1152921504606846976), none, some (.int 1), some (.int 0), none, none]) rfl ?_
    exact (hm2t.1 c3)
  · refine ab_aloadn dX8_tryOrders_18 rfl ?_
    refine ab_getf (v := .ref (a0 + 1)) dX8_tryOrders_19 fl_X8_15 (kT k_a0) (fT_1 k_a0) ?_
    refine ab_iloadn dX8_tryOrders_22 rfl ?_
    refine ab_iloadn dX8_tryOrders_23 rfl ?_
    refine ab_iastore dX8_tryOrders_24 (kT_1 k_a0) (hm2t.2 c3).1 ?_
    obtain ⟨i4, e5⟩ : ∃ z, z = ab_u i (a0 + 1) a2.toNatClampNeg a2 := ⟨_, rfl⟩
    rw [show ab_u i (a0 + 1) a2.toNatClampNeg a2 = i4 from e5.symm]
    refine ab_iinc (v := (a2 + 1)) dX8_tryOrders_25 rfl (by rfl) (Nat.le_of_ble_eq_true rfl) (L2 := [some (.ref a0), none, some (.int (a2 + 1)), none, none, none, none, none, none]) rfl ?_
    refine ab_goto (tgt := 7) dX8_tryOrders_28 (by decide) ?_
    exact ((hm2t.2 c3).2 i4 e5)
theorem tMX8_tryOrders_43 {d : Nat} {Q : ab_Qt} {sc : Nat × (Nat → Int32)} {i : Nat → Nat → Int32} {l : Nat → Nat → Int64} {dd : Nat → Nat → Value} {x : Nat} {a0 : Nat} {a2 : Int32} {a3 : Int64} {a5 : Int32} {a6 : Int32} (k_a0 : ab_isT a0)
    (h : ((120 ≤ a6 → Q (some (some (.int a2))) (i, l, dd, x) (ab_E0 sc)) ∧ (¬ 120 ≤ a6 → ((a5 = 0 → Q (some (some (.int a2))) (i, l, dd, x) (ab_E0 sc)) ∧ (¬ a5 = 0 → (∃ (P4 : ab_S → Prop), ab_Sp MX8_speakInOrder d [.ref a0] (i, l, dd, x) (ab_E0 sc) (none) P4 ∧ ∀ i7 l8 dd9 x10, P4 (i7, l8, dd9, x10) → ∃ m12, dd9 a0 0 = .ref m12 ∧ ab_isM m12 ∧ ∃ (r14 : Int64) (P15 : ab_S → Prop), ab_Sp MX0_lostBy d [.ref (m12 + 2), .ref (a0 + 5)] (i7, l8, dd9, x10) (ab_E0 sc) (some (.long r14)) P15 ∧ ∀ i18 l19 dd20 x21, P15 (i18, l19, dd20, x21) → ((¬ r14 < a3 → ab_Fr MX8_tryOrders (d + 1) Q 90 [some (.ref a0), none, some (.int a2), some (.long a3), none, none, some (.int a6), none, none] [] (0, 0) (i18, l19, dd20, x21) (ab_E0 sc)) ∧ (r14 < a3 → (∃ (r24 : Int32) (P25 : ab_S → Prop), ab_Sp MX8_orderByTen d [.ref a0] (i18, l19, dd20, x21) (ab_E0 sc) (some (.int r24)) P25 ∧ ∀ i28 l29 dd30 x31, P25 (i28, l29, dd30, x31) → ab_Fr MX8_tryOrders (d + 1) Q 90 [some (.ref a0), none, some (.int r24), some (.long r14), none, none, some (.int a6), none, none] [] (0, 0) (i28, l29, dd30, x31) (ab_E0 sc)))))))))) :
    ab_Fr MX8_tryOrders (d + 1) Q 43 [some (.ref a0), none, some (.int a2), some (.long a3), none, some (.int a5), some (.int a6), none, none] [] (0, 0) (i, l, dd, x) (ab_E0 sc) := by
  refine ab_iload dX8_tryOrders_43 rfl ?_
  refine ab_bipush (v := 120) dX8_tryOrders_45 (by decide) ?_
  refine ab_icmp_ge (tgt := 102) dX8_tryOrders_47 (by decide) (fun c1 => ?_) (fun c1 => ?_)
  · refine ab_iloadn dX8_tryOrders_102 rfl ?_
    exact ab_iret dX8_tryOrders_103 rfl ⟨Nat.zero_le _, Nat.zero_le _⟩ (h.1 c1)
  · refine ab_iload dX8_tryOrders_50 rfl ?_
    refine ab_if_eq (tgt := 102) dX8_tryOrders_52 (by decide) (fun c2 => ?_) (fun c2 => ?_)
    · refine ab_iloadn dX8_tryOrders_102 rfl ?_
      exact ab_iret dX8_tryOrders_103 rfl ⟨Nat.zero_le _, Nat.zero_le _⟩ ((h.2 c1).1 c2)
    · refine ab_aloadn dX8_tryOrders_55 rfl ?_
      obtain ⟨P4, hs5, hk6⟩ := ((h.2 c1).2 c2)
      refine ab_callV (vs := []) (st := []) dX8_tryOrders_56 okMX8_speakInOrder wd_888 (kT k_a0) rfl rfl rfl (Nat.le_of_ble_eq_true rfl) ⟨Nat.le_of_ble_eq_true rfl, Nat.le_of_ble_eq_true rfl⟩ hs5 ?_
      rintro v9 ⟨i7, l8, dd9, x10⟩ E9 - ⟨rfl, rfl, hp11⟩
      show ab_Fr MX8_tryOrders (d + 1) Q 59 [some (.ref a0), none, some (.int a2), some (.long a3), none, some (.int a5), some (.int a6), none, none] [] (0, 0) (i7, l8, dd9, x10) (ab_E0 sc)
      refine ab_aloadn dX8_tryOrders_59 rfl ?_
      obtain ⟨m12, hm13d, hm13, hm13t⟩ := (hk6 i7 l8 dd9 x10 hp11)
      refine ab_getf (v := .ref m12) dX8_tryOrders_60 fl_X8_9 (kT k_a0) hm13d ?_
      refine ab_getf (v := .ref (m12 + 2)) dX8_tryOrders_63 fl_X8_125 (kM hm13) (fM_7 hm13) ?_
      refine ab_aloadn dX8_tryOrders_66 rfl ?_
      refine ab_getf (v := .ref (a0 + 5)) dX8_tryOrders_67 fl_X8_29 (kT k_a0) (fT_5 k_a0) ?_
      obtain ⟨r14, P15, hs16, hk17⟩ := hm13t
      refine ab_callV (vs := [.ref (a0 + 5)]) (st := []) dX8_tryOrders_70 okMX0_lostBy wd_958 (kLo (isM_2 hm13)) rfl rfl rfl (Nat.le_of_ble_eq_true rfl) ⟨Nat.le_of_ble_eq_true rfl, Nat.le_of_ble_eq_true rfl⟩ hs16 ?_
      rintro v9 ⟨i18, l19, dd20, x21⟩ E9 - ⟨rfl, rfl, hp22⟩
      show ab_Fr MX8_tryOrders (d + 1) Q 73 [some (.ref a0), none, some (.int a2), some (.long a3), none, some (.int a5), some (.int a6), none, none] [.long r14] (0, 0) (i18, l19, dd20, x21) (ab_E0 sc)
      refine ab_lstore dX8_tryOrders_73 (Nat.le_of_ble_eq_true rfl) (L2 := [some (.ref a0), none, some (.int a2), some (.long a3), none, some (.int a5), some (.int a6), some (.long r14), none]) rfl ?_
      refine ab_lload dX8_tryOrders_75 rfl ?_
      refine ab_lloadn dX8_tryOrders_77 rfl ?_
      refine ab_lcge (tgt := 90) dX8_tryOrders_78 dX8_tryOrders_79 (by decide) (fun c23 => ?_) (fun c23 => ?_)
      · refine ab_forget (i := 5) (L2 := [some (.ref a0), none, some (.int a2), some (.long a3), none, none, some (.int a6), some (.long r14), none]) rfl ?_
        refine ab_forget (i := 7) (L2 := [some (.ref a0), none, some (.int a2), some (.long a3), none, none, some (.int a6), none, none]) rfl ?_
        exact ((hk17 i18 l19 dd20 x21 hp22).1 c23)
      · refine ab_lload dX8_tryOrders_82 rfl ?_
        refine ab_lstoren dX8_tryOrders_84 (Nat.le_of_ble_eq_true rfl) (L2 := [some (.ref a0), none, some (.int a2), some (.long r14), none, some (.int a5), some (.int a6), some (.long r14), none]) rfl ?_
        refine ab_aloadn dX8_tryOrders_85 rfl ?_
        obtain ⟨r24, P25, hs26, hk27⟩ := ((hk17 i18 l19 dd20 x21 hp22).2 c23)
        refine ab_callV (vs := []) (st := []) dX8_tryOrders_86 okMX8_orderByTen wd_959 (kT k_a0) rfl rfl rfl (Nat.le_of_ble_eq_true rfl) ⟨Nat.le_of_ble_eq_true rfl, Nat.le_of_ble_eq_true rfl⟩ hs26 ?_
        rintro v9 ⟨i28, l29, dd30, x31⟩ E9 - ⟨rfl, rfl, hp32⟩
        show ab_Fr MX8_tryOrders (d + 1) Q 89 [some (.ref a0), none, some (.int a2), some (.long r14), none, some (.int a5), some (.int a6), some (.long r14), none] [.int r24] (0, 0) (i28, l29, dd30, x31) (ab_E0 sc)
        refine ab_istoren dX8_tryOrders_89 (Nat.le_of_ble_eq_true rfl) (L2 := [some (.ref a0), none, some (.int r24), some (.long r14), none, some (.int a5), some (.int a6), some (.long r14), none]) rfl ?_
        refine ab_forget (i := 5) (L2 := [some (.ref a0), none, some (.int r24), some (.long r14), none, none, some (.int a6), some (.long r14), none]) rfl ?_
        refine ab_forget (i := 7) (L2 := [some (.ref a0), none, some (.int r24), some (.long r14), none, none, some (.int a6), none, none]) rfl ?_
        exact (hk27 i28 l29 dd30 x31 hp32)
theorem tMX8_tryOrders_90 {d : Nat} {Q : ab_Qt} {sc : Nat × (Nat → Int32)} {i : Nat → Nat → Int32} {l : Nat → Nat → Int64} {dd : Nat → Nat → Value} {x : Nat} {a0 : Nat} {a2 : Int32} {a3 : Int64} {a6 : Int32} (k_a0 : ab_isT a0)
    (h : (∃ (r1 : Int32) (P2 : ab_S → Prop), ab_Sp MX8_nextOrder d [.ref a0] (i, l, dd, x) (ab_E0 sc) (some (.int r1)) P2 ∧ ∀ i5 l6 dd7 x8, P2 (i5, l6, dd7, x8) → ab_Fr MX8_tryOrders (d + 1) Q 43 [some (.ref a0), none, some (.int a2), some (.long a3), none, some (.int r1), some (.int (a6 + 1)), none, none] [] (0, 0) (i5, l6, dd7, x8) (ab_E0 sc))) :
    ab_Fr MX8_tryOrders (d + 1) Q 90 [some (.ref a0), none, some (.int a2), some (.long a3), none, none, some (.int a6), none, none] [] (0, 0) (i, l, dd, x) (ab_E0 sc) := by
  refine ab_aloadn dX8_tryOrders_90 rfl ?_
  obtain ⟨r1, P2, hs3, hk4⟩ := h
  refine ab_callV (vs := []) (st := []) dX8_tryOrders_91 okMX8_nextOrder wd_962 (kT k_a0) rfl rfl rfl (Nat.le_of_ble_eq_true rfl) ⟨Nat.le_of_ble_eq_true rfl, Nat.le_of_ble_eq_true rfl⟩ hs3 ?_
  rintro v9 ⟨i5, l6, dd7, x8⟩ E9 - ⟨rfl, rfl, hp9⟩
  show ab_Fr MX8_tryOrders (d + 1) Q 94 [some (.ref a0), none, some (.int a2), some (.long a3), none, none, some (.int a6), none, none] [.int r1] (0, 0) (i5, l6, dd7, x8) (ab_E0 sc)
  refine ab_istore dX8_tryOrders_94 (Nat.le_of_ble_eq_true rfl) (L2 := [some (.ref a0), none, some (.int a2), some (.long a3), none, some (.int r1), some (.int a6), none, none]) rfl ?_
  refine ab_iinc (v := (a6 + 1)) dX8_tryOrders_96 rfl (by rfl) (Nat.le_of_ble_eq_true rfl) (L2 := [some (.ref a0), none, some (.int a2), some (.long a3), none, some (.int r1), some (.int (a6 + 1)), none, none]) rfl ?_
  refine ab_goto (tgt := 43) dX8_tryOrders_99 (by decide) ?_
  exact (hk4 i5 l6 dd7 x8 hp9)
theorem tMX8_orderByTen_0 {d : Nat} {Q : ab_Qt} {sc : Nat × (Nat → Int32)} {i : Nat → Nat → Int32} {l : Nat → Nat → Int64} {dd : Nat → Nat → Value} {x : Nat} {a0 : Nat} (k_a0 : ab_isT a0)
    (h : ab_Fr MX8_orderByTen (d + 1) Q 4 [some (.ref a0), some (.int 0), some (.int 0)] [] (0, 0) (i, l, dd, x) (ab_E0 sc)) :
    ab_Fr MX8_orderByTen (d + 1) Q 0 [some (.ref a0), none, none] [] (0, 0) (i, l, dd, x) (ab_E0 sc) := by
  refine ab_iconst (v := 0) dX8_orderByTen_0 (by decide) ?_
  refine ab_istoren dX8_orderByTen_1 (Nat.le_of_ble_eq_true rfl) (L2 := [some (.ref a0), some (.int 0), none]) rfl ?_
  refine ab_iconst (v := 0) dX8_orderByTen_2 (by decide) ?_
  refine ab_istoren dX8_orderByTen_3 (Nat.le_of_ble_eq_true rfl) (L2 := [some (.ref a0), some (.int 0), some (.int 0)]) rfl ?_
  exact h
theorem tMX8_orderByTen_4 {d : Nat} {Q : ab_Qt} {sc : Nat × (Nat → Int32)} {i : Nat → Nat → Int32} {l : Nat → Nat → Int64} {dd : Nat → Nat → Value} {x : Nat} {a0 : Nat} {a1 : Int32} {a2 : Int32} (k_a0 : ab_isT a0)
    (h : (∃ m1, dd a0 0 = .ref m1 ∧ ab_isM m1 ∧ (((i m1 1) ≤ a2 → Q (some (some (.int a1))) (i, l, dd, x) (ab_E0 sc)) ∧ (¬ (i m1 1) ≤ a2 → (vp_in a2 7 ∧ ab_Fr MX8_orderByTen (d + 1) Q 4 [some (.ref a0), some (.int ((a1 * 10) + (i (a0 + 1) a2.toNatClampNeg))), some (.int (a2 + 1))] [] (0, 0) (i, l, dd, x) (ab_E0 sc)))))) :
    ab_Fr MX8_orderByTen (d + 1) Q 4 [some (.ref a0), some (.int a1), some (.int a2)] [] (0, 0) (i, l, dd, x) (ab_E0 sc) := by
  refine ab_iloadn dX8_orderByTen_4 rfl ?_
  refine ab_aloadn dX8_orderByTen_5 rfl ?_
  obtain ⟨m1, hm2d, hm2, hm2t⟩ := h
  refine ab_getf (v := .ref m1) dX8_orderByTen_6 fl_X8_9 (kT k_a0) hm2d ?_
  refine ab_getf (v := .int (i m1 1)) dX8_orderByTen_9 fl_X8_42 (kM hm2) rfl ?_
  refine ab_icmp_ge (tgt := 33) dX8_orderByTen_12 (by decide) (fun c3 => ?_) (fun c3 => ?_)
  · refine ab_iloadn dX8_orderByTen_33 rfl ?_
    exact ab_iret dX8_orderByTen_34 rfl ⟨Nat.zero_le _, Nat.zero_le _⟩ (hm2t.1 c3)
  · refine ab_iloadn dX8_orderByTen_15 rfl ?_
    refine ab_bipush (v := 10) dX8_orderByTen_16 (by decide) ?_
    refine ab_imul dX8_orderByTen_18 ?_
    refine ab_aloadn dX8_orderByTen_19 rfl ?_
    refine ab_getf (v := .ref (a0 + 1)) dX8_orderByTen_20 fl_X8_15 (kT k_a0) (fT_1 k_a0) ?_
    refine ab_iloadn dX8_orderByTen_23 rfl ?_
    refine ab_iaload (v := (i (a0 + 1) a2.toNatClampNeg)) dX8_orderByTen_24 (kT_1 k_a0) (hm2t.2 c3).1 rfl ?_
    refine ab_iadd dX8_orderByTen_25 ?_
    refine ab_istoren dX8_orderByTen_26 (Nat.le_of_ble_eq_true rfl) (L2 := [some (.ref a0), some (.int ((a1 * 10) + (i (a0 + 1) a2.toNatClampNeg))), some (.int a2)]) rfl ?_
    refine ab_iinc (v := (a2 + 1)) dX8_orderByTen_27 rfl (by rfl) (Nat.le_of_ble_eq_true rfl) (L2 := [some (.ref a0), some (.int ((a1 * 10) + (i (a0 + 1) a2.toNatClampNeg))), some (.int (a2 + 1))]) rfl ?_
    refine ab_goto (tgt := 4) dX8_orderByTen_30 (by decide) ?_
    exact (hm2t.2 c3).2
theorem tMX8_nextOrder_0 {d : Nat} {Q : ab_Qt} {sc : Nat × (Nat → Int32)} {i : Nat → Nat → Int32} {l : Nat → Nat → Int64} {dd : Nat → Nat → Value} {x : Nat} {a0 : Nat} (k_a0 : ab_isT a0)
    (h : (∃ m1, dd a0 0 = .ref m1 ∧ ab_isM m1 ∧ ab_Fr MX8_nextOrder (d + 1) Q 10 [some (.ref a0), some (.int ((i m1 1) - 2)), none, none, none] [] (0, 0) (i, l, dd, x) (ab_E0 sc))) :
    ab_Fr MX8_nextOrder (d + 1) Q 0 [some (.ref a0), none, none, none, none] [] (0, 0) (i, l, dd, x) (ab_E0 sc) := by
  refine ab_aloadn dX8_nextOrder_0 rfl ?_
  obtain ⟨m1, hm2d, hm2, hm2t⟩ := h
  refine ab_getf (v := .ref m1) dX8_nextOrder_1 fl_X8_9 (kT k_a0) hm2d ?_
  refine ab_getf (v := .int (i m1 1)) dX8_nextOrder_4 fl_X8_42 (kM hm2) rfl ?_
  refine ab_iconst (v := 2) dX8_nextOrder_7 (by decide) ?_
  refine ab_isub dX8_nextOrder_8 ?_
  refine ab_istoren dX8_nextOrder_9 (Nat.le_of_ble_eq_true rfl) (L2 := [some (.ref a0), some (.int ((i m1 1) - 2)), none, none, none]) rfl ?_
  exact hm2t
theorem tMX8_nextOrder_10 {d : Nat} {Q : ab_Qt} {sc : Nat × (Nat → Int32)} {i : Nat → Nat → Int32} {l : Nat → Nat → Int64} {dd : Nat → Nat → Value} {x : Nat} {a0 : Nat} {a1 : Int32} (k_a0 : ab_isT a0)
    (h : ((a1 < 0 → ab_Fr MX8_nextOrder (d + 1) Q 37 [some (.ref a0), some (.int a1), none, none, none] [] (0, 0) (i, l, dd, x) (ab_E0 sc)) ∧ (¬ a1 < 0 → (vp_in a1 7 ∧ vp_in (a1 + 1) 7 ∧ (((i (a0 + 1) a1.toNatClampNeg) ≤ (i (a0 + 1) (a1 + 1).toNatClampNeg) → ab_Fr MX8_nextOrder (d + 1) Q 37 [some (.ref a0), some (.int a1), none, none, none] [] (0, 0) (i, l, dd, x) (ab_E0 sc)) ∧ (¬ (i (a0 + 1) a1.toNatClampNeg) ≤ (i (a0 + 1) (a1 + 1).toNatClampNeg) → ab_Fr MX8_nextOrder (d + 1) Q 10 [some (.ref a0), some (.int (a1 + (-1))), none, none, none] [] (0, 0) (i, l, dd, x) (ab_E0 sc))))))) :
    ab_Fr MX8_nextOrder (d + 1) Q 10 [some (.ref a0), some (.int a1), none, none, none] [] (0, 0) (i, l, dd, x) (ab_E0 sc) := by
  refine ab_iloadn dX8_nextOrder_10 rfl ?_
  refine ab_if_lt (tgt := 37) dX8_nextOrder_11 (by decide) (fun c1 => ?_) (fun c1 => ?_)
  · exact (h.1 c1)
  · refine ab_aloadn dX8_nextOrder_14 rfl ?_
    refine ab_getf (v := .ref (a0 + 1)) dX8_nextOrder_15 fl_X8_15 (kT k_a0) (fT_1 k_a0) ?_
    refine ab_iloadn dX8_nextOrder_18 rfl ?_
    refine ab_iaload (v := (i (a0 + 1) a1.toNatClampNeg)) dX8_nextOrder_19 (kT_1 k_a0) (h.2 c1).1 rfl ?_
    refine ab_aloadn dX8_nextOrder_20 rfl ?_
    refine ab_getf (v := .ref (a0 + 1)) dX8_nextOrder_21 fl_X8_15 (kT k_a0) (fT_1 k_a0) ?_
    refine ab_iloadn dX8_nextOrder_24 rfl ?_
    refine ab_iconst (v := 1) dX8_nextOrder_25 (by decide) ?_
    refine ab_iadd dX8_nextOrder_26 ?_
    refine ab_iaload (v := (i (a0 + 1) (a1 + 1).toNatClampNeg)) dX8_nextOrder_27 (kT_1 k_a0) (h.2 c1).2.1 rfl ?_
    refine ab_icmp_le (tgt := 37) dX8_nextOrder_28 (by decide) (fun c2 => ?_) (fun c2 => ?_)
    · exact ((h.2 c1).2.2.1 c2)
    · refine ab_iinc (v := (a1 + (-1))) dX8_nextOrder_31 rfl (by rfl) (Nat.le_of_ble_eq_true rfl) (L2 := [some (.ref a0), some (.int (a1 + (-1))), none, none, none]) rfl ?_
      refine ab_goto (tgt := 10) dX8_nextOrder_34 (by decide) ?_
      exact ((h.2 c1).2.2.2 c2)
theorem tMX8_nextOrder_37 {d : Nat} {Q : ab_Qt} {sc : Nat × (Nat → Int32)} {i : Nat → Nat → Int32} {l : Nat → Nat → Int64} {dd : Nat → Nat → Value} {x : Nat} {a0 : Nat} {a1 : Int32} (k_a0 : ab_isT a0)
    (h : ((0 ≤ a1 → (∃ m2, dd a0 0 = .ref m2 ∧ ab_isM m2 ∧ ab_Fr MX8_nextOrder (d + 1) Q 53 [some (.ref a0), some (.int a1), some (.int ((i m2 1) - 1)), none, none] [] (0, 0) (i, l, dd, x) (ab_E0 sc))) ∧ (¬ 0 ≤ a1 → Q (some (some (.int 0))) (i, l, dd, x) (ab_E0 sc)))) :
    ab_Fr MX8_nextOrder (d + 1) Q 37 [some (.ref a0), some (.int a1), none, none, none] [] (0, 0) (i, l, dd, x) (ab_E0 sc) := by
  refine ab_iloadn dX8_nextOrder_37 rfl ?_
  refine ab_if_ge (tgt := 43) dX8_nextOrder_38 (by decide) (fun c1 => ?_) (fun c1 => ?_)
  · refine ab_aloadn dX8_nextOrder_43 rfl ?_
    obtain ⟨m2, hm3d, hm3, hm3t⟩ := (h.1 c1)
    refine ab_getf (v := .ref m2) dX8_nextOrder_44 fl_X8_9 (kT k_a0) hm3d ?_
    refine ab_getf (v := .int (i m2 1)) dX8_nextOrder_47 fl_X8_42 (kM hm3) rfl ?_
    refine ab_iconst (v := 1) dX8_nextOrder_50 (by decide) ?_
    refine ab_isub dX8_nextOrder_51 ?_
    refine ab_istoren dX8_nextOrder_52 (Nat.le_of_ble_eq_true rfl) (L2 := [some (.ref a0), some (.int a1), some (.int ((i m2 1) - 1)), none, none]) rfl ?_
    exact hm3t
  · refine ab_iconst (v := 0) dX8_nextOrder_41 (by decide) ?_
    exact ab_zret dX8_nextOrder_42 rfl (by decide) ⟨Nat.zero_le _, Nat.zero_le _⟩ (h.2 c1)
theorem tMX8_nextOrder_53 {d : Nat} {Q : ab_Qt} {sc : Nat × (Nat → Int32)} {i : Nat → Nat → Int32} {l : Nat → Nat → Int64} {dd : Nat → Nat → Value} {x : Nat} {a0 : Nat} {a1 : Int32} {a2 : Int32} (k_a0 : ab_isT a0)
    (h : ((a2 ≤ a1 → ab_Fr MX8_nextOrder (d + 1) Q 79 [some (.ref a0), some (.int a1), some (.int a2), none, none] [] (0, 0) (i, l, dd, x) (ab_E0 sc)) ∧ (¬ a2 ≤ a1 → (vp_in a2 7 ∧ vp_in a1 7 ∧ (((i (a0 + 1) a1.toNatClampNeg) ≤ (i (a0 + 1) a2.toNatClampNeg) → ab_Fr MX8_nextOrder (d + 1) Q 79 [some (.ref a0), some (.int a1), some (.int a2), none, none] [] (0, 0) (i, l, dd, x) (ab_E0 sc)) ∧ (¬ (i (a0 + 1) a1.toNatClampNeg) ≤ (i (a0 + 1) a2.toNatClampNeg) → ab_Fr MX8_nextOrder (d + 1) Q 53 [some (.ref a0), some (.int a1), some (.int (a2 + (-1))), none, none] [] (0, 0) (i, l, dd, x) (ab_E0 sc))))))) :
    ab_Fr MX8_nextOrder (d + 1) Q 53 [some (.ref a0), some (.int a1), some (.int a2), none, none] [] (0, 0) (i, l, dd, x) (ab_E0 sc) := by
  refine ab_iloadn dX8_nextOrder_53 rfl ?_
  refine ab_iloadn dX8_nextOrder_54 rfl ?_
  refine ab_icmp_le (tgt := 79) dX8_nextOrder_55 (by decide) (fun c1 => ?_) (fun c1 => ?_)
  · exact (h.1 c1)
  · refine ab_aloadn dX8_nextOrder_58 rfl ?_
    refine ab_getf (v := .ref (a0 + 1)) dX8_nextOrder_59 fl_X8_15 (kT k_a0) (fT_1 k_a0) ?_
    refine ab_iloadn dX8_nextOrder_62 rfl ?_
    refine ab_iaload (v := (i (a0 + 1) a2.toNatClampNeg)) dX8_nextOrder_63 (kT_1 k_a0) (h.2 c1).1 rfl ?_
    refine ab_aloadn dX8_nextOrder_64 rfl ?_
    refine ab_getf (v := .ref (a0 + 1)) dX8_nextOrder_65 fl_X8_15 (kT k_a0) (fT_1 k_a0) ?_
    refine ab_iloadn dX8_nextOrder_68 rfl ?_
    refine ab_iaload (v := (i (a0 + 1) a1.toNatClampNeg)) dX8_nextOrder_69 (kT_1 k_a0) (h.2 c1).2.1 rfl ?_
    refine ab_icmp_ge (tgt := 79) dX8_nextOrder_70 (by decide) (fun c2 => ?_) (fun c2 => ?_)
    · exact ((h.2 c1).2.2.1 c2)
    · refine ab_iinc (v := (a2 + (-1))) dX8_nextOrder_73 rfl (by rfl) (Nat.le_of_ble_eq_true rfl) (L2 := [some (.ref a0), some (.int a1), some (.int (a2 + (-1))), none, none]) rfl ?_
      refine ab_goto (tgt := 53) dX8_nextOrder_76 (by decide) ?_
      exact ((h.2 c1).2.2.2 c2)
theorem tMX8_nextOrder_79 {d : Nat} {Q : ab_Qt} {sc : Nat × (Nat → Int32)} {i : Nat → Nat → Int32} {l : Nat → Nat → Int64} {dd : Nat → Nat → Value} {x : Nat} {a0 : Nat} {a1 : Int32} {a2 : Int32} (k_a0 : ab_isT a0)
    (h : (∃ (P2 : ab_S → Prop), ab_Sp MX8_swap d [.ref a0, .int a1, .int a2] (i, l, dd, x) (ab_E0 sc) (none) P2 ∧ ∀ i5 l6 dd7 x8, P2 (i5, l6, dd7, x8) → ∃ m10, dd7 a0 0 = .ref m10 ∧ ab_isM m10 ∧ ab_Fr MX8_nextOrder (d + 1) Q 100 [some (.ref a0), none, none, some (.int ((i5 m10 1) - 1)), some (.int (a1 + 1))] [] (0, 0) (i5, l6, dd7, x8) (ab_E0 sc))) :
    ab_Fr MX8_nextOrder (d + 1) Q 79 [some (.ref a0), some (.int a1), some (.int a2), none, none] [] (0, 0) (i, l, dd, x) (ab_E0 sc) := by
  refine ab_aloadn dX8_nextOrder_79 rfl ?_
  refine ab_iloadn dX8_nextOrder_80 rfl ?_
  refine ab_iloadn dX8_nextOrder_81 rfl ?_
  obtain ⟨P2, hs3, hk4⟩ := h
  refine ab_callV (vs := [.int a1, .int a2]) (st := []) dX8_nextOrder_82 okMX8_swap wd_965 (kT k_a0) rfl rfl rfl (Nat.le_of_ble_eq_true rfl) ⟨Nat.le_of_ble_eq_true rfl, Nat.le_of_ble_eq_true rfl⟩ hs3 ?_
  rintro v9 ⟨i5, l6, dd7, x8⟩ E9 - ⟨rfl, rfl, hp9⟩
  show ab_Fr MX8_nextOrder (d + 1) Q 85 [some (.ref a0), some (.int a1), some (.int a2), none, none] [] (0, 0) (i5, l6, dd7, x8) (ab_E0 sc)
  refine ab_aloadn dX8_nextOrder_85 rfl ?_
  obtain ⟨m10, hm11d, hm11, hm11t⟩ := (hk4 i5 l6 dd7 x8 hp9)
  refine ab_getf (v := .ref m10) dX8_nextOrder_86 fl_X8_9 (kT k_a0) hm11d ?_
  refine ab_getf (v := .int (i5 m10 1)) dX8_nextOrder_89 fl_X8_42 (kM hm11) rfl ?_
  refine ab_iconst (v := 1) dX8_nextOrder_92 (by decide) ?_
  refine ab_isub dX8_nextOrder_93 ?_
  refine ab_istoren dX8_nextOrder_94 (Nat.le_of_ble_eq_true rfl) (L2 := [some (.ref a0), some (.int a1), some (.int a2), some (.int ((i5 m10 1) - 1)), none]) rfl ?_
  refine ab_iloadn dX8_nextOrder_95 rfl ?_
  refine ab_iconst (v := 1) dX8_nextOrder_96 (by decide) ?_
  refine ab_iadd dX8_nextOrder_97 ?_
  refine ab_istore dX8_nextOrder_98 (Nat.le_of_ble_eq_true rfl) (L2 := [some (.ref a0), some (.int a1), some (.int a2), some (.int ((i5 m10 1) - 1)), some (.int (a1 + 1))]) rfl ?_
  refine ab_forget (i := 1) (L2 := [some (.ref a0), none, some (.int a2), some (.int ((i5 m10 1) - 1)), some (.int (a1 + 1))]) rfl ?_
  refine ab_forget (i := 2) (L2 := [some (.ref a0), none, none, some (.int ((i5 m10 1) - 1)), some (.int (a1 + 1))]) rfl ?_
  exact hm11t
theorem tMX8_nextOrder_100 {d : Nat} {Q : ab_Qt} {sc : Nat × (Nat → Int32)} {i : Nat → Nat → Int32} {l : Nat → Nat → Int64} {dd : Nat → Nat → Value} {x : Nat} {a0 : Nat} {a3 : Int32} {a4 : Int32} (k_a0 : ab_isT a0)
    (h : ((a3 ≤ a4 → Q (some (some (.int 1))) (i, l, dd, x) (ab_E0 sc)) ∧ (¬ a3 ≤ a4 → (∃ (P3 : ab_S → Prop), ab_Sp MX8_swap d [.ref a0, .int a4, .int a3] (i, l, dd, x) (ab_E0 sc) (none) P3 ∧ ∀ i6 l7 dd8 x9, P3 (i6, l7, dd8, x9) → ab_Fr MX8_nextOrder (d + 1) Q 100 [some (.ref a0), none, none, some (.int (a3 + (-1))), some (.int (a4 + 1))] [] (0, 0) (i6, l7, dd8, x9) (ab_E0 sc))))) :
    ab_Fr MX8_nextOrder (d + 1) Q 100 [some (.ref a0), none, none, some (.int a3), some (.int a4)] [] (0, 0) (i, l, dd, x) (ab_E0 sc) := by
  refine ab_iload dX8_nextOrder_100 rfl ?_
  refine ab_iloadn dX8_nextOrder_102 rfl ?_
  refine ab_icmp_ge (tgt := 122) dX8_nextOrder_103 (by decide) (fun c1 => ?_) (fun c1 => ?_)
  · refine ab_iconst (v := 1) dX8_nextOrder_122 (by decide) ?_
    exact ab_zret dX8_nextOrder_123 rfl (by decide) ⟨Nat.zero_le _, Nat.zero_le _⟩ (h.1 c1)
  · refine ab_aloadn dX8_nextOrder_106 rfl ?_
    refine ab_iload dX8_nextOrder_107 rfl ?_
    refine ab_iloadn dX8_nextOrder_109 rfl ?_
    obtain ⟨P3, hs4, hk5⟩ := (h.2 c1)
    refine ab_callV (vs := [.int a4, .int a3]) (st := []) dX8_nextOrder_110 okMX8_swap wd_965 (kT k_a0) rfl rfl rfl (Nat.le_of_ble_eq_true rfl) ⟨Nat.le_of_ble_eq_true rfl, Nat.le_of_ble_eq_true rfl⟩ hs4 ?_
    rintro v9 ⟨i6, l7, dd8, x9⟩ E9 - ⟨rfl, rfl, hp10⟩
    show ab_Fr MX8_nextOrder (d + 1) Q 113 [some (.ref a0), none, none, some (.int a3), some (.int a4)] [] (0, 0) (i6, l7, dd8, x9) (ab_E0 sc)
    refine ab_iinc (v := (a3 + (-1))) dX8_nextOrder_113 rfl (by rfl) (Nat.le_of_ble_eq_true rfl) (L2 := [some (.ref a0), none, none, some (.int (a3 + (-1))), some (.int a4)]) rfl ?_
    refine ab_iinc (v := (a4 + 1)) dX8_nextOrder_116 rfl (by rfl) (Nat.le_of_ble_eq_true rfl) (L2 := [some (.ref a0), none, none, some (.int (a3 + (-1))), some (.int (a4 + 1))]) rfl ?_
    refine ab_goto (tgt := 100) dX8_nextOrder_119 (by decide) ?_
    exact (hk5 i6 l7 dd8 x9 hp10)
theorem tMX8_swap_0 {d : Nat} {Q : ab_Qt} {sc : Nat × (Nat → Int32)} {i : Nat → Nat → Int32} {l : Nat → Nat → Int64} {dd : Nat → Nat → Value} {x : Nat} {a0 : Nat} {a1 : Int32} {a2 : Int32} (k_a0 : ab_isT a0)
    (h : (vp_in a1 7 ∧ vp_in a2 7 ∧ vp_in a1 7 ∧ ∀ i1, i1 = ab_u i (a0 + 1) a1.toNatClampNeg (i (a0 + 1) a2.toNatClampNeg) → vp_in a2 7 ∧ ∀ i3, i3 = ab_u i1 (a0 + 1) a2.toNatClampNeg (i (a0 + 1) a1.toNatClampNeg) → Q (some none) (i3, l, dd, x) (ab_E0 sc))) :
    ab_Fr MX8_swap (d + 1) Q 0 [some (.ref a0), some (.int a1), some (.int a2), none] [] (0, 0) (i, l, dd, x) (ab_E0 sc) := by
  refine ab_aloadn dX8_swap_0 rfl ?_
  refine ab_getf (v := .ref (a0 + 1)) dX8_swap_1 fl_X8_15 (kT k_a0) (fT_1 k_a0) ?_
  refine ab_iloadn dX8_swap_4 rfl ?_
  refine ab_iaload (v := (i (a0 + 1) a1.toNatClampNeg)) dX8_swap_5 (kT_1 k_a0) h.1 rfl ?_
  refine ab_istoren dX8_swap_6 (Nat.le_of_ble_eq_true rfl) (L2 := [some (.ref a0), some (.int a1), some (.int a2), some (.int (i (a0 + 1) a1.toNatClampNeg))]) rfl ?_
  refine ab_aloadn dX8_swap_7 rfl ?_
  refine ab_getf (v := .ref (a0 + 1)) dX8_swap_8 fl_X8_15 (kT k_a0) (fT_1 k_a0) ?_
  refine ab_iloadn dX8_swap_11 rfl ?_
  refine ab_aloadn dX8_swap_12 rfl ?_
  refine ab_getf (v := .ref (a0 + 1)) dX8_swap_13 fl_X8_15 (kT k_a0) (fT_1 k_a0) ?_
  refine ab_iloadn dX8_swap_16 rfl ?_
  refine ab_iaload (v := (i (a0 + 1) a2.toNatClampNeg)) dX8_swap_17 (kT_1 k_a0) h.2.1 rfl ?_
  refine ab_iastore dX8_swap_18 (kT_1 k_a0) h.2.2.1 ?_
  obtain ⟨i1, e2⟩ : ∃ z, z = ab_u i (a0 + 1) a1.toNatClampNeg (i (a0 + 1) a2.toNatClampNeg) := ⟨_, rfl⟩
  rw [show ab_u i (a0 + 1) a1.toNatClampNeg (i (a0 + 1) a2.toNatClampNeg) = i1 from e2.symm]
  refine ab_aloadn dX8_swap_19 rfl ?_
  refine ab_getf (v := .ref (a0 + 1)) dX8_swap_20 fl_X8_15 (kT k_a0) (fT_1 k_a0) ?_
  refine ab_iloadn dX8_swap_23 rfl ?_
  refine ab_iloadn dX8_swap_24 rfl ?_
  refine ab_iastore dX8_swap_25 (kT_1 k_a0) (h.2.2.2 i1 e2).1 ?_
  obtain ⟨i3, e4⟩ : ∃ z, z = ab_u i1 (a0 + 1) a2.toNatClampNeg (i (a0 + 1) a1.toNatClampNeg) := ⟨_, rfl⟩
  rw [show ab_u i1 (a0 + 1) a2.toNatClampNeg (i (a0 + 1) a1.toNatClampNeg) = i3 from e4.symm]
  exact ab_vret dX8_swap_26 rfl ⟨Nat.zero_le _, Nat.zero_le _⟩ ((h.2.2.2 i1 e2).2 i3 e4)
theorem tMX5_bestBar_0 {d : Nat} {Q : ab_Qt} {sc : Nat × (Nat → Int32)} {i : Nat → Nat → Int32} {l : Nat → Nat → Int64} {dd : Nat → Nat → Value} {x : Nat} {a1 : Nat} {a2 : Int32} {a3 : Int32} (k_a1 : ab_isM a1)
    (h : (∃ (P2 : ab_S → Prop), ab_Sp MX5_sortByWeights d [.ref 191, .ref a1, .int a2, .int a3] (i, l, dd, x) (ab_E0 sc) (none) P2 ∧ ∀ i5 l6 dd7 x8, P2 (i5, l6, dd7, x8) → ab_Fr MX5_bestBar (d + 1) Q 18 [some (.ref 191), none, none, none, some (.long (l6 193 0)), none, some (.int 1), none] [] (0, 0) (i5, l6, dd7, x8) (ab_E0 sc))) :
    ab_Fr MX5_bestBar (d + 1) Q 0 [some (.ref 191), some (.ref a1), some (.int a2), some (.int a3), none, none, none, none] [] (0, 0) (i, l, dd, x) (ab_E0 sc) := by
  refine ab_aloadn dX5_bestBar_0 rfl ?_
  refine ab_aloadn dX5_bestBar_1 rfl ?_
  refine ab_iloadn dX5_bestBar_2 rfl ?_
  refine ab_iloadn dX5_bestBar_3 rfl ?_
  obtain ⟨P2, hs3, hk4⟩ := h
  refine ab_callV (vs := [.ref a1, .int a2, .int a3]) (st := []) dX5_bestBar_4 okMX5_sortByWeights wd_977 kd_191 rfl rfl rfl (Nat.le_of_ble_eq_true rfl) ⟨Nat.le_of_ble_eq_true rfl, Nat.le_of_ble_eq_true rfl⟩ hs3 ?_
  rintro v9 ⟨i5, l6, dd7, x8⟩ E9 - ⟨rfl, rfl, hp9⟩
  show ab_Fr MX5_bestBar (d + 1) Q 7 [some (.ref 191), some (.ref a1), some (.int a2), some (.int a3), none, none, none, none] [] (0, 0) (i5, l6, dd7, x8) (ab_E0 sc)
  refine ab_aloadn dX5_bestBar_7 rfl ?_
  refine ab_getf (v := .ref 193) dX5_bestBar_8 fl_X5_19 kd_191 ff_191_2 ?_
  refine ab_iconst (v := 0) dX5_bestBar_11 (by decide) ?_
  refine ab_laload (v := (l6 193 0)) dX5_bestBar_12 kd_193 (ab_vp (by decide)) rfl ?_
  refine ab_lstore dX5_bestBar_13 (Nat.le_of_ble_eq_true rfl) (L2 := [some (.ref 191), some (.ref a1), some (.int a2), some (.int a3), some (.long (l6 193 0)), none, none, none]) rfl ?_
  refine ab_iconst (v := 1) dX5_bestBar_15 (by decide) ?_
  refine ab_istore dX5_bestBar_16 (Nat.le_of_ble_eq_true rfl) (L2 := [some (.ref 191), some (.ref a1), some (.int a2), some (.int a3), some (.long (l6 193 0)), none, some (.int 1), none]) rfl ?_
  refine ab_forget (i := 1) (L2 := [some (.ref 191), none, some (.int a2), some (.int a3), some (.long (l6 193 0)), none, some (.int 1), none]) rfl ?_
  refine ab_forget (i := 2) (L2 := [some (.ref 191), none, none, some (.int a3), some (.long (l6 193 0)), none, some (.int 1), none]) rfl ?_
  refine ab_forget (i := 3) (L2 := [some (.ref 191), none, none, none, some (.long (l6 193 0)), none, some (.int 1), none]) rfl ?_
  exact (hk4 i5 l6 dd7 x8 hp9)
theorem tMX5_bestBar_18 {d : Nat} {Q : ab_Qt} {sc : Nat × (Nat → Int32)} {i : Nat → Nat → Int32} {l : Nat → Nat → Int64} {dd : Nat → Nat → Value} {x : Nat} {a4 : Int64} {a6 : Int32} 
    (h : ((64 ≤ a6 → (∀ l2, l2 = ab_u l 191 3 a4 → ab_Fr MX5_bestBar (d + 1) Q 55 [some (.ref 191), none, none, none, some (.long a4), none, some (.int 1), some (.int 2)] [] (0, 0) (i, l2, dd, x) (ab_E0 sc))) ∧ (¬ 64 ≤ a6 → (vp_in a6 64 ∧ ab_Fr MX5_bestBar (d + 1) Q 18 [some (.ref 191), none, none, none, some (.long (a4 + (l 192 a6.toNatClampNeg))), none, some (.int (a6 + 1)), none] [] (0, 0) (i, l, dd, x) (ab_E0 sc))))) :
    ab_Fr MX5_bestBar (d + 1) Q 18 [some (.ref 191), none, none, none, some (.long a4), none, some (.int a6), none] [] (0, 0) (i, l, dd, x) (ab_E0 sc) := by
  refine ab_iload dX5_bestBar_18 rfl ?_
  refine ab_bipush (v := 64) dX5_bestBar_20 (by decide) ?_
  refine ab_icmp_ge (tgt := 43) dX5_bestBar_22 (by decide) (fun c1 => ?_) (fun c1 => ?_)
  · refine ab_iconst (v := 1) dX5_bestBar_43 (by decide) ?_
    refine ab_istore dX5_bestBar_44 (Nat.le_of_ble_eq_true rfl) (L2 := [some (.ref 191), none, none, none, some (.long a4), none, some (.int 1), none]) rfl ?_
    refine ab_aloadn dX5_bestBar_46 rfl ?_
    refine ab_lload dX5_bestBar_47 rfl ?_
    refine ab_putL dX5_bestBar_49 fl_X5_24 kd_191 rfl ?_
    obtain ⟨l2, e3⟩ : ∃ z, z = ab_u l 191 3 a4 := ⟨_, rfl⟩
    show ab_Fr MX5_bestBar (d + 1) Q 52 [some (.ref 191), none, none, none, some (.long a4), none, some (.int 1), none] [] (0, 0) (i, ab_u l 191 3 a4, dd, x) (ab_E0 sc)
    rw [show ab_u l 191 3 a4 = l2 from e3.symm]
    refine ab_iconst (v := 2) dX5_bestBar_52 (by decide) ?_
    refine ab_istore dX5_bestBar_53 (Nat.le_of_ble_eq_true rfl) (L2 := [some (.ref 191), none, none, none, some (.long a4), none, some (.int 1), some (.int 2)]) rfl ?_
    exact ((h.1 c1) l2 e3)
  · refine ab_lload dX5_bestBar_25 rfl ?_
    refine ab_aloadn dX5_bestBar_27 rfl ?_
    refine ab_getf (v := .ref 192) dX5_bestBar_28 fl_X5_15 kd_191 ff_191_1 ?_
    refine ab_iload dX5_bestBar_31 rfl ?_
    refine ab_laload (v := (l 192 a6.toNatClampNeg)) dX5_bestBar_33 kd_192 (h.2 c1).1 rfl ?_
    refine ab_ladd dX5_bestBar_34 ?_
    refine ab_lstore dX5_bestBar_35 (Nat.le_of_ble_eq_true rfl) (L2 := [some (.ref 191), none, none, none, some (.long (a4 + (l 192 a6.toNatClampNeg))), none, some (.int a6), none]) rfl ?_
    refine ab_iinc (v := (a6 + 1)) dX5_bestBar_37 rfl (by rfl) (Nat.le_of_ble_eq_true rfl) (L2 := [some (.ref 191), none, none, none, some (.long (a4 + (l 192 a6.toNatClampNeg))), none, some (.int (a6 + 1)), none]) rfl ?_
    refine ab_goto (tgt := 18) dX5_bestBar_40 (by decide) ?_
    exact (h.2 c1).2
theorem tMX5_bestBar_55 {d : Nat} {Q : ab_Qt} {sc : Nat × (Nat → Int32)} {i : Nat → Nat → Int32} {l : Nat → Nat → Int64} {dd : Nat → Nat → Value} {x : Nat} {a4 : Int64} {a6 : Int32} {a7 : Int32} 
    (h : ((82 < a7 → Q (some (some (.int a6))) (i, l, dd, x) (ab_E0 sc)) ∧ (¬ 82 < a7 → ((64 < a7 → ab_Fr MX5_bestBar (d + 1) Q 93 [some (.ref 191), none, none, none, some (.long a4), none, some (.int a6), some (.int a7)] [] (0, 0) (i, l, dd, x) (ab_E0 sc)) ∧ (¬ 64 < a7 → (vp_in (a7 - 1) 64 ∧ vp_in (a7 - 1) 64 ∧ ab_Fr MX5_bestBar (d + 1) Q 93 [some (.ref 191), none, none, none, some (.long (a4 + ((l 193 (a7 - 1).toNatClampNeg) - (l 192 (a7 - 1).toNatClampNeg)))), none, some (.int a6), some (.int a7)] [] (0, 0) (i, l, dd, x) (ab_E0 sc))))))) :
    ab_Fr MX5_bestBar (d + 1) Q 55 [some (.ref 191), none, none, none, some (.long a4), none, some (.int a6), some (.int a7)] [] (0, 0) (i, l, dd, x) (ab_E0 sc) := by
  refine ab_iload dX5_bestBar_55 rfl ?_
  refine ab_bipush (v := 82) dX5_bestBar_57 (by decide) ?_
  refine ab_icmp_gt (tgt := 119) dX5_bestBar_59 (by decide) (fun c1 => ?_) (fun c1 => ?_)
  · refine ab_iload dX5_bestBar_119 rfl ?_
    exact ab_iret dX5_bestBar_121 rfl ⟨Nat.zero_le _, Nat.zero_le _⟩ (h.1 c1)
  · refine ab_iload dX5_bestBar_62 rfl ?_
    refine ab_bipush (v := 64) dX5_bestBar_64 (by decide) ?_
    refine ab_icmp_gt (tgt := 93) dX5_bestBar_66 (by decide) (fun c2 => ?_) (fun c2 => ?_)
    · exact ((h.2 c1).1 c2)
    · refine ab_lload dX5_bestBar_69 rfl ?_
      refine ab_aloadn dX5_bestBar_71 rfl ?_
      refine ab_getf (v := .ref 193) dX5_bestBar_72 fl_X5_19 kd_191 ff_191_2 ?_
      refine ab_iload dX5_bestBar_75 rfl ?_
      refine ab_iconst (v := 1) dX5_bestBar_77 (by decide) ?_
      refine ab_isub dX5_bestBar_78 ?_
      refine ab_laload (v := (l 193 (a7 - 1).toNatClampNeg)) dX5_bestBar_79 kd_193 ((h.2 c1).2 c2).1 rfl ?_
      refine ab_aloadn dX5_bestBar_80 rfl ?_
      refine ab_getf (v := .ref 192) dX5_bestBar_81 fl_X5_15 kd_191 ff_191_1 ?_
      refine ab_iload dX5_bestBar_84 rfl ?_
      refine ab_iconst (v := 1) dX5_bestBar_86 (by decide) ?_
      refine ab_isub dX5_bestBar_87 ?_
      refine ab_laload (v := (l 192 (a7 - 1).toNatClampNeg)) dX5_bestBar_88 kd_192 ((h.2 c1).2 c2).2.1 rfl ?_
      refine ab_lsub dX5_bestBar_89 ?_
      refine ab_ladd dX5_bestBar_90 ?_
      refine ab_lstore dX5_bestBar_91 (Nat.le_of_ble_eq_true rfl) (L2 := [some (.ref 191), none, none, none, some (.long (a4 + ((l 193 (a7 - 1).toNatClampNeg) - (l 192 (a7 - 1).toNatClampNeg)))), none, some (.int a6), some (.int a7)]) rfl ?_
      exact ((h.2 c1).2 c2).2.2
theorem tMX5_bestBar_93 {d : Nat} {Q : ab_Qt} {sc : Nat × (Nat → Int32)} {i : Nat → Nat → Int32} {l : Nat → Nat → Int64} {dd : Nat → Nat → Value} {x : Nat} {a4 : Int64} {a6 : Int32} {a7 : Int32} 
    (h : ((¬ a4 < (l 191 3) → ab_Fr MX5_bestBar (d + 1) Q 55 [some (.ref 191), none, none, none, some (.long a4), none, some (.int a6), some (.int (a7 + 1))] [] (0, 0) (i, l, dd, x) (ab_E0 sc)) ∧ (a4 < (l 191 3) → (∀ l2, l2 = ab_u l 191 3 a4 → ab_Fr MX5_bestBar (d + 1) Q 55 [some (.ref 191), none, none, none, some (.long a4), none, some (.int a7), some (.int (a7 + 1))] [] (0, 0) (i, l2, dd, x) (ab_E0 sc))))) :
    ab_Fr MX5_bestBar (d + 1) Q 93 [some (.ref 191), none, none, none, some (.long a4), none, some (.int a6), some (.int a7)] [] (0, 0) (i, l, dd, x) (ab_E0 sc) := by
  refine ab_lload dX5_bestBar_93 rfl ?_
  refine ab_aloadn dX5_bestBar_95 rfl ?_
  refine ab_getf (v := .long (l 191 3)) dX5_bestBar_96 fl_X5_24 kd_191 rfl ?_
  refine ab_lcge (tgt := 113) dX5_bestBar_99 dX5_bestBar_100 (by decide) (fun c1 => ?_) (fun c1 => ?_)
  · refine ab_iinc (v := (a7 + 1)) dX5_bestBar_113 rfl (by rfl) (Nat.le_of_ble_eq_true rfl) (L2 := [some (.ref 191), none, none, none, some (.long a4), none, some (.int a6), some (.int (a7 + 1))]) rfl ?_
    refine ab_goto (tgt := 55) dX5_bestBar_116 (by decide) ?_
    exact (h.1 c1)
  · refine ab_aloadn dX5_bestBar_103 rfl ?_
    refine ab_lload dX5_bestBar_104 rfl ?_
    refine ab_putL dX5_bestBar_106 fl_X5_24 kd_191 rfl ?_
    obtain ⟨l2, e3⟩ : ∃ z, z = ab_u l 191 3 a4 := ⟨_, rfl⟩
    show ab_Fr MX5_bestBar (d + 1) Q 109 [some (.ref 191), none, none, none, some (.long a4), none, some (.int a6), some (.int a7)] [] (0, 0) (i, ab_u l 191 3 a4, dd, x) (ab_E0 sc)
    rw [show ab_u l 191 3 a4 = l2 from e3.symm]
    refine ab_iload dX5_bestBar_109 rfl ?_
    refine ab_istore dX5_bestBar_111 (Nat.le_of_ble_eq_true rfl) (L2 := [some (.ref 191), none, none, none, some (.long a4), none, some (.int a7), some (.int a7)]) rfl ?_
    refine ab_iinc (v := (a7 + 1)) dX5_bestBar_113 rfl (by rfl) (Nat.le_of_ble_eq_true rfl) (L2 := [some (.ref 191), none, none, none, some (.long a4), none, some (.int a7), some (.int (a7 + 1))]) rfl ?_
    refine ab_goto (tgt := 55) dX5_bestBar_116 (by decide) ?_
    exact ((h.2 c1) l2 e3)
theorem tMX5_sortByWeights_0 {d : Nat} {Q : ab_Qt} {sc : Nat × (Nat → Int32)} {i : Nat → Nat → Int32} {l : Nat → Nat → Int64} {dd : Nat → Nat → Value} {x : Nat} {a1 : Nat} {a2 : Int32} {a3 : Int32} (k_a1 : ab_isM a1)
    (h : (∃ (P2 : ab_S → Prop), ab_Sp MX11_empty d [.ref 192] (i, l, dd, x) (ab_E0 sc) (none) P2 ∧ ∀ i5 l6 dd7 x8, P2 (i5, l6, dd7, x8) → ∃ (P11 : ab_S → Prop), ab_Sp MX11_empty d [.ref 193] (i5, l6, dd7, x8) (ab_E0 sc) (none) P11 ∧ ∀ i14 l15 dd16 x17, P11 (i14, l15, dd16, x17) → ∃ (P20 : ab_S → Prop), ab_Sp MX4_voting d [.ref 160, .ref a1, .ref (a1 + 47)] (i14, l15, dd16, x17) (ab_E0 sc) (none) P20 ∧ ∀ i23 l24 dd25 x26, P20 (i23, l24, dd25, x26) → ∃ (r28 : Int32) (P29 : ab_S → Prop), ab_Sp MX4_first d [.ref 160] (i23, l24, dd25, x26) (ab_E0 sc) (some (.int r28)) P29 ∧ ∀ i32 l33 dd34 x35, P29 (i32, l33, dd34, x35) → ab_Fr MX5_sortByWeights (d + 1) Q 38 [some (.ref 191), none, some (.int a2), some (.int a3), some (.int r28), some (.int 0), none] [] (0, 0) (i32, l33, dd34, x35) (ab_E0 sc))) :
    ab_Fr MX5_sortByWeights (d + 1) Q 0 [some (.ref 191), some (.ref a1), some (.int a2), some (.int a3), none, none, none] [] (0, 0) (i, l, dd, x) (ab_E0 sc) := by
  refine ab_aloadn dX5_sortByWeights_0 rfl ?_
  refine ab_getf (v := .ref 192) dX5_sortByWeights_1 fl_X5_15 kd_191 ff_191_1 ?_
  obtain ⟨P2, hs3, hk4⟩ := h
  refine ab_callN (vs := [.ref 192]) (st := []) dX5_sortByWeights_4 okMX11_empty (List.mem_of_getElem? (i := 4) rfl) rfl rfl (Nat.le_of_ble_eq_true rfl) ⟨Nat.le_of_ble_eq_true rfl, Nat.le_of_ble_eq_true rfl⟩ hs3 ?_
  rintro v9 ⟨i5, l6, dd7, x8⟩ E9 - ⟨rfl, rfl, hp9⟩
  show ab_Fr MX5_sortByWeights (d + 1) Q 7 [some (.ref 191), some (.ref a1), some (.int a2), some (.int a3), none, none, none] [] (0, 0) (i5, l6, dd7, x8) (ab_E0 sc)
  refine ab_aloadn dX5_sortByWeights_7 rfl ?_
  refine ab_getf (v := .ref 193) dX5_sortByWeights_8 fl_X5_19 kd_191 ff_191_2 ?_
  obtain ⟨P11, hs12, hk13⟩ := (hk4 i5 l6 dd7 x8 hp9)
  refine ab_callN (vs := [.ref 193]) (st := []) dX5_sortByWeights_11 okMX11_empty (List.mem_of_getElem? (i := 4) rfl) rfl rfl (Nat.le_of_ble_eq_true rfl) ⟨Nat.le_of_ble_eq_true rfl, Nat.le_of_ble_eq_true rfl⟩ hs12 ?_
  rintro v9 ⟨i14, l15, dd16, x17⟩ E9 - ⟨rfl, rfl, hp18⟩
  show ab_Fr MX5_sortByWeights (d + 1) Q 14 [some (.ref 191), some (.ref a1), some (.int a2), some (.int a3), none, none, none] [] (0, 0) (i14, l15, dd16, x17) (ab_E0 sc)
  refine ab_aloadn dX5_sortByWeights_14 rfl ?_
  refine ab_getf (v := .ref 160) dX5_sortByWeights_15 fl_X5_9 kd_191 ff_191_0 ?_
  refine ab_aloadn dX5_sortByWeights_18 rfl ?_
  refine ab_aloadn dX5_sortByWeights_19 rfl ?_
  refine ab_getf (v := .ref (a1 + 47)) dX5_sortByWeights_20 fl_X5_52 (kM k_a1) (fM_9 k_a1) ?_
  obtain ⟨P20, hs21, hk22⟩ := (hk13 i14 l15 dd16 x17 hp18)
  refine ab_callV (vs := [.ref a1, .ref (a1 + 47)]) (st := []) dX5_sortByWeights_23 okMX4_voting wd_980 kd_160 rfl rfl rfl (Nat.le_of_ble_eq_true rfl) ⟨Nat.le_of_ble_eq_true rfl, Nat.le_of_ble_eq_true rfl⟩ hs21 ?_
  rintro v9 ⟨i23, l24, dd25, x26⟩ E9 - ⟨rfl, rfl, hp27⟩
  show ab_Fr MX5_sortByWeights (d + 1) Q 26 [some (.ref 191), some (.ref a1), some (.int a2), some (.int a3), none, none, none] [] (0, 0) (i23, l24, dd25, x26) (ab_E0 sc)
  refine ab_aloadn dX5_sortByWeights_26 rfl ?_
  refine ab_getf (v := .ref 160) dX5_sortByWeights_27 fl_X5_9 kd_191 ff_191_0 ?_
  obtain ⟨r28, P29, hs30, hk31⟩ := (hk22 i23 l24 dd25 x26 hp27)
  refine ab_callV (vs := []) (st := []) dX5_sortByWeights_30 okMX4_first wd_981 kd_160 rfl rfl rfl (Nat.le_of_ble_eq_true rfl) ⟨Nat.le_of_ble_eq_true rfl, Nat.le_of_ble_eq_true rfl⟩ hs30 ?_
  rintro v9 ⟨i32, l33, dd34, x35⟩ E9 - ⟨rfl, rfl, hp36⟩
  show ab_Fr MX5_sortByWeights (d + 1) Q 33 [some (.ref 191), some (.ref a1), some (.int a2), some (.int a3), none, none, none] [.int r28] (0, 0) (i32, l33, dd34, x35) (ab_E0 sc)
  refine ab_istore dX5_sortByWeights_33 (Nat.le_of_ble_eq_true rfl) (L2 := [some (.ref 191), some (.ref a1), some (.int a2), some (.int a3), some (.int r28), none, none]) rfl ?_
  refine ab_iconst (v := 0) dX5_sortByWeights_35 (by decide) ?_
  refine ab_istore dX5_sortByWeights_36 (Nat.le_of_ble_eq_true rfl) (L2 := [some (.ref 191), some (.ref a1), some (.int a2), some (.int a3), some (.int r28), some (.int 0), none]) rfl ?_
  refine ab_forget (i := 1) (L2 := [some (.ref 191), none, some (.int a2), some (.int a3), some (.int r28), some (.int 0), none]) rfl ?_
  exact (hk31 i32 l33 dd34 x35 hp36)
theorem tMX5_sortByWeights_38 {d : Nat} {Q : ab_Qt} {sc : Nat × (Nat → Int32)} {i : Nat → Nat → Int32} {l : Nat → Nat → Int64} {dd : Nat → Nat → Value} {x : Nat} {a2 : Int32} {a3 : Int32} {a4 : Int32} {a5 : Int32} 
    (h : ((a4 ≤ a5 → Q (some none) (i, l, dd, x) (ab_E0 sc)) ∧ (¬ a4 ≤ a5 → (∃ (r2 : Int32) (P3 : ab_S → Prop), ab_Sp MX4_weightNow d [.ref 160, .int a2] (i, l, dd, x) (ab_E0 sc) (some (.int r2)) P3 ∧ ∀ i6 l7 dd8 x9, P3 (i6, l7, dd8, x9) → ((r2 < 0 → ab_Fr MX5_sortByWeights (d + 1) Q 103 [some (.ref 191), none, some (.int a2), some (.int a3), some (.int a4), some (.int a5), none] [] (0, 0) (i6, l7, dd8, x9) (ab_E0 sc)) ∧ (¬ r2 < 0 → ((64 ≤ r2 → ab_Fr MX5_sortByWeights (d + 1) Q 103 [some (.ref 191), none, some (.int a2), some (.int a3), some (.int a4), some (.int a5), none] [] (0, 0) (i6, l7, dd8, x9) (ab_E0 sc)) ∧ (¬ 64 ≤ r2 → (vp_in r2 64 ∧ ∃ (r13 : Int64) (P14 : ab_S → Prop), ab_Sp MX4_lostNow d [.ref 160, .int a2] (i6, l7, dd8, x9) (ab_E0 sc) (some (.long r13)) P14 ∧ ∀ i17 l18 dd19 x20, P14 (i17, l18, dd19, x20) → vp_in r2 64 ∧ ∀ l22, l22 = ab_u l18 192 r2.toNatClampNeg ((l7 192 r2.toNatClampNeg) + r13) → vp_in r2 64 ∧ ∃ (r24 : Int64) (P25 : ab_S → Prop), ab_Sp MX4_lostNow d [.ref 160, .int a3] (i17, l22, dd19, x20) (ab_E0 sc) (some (.long r24)) P25 ∧ ∀ i28 l29 dd30 x31, P25 (i28, l29, dd30, x31) → vp_in r2 64 ∧ ∀ l33, l33 = ab_u l29 193 r2.toNatClampNeg ((l22 193 r2.toNatClampNeg) + r24) → ab_Fr MX5_sortByWeights (d + 1) Q 103 [some (.ref 191), none, some (.int a2), some (.int a3), some (.int a4), some (.int a5), none] [] (0, 0) (i28, l33, dd30, x31) (ab_E0 sc)))))))))) :
    ab_Fr MX5_sortByWeights (d + 1) Q 38 [some (.ref 191), none, some (.int a2), some (.int a3), some (.int a4), some (.int a5), none] [] (0, 0) (i, l, dd, x) (ab_E0 sc) := by
  refine ab_iload dX5_sortByWeights_38 rfl ?_
  refine ab_iload dX5_sortByWeights_40 rfl ?_
  refine ab_icmp_ge (tgt := 116) dX5_sortByWeights_42 (by decide) (fun c1 => ?_) (fun c1 => ?_)
  · exact ab_vret dX5_sortByWeights_116 rfl ⟨Nat.zero_le _, Nat.zero_le _⟩ (h.1 c1)
  · refine ab_aloadn dX5_sortByWeights_45 rfl ?_
    refine ab_getf (v := .ref 160) dX5_sortByWeights_46 fl_X5_9 kd_191 ff_191_0 ?_
    refine ab_iloadn dX5_sortByWeights_49 rfl ?_
    obtain ⟨r2, P3, hs4, hk5⟩ := (h.2 c1)
    refine ab_callV (vs := [.int a2]) (st := []) dX5_sortByWeights_50 okMX4_weightNow wd_982 kd_160 rfl rfl rfl (Nat.le_of_ble_eq_true rfl) ⟨Nat.le_of_ble_eq_true rfl, Nat.le_of_ble_eq_true rfl⟩ hs4 ?_
    rintro v9 ⟨i6, l7, dd8, x9⟩ E9 - ⟨rfl, rfl, hp10⟩
    show ab_Fr MX5_sortByWeights (d + 1) Q 53 [some (.ref 191), none, some (.int a2), some (.int a3), some (.int a4), some (.int a5), none] [.int r2] (0, 0) (i6, l7, dd8, x9) (ab_E0 sc)
    refine ab_istore dX5_sortByWeights_53 (Nat.le_of_ble_eq_true rfl) (L2 := [some (.ref 191), none, some (.int a2), some (.int a3), some (.int a4), some (.int a5), some (.int r2)]) rfl ?_
    refine ab_iload dX5_sortByWeights_55 rfl ?_
    refine ab_if_lt (tgt := 103) dX5_sortByWeights_57 (by decide) (fun c11 => ?_) (fun c11 => ?_)
    · refine ab_forget (i := 6) (L2 := [some (.ref 191), none, some (.int a2), some (.int a3), some (.int a4), some (.int a5), none]) rfl ?_
      exact ((hk5 i6 l7 dd8 x9 hp10).1 c11)
    · refine ab_iload dX5_sortByWeights_60 rfl ?_
      refine ab_bipush (v := 64) dX5_sortByWeights_62 (by decide) ?_
      refine ab_icmp_ge (tgt := 103) dX5_sortByWeights_64 (by decide) (fun c12 => ?_) (fun c12 => ?_)
      · refine ab_forget (i := 6) (L2 := [some (.ref 191), none, some (.int a2), some (.int a3), some (.int a4), some (.int a5), none]) rfl ?_
        exact (((hk5 i6 l7 dd8 x9 hp10).2 c11).1 c12)
      · refine ab_aloadn dX5_sortByWeights_67 rfl ?_
        refine ab_getf (v := .ref 192) dX5_sortByWeights_68 fl_X5_15 kd_191 ff_191_1 ?_
        refine ab_iload dX5_sortByWeights_71 rfl ?_
        refine ab_dup2 dX5_sortByWeights_73 rfl rfl ?_
        refine ab_laload (v := (l7 192 r2.toNatClampNeg)) dX5_sortByWeights_74 kd_192 (((hk5 i6 l7 dd8 x9 hp10).2 c11).2 c12).1 rfl ?_
        refine ab_aloadn dX5_sortByWeights_75 rfl ?_
        refine ab_getf (v := .ref 160) dX5_sortByWeights_76 fl_X5_9 kd_191 ff_191_0 ?_
        refine ab_iloadn dX5_sortByWeights_79 rfl ?_
        obtain ⟨r13, P14, hs15, hk16⟩ := (((hk5 i6 l7 dd8 x9 hp10).2 c11).2 c12).2
        refine ab_callV (vs := [.int a2]) (st := [.long (l7 192 r2.toNatClampNeg), .int r2, .ref 192]) dX5_sortByWeights_80 okMX4_lostNow wd_986 kd_160 rfl rfl rfl (Nat.le_of_ble_eq_true rfl) ⟨Nat.le_of_ble_eq_true rfl, Nat.le_of_ble_eq_true rfl⟩ hs15 ?_
        rintro v9 ⟨i17, l18, dd19, x20⟩ E9 - ⟨rfl, rfl, hp21⟩
        show ab_Fr MX5_sortByWeights (d + 1) Q 83 [some (.ref 191), none, some (.int a2), some (.int a3), some (.int a4), some (.int a5), some (.int r2)] [.long r13, .long (l7 192 r2.toNatClampNeg), .int r2, .ref 192] (0, 0) (i17, l18, dd19, x20) (ab_E0 sc)
        refine ab_ladd dX5_sortByWeights_83 ?_
        refine ab_lastore dX5_sortByWeights_84 kd_192 (hk16 i17 l18 dd19 x20 hp21).1 ?_
        obtain ⟨l22, e23⟩ : ∃ z, z = ab_u l18 192 r2.toNatClampNeg ((l7 192 r2.toNatClampNeg) + r13) := ⟨_, rfl⟩
        rw [show ab_u l18 192 r2.toNatClampNeg ((l7 192 r2.toNatClampNeg) + r13) = l22 from e23.symm]
        refine ab_aloadn dX5_sortByWeights_85 rfl ?_
        refine ab_getf (v := .ref 193) dX5_sortByWeights_86 fl_X5_19 kd_191 ff_191_2 ?_
        refine ab_iload dX5_sortByWeights_89 rfl ?_
        refine ab_dup2 dX5_sortByWeights_91 rfl rfl ?_
        refine ab_laload (v := (l22 193 r2.toNatClampNeg)) dX5_sortByWeights_92 kd_193 ((hk16 i17 l18 dd19 x20 hp21).2 l22 e23).1 rfl ?_
        refine ab_aloadn dX5_sortByWeights_93 rfl ?_
        refine ab_getf (v := .ref 160) dX5_sortByWeights_94 fl_X5_9 kd_191 ff_191_0 ?_
        refine ab_iloadn dX5_sortByWeights_97 rfl ?_
        obtain ⟨r24, P25, hs26, hk27⟩ := ((hk16 i17 l18 dd19 x20 hp21).2 l22 e23).2
        refine ab_callV (vs := [.int a3]) (st := [.long (l22 193 r2.toNatClampNeg), .int r2, .ref 193]) dX5_sortByWeights_98 okMX4_lostNow wd_986 kd_160 rfl rfl rfl (Nat.le_of_ble_eq_true rfl) ⟨Nat.le_of_ble_eq_true rfl, Nat.le_of_ble_eq_true rfl⟩ hs26 ?_
        rintro v9 ⟨i28, l29, dd30, x31⟩ E9 - ⟨rfl, rfl, hp32⟩
        show ab_Fr MX5_sortByWeights (d + 1) Q 101 [some (.ref 191), none, some (.int a2), some (.int a3), some (.int a4), some (.int a5), some (.int r2)] [.long r24, .long (l22 193 r2.toNatClampNeg), .int r2, .ref 193] (0, 0) (i28, l29, dd30, x31) (ab_E0 sc)
        refine ab_ladd dX5_sortByWeights_101 ?_
        refine ab_lastore dX5_sortByWeights_102 kd_193 (hk27 i28 l29 dd30 x31 hp32).1 ?_
        obtain ⟨l33, e34⟩ : ∃ z, z = ab_u l29 193 r2.toNatClampNeg ((l22 193 r2.toNatClampNeg) + r24) := ⟨_, rfl⟩
        rw [show ab_u l29 193 r2.toNatClampNeg ((l22 193 r2.toNatClampNeg) + r24) = l33 from e34.symm]
        refine ab_forget (i := 6) (L2 := [some (.ref 191), none, some (.int a2), some (.int a3), some (.int a4), some (.int a5), none]) rfl ?_
        exact ((hk27 i28 l29 dd30 x31 hp32).2 l33 e34)
theorem tMX5_sortByWeights_103 {d : Nat} {Q : ab_Qt} {sc : Nat × (Nat → Int32)} {i : Nat → Nat → Int32} {l : Nat → Nat → Int64} {dd : Nat → Nat → Value} {x : Nat} {a2 : Int32} {a3 : Int32} {a4 : Int32} {a5 : Int32} 
    (h : (∃ (P2 : ab_S → Prop), ab_Sp MX4_step d [.ref 160] (i, l, dd, x) (ab_E0 sc) (none) P2 ∧ ∀ i5 l6 dd7 x8, P2 (i5, l6, dd7, x8) → ab_Fr MX5_sortByWeights (d + 1) Q 38 [some (.ref 191), none, some (.int a2), some (.int a3), some (.int a4), some (.int (a5 + 1)), none] [] (0, 0) (i5, l6, dd7, x8) (ab_E0 sc))) :
    ab_Fr MX5_sortByWeights (d + 1) Q 103 [some (.ref 191), none, some (.int a2), some (.int a3), some (.int a4), some (.int a5), none] [] (0, 0) (i, l, dd, x) (ab_E0 sc) := by
  refine ab_aloadn dX5_sortByWeights_103 rfl ?_
  refine ab_getf (v := .ref 160) dX5_sortByWeights_104 fl_X5_9 kd_191 ff_191_0 ?_
  obtain ⟨P2, hs3, hk4⟩ := h
  refine ab_callV (vs := []) (st := []) dX5_sortByWeights_107 okMX4_step wd_991 kd_160 rfl rfl rfl (Nat.le_of_ble_eq_true rfl) ⟨Nat.le_of_ble_eq_true rfl, Nat.le_of_ble_eq_true rfl⟩ hs3 ?_
  rintro v9 ⟨i5, l6, dd7, x8⟩ E9 - ⟨rfl, rfl, hp9⟩
  show ab_Fr MX5_sortByWeights (d + 1) Q 110 [some (.ref 191), none, some (.int a2), some (.int a3), some (.int a4), some (.int a5), none] [] (0, 0) (i5, l6, dd7, x8) (ab_E0 sc)
  refine ab_iinc (v := (a5 + 1)) dX5_sortByWeights_110 rfl (by rfl) (Nat.le_of_ble_eq_true rfl) (L2 := [some (.ref 191), none, some (.int a2), some (.int a3), some (.int a4), some (.int (a5 + 1)), none]) rfl ?_
  refine ab_goto (tgt := 38) dX5_sortByWeights_113 (by decide) ?_
  exact (hk4 i5 l6 dd7 x8 hp9)
theorem tMX5_weighAll_0 {d : Nat} {Q : ab_Qt} {sc : Nat × (Nat → Int32)} {i : Nat → Nat → Int32} {l : Nat → Nat → Int64} {dd : Nat → Nat → Value} {x : Nat} {a1 : Nat} (k_a1 : ab_isM a1)
    (h : (∃ (P2 : ab_S → Prop), ab_Sp MX5_sortByVoters d [.ref 191, .ref a1] (i, l, dd, x) (ab_E0 sc) (none) P2 ∧ ∀ i5 l6 dd7 x8, P2 (i5, l6, dd7, x8) → ∀ l10, l10 = ab_u l6 191 8 1152921504606846976 → ab_Fr MX5_weighAll (d + 1) Q 23 [some (.ref 191), some (.ref a1), some (.int (1 <<< ((2 * (i5 a1 1)) &&& 31))), some (.int 0)] [] (0, 0) (i5, l10, dd7, x8) (ab_E0 sc))) :
    ab_Fr MX5_weighAll (d + 1) Q 0 [some (.ref 191), some (.ref a1), none, none] [] (0, 0) (i, l, dd, x) (ab_E0 sc) := by
  refine ab_aloadn dX5_weighAll_0 rfl ?_
  refine ab_aloadn dX5_weighAll_1 rfl ?_
  obtain ⟨P2, hs3, hk4⟩ := h
  refine ab_callV (vs := [.ref a1]) (st := []) dX5_weighAll_2 okMX5_sortByVoters wd_1072 kd_191 rfl rfl rfl (Nat.le_of_ble_eq_true rfl) ⟨Nat.le_of_ble_eq_true rfl, Nat.le_of_ble_eq_true rfl⟩ hs3 ?_
  rintro v9 ⟨i5, l6, dd7, x8⟩ E9 - ⟨rfl, rfl, hp9⟩
  show ab_Fr MX5_weighAll (d + 1) Q 5 [some (.ref 191), some (.ref a1), none, none] [] (0, 0) (i5, l6, dd7, x8) (ab_E0 sc)
  refine ab_aloadn dX5_weighAll_5 rfl ?_
  refine ab_ldc2 dX5_weighAll_6 wd_1079 ?_
  refine ab_putL dX5_weighAll_9 fl_X5_84 kd_191 rfl ?_
  obtain ⟨l10, e11⟩ : ∃ z, z = ab_u l6 191 8 1152921504606846976 := ⟨_, rfl⟩
  show ab_Fr MX5_weighAll (d + 1) Q 12 [some (.ref 191), some (.ref a1), none, none] [] (0, 0) (i5, ab_u l6 191 8 1152921504606846976, dd7, x8) (ab_E0 sc)
  rw [show ab_u l6 191 8 1152921504606846976 = l10 from e11.symm]
  refine ab_iconst (v := 1) dX5_weighAll_12 (by decide) ?_
  refine ab_iconst (v := 2) dX5_weighAll_13 (by decide) ?_
  refine ab_aloadn dX5_weighAll_14 rfl ?_
  refine ab_getf (v := .int (i5 a1 1)) dX5_weighAll_15 fl_X5_87 (kM k_a1) rfl ?_
  refine ab_imul dX5_weighAll_18 ?_
  refine ab_ishl dX5_weighAll_19 ?_
  refine ab_istoren dX5_weighAll_20 (Nat.le_of_ble_eq_true rfl) (L2 := [some (.ref 191), some (.ref a1), some (.int (1 <<< ((2 * (i5 a1 1)) &&& 31))), none]) rfl ?_
  refine ab_iconst (v := 0) dX5_weighAll_21 (by decide) ?_
  refine ab_istoren dX5_weighAll_22 (Nat.le_of_ble_eq_true rfl) (L2 := [some (.ref 191), some (.ref a1), some (.int (1 <<< ((2 * (i5 a1 1)) &&& 31))), some (.int 0)]) rfl ?_
  exact ((hk4 i5 l6 dd7 x8 hp9) l10 e11)
theorem tMX5_weighAll_23 {d : Nat} {Q : ab_Qt} {sc : Nat × (Nat → Int32)} {i : Nat → Nat → Int32} {l : Nat → Nat → Int64} {dd : Nat → Nat → Value} {x : Nat} {a1 : Nat} {a2 : Int32} {a3 : Int32} (k_a1 : ab_isM a1)
    (h : ((a2 ≤ a3 → Q (some (some (.long (l 191 8)))) (i, l, dd, x) (ab_E0 sc)) ∧ (¬ a2 ≤ a3 → (∃ (P3 : ab_S → Prop), ab_Sp MX5_takeWeights d [.ref 191, .int a3, .int (i a1 1)] (i, l, dd, x) (ab_E0 sc) (none) P3 ∧ ∀ i6 l7 dd8 x9, P3 (i6, l7, dd8, x9) → ∃ (P12 : ab_S → Prop), ab_Sp MX5_addWeights d [.ref 191, .ref a1] (i6, l7, dd8, x9) (ab_E0 sc) (none) P12 ∧ ∀ i15 l16 dd17 x18, P12 (i15, l16, dd17, x18) → ∃ (P21 : ab_S → Prop), ab_Sp MX5_tryNeeds d [.ref 191, .ref a1] (i15, l16, dd17, x18) (ab_E0 sc) (none) P21 ∧ ∀ i24 l25 dd26 x27, P21 (i24, l25, dd26, x27) → ab_Fr MX5_weighAll (d + 1) Q 23 [some (.ref 191), some (.ref a1), some (.int a2), some (.int (a3 + 1))] [] (0, 0) (i24, l25, dd26, x27) (ab_E0 sc))))) :
    ab_Fr MX5_weighAll (d + 1) Q 23 [some (.ref 191), some (.ref a1), some (.int a2), some (.int a3)] [] (0, 0) (i, l, dd, x) (ab_E0 sc) := by
  refine ab_iloadn dX5_weighAll_23 rfl ?_
  refine ab_iloadn dX5_weighAll_24 rfl ?_
  refine ab_icmp_ge (tgt := 53) dX5_weighAll_25 (by decide) (fun c1 => ?_) (fun c1 => ?_)
  · refine ab_aloadn dX5_weighAll_53 rfl ?_
    refine ab_getf (v := .long (l 191 8)) dX5_weighAll_54 fl_X5_84 kd_191 rfl ?_
    exact ab_lret dX5_weighAll_57 rfl ⟨Nat.zero_le _, Nat.zero_le _⟩ (h.1 c1)
  · refine ab_aloadn dX5_weighAll_28 rfl ?_
    refine ab_iloadn dX5_weighAll_29 rfl ?_
    refine ab_aloadn dX5_weighAll_30 rfl ?_
    refine ab_getf (v := .int (i a1 1)) dX5_weighAll_31 fl_X5_87 (kM k_a1) rfl ?_
    obtain ⟨P3, hs4, hk5⟩ := (h.2 c1)
    refine ab_callV (vs := [.int a3, .int (i a1 1)]) (st := []) dX5_weighAll_34 okMX5_takeWeights wd_1080 kd_191 rfl rfl rfl (Nat.le_of_ble_eq_true rfl) ⟨Nat.le_of_ble_eq_true rfl, Nat.le_of_ble_eq_true rfl⟩ hs4 ?_
    rintro v9 ⟨i6, l7, dd8, x9⟩ E9 - ⟨rfl, rfl, hp10⟩
    show ab_Fr MX5_weighAll (d + 1) Q 37 [some (.ref 191), some (.ref a1), some (.int a2), some (.int a3)] [] (0, 0) (i6, l7, dd8, x9) (ab_E0 sc)
    refine ab_aloadn dX5_weighAll_37 rfl ?_
    refine ab_aloadn dX5_weighAll_38 rfl ?_
    obtain ⟨P12, hs13, hk14⟩ := (hk5 i6 l7 dd8 x9 hp10)
    refine ab_callV (vs := [.ref a1]) (st := []) dX5_weighAll_39 okMX5_addWeights wd_1083 kd_191 rfl rfl rfl (Nat.le_of_ble_eq_true rfl) ⟨Nat.le_of_ble_eq_true rfl, Nat.le_of_ble_eq_true rfl⟩ hs13 ?_
    rintro v9 ⟨i15, l16, dd17, x18⟩ E9 - ⟨rfl, rfl, hp19⟩
    show ab_Fr MX5_weighAll (d + 1) Q 42 [some (.ref 191), some (.ref a1), some (.int a2), some (.int a3)] [] (0, 0) (i15, l16, dd17, x18) (ab_E0 sc)
    refine ab_aloadn dX5_weighAll_42 rfl ?_
    refine ab_aloadn dX5_weighAll_43 rfl ?_
    obtain ⟨P21, hs22, hk23⟩ := (hk14 i15 l16 dd17 x18 hp19)
    refine ab_callV (vs := [.ref a1]) (st := []) dX5_weighAll_44 okMX5_tryNeeds wd_1086 kd_191 rfl rfl rfl (Nat.le_of_ble_eq_true rfl) ⟨Nat.le_of_ble_eq_true rfl, Nat.le_of_ble_eq_true rfl⟩ hs22 ?_
    rintro v9 ⟨i24, l25, dd26, x27⟩ E9 - ⟨rfl, rfl, hp28⟩
    show ab_Fr MX5_weighAll (d + 1) Q 47 [some (.ref 191), some (.ref a1), some (.int a2), some (.int a3)] [] (0, 0) (i24, l25, dd26, x27) (ab_E0 sc)
    refine ab_iinc (v := (a3 + 1)) dX5_weighAll_47 rfl (by rfl) (Nat.le_of_ble_eq_true rfl) (L2 := [some (.ref 191), some (.ref a1), some (.int a2), some (.int (a3 + 1))]) rfl ?_
    refine ab_goto (tgt := 23) dX5_weighAll_50 (by decide) ?_
    exact (hk23 i24 l25 dd26 x27 hp28)
theorem tMX5_sortByVoters_0 {d : Nat} {Q : ab_Qt} {sc : Nat × (Nat → Int32)} {i : Nat → Nat → Int32} {l : Nat → Nat → Int64} {dd : Nat → Nat → Value} {x : Nat} {a1 : Nat} (k_a1 : ab_isM a1)
    (h : (∃ (P2 : ab_S → Prop), ab_Sp MX11_empty d [.ref 194] (i, l, dd, x) (ab_E0 sc) (none) P2 ∧ ∀ i5 l6 dd7 x8, P2 (i5, l6, dd7, x8) → ∃ (P11 : ab_S → Prop), ab_Sp MX4_voting d [.ref 160, .ref a1, .ref (a1 + 47)] (i5, l6, dd7, x8) (ab_E0 sc) (none) P11 ∧ ∀ i14 l15 dd16 x17, P11 (i14, l15, dd16, x17) → ∃ (r19 : Int32) (P20 : ab_S → Prop), ab_Sp MX4_first d [.ref 160] (i14, l15, dd16, x17) (ab_E0 sc) (some (.int r19)) P20 ∧ ∀ i23 l24 dd25 x26, P20 (i23, l24, dd25, x26) → ab_Fr MX5_sortByVoters (d + 1) Q 29 [some (.ref 191), some (.ref a1), some (.int r19), some (.int 0), none, none, none] [] (0, 0) (i23, l24, dd25, x26) (ab_E0 sc))) :
    ab_Fr MX5_sortByVoters (d + 1) Q 0 [some (.ref 191), some (.ref a1), none, none, none, none, none] [] (0, 0) (i, l, dd, x) (ab_E0 sc) := by
  refine ab_aloadn dX5_sortByVoters_0 rfl ?_
  refine ab_getf (v := .ref 194) dX5_sortByVoters_1 fl_X5_28 kd_191 ff_191_4 ?_
  obtain ⟨P2, hs3, hk4⟩ := h
  refine ab_callN (vs := [.ref 194]) (st := []) dX5_sortByVoters_4 okMX11_empty (List.mem_of_getElem? (i := 4) rfl) rfl rfl (Nat.le_of_ble_eq_true rfl) ⟨Nat.le_of_ble_eq_true rfl, Nat.le_of_ble_eq_true rfl⟩ hs3 ?_
  rintro v9 ⟨i5, l6, dd7, x8⟩ E9 - ⟨rfl, rfl, hp9⟩
  show ab_Fr MX5_sortByVoters (d + 1) Q 7 [some (.ref 191), some (.ref a1), none, none, none, none, none] [] (0, 0) (i5, l6, dd7, x8) (ab_E0 sc)
  refine ab_aloadn dX5_sortByVoters_7 rfl ?_
  refine ab_getf (v := .ref 160) dX5_sortByVoters_8 fl_X5_9 kd_191 ff_191_0 ?_
  refine ab_aloadn dX5_sortByVoters_11 rfl ?_
  refine ab_aloadn dX5_sortByVoters_12 rfl ?_
  refine ab_getf (v := .ref (a1 + 47)) dX5_sortByVoters_13 fl_X5_52 (kM k_a1) (fM_9 k_a1) ?_
  obtain ⟨P11, hs12, hk13⟩ := (hk4 i5 l6 dd7 x8 hp9)
  refine ab_callV (vs := [.ref a1, .ref (a1 + 47)]) (st := []) dX5_sortByVoters_16 okMX4_voting wd_980 kd_160 rfl rfl rfl (Nat.le_of_ble_eq_true rfl) ⟨Nat.le_of_ble_eq_true rfl, Nat.le_of_ble_eq_true rfl⟩ hs12 ?_
  rintro v9 ⟨i14, l15, dd16, x17⟩ E9 - ⟨rfl, rfl, hp18⟩
  show ab_Fr MX5_sortByVoters (d + 1) Q 19 [some (.ref 191), some (.ref a1), none, none, none, none, none] [] (0, 0) (i14, l15, dd16, x17) (ab_E0 sc)
  refine ab_aloadn dX5_sortByVoters_19 rfl ?_
  refine ab_getf (v := .ref 160) dX5_sortByVoters_20 fl_X5_9 kd_191 ff_191_0 ?_
  obtain ⟨r19, P20, hs21, hk22⟩ := (hk13 i14 l15 dd16 x17 hp18)
  refine ab_callV (vs := []) (st := []) dX5_sortByVoters_23 okMX4_first wd_981 kd_160 rfl rfl rfl (Nat.le_of_ble_eq_true rfl) ⟨Nat.le_of_ble_eq_true rfl, Nat.le_of_ble_eq_true rfl⟩ hs21 ?_
  rintro v9 ⟨i23, l24, dd25, x26⟩ E9 - ⟨rfl, rfl, hp27⟩
  show ab_Fr MX5_sortByVoters (d + 1) Q 26 [some (.ref 191), some (.ref a1), none, none, none, none, none] [.int r19] (0, 0) (i23, l24, dd25, x26) (ab_E0 sc)
  refine ab_istoren dX5_sortByVoters_26 (Nat.le_of_ble_eq_true rfl) (L2 := [some (.ref 191), some (.ref a1), some (.int r19), none, none, none, none]) rfl ?_
  refine ab_iconst (v := 0) dX5_sortByVoters_27 (by decide) ?_
  refine ab_istoren dX5_sortByVoters_28 (Nat.le_of_ble_eq_true rfl) (L2 := [some (.ref 191), some (.ref a1), some (.int r19), some (.int 0), none, none, none]) rfl ?_
  exact (hk22 i23 l24 dd25 x26 hp27)
theorem tMX5_sortByVoters_29 {d : Nat} {Q : ab_Qt} {sc : Nat × (Nat → Int32)} {i : Nat → Nat → Int32} {l : Nat → Nat → Int64} {dd : Nat → Nat → Value} {x : Nat} {a1 : Nat} {a2 : Int32} {a3 : Int32} (k_a1 : ab_isM a1)
    (h : ((a2 ≤ a3 → Q (some none) (i, l, dd, x) (ab_E0 sc)) ∧ (¬ a2 ≤ a3 → ab_Fr MX5_sortByVoters (d + 1) Q 37 [some (.ref 191), some (.ref a1), some (.int a2), some (.int a3), some (.int 0), none, none] [] (0, 0) (i, l, dd, x) (ab_E0 sc)))) :
    ab_Fr MX5_sortByVoters (d + 1) Q 29 [some (.ref 191), some (.ref a1), some (.int a2), some (.int a3), none, none, none] [] (0, 0) (i, l, dd, x) (ab_E0 sc) := by
  refine ab_iloadn dX5_sortByVoters_29 rfl ?_
  refine ab_iloadn dX5_sortByVoters_30 rfl ?_
  refine ab_icmp_ge (tgt := 127) dX5_sortByVoters_31 (by decide) (fun c1 => ?_) (fun c1 => ?_)
  · exact ab_vret dX5_sortByVoters_127 rfl ⟨Nat.zero_le _, Nat.zero_le _⟩ (h.1 c1)
  · refine ab_iconst (v := 0) dX5_sortByVoters_34 (by decide) ?_
    refine ab_istore dX5_sortByVoters_35 (Nat.le_of_ble_eq_true rfl) (L2 := [some (.ref 191), some (.ref a1), some (.int a2), some (.int a3), some (.int 0), none, none]) rfl ?_
    exact (h.2 c1)
theorem tMX5_sortByVoters_37 {d : Nat} {Q : ab_Qt} {sc : Nat × (Nat → Int32)} {i : Nat → Nat → Int32} {l : Nat → Nat → Int64} {dd : Nat → Nat → Value} {x : Nat} {a1 : Nat} {a2 : Int32} {a3 : Int32} {a4 : Int32} (k_a1 : ab_isM a1)
    (h : (((i a1 0) ≤ a4 → (∃ (P3 : ab_S → Prop), ab_Sp MX4_step d [.ref 160] (i, l, dd, x) (ab_E0 sc) (none) P3 ∧ ∀ i6 l7 dd8 x9, P3 (i6, l7, dd8, x9) → ab_Fr MX5_sortByVoters (d + 1) Q 29 [some (.ref 191), some (.ref a1), some (.int a2), some (.int (a3 + 1)), none, none, none] [] (0, 0) (i6, l7, dd8, x9) (ab_E0 sc))) ∧ (¬ (i a1 0) ≤ a4 → (∃ (r11 : Int32) (P12 : ab_S → Prop), ab_Sp MX4_votersFor d [.ref 160, .int a4] (i, l, dd, x) (ab_E0 sc) (some (.int r11)) P12 ∧ ∀ i15 l16 dd17 x18, P12 (i15, l16, dd17, x18) → ab_Fr MX5_sortByVoters (d + 1) Q 71 [some (.ref 191), some (.ref a1), some (.int a2), some (.int a3), some (.int a4), some (.int (((a4 * 32) + (r11 &&& 31)) * 3)), some (.int 0)] [] (0, 0) (i15, l16, dd17, x18) (ab_E0 sc))))) :
    ab_Fr MX5_sortByVoters (d + 1) Q 37 [some (.ref 191), some (.ref a1), some (.int a2), some (.int a3), some (.int a4), none, none] [] (0, 0) (i, l, dd, x) (ab_E0 sc) := by
  refine ab_iload dX5_sortByVoters_37 rfl ?_
  refine ab_aloadn dX5_sortByVoters_39 rfl ?_
  refine ab_getf (v := .int (i a1 0)) dX5_sortByVoters_40 fl_X5_101 (kM k_a1) rfl ?_
  refine ab_icmp_ge (tgt := 114) dX5_sortByVoters_43 (by decide) (fun c1 => ?_) (fun c1 => ?_)
  · refine ab_aloadn dX5_sortByVoters_114 rfl ?_
    refine ab_getf (v := .ref 160) dX5_sortByVoters_115 fl_X5_9 kd_191 ff_191_0 ?_
    obtain ⟨P3, hs4, hk5⟩ := (h.1 c1)
    refine ab_callV (vs := []) (st := []) dX5_sortByVoters_118 okMX4_step wd_991 kd_160 rfl rfl rfl (Nat.le_of_ble_eq_true rfl) ⟨Nat.le_of_ble_eq_true rfl, Nat.le_of_ble_eq_true rfl⟩ hs4 ?_
    rintro v9 ⟨i6, l7, dd8, x9⟩ E9 - ⟨rfl, rfl, hp10⟩
    show ab_Fr MX5_sortByVoters (d + 1) Q 121 [some (.ref 191), some (.ref a1), some (.int a2), some (.int a3), some (.int a4), none, none] [] (0, 0) (i6, l7, dd8, x9) (ab_E0 sc)
    refine ab_iinc (v := (a3 + 1)) dX5_sortByVoters_121 rfl (by rfl) (Nat.le_of_ble_eq_true rfl) (L2 := [some (.ref 191), some (.ref a1), some (.int a2), some (.int (a3 + 1)), some (.int a4), none, none]) rfl ?_
    refine ab_goto (tgt := 29) dX5_sortByVoters_124 (by decide) ?_
    refine ab_forget (i := 4) (L2 := [some (.ref 191), some (.ref a1), some (.int a2), some (.int (a3 + 1)), none, none, none]) rfl ?_
    exact (hk5 i6 l7 dd8 x9 hp10)
  · refine ab_iload dX5_sortByVoters_46 rfl ?_
    refine ab_bipush (v := 32) dX5_sortByVoters_48 (by decide) ?_
    refine ab_imul dX5_sortByVoters_50 ?_
    refine ab_aloadn dX5_sortByVoters_51 rfl ?_
    refine ab_getf (v := .ref 160) dX5_sortByVoters_52 fl_X5_9 kd_191 ff_191_0 ?_
    refine ab_iload dX5_sortByVoters_55 rfl ?_
    obtain ⟨r11, P12, hs13, hk14⟩ := (h.2 c1)
    refine ab_callV (vs := [.int a4]) (st := [.int (a4 * 32)]) dX5_sortByVoters_57 okMX4_votersFor wd_1075 kd_160 rfl rfl rfl (Nat.le_of_ble_eq_true rfl) ⟨Nat.le_of_ble_eq_true rfl, Nat.le_of_ble_eq_true rfl⟩ hs13 ?_
    rintro v9 ⟨i15, l16, dd17, x18⟩ E9 - ⟨rfl, rfl, hp19⟩
    show ab_Fr MX5_sortByVoters (d + 1) Q 60 [some (.ref 191), some (.ref a1), some (.int a2), some (.int a3), some (.int a4), none, none] [.int r11, .int (a4 * 32)] (0, 0) (i15, l16, dd17, x18) (ab_E0 sc)
    refine ab_bipush (v := 31) dX5_sortByVoters_60 (by decide) ?_
    refine ab_iand dX5_sortByVoters_62 ?_
    refine ab_iadd dX5_sortByVoters_63 ?_
    refine ab_iconst (v := 3) dX5_sortByVoters_64 (by decide) ?_
    refine ab_imul dX5_sortByVoters_65 ?_
    refine ab_istore dX5_sortByVoters_66 (Nat.le_of_ble_eq_true rfl) (L2 := [some (.ref 191), some (.ref a1), some (.int a2), some (.int a3), some (.int a4), some (.int (((a4 * 32) + (r11 &&& 31)) * 3)), none]) rfl ?_
    refine ab_iconst (v := 0) dX5_sortByVoters_68 (by decide) ?_
    refine ab_istore dX5_sortByVoters_69 (Nat.le_of_ble_eq_true rfl) (L2 := [some (.ref 191), some (.ref a1), some (.int a2), some (.int a3), some (.int a4), some (.int (((a4 * 32) + (r11 &&& 31)) * 3)), some (.int 0)]) rfl ?_
    exact (hk14 i15 l16 dd17 x18 hp19)
theorem tMX5_sortByVoters_71 {d : Nat} {Q : ab_Qt} {sc : Nat × (Nat → Int32)} {i : Nat → Nat → Int32} {l : Nat → Nat → Int64} {dd : Nat → Nat → Value} {x : Nat} {a1 : Nat} {a2 : Int32} {a3 : Int32} {a4 : Int32} {a5 : Int32} {a6 : Int32} (k_a1 : ab_isM a1)
    (h : (((i a1 0) ≤ a6 → ab_Fr MX5_sortByVoters (d + 1) Q 37 [some (.ref 191), some (.ref a1), some (.int a2), some (.int a3), some (.int (a4 + 1)), none, none] [] (0, 0) (i, l, dd, x) (ab_E0 sc)) ∧ (¬ (i a1 0) ≤ a6 → (vp_in (a5 + a6) 288 ∧ ∃ (r2 : Int64) (P3 : ab_S → Prop), ab_Sp MX4_lostNow d [.ref 160, .int a6] (i, l, dd, x) (ab_E0 sc) (some (.long r2)) P3 ∧ ∀ i6 l7 dd8 x9, P3 (i6, l7, dd8, x9) → vp_in (a5 + a6) 288 ∧ ∀ l11, l11 = ab_u l7 194 (a5 + a6).toNatClampNeg ((l 194 (a5 + a6).toNatClampNeg) + r2) → ab_Fr MX5_sortByVoters (d + 1) Q 71 [some (.ref 191), some (.ref a1), some (.int a2), some (.int a3), some (.int a4), some (.int a5), some (.int (a6 + 1))] [] (0, 0) (i6, l11, dd8, x9) (ab_E0 sc))))) :
    ab_Fr MX5_sortByVoters (d + 1) Q 71 [some (.ref 191), some (.ref a1), some (.int a2), some (.int a3), some (.int a4), some (.int a5), some (.int a6)] [] (0, 0) (i, l, dd, x) (ab_E0 sc) := by
  refine ab_iload dX5_sortByVoters_71 rfl ?_
  refine ab_aloadn dX5_sortByVoters_73 rfl ?_
  refine ab_getf (v := .int (i a1 0)) dX5_sortByVoters_74 fl_X5_101 (kM k_a1) rfl ?_
  refine ab_icmp_ge (tgt := 108) dX5_sortByVoters_77 (by decide) (fun c1 => ?_) (fun c1 => ?_)
  · refine ab_iinc (v := (a4 + 1)) dX5_sortByVoters_108 rfl (by rfl) (Nat.le_of_ble_eq_true rfl) (L2 := [some (.ref 191), some (.ref a1), some (.int a2), some (.int a3), some (.int (a4 + 1)), some (.int a5), some (.int a6)]) rfl ?_
    refine ab_goto (tgt := 37) dX5_sortByVoters_111 (by decide) ?_
    refine ab_forget (i := 5) (L2 := [some (.ref 191), some (.ref a1), some (.int a2), some (.int a3), some (.int (a4 + 1)), none, some (.int a6)]) rfl ?_
    refine ab_forget (i := 6) (L2 := [some (.ref 191), some (.ref a1), some (.int a2), some (.int a3), some (.int (a4 + 1)), none, none]) rfl ?_
    exact (h.1 c1)
  · refine ab_aloadn dX5_sortByVoters_80 rfl ?_
    refine ab_getf (v := .ref 194) dX5_sortByVoters_81 fl_X5_28 kd_191 ff_191_4 ?_
    refine ab_iload dX5_sortByVoters_84 rfl ?_
    refine ab_iload dX5_sortByVoters_86 rfl ?_
    refine ab_iadd dX5_sortByVoters_88 ?_
    refine ab_dup2 dX5_sortByVoters_89 rfl rfl ?_
    refine ab_laload (v := (l 194 (a5 + a6).toNatClampNeg)) dX5_sortByVoters_90 kd_194 (h.2 c1).1 rfl ?_
    refine ab_aloadn dX5_sortByVoters_91 rfl ?_
    refine ab_getf (v := .ref 160) dX5_sortByVoters_92 fl_X5_9 kd_191 ff_191_0 ?_
    refine ab_iload dX5_sortByVoters_95 rfl ?_
    obtain ⟨r2, P3, hs4, hk5⟩ := (h.2 c1).2
    refine ab_callV (vs := [.int a6]) (st := [.long (l 194 (a5 + a6).toNatClampNeg), .int (a5 + a6), .ref 194]) dX5_sortByVoters_97 okMX4_lostNow wd_986 kd_160 rfl rfl rfl (Nat.le_of_ble_eq_true rfl) ⟨Nat.le_of_ble_eq_true rfl, Nat.le_of_ble_eq_true rfl⟩ hs4 ?_
    rintro v9 ⟨i6, l7, dd8, x9⟩ E9 - ⟨rfl, rfl, hp10⟩
    show ab_Fr MX5_sortByVoters (d + 1) Q 100 [some (.ref 191), some (.ref a1), some (.int a2), some (.int a3), some (.int a4), some (.int a5), some (.int a6)] [.long r2, .long (l 194 (a5 + a6).toNatClampNeg), .int (a5 + a6), .ref 194] (0, 0) (i6, l7, dd8, x9) (ab_E0 sc)
    refine ab_ladd dX5_sortByVoters_100 ?_
    refine ab_lastore dX5_sortByVoters_101 kd_194 (hk5 i6 l7 dd8 x9 hp10).1 ?_
    obtain ⟨l11, e12⟩ : ∃ z, z = ab_u l7 194 (a5 + a6).toNatClampNeg ((l 194 (a5 + a6).toNatClampNeg) + r2) := ⟨_, rfl⟩
    rw [show ab_u l7 194 (a5 + a6).toNatClampNeg ((l 194 (a5 + a6).toNatClampNeg) + r2) = l11 from e12.symm]
    refine ab_iinc (v := (a6 + 1)) dX5_sortByVoters_102 rfl (by rfl) (Nat.le_of_ble_eq_true rfl) (L2 := [some (.ref 191), some (.ref a1), some (.int a2), some (.int a3), some (.int a4), some (.int a5), some (.int (a6 + 1))]) rfl ?_
    refine ab_goto (tgt := 71) dX5_sortByVoters_105 (by decide) ?_
    exact ((hk5 i6 l7 dd8 x9 hp10).2 l11 e12)
theorem tMX5_takeWeights_0 {d : Nat} {Q : ab_Qt} {sc : Nat × (Nat → Int32)} {i : Nat → Nat → Int32} {l : Nat → Nat → Int64} {dd : Nat → Nat → Value} {x : Nat} {a1 : Int32} {a2 : Int32} 
    (h : ab_Fr MX5_takeWeights (d + 1) Q 2 [some (.ref 191), some (.int a1), some (.int a2), some (.int 0), none] [] (0, 0) (i, l, dd, x) (ab_E0 sc)) :
    ab_Fr MX5_takeWeights (d + 1) Q 0 [some (.ref 191), some (.int a1), some (.int a2), none, none] [] (0, 0) (i, l, dd, x) (ab_E0 sc) := by
  refine ab_iconst (v := 0) dX5_takeWeights_0 (by decide) ?_
  refine ab_istoren dX5_takeWeights_1 (Nat.le_of_ble_eq_true rfl) (L2 := [some (.ref 191), some (.int a1), some (.int a2), some (.int 0), none]) rfl ?_
  exact h
theorem tMX5_takeWeights_2 {d : Nat} {Q : ab_Qt} {sc : Nat × (Nat → Int32)} {i : Nat → Nat → Int32} {l : Nat → Nat → Int64} {dd : Nat → Nat → Value} {x : Nat} {a1 : Int32} {a2 : Int32} {a3 : Int32} 
    (h : ((a2 ≤ a3 → Q (some none) (i, l, dd, x) (ab_E0 sc)) ∧ (¬ a2 ≤ a3 → ((5 ≤ a3 → Q (some none) (i, l, dd, x) (ab_E0 sc)) ∧ (¬ 5 ≤ a3 → (vp_in a3 5 ∧ ∀ i3, i3 = ab_u i 197 a3.toNatClampNeg ((a1 >>> ((2 * ((a2 - 1) - a3)) &&& 31)) &&& 3) → ab_Fr MX5_takeWeights (d + 1) Q 34 [some (.ref 191), some (.int a1), some (.int a2), some (.int a3), some (.int (1 <<< (a3 &&& 31)))] [] (0, 0) (i3, l, dd, x) (ab_E0 sc))))))) :
    ab_Fr MX5_takeWeights (d + 1) Q 2 [some (.ref 191), some (.int a1), some (.int a2), some (.int a3), none] [] (0, 0) (i, l, dd, x) (ab_E0 sc) := by
  refine ab_iloadn dX5_takeWeights_2 rfl ?_
  refine ab_iloadn dX5_takeWeights_3 rfl ?_
  refine ab_icmp_ge (tgt := 79) dX5_takeWeights_4 (by decide) (fun c1 => ?_) (fun c1 => ?_)
  · exact ab_vret dX5_takeWeights_79 rfl ⟨Nat.zero_le _, Nat.zero_le _⟩ (h.1 c1)
  · refine ab_iloadn dX5_takeWeights_7 rfl ?_
    refine ab_iconst (v := 5) dX5_takeWeights_8 (by decide) ?_
    refine ab_icmp_ge (tgt := 79) dX5_takeWeights_9 (by decide) (fun c2 => ?_) (fun c2 => ?_)
    · exact ab_vret dX5_takeWeights_79 rfl ⟨Nat.zero_le _, Nat.zero_le _⟩ ((h.2 c1).1 c2)
    · refine ab_aloadn dX5_takeWeights_12 rfl ?_
      refine ab_getf (v := .ref 197) dX5_takeWeights_13 fl_X5_38 kd_191 ff_191_7 ?_
      refine ab_iloadn dX5_takeWeights_16 rfl ?_
      refine ab_iloadn dX5_takeWeights_17 rfl ?_
      refine ab_iconst (v := 2) dX5_takeWeights_18 (by decide) ?_
      refine ab_iloadn dX5_takeWeights_19 rfl ?_
      refine ab_iconst (v := 1) dX5_takeWeights_20 (by decide) ?_
      refine ab_isub dX5_takeWeights_21 ?_
      refine ab_iloadn dX5_takeWeights_22 rfl ?_
      refine ab_isub dX5_takeWeights_23 ?_
      refine ab_imul dX5_takeWeights_24 ?_
      refine ab_ishr dX5_takeWeights_25 ?_
      refine ab_iconst (v := 3) dX5_takeWeights_26 (by decide) ?_
      refine ab_iand dX5_takeWeights_27 ?_
      refine ab_iastore dX5_takeWeights_28 kd_197 ((h.2 c1).2 c2).1 ?_
      obtain ⟨i3, e4⟩ : ∃ z, z = ab_u i 197 a3.toNatClampNeg ((a1 >>> ((2 * ((a2 - 1) - a3)) &&& 31)) &&& 3) := ⟨_, rfl⟩
      rw [show ab_u i 197 a3.toNatClampNeg ((a1 >>> ((2 * ((a2 - 1) - a3)) &&& 31)) &&& 3) = i3 from e4.symm]
      refine ab_iconst (v := 1) dX5_takeWeights_29 (by decide) ?_
      refine ab_iloadn dX5_takeWeights_30 rfl ?_
      refine ab_ishl dX5_takeWeights_31 ?_
      refine ab_istore dX5_takeWeights_32 (Nat.le_of_ble_eq_true rfl) (L2 := [some (.ref 191), some (.int a1), some (.int a2), some (.int a3), some (.int (1 <<< (a3 &&& 31)))]) rfl ?_
      exact (((h.2 c1).2 c2).2 i3 e4)
theorem tMX5_takeWeights_34 {d : Nat} {Q : ab_Qt} {sc : Nat × (Nat → Int32)} {i : Nat → Nat → Int32} {l : Nat → Nat → Int64} {dd : Nat → Nat → Value} {x : Nat} {a1 : Int32} {a2 : Int32} {a3 : Int32} {a4 : Int32} 
    (h : (((2 <<< (a3 &&& 31)) ≤ a4 → ab_Fr MX5_takeWeights (d + 1) Q 2 [some (.ref 191), some (.int a1), some (.int a2), some (.int (a3 + 1)), none] [] (0, 0) (i, l, dd, x) (ab_E0 sc)) ∧ (¬ (2 <<< (a3 &&& 31)) ≤ a4 → (vp_in (a4 - (1 <<< (a3 &&& 31))) 32 ∧ vp_in a3 5 ∧ vp_in a4 32 ∧ ∀ i2, i2 = ab_u i 195 a4.toNatClampNeg ((i 195 (a4 - (1 <<< (a3 &&& 31))).toNatClampNeg) + (i 197 a3.toNatClampNeg)) → ab_Fr MX5_takeWeights (d + 1) Q 34 [some (.ref 191), some (.int a1), some (.int a2), some (.int a3), some (.int (a4 + 1))] [] (0, 0) (i2, l, dd, x) (ab_E0 sc))))) :
    ab_Fr MX5_takeWeights (d + 1) Q 34 [some (.ref 191), some (.int a1), some (.int a2), some (.int a3), some (.int a4)] [] (0, 0) (i, l, dd, x) (ab_E0 sc) := by
  refine ab_iload dX5_takeWeights_34 rfl ?_
  refine ab_iconst (v := 2) dX5_takeWeights_36 (by decide) ?_
  refine ab_iloadn dX5_takeWeights_37 rfl ?_
  refine ab_ishl dX5_takeWeights_38 ?_
  refine ab_icmp_ge (tgt := 73) dX5_takeWeights_39 (by decide) (fun c1 => ?_) (fun c1 => ?_)
  · refine ab_iinc (v := (a3 + 1)) dX5_takeWeights_73 rfl (by rfl) (Nat.le_of_ble_eq_true rfl) (L2 := [some (.ref 191), some (.int a1), some (.int a2), some (.int (a3 + 1)), some (.int a4)]) rfl ?_
    refine ab_goto (tgt := 2) dX5_takeWeights_76 (by decide) ?_
    refine ab_forget (i := 4) (L2 := [some (.ref 191), some (.int a1), some (.int a2), some (.int (a3 + 1)), none]) rfl ?_
    exact (h.1 c1)
  · refine ab_aloadn dX5_takeWeights_42 rfl ?_
    refine ab_getf (v := .ref 195) dX5_takeWeights_43 fl_X5_31 kd_191 ff_191_5 ?_
    refine ab_iload dX5_takeWeights_46 rfl ?_
    refine ab_aloadn dX5_takeWeights_48 rfl ?_
    refine ab_getf (v := .ref 195) dX5_takeWeights_49 fl_X5_31 kd_191 ff_191_5 ?_
    refine ab_iload dX5_takeWeights_52 rfl ?_
    refine ab_iconst (v := 1) dX5_takeWeights_54 (by decide) ?_
    refine ab_iloadn dX5_takeWeights_55 rfl ?_
    refine ab_ishl dX5_takeWeights_56 ?_
    refine ab_isub dX5_takeWeights_57 ?_
    refine ab_iaload (v := (i 195 (a4 - (1 <<< (a3 &&& 31))).toNatClampNeg)) dX5_takeWeights_58 kd_195 (h.2 c1).1 rfl ?_
    refine ab_aloadn dX5_takeWeights_59 rfl ?_
    refine ab_getf (v := .ref 197) dX5_takeWeights_60 fl_X5_38 kd_191 ff_191_7 ?_
    refine ab_iloadn dX5_takeWeights_63 rfl ?_
    refine ab_iaload (v := (i 197 a3.toNatClampNeg)) dX5_takeWeights_64 kd_197 (h.2 c1).2.1 rfl ?_
    refine ab_iadd dX5_takeWeights_65 ?_
    refine ab_iastore dX5_takeWeights_66 kd_195 (h.2 c1).2.2.1 ?_
    obtain ⟨i2, e3⟩ : ∃ z, z = ab_u i 195 a4.toNatClampNeg ((i 195 (a4 - (1 <<< (a3 &&& 31))).toNatClampNeg) + (i 197 a3.toNatClampNeg)) := ⟨_, rfl⟩
    rw [show ab_u i 195 a4.toNatClampNeg ((i 195 (a4 - (1 <<< (a3 &&& 31))).toNatClampNeg) + (i 197 a3.toNatClampNeg)) = i2 from e3.symm]
    refine ab_iinc (v := (a4 + 1)) dX5_takeWeights_67 rfl (by rfl) (Nat.le_of_ble_eq_true rfl) (L2 := [some (.ref 191), some (.int a1), some (.int a2), some (.int a3), some (.int (a4 + 1))]) rfl ?_
    refine ab_goto (tgt := 34) dX5_takeWeights_70 (by decide) ?_
    exact ((h.2 c1).2.2.2 i2 e3)
theorem tMX5_addWeights_0 {d : Nat} {Q : ab_Qt} {sc : Nat × (Nat → Int32)} {i : Nat → Nat → Int32} {l : Nat → Nat → Int64} {dd : Nat → Nat → Value} {x : Nat} {a1 : Nat} (k_a1 : ab_isM a1)
    (h : (∃ (P2 : ab_S → Prop), ab_Sp MX11_empty d [.ref 196] (i, l, dd, x) (ab_E0 sc) (none) P2 ∧ ∀ i5 l6 dd7 x8, P2 (i5, l6, dd7, x8) → ab_Fr MX5_addWeights (d + 1) Q 16 [some (.ref 191), some (.ref a1), some (.int (1 <<< ((i5 a1 1) &&& 31))), some (.int 0), none, none, none, none] [] (0, 0) (i5, l6, dd7, x8) (ab_E0 sc))) :
    ab_Fr MX5_addWeights (d + 1) Q 0 [some (.ref 191), some (.ref a1), none, none, none, none, none, none] [] (0, 0) (i, l, dd, x) (ab_E0 sc) := by
  refine ab_aloadn dX5_addWeights_0 rfl ?_
  refine ab_getf (v := .ref 196) dX5_addWeights_1 fl_X5_35 kd_191 ff_191_6 ?_
  obtain ⟨P2, hs3, hk4⟩ := h
  refine ab_callN (vs := [.ref 196]) (st := []) dX5_addWeights_4 okMX11_empty (List.mem_of_getElem? (i := 4) rfl) rfl rfl (Nat.le_of_ble_eq_true rfl) ⟨Nat.le_of_ble_eq_true rfl, Nat.le_of_ble_eq_true rfl⟩ hs3 ?_
  rintro v9 ⟨i5, l6, dd7, x8⟩ E9 - ⟨rfl, rfl, hp9⟩
  show ab_Fr MX5_addWeights (d + 1) Q 7 [some (.ref 191), some (.ref a1), none, none, none, none, none, none] [] (0, 0) (i5, l6, dd7, x8) (ab_E0 sc)
  refine ab_iconst (v := 1) dX5_addWeights_7 (by decide) ?_
  refine ab_aloadn dX5_addWeights_8 rfl ?_
  refine ab_getf (v := .int (i5 a1 1)) dX5_addWeights_9 fl_X5_87 (kM k_a1) rfl ?_
  refine ab_ishl dX5_addWeights_12 ?_
  refine ab_istoren dX5_addWeights_13 (Nat.le_of_ble_eq_true rfl) (L2 := [some (.ref 191), some (.ref a1), some (.int (1 <<< ((i5 a1 1) &&& 31))), none, none, none, none, none]) rfl ?_
  refine ab_iconst (v := 0) dX5_addWeights_14 (by decide) ?_
  refine ab_istoren dX5_addWeights_15 (Nat.le_of_ble_eq_true rfl) (L2 := [some (.ref 191), some (.ref a1), some (.int (1 <<< ((i5 a1 1) &&& 31))), some (.int 0), none, none, none, none]) rfl ?_
  exact (hk4 i5 l6 dd7 x8 hp9)
theorem tMX5_addWeights_16 {d : Nat} {Q : ab_Qt} {sc : Nat × (Nat → Int32)} {i : Nat → Nat → Int32} {l : Nat → Nat → Int64} {dd : Nat → Nat → Value} {x : Nat} {a1 : Nat} {a2 : Int32} {a3 : Int32} (k_a1 : ab_isM a1)
    (h : (((i a1 0) ≤ a3 → Q (some none) (i, l, dd, x) (ab_E0 sc)) ∧ (¬ (i a1 0) ≤ a3 → ab_Fr MX5_addWeights (d + 1) Q 27 [some (.ref 191), some (.ref a1), some (.int a2), some (.int a3), some (.int 0), none, none, none] [] (0, 0) (i, l, dd, x) (ab_E0 sc)))) :
    ab_Fr MX5_addWeights (d + 1) Q 16 [some (.ref 191), some (.ref a1), some (.int a2), some (.int a3), none, none, none, none] [] (0, 0) (i, l, dd, x) (ab_E0 sc) := by
  refine ab_iloadn dX5_addWeights_16 rfl ?_
  refine ab_aloadn dX5_addWeights_17 rfl ?_
  refine ab_getf (v := .int (i a1 0)) dX5_addWeights_18 fl_X5_101 (kM k_a1) rfl ?_
  refine ab_icmp_ge (tgt := 165) dX5_addWeights_21 (by decide) (fun c1 => ?_) (fun c1 => ?_)
  · exact ab_vret dX5_addWeights_165 rfl ⟨Nat.zero_le _, Nat.zero_le _⟩ (h.1 c1)
  · refine ab_iconst (v := 0) dX5_addWeights_24 (by decide) ?_
    refine ab_istore dX5_addWeights_25 (Nat.le_of_ble_eq_true rfl) (L2 := [some (.ref 191), some (.ref a1), some (.int a2), some (.int a3), some (.int 0), none, none, none]) rfl ?_
    exact (h.2 c1)
theorem tMX5_addWeights_27 {d : Nat} {Q : ab_Qt} {sc : Nat × (Nat → Int32)} {i : Nat → Nat → Int32} {l : Nat → Nat → Int64} {dd : Nat → Nat → Value} {x : Nat} {a1 : Nat} {a2 : Int32} {a3 : Int32} {a4 : Int32} (k_a1 : ab_isM a1)
    (h : ((a2 ≤ a4 → ab_Fr MX5_addWeights (d + 1) Q 111 [some (.ref 191), some (.ref a1), some (.int a2), some (.int a3), none, none, none, none] [] (0, 0) (i, l, dd, x) (ab_E0 sc)) ∧ (¬ a2 ≤ a4 → ((32 ≤ a4 → ab_Fr MX5_addWeights (d + 1) Q 111 [some (.ref 191), some (.ref a1), some (.int a2), some (.int a3), none, none, none, none] [] (0, 0) (i, l, dd, x) (ab_E0 sc)) ∧ (¬ 32 ≤ a4 → (vp_in a4 32 ∧ ab_Fr MX5_addWeights (d + 1) Q 70 [some (.ref 191), some (.ref a1), some (.int a2), some (.int a3), some (.int a4), some (.int (((a3 * 32) + a4) * 3)), some (.int (((a3 * 16) + (i 195 a4.toNatClampNeg)) * 3)), some (.int 0)] [] (0, 0) (i, l, dd, x) (ab_E0 sc))))))) :
    ab_Fr MX5_addWeights (d + 1) Q 27 [some (.ref 191), some (.ref a1), some (.int a2), some (.int a3), some (.int a4), none, none, none] [] (0, 0) (i, l, dd, x) (ab_E0 sc) := by
  refine ab_iload dX5_addWeights_27 rfl ?_
  refine ab_iloadn dX5_addWeights_29 rfl ?_
  refine ab_icmp_ge (tgt := 111) dX5_addWeights_30 (by decide) (fun c1 => ?_) (fun c1 => ?_)
  · refine ab_forget (i := 4) (L2 := [some (.ref 191), some (.ref a1), some (.int a2), some (.int a3), none, none, none, none]) rfl ?_
    exact (h.1 c1)
  · refine ab_iload dX5_addWeights_33 rfl ?_
    refine ab_bipush (v := 32) dX5_addWeights_35 (by decide) ?_
    refine ab_icmp_ge (tgt := 111) dX5_addWeights_37 (by decide) (fun c2 => ?_) (fun c2 => ?_)
    · refine ab_forget (i := 4) (L2 := [some (.ref 191), some (.ref a1), some (.int a2), some (.int a3), none, none, none, none]) rfl ?_
      exact ((h.2 c1).1 c2)
    · refine ab_iloadn dX5_addWeights_40 rfl ?_
      refine ab_bipush (v := 32) dX5_addWeights_41 (by decide) ?_
      refine ab_imul dX5_addWeights_43 ?_
      refine ab_iload dX5_addWeights_44 rfl ?_
      refine ab_iadd dX5_addWeights_46 ?_
      refine ab_iconst (v := 3) dX5_addWeights_47 (by decide) ?_
      refine ab_imul dX5_addWeights_48 ?_
      refine ab_istore dX5_addWeights_49 (Nat.le_of_ble_eq_true rfl) (L2 := [some (.ref 191), some (.ref a1), some (.int a2), some (.int a3), some (.int a4), some (.int (((a3 * 32) + a4) * 3)), none, none]) rfl ?_
      refine ab_iloadn dX5_addWeights_51 rfl ?_
      refine ab_bipush (v := 16) dX5_addWeights_52 (by decide) ?_
      refine ab_imul dX5_addWeights_54 ?_
      refine ab_aloadn dX5_addWeights_55 rfl ?_
      refine ab_getf (v := .ref 195) dX5_addWeights_56 fl_X5_31 kd_191 ff_191_5 ?_
      refine ab_iload dX5_addWeights_59 rfl ?_
      refine ab_iaload (v := (i 195 a4.toNatClampNeg)) dX5_addWeights_61 kd_195 ((h.2 c1).2 c2).1 rfl ?_
      refine ab_iadd dX5_addWeights_62 ?_
      refine ab_iconst (v := 3) dX5_addWeights_63 (by decide) ?_
      refine ab_imul dX5_addWeights_64 ?_
      refine ab_istore dX5_addWeights_65 (Nat.le_of_ble_eq_true rfl) (L2 := [some (.ref 191), some (.ref a1), some (.int a2), some (.int a3), some (.int a4), some (.int (((a3 * 32) + a4) * 3)), some (.int (((a3 * 16) + (i 195 a4.toNatClampNeg)) * 3)), none]) rfl ?_
      refine ab_iconst (v := 0) dX5_addWeights_67 (by decide) ?_
      refine ab_istore dX5_addWeights_68 (Nat.le_of_ble_eq_true rfl) (L2 := [some (.ref 191), some (.ref a1), some (.int a2), some (.int a3), some (.int a4), some (.int (((a3 * 32) + a4) * 3)), some (.int (((a3 * 16) + (i 195 a4.toNatClampNeg)) * 3)), some (.int 0)]) rfl ?_
      exact ((h.2 c1).2 c2).2
theorem tMX5_addWeights_70 {d : Nat} {Q : ab_Qt} {sc : Nat × (Nat → Int32)} {i : Nat → Nat → Int32} {l : Nat → Nat → Int64} {dd : Nat → Nat → Value} {x : Nat} {a1 : Nat} {a2 : Int32} {a3 : Int32} {a4 : Int32} {a5 : Int32} {a6 : Int32} {a7 : Int32} (k_a1 : ab_isM a1)
    (h : ((3 ≤ a7 → ab_Fr MX5_addWeights (d + 1) Q 27 [some (.ref 191), some (.ref a1), some (.int a2), some (.int a3), some (.int (a4 + 1)), none, none, none] [] (0, 0) (i, l, dd, x) (ab_E0 sc)) ∧ (¬ 3 ≤ a7 → (vp_in (a6 + a7) 144 ∧ vp_in (a5 + a7) 288 ∧ vp_in (a6 + a7) 144 ∧ ∀ l2, l2 = ab_u l 196 (a6 + a7).toNatClampNeg ((l 196 (a6 + a7).toNatClampNeg) + (l 194 (a5 + a7).toNatClampNeg)) → ab_Fr MX5_addWeights (d + 1) Q 70 [some (.ref 191), some (.ref a1), some (.int a2), some (.int a3), some (.int a4), some (.int a5), some (.int a6), some (.int (a7 + 1))] [] (0, 0) (i, l2, dd, x) (ab_E0 sc))))) :
    ab_Fr MX5_addWeights (d + 1) Q 70 [some (.ref 191), some (.ref a1), some (.int a2), some (.int a3), some (.int a4), some (.int a5), some (.int a6), some (.int a7)] [] (0, 0) (i, l, dd, x) (ab_E0 sc) := by
  refine ab_iload dX5_addWeights_70 rfl ?_
  refine ab_iconst (v := 3) dX5_addWeights_72 (by decide) ?_
  refine ab_icmp_ge (tgt := 105) dX5_addWeights_73 (by decide) (fun c1 => ?_) (fun c1 => ?_)
  · refine ab_iinc (v := (a4 + 1)) dX5_addWeights_105 rfl (by rfl) (Nat.le_of_ble_eq_true rfl) (L2 := [some (.ref 191), some (.ref a1), some (.int a2), some (.int a3), some (.int (a4 + 1)), some (.int a5), some (.int a6), some (.int a7)]) rfl ?_
    refine ab_goto (tgt := 27) dX5_addWeights_108 (by decide) ?_
    refine ab_forget (i := 5) (L2 := [some (.ref 191), some (.ref a1), some (.int a2), some (.int a3), some (.int (a4 + 1)), none, some (.int a6), some (.int a7)]) rfl ?_
    refine ab_forget (i := 6) (L2 := [some (.ref 191), some (.ref a1), some (.int a2), some (.int a3), some (.int (a4 + 1)), none, none, some (.int a7)]) rfl ?_
    refine ab_forget (i := 7) (L2 := [some (.ref 191), some (.ref a1), some (.int a2), some (.int a3), some (.int (a4 + 1)), none, none, none]) rfl ?_
    exact (h.1 c1)
  · refine ab_aloadn dX5_addWeights_76 rfl ?_
    refine ab_getf (v := .ref 196) dX5_addWeights_77 fl_X5_35 kd_191 ff_191_6 ?_
    refine ab_iload dX5_addWeights_80 rfl ?_
    refine ab_iload dX5_addWeights_82 rfl ?_
    refine ab_iadd dX5_addWeights_84 ?_
    refine ab_dup2 dX5_addWeights_85 rfl rfl ?_
    refine ab_laload (v := (l 196 (a6 + a7).toNatClampNeg)) dX5_addWeights_86 kd_196 (h.2 c1).1 rfl ?_
    refine ab_aloadn dX5_addWeights_87 rfl ?_
    refine ab_getf (v := .ref 194) dX5_addWeights_88 fl_X5_28 kd_191 ff_191_4 ?_
    refine ab_iload dX5_addWeights_91 rfl ?_
    refine ab_iload dX5_addWeights_93 rfl ?_
    refine ab_iadd dX5_addWeights_95 ?_
    refine ab_laload (v := (l 194 (a5 + a7).toNatClampNeg)) dX5_addWeights_96 kd_194 (h.2 c1).2.1 rfl ?_
    refine ab_ladd dX5_addWeights_97 ?_
    refine ab_lastore dX5_addWeights_98 kd_196 (h.2 c1).2.2.1 ?_
    obtain ⟨l2, e3⟩ : ∃ z, z = ab_u l 196 (a6 + a7).toNatClampNeg ((l 196 (a6 + a7).toNatClampNeg) + (l 194 (a5 + a7).toNatClampNeg)) := ⟨_, rfl⟩
    rw [show ab_u l 196 (a6 + a7).toNatClampNeg ((l 196 (a6 + a7).toNatClampNeg) + (l 194 (a5 + a7).toNatClampNeg)) = l2 from e3.symm]
    refine ab_iinc (v := (a7 + 1)) dX5_addWeights_99 rfl (by rfl) (Nat.le_of_ble_eq_true rfl) (L2 := [some (.ref 191), some (.ref a1), some (.int a2), some (.int a3), some (.int a4), some (.int a5), some (.int a6), some (.int (a7 + 1))]) rfl ?_
    refine ab_goto (tgt := 70) dX5_addWeights_102 (by decide) ?_
    exact ((h.2 c1).2.2.2 l2 e3)
theorem tMX5_addWeights_111 {d : Nat} {Q : ab_Qt} {sc : Nat × (Nat → Int32)} {i : Nat → Nat → Int32} {l : Nat → Nat → Int64} {dd : Nat → Nat → Value} {x : Nat} {a1 : Nat} {a2 : Int32} {a3 : Int32} (k_a1 : ab_isM a1)
    (h : ab_Fr MX5_addWeights (d + 1) Q 115 [some (.ref 191), some (.ref a1), some (.int a2), some (.int a3), some (.int 44), none, none, none] [] (0, 0) (i, l, dd, x) (ab_E0 sc)) :
    ab_Fr MX5_addWeights (d + 1) Q 111 [some (.ref 191), some (.ref a1), some (.int a2), some (.int a3), none, none, none, none] [] (0, 0) (i, l, dd, x) (ab_E0 sc) := by
  refine ab_bipush (v := 44) dX5_addWeights_111 (by decide) ?_
  refine ab_istore dX5_addWeights_113 (Nat.le_of_ble_eq_true rfl) (L2 := [some (.ref 191), some (.ref a1), some (.int a2), some (.int a3), some (.int 44), none, none, none]) rfl ?_
  exact h
theorem tMX5_addWeights_115 {d : Nat} {Q : ab_Qt} {sc : Nat × (Nat → Int32)} {i : Nat → Nat → Int32} {l : Nat → Nat → Int64} {dd : Nat → Nat → Value} {x : Nat} {a1 : Nat} {a2 : Int32} {a3 : Int32} {a4 : Int32} (k_a1 : ab_isM a1)
    (h : ((a4 < 0 → ab_Fr MX5_addWeights (d + 1) Q 16 [some (.ref 191), some (.ref a1), some (.int a2), some (.int (a3 + 1)), none, none, none, none] [] (0, 0) (i, l, dd, x) (ab_E0 sc)) ∧ (¬ a4 < 0 → (vp_in (((a3 * 16) * 3) + a4) 144 ∧ vp_in ((((a3 * 16) * 3) + a4) + 3) 144 ∧ vp_in (((a3 * 16) * 3) + a4) 144 ∧ ∀ l2, l2 = ab_u l 196 (((a3 * 16) * 3) + a4).toNatClampNeg ((l 196 (((a3 * 16) * 3) + a4).toNatClampNeg) + (l 196 ((((a3 * 16) * 3) + a4) + 3).toNatClampNeg)) → ab_Fr MX5_addWeights (d + 1) Q 115 [some (.ref 191), some (.ref a1), some (.int a2), some (.int a3), some (.int (a4 + (-1))), none, none, none] [] (0, 0) (i, l2, dd, x) (ab_E0 sc))))) :
    ab_Fr MX5_addWeights (d + 1) Q 115 [some (.ref 191), some (.ref a1), some (.int a2), some (.int a3), some (.int a4), none, none, none] [] (0, 0) (i, l, dd, x) (ab_E0 sc) := by
  refine ab_iload dX5_addWeights_115 rfl ?_
  refine ab_if_lt (tgt := 159) dX5_addWeights_117 (by decide) (fun c1 => ?_) (fun c1 => ?_)
  · refine ab_iinc (v := (a3 + 1)) dX5_addWeights_159 rfl (by rfl) (Nat.le_of_ble_eq_true rfl) (L2 := [some (.ref 191), some (.ref a1), some (.int a2), some (.int (a3 + 1)), some (.int a4), none, none, none]) rfl ?_
    refine ab_goto (tgt := 16) dX5_addWeights_162 (by decide) ?_
    refine ab_forget (i := 4) (L2 := [some (.ref 191), some (.ref a1), some (.int a2), some (.int (a3 + 1)), none, none, none, none]) rfl ?_
    exact (h.1 c1)
  · refine ab_aloadn dX5_addWeights_120 rfl ?_
    refine ab_getf (v := .ref 196) dX5_addWeights_121 fl_X5_35 kd_191 ff_191_6 ?_
    refine ab_iloadn dX5_addWeights_124 rfl ?_
    refine ab_bipush (v := 16) dX5_addWeights_125 (by decide) ?_
    refine ab_imul dX5_addWeights_127 ?_
    refine ab_iconst (v := 3) dX5_addWeights_128 (by decide) ?_
    refine ab_imul dX5_addWeights_129 ?_
    refine ab_iload dX5_addWeights_130 rfl ?_
    refine ab_iadd dX5_addWeights_132 ?_
    refine ab_dup2 dX5_addWeights_133 rfl rfl ?_
    refine ab_laload (v := (l 196 (((a3 * 16) * 3) + a4).toNatClampNeg)) dX5_addWeights_134 kd_196 (h.2 c1).1 rfl ?_
    refine ab_aloadn dX5_addWeights_135 rfl ?_
    refine ab_getf (v := .ref 196) dX5_addWeights_136 fl_X5_35 kd_191 ff_191_6 ?_
    refine ab_iloadn dX5_addWeights_139 rfl ?_
    refine ab_bipush (v := 16) dX5_addWeights_140 (by decide) ?_
    refine ab_imul dX5_addWeights_142 ?_
    refine ab_iconst (v := 3) dX5_addWeights_143 (by decide) ?_
    refine ab_imul dX5_addWeights_144 ?_
    refine ab_iload dX5_addWeights_145 rfl ?_
    refine ab_iadd dX5_addWeights_147 ?_
    refine ab_iconst (v := 3) dX5_addWeights_148 (by decide) ?_
    refine ab_iadd dX5_addWeights_149 ?_
    refine ab_laload (v := (l 196 ((((a3 * 16) * 3) + a4) + 3).toNatClampNeg)) dX5_addWeights_150 kd_196 (h.2 c1).2.1 rfl ?_
    refine ab_ladd dX5_addWeights_151 ?_
    refine ab_lastore dX5_addWeights_152 kd_196 (h.2 c1).2.2.1 ?_
    obtain ⟨l2, e3⟩ : ∃ z, z = ab_u l 196 (((a3 * 16) * 3) + a4).toNatClampNeg ((l 196 (((a3 * 16) * 3) + a4).toNatClampNeg) + (l 196 ((((a3 * 16) * 3) + a4) + 3).toNatClampNeg)) := ⟨_, rfl⟩
    rw [show ab_u l 196 (((a3 * 16) * 3) + a4).toNatClampNeg ((l 196 (((a3 * 16) * 3) + a4).toNatClampNeg) + (l 196 ((((a3 * 16) * 3) + a4) + 3).toNatClampNeg)) = l2 from e3.symm]
    refine ab_iinc (v := (a4 + (-1))) dX5_addWeights_153 rfl (by rfl) (Nat.le_of_ble_eq_true rfl) (L2 := [some (.ref 191), some (.ref a1), some (.int a2), some (.int a3), some (.int (a4 + (-1))), none, none, none]) rfl ?_
    refine ab_goto (tgt := 115) dX5_addWeights_156 (by decide) ?_
    exact ((h.2 c1).2.2.2 l2 e3)
theorem tMX5_tryNeeds_0 {d : Nat} {Q : ab_Qt} {sc : Nat × (Nat → Int32)} {i : Nat → Nat → Int32} {l : Nat → Nat → Int64} {dd : Nat → Nat → Value} {x : Nat} {a1 : Nat} (k_a1 : ab_isM a1)
    (h : ab_Fr MX5_tryNeeds (d + 1) Q 2 [some (.ref 191), some (.ref a1), some (.int 1), none, none] [] (0, 0) (i, l, dd, x) (ab_E0 sc)) :
    ab_Fr MX5_tryNeeds (d + 1) Q 0 [some (.ref 191), some (.ref a1), none, none, none] [] (0, 0) (i, l, dd, x) (ab_E0 sc) := by
  refine ab_iconst (v := 1) dX5_tryNeeds_0 (by decide) ?_
  refine ab_istoren dX5_tryNeeds_1 (Nat.le_of_ble_eq_true rfl) (L2 := [some (.ref 191), some (.ref a1), some (.int 1), none, none]) rfl ?_
  exact h
theorem tMX5_tryNeeds_2 {d : Nat} {Q : ab_Qt} {sc : Nat × (Nat → Int32)} {i : Nat → Nat → Int32} {l : Nat → Nat → Int64} {dd : Nat → Nat → Value} {x : Nat} {a1 : Nat} {a2 : Int32} (k_a1 : ab_isM a1)
    (h : ((16 ≤ a2 → Q (some none) (i, l, dd, x) (ab_E0 sc)) ∧ (¬ 16 ≤ a2 → ab_Fr MX5_tryNeeds (d + 1) Q 10 [some (.ref 191), some (.ref a1), some (.int a2), some (.int 0), none] [] (0, 0) (i, l, dd, x) (ab_E0 sc)))) :
    ab_Fr MX5_tryNeeds (d + 1) Q 2 [some (.ref 191), some (.ref a1), some (.int a2), none, none] [] (0, 0) (i, l, dd, x) (ab_E0 sc) := by
  refine ab_iloadn dX5_tryNeeds_2 rfl ?_
  refine ab_bipush (v := 16) dX5_tryNeeds_3 (by decide) ?_
  refine ab_icmp_ge (tgt := 94) dX5_tryNeeds_5 (by decide) (fun c1 => ?_) (fun c1 => ?_)
  · exact ab_vret dX5_tryNeeds_94 rfl ⟨Nat.zero_le _, Nat.zero_le _⟩ (h.1 c1)
  · refine ab_iconst (v := 0) dX5_tryNeeds_8 (by decide) ?_
    refine ab_istoren dX5_tryNeeds_9 (Nat.le_of_ble_eq_true rfl) (L2 := [some (.ref 191), some (.ref a1), some (.int a2), some (.int 0), none]) rfl ?_
    exact (h.2 c1)
theorem tMX5_tryNeeds_10 {d : Nat} {Q : ab_Qt} {sc : Nat × (Nat → Int32)} {i : Nat → Nat → Int32} {l : Nat → Nat → Int64} {dd : Nat → Nat → Value} {x : Nat} {a1 : Nat} {a2 : Int32} {a3 : Int32} (k_a1 : ab_isM a1)
    (h : (((i a1 0) ≤ a3 → ab_Fr MX5_tryNeeds (d + 1) Q 2 [some (.ref 191), some (.ref a1), some (.int (a2 + 1)), none, none] [] (0, 0) (i, l, dd, x) (ab_E0 sc)) ∧ (¬ (i a1 0) ≤ a3 → ab_Fr MX5_tryNeeds (d + 1) Q 21 [some (.ref 191), some (.ref a1), some (.int a2), some (.int a3), some (.int 0)] [] (0, 0) (i, l, dd, x) (ab_E0 sc)))) :
    ab_Fr MX5_tryNeeds (d + 1) Q 10 [some (.ref 191), some (.ref a1), some (.int a2), some (.int a3), none] [] (0, 0) (i, l, dd, x) (ab_E0 sc) := by
  refine ab_iloadn dX5_tryNeeds_10 rfl ?_
  refine ab_aloadn dX5_tryNeeds_11 rfl ?_
  refine ab_getf (v := .int (i a1 0)) dX5_tryNeeds_12 fl_X5_101 (kM k_a1) rfl ?_
  refine ab_icmp_ge (tgt := 88) dX5_tryNeeds_15 (by decide) (fun c1 => ?_) (fun c1 => ?_)
  · refine ab_iinc (v := (a2 + 1)) dX5_tryNeeds_88 rfl (by rfl) (Nat.le_of_ble_eq_true rfl) (L2 := [some (.ref 191), some (.ref a1), some (.int (a2 + 1)), some (.int a3), none]) rfl ?_
    refine ab_goto (tgt := 2) dX5_tryNeeds_91 (by decide) ?_
    refine ab_forget (i := 3) (L2 := [some (.ref 191), some (.ref a1), some (.int (a2 + 1)), none, none]) rfl ?_
    exact (h.1 c1)
  · refine ab_iconst (v := 0) dX5_tryNeeds_18 (by decide) ?_
    refine ab_istore dX5_tryNeeds_19 (Nat.le_of_ble_eq_true rfl) (L2 := [some (.ref 191), some (.ref a1), some (.int a2), some (.int a3), some (.int 0)]) rfl ?_
    exact (h.2 c1)
theorem tMX5_tryNeeds_21 {d : Nat} {Q : ab_Qt} {sc : Nat × (Nat → Int32)} {i : Nat → Nat → Int32} {l : Nat → Nat → Int64} {dd : Nat → Nat → Value} {x : Nat} {a1 : Nat} {a2 : Int32} {a3 : Int32} {a4 : Int32} (k_a1 : ab_isM a1)
    (h : (((i a1 0) ≤ a4 → ab_Fr MX5_tryNeeds (d + 1) Q 10 [some (.ref 191), some (.ref a1), some (.int a2), some (.int (a3 + 1)), none] [] (0, 0) (i, l, dd, x) (ab_E0 sc)) ∧ (¬ (i a1 0) ≤ a4 → ((a3 = a4 → ab_Fr MX5_tryNeeds (d + 1) Q 21 [some (.ref 191), some (.ref a1), some (.int a2), some (.int a3), some (.int (a4 + 1))] [] (0, 0) (i, l, dd, x) (ab_E0 sc)) ∧ (¬ a3 = a4 → (∃ (r3 : Int64) (P4 : ab_S → Prop), ab_Sp MX5_lostByNeed d [.ref 191, .int a2, .int a3, .int a4] (i, l, dd, x) (ab_E0 sc) (some (.long r3)) P4 ∧ ∀ i7 l8 dd9 x10, P4 (i7, l8, dd9, x10) → ((¬ r3 < (l8 191 8) → ab_Fr MX5_tryNeeds (d + 1) Q 21 [some (.ref 191), some (.ref a1), some (.int a2), some (.int a3), some (.int (a4 + 1))] [] (0, 0) (i7, l8, dd9, x10) (ab_E0 sc)) ∧ (r3 < (l8 191 8) → (∃ (r13 : Int64) (P14 : ab_S → Prop), ab_Sp MX5_lostByNeed d [.ref 191, .int a2, .int a3, .int a4] (i7, l8, dd9, x10) (ab_E0 sc) (some (.long r13)) P14 ∧ ∀ i17 l18 dd19 x20, P14 (i17, l18, dd19, x20) → ∀ l22, l22 = ab_u l18 191 8 r13 → ∃ (P25 : ab_S → Prop), ab_Sp MX5_keepNeed d [.ref 191, .int (i17 a1 1), .int a2, .int a3, .int a4] (i17, l22, dd19, x20) (ab_E0 sc) (none) P25 ∧ ∀ i28 l29 dd30 x31, P25 (i28, l29, dd30, x31) → ab_Fr MX5_tryNeeds (d + 1) Q 21 [some (.ref 191), some (.ref a1), some (.int a2), some (.int a3), some (.int (a4 + 1))] [] (0, 0) (i28, l29, dd30, x31) (ab_E0 sc)))))))))) :
    ab_Fr MX5_tryNeeds (d + 1) Q 21 [some (.ref 191), some (.ref a1), some (.int a2), some (.int a3), some (.int a4)] [] (0, 0) (i, l, dd, x) (ab_E0 sc) := by
  refine ab_iload dX5_tryNeeds_21 rfl ?_
  refine ab_aloadn dX5_tryNeeds_23 rfl ?_
  refine ab_getf (v := .int (i a1 0)) dX5_tryNeeds_24 fl_X5_101 (kM k_a1) rfl ?_
  refine ab_icmp_ge (tgt := 82) dX5_tryNeeds_27 (by decide) (fun c1 => ?_) (fun c1 => ?_)
  · refine ab_iinc (v := (a3 + 1)) dX5_tryNeeds_82 rfl (by rfl) (Nat.le_of_ble_eq_true rfl) (L2 := [some (.ref 191), some (.ref a1), some (.int a2), some (.int (a3 + 1)), some (.int a4)]) rfl ?_
    refine ab_goto (tgt := 10) dX5_tryNeeds_85 (by decide) ?_
    refine ab_forget (i := 4) (L2 := [some (.ref 191), some (.ref a1), some (.int a2), some (.int (a3 + 1)), none]) rfl ?_
    exact (h.1 c1)
  · refine ab_iloadn dX5_tryNeeds_30 rfl ?_
    refine ab_iload dX5_tryNeeds_31 rfl ?_
    refine ab_icmp_eq (tgt := 76) dX5_tryNeeds_33 (by decide) (fun c2 => ?_) (fun c2 => ?_)
    · refine ab_iinc (v := (a4 + 1)) dX5_tryNeeds_76 rfl (by rfl) (Nat.le_of_ble_eq_true rfl) (L2 := [some (.ref 191), some (.ref a1), some (.int a2), some (.int a3), some (.int (a4 + 1))]) rfl ?_
      refine ab_goto (tgt := 21) dX5_tryNeeds_79 (by decide) ?_
      exact ((h.2 c1).1 c2)
    · refine ab_aloadn dX5_tryNeeds_36 rfl ?_
      refine ab_iloadn dX5_tryNeeds_37 rfl ?_
      refine ab_iloadn dX5_tryNeeds_38 rfl ?_
      refine ab_iload dX5_tryNeeds_39 rfl ?_
      obtain ⟨r3, P4, hs5, hk6⟩ := ((h.2 c1).2 c2)
      refine ab_callV (vs := [.int a2, .int a3, .int a4]) (st := []) dX5_tryNeeds_41 okMX5_lostByNeed wd_1089 kd_191 rfl rfl rfl (Nat.le_of_ble_eq_true rfl) ⟨Nat.le_of_ble_eq_true rfl, Nat.le_of_ble_eq_true rfl⟩ hs5 ?_
      rintro v9 ⟨i7, l8, dd9, x10⟩ E9 - ⟨rfl, rfl, hp11⟩
      show ab_Fr MX5_tryNeeds (d + 1) Q 44 [some (.ref 191), some (.ref a1), some (.int a2), some (.int a3), some (.int a4)] [.long r3] (0, 0) (i7, l8, dd9, x10) (ab_E0 sc)
      refine ab_aloadn dX5_tryNeeds_44 rfl ?_
      refine ab_getf (v := .long (l8 191 8)) dX5_tryNeeds_45 fl_X5_84 kd_191 rfl ?_
      refine ab_lcge (tgt := 76) dX5_tryNeeds_48 dX5_tryNeeds_49 (by decide) (fun c12 => ?_) (fun c12 => ?_)
      · refine ab_iinc (v := (a4 + 1)) dX5_tryNeeds_76 rfl (by rfl) (Nat.le_of_ble_eq_true rfl) (L2 := [some (.ref 191), some (.ref a1), some (.int a2), some (.int a3), some (.int (a4 + 1))]) rfl ?_
        refine ab_goto (tgt := 21) dX5_tryNeeds_79 (by decide) ?_
        exact ((hk6 i7 l8 dd9 x10 hp11).1 c12)
      · refine ab_aloadn dX5_tryNeeds_52 rfl ?_
        refine ab_aloadn dX5_tryNeeds_53 rfl ?_
        refine ab_iloadn dX5_tryNeeds_54 rfl ?_
        refine ab_iloadn dX5_tryNeeds_55 rfl ?_
        refine ab_iload dX5_tryNeeds_56 rfl ?_
        obtain ⟨r13, P14, hs15, hk16⟩ := ((hk6 i7 l8 dd9 x10 hp11).2 c12)
        refine ab_callV (vs := [.int a2, .int a3, .int a4]) (st := [.ref 191]) dX5_tryNeeds_58 okMX5_lostByNeed wd_1089 kd_191 rfl rfl rfl (Nat.le_of_ble_eq_true rfl) ⟨Nat.le_of_ble_eq_true rfl, Nat.le_of_ble_eq_true rfl⟩ hs15 ?_
        rintro v9 ⟨i17, l18, dd19, x20⟩ E9 - ⟨rfl, rfl, hp21⟩
        show ab_Fr MX5_tryNeeds (d + 1) Q 61 [some (.ref 191), some (.ref a1), some (.int a2), some (.int a3), some (.int a4)] [.long r13, .ref 191] (0, 0) (i17, l18, dd19, x20) (ab_E0 sc)
        refine ab_putL dX5_tryNeeds_61 fl_X5_84 kd_191 rfl ?_
        obtain ⟨l22, e23⟩ : ∃ z, z = ab_u l18 191 8 r13 := ⟨_, rfl⟩
        show ab_Fr MX5_tryNeeds (d + 1) Q 64 [some (.ref 191), some (.ref a1), some (.int a2), some (.int a3), some (.int a4)] [] (0, 0) (i17, ab_u l18 191 8 r13, dd19, x20) (ab_E0 sc)
        rw [show ab_u l18 191 8 r13 = l22 from e23.symm]
        refine ab_aloadn dX5_tryNeeds_64 rfl ?_
        refine ab_aloadn dX5_tryNeeds_65 rfl ?_
        refine ab_getf (v := .int (i17 a1 1)) dX5_tryNeeds_66 fl_X5_87 (kM k_a1) rfl ?_
        refine ab_iloadn dX5_tryNeeds_69 rfl ?_
        refine ab_iloadn dX5_tryNeeds_70 rfl ?_
        refine ab_iload dX5_tryNeeds_71 rfl ?_
        obtain ⟨P25, hs26, hk27⟩ := ((hk16 i17 l18 dd19 x20 hp21) l22 e23)
        refine ab_callV (vs := [.int (i17 a1 1), .int a2, .int a3, .int a4]) (st := []) dX5_tryNeeds_73 okMX5_keepNeed wd_1092 kd_191 rfl rfl rfl (Nat.le_of_ble_eq_true rfl) ⟨Nat.le_of_ble_eq_true rfl, Nat.le_of_ble_eq_true rfl⟩ hs26 ?_
        rintro v9 ⟨i28, l29, dd30, x31⟩ E9 - ⟨rfl, rfl, hp32⟩
        show ab_Fr MX5_tryNeeds (d + 1) Q 76 [some (.ref 191), some (.ref a1), some (.int a2), some (.int a3), some (.int a4)] [] (0, 0) (i28, l29, dd30, x31) (ab_E0 sc)
        refine ab_iinc (v := (a4 + 1)) dX5_tryNeeds_76 rfl (by rfl) (Nat.le_of_ble_eq_true rfl) (L2 := [some (.ref 191), some (.ref a1), some (.int a2), some (.int a3), some (.int (a4 + 1))]) rfl ?_
        refine ab_goto (tgt := 21) dX5_tryNeeds_79 (by decide) ?_
        exact (hk27 i28 l29 dd30 x31 hp32)
theorem tMX5_lostByNeed_0 {d : Nat} {Q : ab_Qt} {sc : Nat × (Nat → Int32)} {i : Nat → Nat → Int32} {l : Nat → Nat → Int64} {dd : Nat → Nat → Value} {x : Nat} {a1 : Int32} {a2 : Int32} {a3 : Int32} 
    (h : (vp_in ((((a2 * 16) * 3) + (a1 * 3)) + a2) 144 ∧ vp_in (((a2 * 16) * 3) + a3) 144 ∧ vp_in ((((a2 * 16) * 3) + (a1 * 3)) + a3) 144 ∧ Q (some (some (.long (((l 196 ((((a2 * 16) * 3) + (a1 * 3)) + a2).toNatClampNeg) + (l 196 (((a2 * 16) * 3) + a3).toNatClampNeg)) - (l 196 ((((a2 * 16) * 3) + (a1 * 3)) + a3).toNatClampNeg))))) (i, l, dd, x) (ab_E0 sc))) :
    ab_Fr MX5_lostByNeed (d + 1) Q 0 [some (.ref 191), some (.int a1), some (.int a2), some (.int a3), none, none] [] (0, 0) (i, l, dd, x) (ab_E0 sc) := by
  refine ab_iloadn dX5_lostByNeed_0 rfl ?_
  refine ab_bipush (v := 16) dX5_lostByNeed_1 (by decide) ?_
  refine ab_imul dX5_lostByNeed_3 ?_
  refine ab_iconst (v := 3) dX5_lostByNeed_4 (by decide) ?_
  refine ab_imul dX5_lostByNeed_5 ?_
  refine ab_istore dX5_lostByNeed_6 (Nat.le_of_ble_eq_true rfl) (L2 := [some (.ref 191), some (.int a1), some (.int a2), some (.int a3), some (.int ((a2 * 16) * 3)), none]) rfl ?_
  refine ab_iload dX5_lostByNeed_8 rfl ?_
  refine ab_iloadn dX5_lostByNeed_10 rfl ?_
  refine ab_iconst (v := 3) dX5_lostByNeed_11 (by decide) ?_
  refine ab_imul dX5_lostByNeed_12 ?_
  refine ab_iadd dX5_lostByNeed_13 ?_
  refine ab_istore dX5_lostByNeed_14 (Nat.le_of_ble_eq_true rfl) (L2 := [some (.ref 191), some (.int a1), some (.int a2), some (.int a3), some (.int ((a2 * 16) * 3)), some (.int (((a2 * 16) * 3) + (a1 * 3)))]) rfl ?_
  refine ab_aloadn dX5_lostByNeed_16 rfl ?_
  refine ab_getf (v := .ref 196) dX5_lostByNeed_17 fl_X5_35 kd_191 ff_191_6 ?_
  refine ab_iload dX5_lostByNeed_20 rfl ?_
  refine ab_iloadn dX5_lostByNeed_22 rfl ?_
  refine ab_iadd dX5_lostByNeed_23 ?_
  refine ab_laload (v := (l 196 ((((a2 * 16) * 3) + (a1 * 3)) + a2).toNatClampNeg)) dX5_lostByNeed_24 kd_196 h.1 rfl ?_
  refine ab_aloadn dX5_lostByNeed_25 rfl ?_
  refine ab_getf (v := .ref 196) dX5_lostByNeed_26 fl_X5_35 kd_191 ff_191_6 ?_
  refine ab_iload dX5_lostByNeed_29 rfl ?_
  refine ab_iloadn dX5_lostByNeed_31 rfl ?_
  refine ab_iadd dX5_lostByNeed_32 ?_
  refine ab_laload (v := (l 196 (((a2 * 16) * 3) + a3).toNatClampNeg)) dX5_lostByNeed_33 kd_196 h.2.1 rfl ?_
  refine ab_ladd dX5_lostByNeed_34 ?_
  refine ab_aloadn dX5_lostByNeed_35 rfl ?_
  refine ab_getf (v := .ref 196) dX5_lostByNeed_36 fl_X5_35 kd_191 ff_191_6 ?_
  refine ab_iload dX5_lostByNeed_39 rfl ?_
  refine ab_iloadn dX5_lostByNeed_41 rfl ?_
  refine ab_iadd dX5_lostByNeed_42 ?_
  refine ab_laload (v := (l 196 ((((a2 * 16) * 3) + (a1 * 3)) + a3).toNatClampNeg)) dX5_lostByNeed_43 kd_196 h.2.2.1 rfl ?_
  refine ab_lsub dX5_lostByNeed_44 ?_
  exact ab_lret dX5_lostByNeed_45 rfl ⟨Nat.zero_le _, Nat.zero_le _⟩ h.2.2.2
theorem tMX5_keepNeed_0 {d : Nat} {Q : ab_Qt} {sc : Nat × (Nat → Int32)} {i : Nat → Nat → Int32} {l : Nat → Nat → Int64} {dd : Nat → Nat → Value} {x : Nat} {a1 : Int32} {a2 : Int32} {a3 : Int32} {a4 : Int32} 
    (h : ab_Fr MX5_keepNeed (d + 1) Q 3 [some (.ref 191), some (.int a1), some (.int a2), some (.int a3), some (.int a4), some (.int 0)] [] (0, 0) (i, l, dd, x) (ab_E0 sc)) :
    ab_Fr MX5_keepNeed (d + 1) Q 0 [some (.ref 191), some (.int a1), some (.int a2), some (.int a3), some (.int a4), none] [] (0, 0) (i, l, dd, x) (ab_E0 sc) := by
  refine ab_iconst (v := 0) dX5_keepNeed_0 (by decide) ?_
  refine ab_istore dX5_keepNeed_1 (Nat.le_of_ble_eq_true rfl) (L2 := [some (.ref 191), some (.int a1), some (.int a2), some (.int a3), some (.int a4), some (.int 0)]) rfl ?_
  exact h
theorem tMX5_keepNeed_3 {d : Nat} {Q : ab_Qt} {sc : Nat × (Nat → Int32)} {i : Nat → Nat → Int32} {l : Nat → Nat → Int64} {dd : Nat → Nat → Value} {x : Nat} {a1 : Int32} {a2 : Int32} {a3 : Int32} {a4 : Int32} {a5 : Int32} 
    (h : ((5 ≤ a5 → (∀ i2, i2 = ab_u i 198 5 a2 → ∀ i4, i4 = ab_u i2 198 6 a3 → ∀ i6, i6 = ab_u i4 198 7 a4 → Q (some none) (i6, l, dd, x) (ab_E0 sc))) ∧ (¬ 5 ≤ a5 → ((a1 ≤ a5 → (vp_in a5 8 ∧ ∀ i9, i9 = ab_u i 198 a5.toNatClampNeg (-1) → ab_Fr MX5_keepNeed (d + 1) Q 3 [some (.ref 191), some (.int a1), some (.int a2), some (.int a3), some (.int a4), some (.int (a5 + 1))] [] (0, 0) (i9, l, dd, x) (ab_E0 sc))) ∧ (¬ a1 ≤ a5 → (vp_in a5 5 ∧ vp_in a5 8 ∧ ∀ i11, i11 = ab_u i 198 a5.toNatClampNeg (i 197 a5.toNatClampNeg) → ab_Fr MX5_keepNeed (d + 1) Q 3 [some (.ref 191), some (.int a1), some (.int a2), some (.int a3), some (.int a4), some (.int (a5 + 1))] [] (0, 0) (i11, l, dd, x) (ab_E0 sc))))))) :
    ab_Fr MX5_keepNeed (d + 1) Q 3 [some (.ref 191), some (.int a1), some (.int a2), some (.int a3), some (.int a4), some (.int a5)] [] (0, 0) (i, l, dd, x) (ab_E0 sc) := by
  refine ab_iload dX5_keepNeed_3 rfl ?_
  refine ab_iconst (v := 5) dX5_keepNeed_5 (by decide) ?_
  refine ab_icmp_ge (tgt := 39) dX5_keepNeed_6 (by decide) (fun c1 => ?_) (fun c1 => ?_)
  · refine ab_aloadn dX5_keepNeed_39 rfl ?_
    refine ab_getf (v := .ref 198) dX5_keepNeed_40 fl_X5_41 kd_191 ff_191_9 ?_
    refine ab_iconst (v := 5) dX5_keepNeed_43 (by decide) ?_
    refine ab_iloadn dX5_keepNeed_44 rfl ?_
    refine ab_iastore dX5_keepNeed_45 kd_198 (ab_vp (by decide)) ?_
    obtain ⟨i2, e3⟩ : ∃ z, z = ab_u i 198 5 a2 := ⟨_, rfl⟩
    show ab_Fr MX5_keepNeed (d + 1) Q 46 [some (.ref 191), some (.int a1), some (.int a2), some (.int a3), some (.int a4), some (.int a5)] [] (0, 0) (ab_u i 198 5 a2, l, dd, x) (ab_E0 sc)
    rw [show ab_u i 198 5 a2 = i2 from e3.symm]
    refine ab_aloadn dX5_keepNeed_46 rfl ?_
    refine ab_getf (v := .ref 198) dX5_keepNeed_47 fl_X5_41 kd_191 ff_191_9 ?_
    refine ab_bipush (v := 6) dX5_keepNeed_50 (by decide) ?_
    refine ab_iloadn dX5_keepNeed_52 rfl ?_
    refine ab_iastore dX5_keepNeed_53 kd_198 (ab_vp (by decide)) ?_
    obtain ⟨i4, e5⟩ : ∃ z, z = ab_u i2 198 6 a3 := ⟨_, rfl⟩
    show ab_Fr MX5_keepNeed (d + 1) Q 54 [some (.ref 191), some (.int a1), some (.int a2), some (.int a3), some (.int a4), some (.int a5)] [] (0, 0) (ab_u i2 198 6 a3, l, dd, x) (ab_E0 sc)
    rw [show ab_u i2 198 6 a3 = i4 from e5.symm]
    refine ab_aloadn dX5_keepNeed_54 rfl ?_
    refine ab_getf (v := .ref 198) dX5_keepNeed_55 fl_X5_41 kd_191 ff_191_9 ?_
    refine ab_bipush (v := 7) dX5_keepNeed_58 (by decide) ?_
    refine ab_iload dX5_keepNeed_60 rfl ?_
    refine ab_iastore dX5_keepNeed_62 kd_198 (ab_vp (by decide)) ?_
    obtain ⟨i6, e7⟩ : ∃ z, z = ab_u i4 198 7 a4 := ⟨_, rfl⟩
    show ab_Fr MX5_keepNeed (d + 1) Q 63 [some (.ref 191), some (.int a1), some (.int a2), some (.int a3), some (.int a4), some (.int a5)] [] (0, 0) (ab_u i4 198 7 a4, l, dd, x) (ab_E0 sc)
    rw [show ab_u i4 198 7 a4 = i6 from e7.symm]
    exact ab_vret dX5_keepNeed_63 rfl ⟨Nat.zero_le _, Nat.zero_le _⟩ ((((h.1 c1) i2 e3) i4 e5) i6 e7)
  · refine ab_aloadn dX5_keepNeed_9 rfl ?_
    refine ab_getf (v := .ref 198) dX5_keepNeed_10 fl_X5_41 kd_191 ff_191_9 ?_
    refine ab_iload dX5_keepNeed_13 rfl ?_
    refine ab_iload dX5_keepNeed_15 rfl ?_
    refine ab_iloadn dX5_keepNeed_17 rfl ?_
    refine ab_icmp_ge (tgt := 31) dX5_keepNeed_18 (by decide) (fun c8 => ?_) (fun c8 => ?_)
    · refine ab_iconst (v := (-1)) dX5_keepNeed_31 (by decide) ?_
      refine ab_iastore dX5_keepNeed_32 kd_198 ((h.2 c1).1 c8).1 ?_
      obtain ⟨i9, e10⟩ : ∃ z, z = ab_u i 198 a5.toNatClampNeg (-1) := ⟨_, rfl⟩
      rw [show ab_u i 198 a5.toNatClampNeg (-1) = i9 from e10.symm]
      refine ab_iinc (v := (a5 + 1)) dX5_keepNeed_33 rfl (by rfl) (Nat.le_of_ble_eq_true rfl) (L2 := [some (.ref 191), some (.int a1), some (.int a2), some (.int a3), some (.int a4), some (.int (a5 + 1))]) rfl ?_
      refine ab_goto (tgt := 3) dX5_keepNeed_36 (by decide) ?_
      exact (((h.2 c1).1 c8).2 i9 e10)
    · refine ab_aloadn dX5_keepNeed_21 rfl ?_
      refine ab_getf (v := .ref 197) dX5_keepNeed_22 fl_X5_38 kd_191 ff_191_7 ?_
      refine ab_iload dX5_keepNeed_25 rfl ?_
      refine ab_iaload (v := (i 197 a5.toNatClampNeg)) dX5_keepNeed_27 kd_197 ((h.2 c1).2 c8).1 rfl ?_
      refine ab_goto (tgt := 32) dX5_keepNeed_28 (by decide) ?_
      refine ab_iastore dX5_keepNeed_32 kd_198 ((h.2 c1).2 c8).2.1 ?_
      obtain ⟨i11, e12⟩ : ∃ z, z = ab_u i 198 a5.toNatClampNeg (i 197 a5.toNatClampNeg) := ⟨_, rfl⟩
      rw [show ab_u i 198 a5.toNatClampNeg (i 197 a5.toNatClampNeg) = i11 from e12.symm]
      refine ab_iinc (v := (a5 + 1)) dX5_keepNeed_33 rfl (by rfl) (Nat.le_of_ble_eq_true rfl) (L2 := [some (.ref 191), some (.int a1), some (.int a2), some (.int a3), some (.int a4), some (.int (a5 + 1))]) rfl ?_
      refine ab_goto (tgt := 3) dX5_keepNeed_36 (by decide) ?_
      exact (((h.2 c1).2 c8).2.2 i11 e12)
