theorem tMX2_read_0 {d : Nat} {Q : ab_Qt} {sc : Nat × (Nat → Int32)} {i : Nat → Nat → Int32} {l : Nat → Nat → Int64} {dd : Nat → Nat → Value} {x : Nat} {a1 : Nat} (k_a1 : ab_isM a1)
    (h : (∀ dd1, dd1 = ab_u dd 157 2 (.ref a1) → ∃ m3, dd1 157 2 = .ref m3 ∧ ab_isM m3 ∧ ∃ (P6 : ab_S → Prop), ab_Sp MX1_begin d [.ref m3] (i, l, dd1, x) (ab_E0 sc) (none) P6 ∧ ∀ i9 l10 dd11 x12, P6 (i9, l10, dd11, x12) → ∀ i14, i14 = ab_u i9 157 3 0 → ∀ i16, i16 = ab_u i14 157 5 0 → ∀ i18, i18 = ab_u i16 157 0 0 → ∃ (P21 : ab_S → Prop), ab_Sp MX2_next d [.ref 157] (i18, l10, dd11, x12) (ab_E0 sc) (none) P21 ∧ ∀ i24 l25 dd26 x27, P21 (i24, l25, dd26, x27) → ab_Fr MX2_read (d + 1) Q 33 [some (.ref 157), none, some (.int 0)] [] (0, 0) (i24, l25, dd26, x27) (ab_E0 sc))) :
    ab_Fr MX2_read (d + 1) Q 0 [some (.ref 157), some (.ref a1), none] [] (0, 0) (i, l, dd, x) (ab_E0 sc) := by
  refine ab_aloadn dX2_read_0 rfl ?_
  refine ab_aloadn dX2_read_1 rfl ?_
  refine ab_putR dX2_read_2 fl_X2_15 kd_157 rfl ?_
  obtain ⟨dd1, e2⟩ : ∃ z, z = ab_u dd 157 2 (.ref a1) := ⟨_, rfl⟩
  show ab_Fr MX2_read (d + 1) Q 5 [some (.ref 157), some (.ref a1), none] [] (0, 0) (i, l, ab_u dd 157 2 (.ref a1), x) (ab_E0 sc)
  rw [show ab_u dd 157 2 (.ref a1) = dd1 from e2.symm]
  refine ab_aloadn dX2_read_5 rfl ?_
  obtain ⟨m3, hm4d, hm4, hm4t⟩ := (h dd1 e2)
  refine ab_getf (v := .ref m3) dX2_read_6 fl_X2_15 kd_157 hm4d ?_
  obtain ⟨P6, hs7, hk8⟩ := hm4t
  refine ab_callV (vs := []) (st := []) dX2_read_9 okMX1_begin wd_552 (kM hm4) rfl rfl rfl (Nat.le_of_ble_eq_true rfl) ⟨Nat.le_of_ble_eq_true rfl, Nat.le_of_ble_eq_true rfl⟩ hs7 ?_
  rintro v9 ⟨i9, l10, dd11, x12⟩ E9 - ⟨rfl, rfl, hp13⟩
  show ab_Fr MX2_read (d + 1) Q 12 [some (.ref 157), some (.ref a1), none] [] (0, 0) (i9, l10, dd11, x12) (ab_E0 sc)
  refine ab_aloadn dX2_read_12 rfl ?_
  refine ab_iconst (v := 0) dX2_read_13 (by decide) ?_
  refine ab_putZ dX2_read_14 fl_X2_31 kd_157 rfl (by decide) ?_
  obtain ⟨i14, e15⟩ : ∃ z, z = ab_u i9 157 3 0 := ⟨_, rfl⟩
  show ab_Fr MX2_read (d + 1) Q 17 [some (.ref 157), some (.ref a1), none] [] (0, 0) (ab_u i9 157 3 0, l10, dd11, x12) (ab_E0 sc)
  rw [show ab_u i9 157 3 0 = i14 from e15.symm]
  refine ab_aloadn dX2_read_17 rfl ?_
  refine ab_iconst (v := 0) dX2_read_18 (by decide) ?_
  refine ab_putI dX2_read_19 fl_X2_35 kd_157 rfl ?_
  obtain ⟨i16, e17⟩ : ∃ z, z = ab_u i14 157 5 0 := ⟨_, rfl⟩
  show ab_Fr MX2_read (d + 1) Q 22 [some (.ref 157), some (.ref a1), none] [] (0, 0) (ab_u i14 157 5 0, l10, dd11, x12) (ab_E0 sc)
  rw [show ab_u i14 157 5 0 = i16 from e17.symm]
  refine ab_aloadn dX2_read_22 rfl ?_
  refine ab_iconst (v := 0) dX2_read_23 (by decide) ?_
  refine ab_putI dX2_read_24 fl_X2_39 kd_157 rfl ?_
  obtain ⟨i18, e19⟩ : ∃ z, z = ab_u i16 157 0 0 := ⟨_, rfl⟩
  show ab_Fr MX2_read (d + 1) Q 27 [some (.ref 157), some (.ref a1), none] [] (0, 0) (ab_u i16 157 0 0, l10, dd11, x12) (ab_E0 sc)
  rw [show ab_u i16 157 0 0 = i18 from e19.symm]
  refine ab_iconst (v := 0) dX2_read_27 (by decide) ?_
  refine ab_istoren dX2_read_28 (Nat.le_of_ble_eq_true rfl) (L2 := [some (.ref 157), some (.ref a1), some (.int 0)]) rfl ?_
  refine ab_aloadn dX2_read_29 rfl ?_
  obtain ⟨P21, hs22, hk23⟩ := ((((hk8 i9 l10 dd11 x12 hp13) i14 e15) i16 e17) i18 e19)
  refine ab_callV (vs := []) (st := []) dX2_read_30 okMX2_next wd_560 kd_157 rfl rfl rfl (Nat.le_of_ble_eq_true rfl) ⟨Nat.le_of_ble_eq_true rfl, Nat.le_of_ble_eq_true rfl⟩ hs22 ?_
  rintro v9 ⟨i24, l25, dd26, x27⟩ E9 - ⟨rfl, rfl, hp28⟩
  show ab_Fr MX2_read (d + 1) Q 33 [some (.ref 157), some (.ref a1), some (.int 0)] [] (0, 0) (i24, l25, dd26, x27) (ab_E0 sc)
  refine ab_forget (i := 1) (L2 := [some (.ref 157), none, some (.int 0)]) rfl ?_
  exact (hk23 i24 l25 dd26 x27 hp28)
theorem tMX2_read_33 {d : Nat} {Q : ab_Qt} {sc : Nat × (Nat → Int32)} {i : Nat → Nat → Int32} {l : Nat → Nat → Int64} {dd : Nat → Nat → Value} {x : Nat} {a2 : Int32} 
    (h : ((700 < a2 → ab_Fr MX2_read (d + 1) Q 65 [some (.ref 157), none, some (.int a2)] [] (0, 0) (i, l, dd, x) (ab_E0 sc)) ∧ (¬ 700 < a2 → (((i 157 6) = 3 → ab_Fr MX2_read (d + 1) Q 65 [some (.ref 157), none, some (.int a2)] [] (0, 0) (i, l, dd, x) (ab_E0 sc)) ∧ (¬ (i 157 6) = 3 → (∃ (r3 : Int32) (P4 : ab_S → Prop), ab_Sp MX2_readLine d [.ref 157] (i, l, dd, x) (ab_E0 sc) (some (.int r3)) P4 ∧ ∀ i7 l8 dd9 x10, P4 (i7, l8, dd9, x10) → ((r3 = 0 → ab_Fr MX2_read (d + 1) Q 65 [some (.ref 157), none, some (.int a2)] [] (0, 0) (i7, l8, dd9, x10) (ab_E0 sc)) ∧ (¬ r3 = 0 → (∃ (P14 : ab_S → Prop), ab_Sp MX2_next d [.ref 157] (i7, l8, dd9, x10) (ab_E0 sc) (none) P14 ∧ ∀ i17 l18 dd19 x20, P14 (i17, l18, dd19, x20) → ab_Fr MX2_read (d + 1) Q 33 [some (.ref 157), none, some (.int (a2 + 1))] [] (0, 0) (i17, l18, dd19, x20) (ab_E0 sc)))))))))) :
    ab_Fr MX2_read (d + 1) Q 33 [some (.ref 157), none, some (.int a2)] [] (0, 0) (i, l, dd, x) (ab_E0 sc) := by
  refine ab_iloadn dX2_read_33 rfl ?_
  refine ab_sipush (v := 700) dX2_read_34 (by decide) ?_
  refine ab_icmp_gt (tgt := 65) dX2_read_37 (by decide) (fun c1 => ?_) (fun c1 => ?_)
  · exact (h.1 c1)
  · refine ab_aloadn dX2_read_40 rfl ?_
    refine ab_getf (v := .int (i 157 6)) dX2_read_41 fl_X2_45 kd_157 rfl ?_
    refine ab_iconst (v := 3) dX2_read_44 (by decide) ?_
    refine ab_icmp_eq (tgt := 65) dX2_read_45 (by decide) (fun c2 => ?_) (fun c2 => ?_)
    · exact ((h.2 c1).1 c2)
    · refine ab_aloadn dX2_read_48 rfl ?_
      obtain ⟨r3, P4, hs5, hk6⟩ := ((h.2 c1).2 c2)
      refine ab_callV (vs := []) (st := []) dX2_read_49 okMX2_readLine wd_573 kd_157 rfl rfl rfl (Nat.le_of_ble_eq_true rfl) ⟨Nat.le_of_ble_eq_true rfl, Nat.le_of_ble_eq_true rfl⟩ hs5 ?_
      rintro v9 ⟨i7, l8, dd9, x10⟩ E9 - ⟨rfl, rfl, hp11⟩
      show ab_Fr MX2_read (d + 1) Q 52 [some (.ref 157), none, some (.int a2)] [.int r3] (0, 0) (i7, l8, dd9, x10) (ab_E0 sc)
      refine ab_if_eq (tgt := 65) dX2_read_52 (by decide) (fun c12 => ?_) (fun c12 => ?_)
      · exact ((hk6 i7 l8 dd9 x10 hp11).1 c12)
      · refine ab_iinc (v := (a2 + 1)) dX2_read_55 rfl (by rfl) (Nat.le_of_ble_eq_true rfl) (L2 := [some (.ref 157), none, some (.int (a2 + 1))]) rfl ?_
        refine ab_aloadn dX2_read_58 rfl ?_
        obtain ⟨P14, hs15, hk16⟩ := ((hk6 i7 l8 dd9 x10 hp11).2 c12)
        refine ab_callV (vs := []) (st := []) dX2_read_59 okMX2_next wd_560 kd_157 rfl rfl rfl (Nat.le_of_ble_eq_true rfl) ⟨Nat.le_of_ble_eq_true rfl, Nat.le_of_ble_eq_true rfl⟩ hs15 ?_
        rintro v9 ⟨i17, l18, dd19, x20⟩ E9 - ⟨rfl, rfl, hp21⟩
        show ab_Fr MX2_read (d + 1) Q 62 [some (.ref 157), none, some (.int (a2 + 1))] [] (0, 0) (i17, l18, dd19, x20) (ab_E0 sc)
        refine ab_goto (tgt := 33) dX2_read_62 (by decide) ?_
        exact (hk16 i17 l18 dd19 x20 hp21)
theorem tMX2_read_65 {d : Nat} {Q : ab_Qt} {sc : Nat × (Nat → Int32)} {i : Nat → Nat → Int32} {l : Nat → Nat → Int64} {dd : Nat → Nat → Value} {x : Nat} {a2 : Int32} 
    (h : ((¬ (i 157 0) = 0 → ab_Fr MX2_read (d + 1) Q 101 [some (.ref 157), none, some (.int a2)] [] (0, 0) (i, l, dd, x) (ab_E0 sc)) ∧ ((i 157 0) = 0 → (∃ m2, dd 157 2 = .ref m2 ∧ ab_isM m2 ∧ ∃ (r4 : Int32) (P5 : ab_S → Prop), ab_Sp MX1_isEmpty d [.ref m2] (i, l, dd, x) (ab_E0 sc) (some (.int r4)) P5 ∧ ∀ i8 l9 dd10 x11, P5 (i8, l9, dd10, x11) → ((¬ r4 = 0 → ab_Fr MX2_read (d + 1) Q 95 [some (.ref 157), none, some (.int a2)] [] (0, 0) (i8, l9, dd10, x11) (ab_E0 sc)) ∧ (r4 = 0 → (((i8 4 1) ≤ 700 → ab_Fr MX2_read (d + 1) Q 101 [some (.ref 157), none, some (.int a2)] [] (0, 0) (i8, l9, dd10, x11) (ab_E0 sc)) ∧ (¬ (i8 4 1) ≤ 700 → ab_Fr MX2_read (d + 1) Q 95 [some (.ref 157), none, some (.int a2)] [] (0, 0) (i8, l9, dd10, x11) (ab_E0 sc))))))))) :
    ab_Fr MX2_read (d + 1) Q 65 [some (.ref 157), none, some (.int a2)] [] (0, 0) (i, l, dd, x) (ab_E0 sc) := by
  refine ab_aloadn dX2_read_65 rfl ?_
  refine ab_getf (v := .int (i 157 0)) dX2_read_66 fl_X2_39 kd_157 rfl ?_
  refine ab_if_ne (tgt := 101) dX2_read_69 (by decide) (fun c1 => ?_) (fun c1 => ?_)
  · exact (h.1 c1)
  · refine ab_aloadn dX2_read_72 rfl ?_
    obtain ⟨m2, hm3d, hm3, hm3t⟩ := (h.2 c1)
    refine ab_getf (v := .ref m2) dX2_read_73 fl_X2_15 kd_157 hm3d ?_
    obtain ⟨r4, P5, hs6, hk7⟩ := hm3t
    refine ab_callV (vs := []) (st := []) dX2_read_76 okMX1_isEmpty wd_625 (kM hm3) rfl rfl rfl (Nat.le_of_ble_eq_true rfl) ⟨Nat.le_of_ble_eq_true rfl, Nat.le_of_ble_eq_true rfl⟩ hs6 ?_
    rintro v9 ⟨i8, l9, dd10, x11⟩ E9 - ⟨rfl, rfl, hp12⟩
    show ab_Fr MX2_read (d + 1) Q 79 [some (.ref 157), none, some (.int a2)] [.int r4] (0, 0) (i8, l9, dd10, x11) (ab_E0 sc)
    refine ab_if_ne (tgt := 95) dX2_read_79 (by decide) (fun c13 => ?_) (fun c13 => ?_)
    · exact ((hk7 i8 l9 dd10 x11 hp12).1 c13)
    · refine ab_aloadn dX2_read_82 rfl ?_
      refine ab_getf (v := .ref 4) dX2_read_83 fl_X2_9 kd_157 ff_157_1 ?_
      refine ab_getf (v := .int (i8 4 1)) dX2_read_86 fl_X2_55 kd_4 rfl ?_
      refine ab_sipush (v := 700) dX2_read_89 (by decide) ?_
      refine ab_icmp_le (tgt := 101) dX2_read_92 (by decide) (fun c14 => ?_) (fun c14 => ?_)
      · exact (((hk7 i8 l9 dd10 x11 hp12).2 c13).1 c14)
      · exact (((hk7 i8 l9 dd10 x11 hp12).2 c13).2 c14)
theorem tMX2_read_95 {d : Nat} {Q : ab_Qt} {sc : Nat × (Nat → Int32)} {i : Nat → Nat → Int32} {l : Nat → Nat → Int64} {dd : Nat → Nat → Value} {x : Nat} {a2 : Int32} 
    (h : (∃ (r1 : Int32) (P2 : ab_S → Prop), ab_Sp MX2_fail d [.ref 157, .int 1] (i, l, dd, x) (ab_E0 sc) (some (.int r1)) P2 ∧ ∀ i5 l6 dd7 x8, P2 (i5, l6, dd7, x8) → ab_Fr MX2_read (d + 1) Q 101 [some (.ref 157), none, some (.int a2)] [] (0, 0) (i5, l6, dd7, x8) (ab_E0 sc))) :
    ab_Fr MX2_read (d + 1) Q 95 [some (.ref 157), none, some (.int a2)] [] (0, 0) (i, l, dd, x) (ab_E0 sc) := by
  refine ab_aloadn dX2_read_95 rfl ?_
  refine ab_iconst (v := 1) dX2_read_96 (by decide) ?_
  obtain ⟨r1, P2, hs3, hk4⟩ := h
  refine ab_callV (vs := [.int 1]) (st := []) dX2_read_97 okMX2_fail wd_576 kd_157 rfl rfl rfl (Nat.le_of_ble_eq_true rfl) ⟨Nat.le_of_ble_eq_true rfl, Nat.le_of_ble_eq_true rfl⟩ hs3 ?_
  rintro v9 ⟨i5, l6, dd7, x8⟩ E9 - ⟨rfl, rfl, hp9⟩
  show ab_Fr MX2_read (d + 1) Q 100 [some (.ref 157), none, some (.int a2)] [.int r1] (0, 0) (i5, l6, dd7, x8) (ab_E0 sc)
  refine ab_pop dX2_read_100 rfl ?_
  exact (hk4 i5 l6 dd7 x8 hp9)
theorem tMX2_read_101 {d : Nat} {Q : ab_Qt} {sc : Nat × (Nat → Int32)} {i : Nat → Nat → Int32} {l : Nat → Nat → Int64} {dd : Nat → Nat → Value} {x : Nat} {a2 : Int32} 
    (h : ((¬ (i 157 0) = 0 → Q (some (some (.int ((-1) - (i 157 4))))) (i, l, dd, x) (ab_E0 sc)) ∧ ((i 157 0) = 0 → Q (some (some (.int a2))) (i, l, dd, x) (ab_E0 sc)))) :
    ab_Fr MX2_read (d + 1) Q 101 [some (.ref 157), none, some (.int a2)] [] (0, 0) (i, l, dd, x) (ab_E0 sc) := by
  refine ab_aloadn dX2_read_101 rfl ?_
  refine ab_getf (v := .int (i 157 0)) dX2_read_102 fl_X2_39 kd_157 rfl ?_
  refine ab_if_ne (tgt := 112) dX2_read_105 (by decide) (fun c1 => ?_) (fun c1 => ?_)
  · refine ab_iconst (v := (-1)) dX2_read_112 (by decide) ?_
    refine ab_aloadn dX2_read_113 rfl ?_
    refine ab_getf (v := .int (i 157 4)) dX2_read_114 fl_X2_64 kd_157 rfl ?_
    refine ab_isub dX2_read_117 ?_
    exact ab_iret dX2_read_118 rfl ⟨Nat.zero_le _, Nat.zero_le _⟩ (h.1 c1)
  · refine ab_iloadn dX2_read_108 rfl ?_
    refine ab_goto (tgt := 118) dX2_read_109 (by decide) ?_
    exact ab_iret dX2_read_118 rfl ⟨Nat.zero_le _, Nat.zero_le _⟩ (h.2 c1)
theorem tMX2_next_0 {d : Nat} {Q : ab_Qt} {sc : Nat × (Nat → Int32)} {i : Nat → Nat → Int32} {l : Nat → Nat → Int64} {dd : Nat → Nat → Value} {x : Nat}  
    (h : ab_Fr MX2_next (d + 1) Q 5 [some (.ref 157), some (.int (i 157 5))] [] (0, 0) (i, l, dd, x) (ab_E0 sc)) :
    ab_Fr MX2_next (d + 1) Q 0 [some (.ref 157), none] [] (0, 0) (i, l, dd, x) (ab_E0 sc) := by
  refine ab_aloadn dX2_next_0 rfl ?_
  refine ab_getf (v := .int (i 157 5)) dX2_next_1 fl_X2_35 kd_157 rfl ?_
  refine ab_istoren dX2_next_4 (Nat.le_of_ble_eq_true rfl) (L2 := [some (.ref 157), some (.int (i 157 5))]) rfl ?_
  exact h
theorem tMX2_next_5 {d : Nat} {Q : ab_Qt} {sc : Nat × (Nat → Int32)} {i : Nat → Nat → Int32} {l : Nat → Nat → Int64} {dd : Nat → Nat → Value} {x : Nat} {a1 : Int32} 
    (h : (((i 4 1) ≤ a1 → ab_Fr MX2_next (d + 1) Q 37 [some (.ref 157), some (.int a1)] [] (0, 0) (i, l, dd, x) (ab_E0 sc)) ∧ (¬ (i 4 1) ≤ a1 → (vp_in a1 740 ∧ ∃ (r2 : Int32) (P3 : ab_S → Prop), ab_Sp MX2_isBlank d [.int (i 5 a1.toNatClampNeg)] (i, l, dd, x) (ab_E0 sc) (some (.int r2)) P3 ∧ ∀ i6 l7 dd8 x9, P3 (i6, l7, dd8, x9) → ((r2 = 0 → ab_Fr MX2_next (d + 1) Q 37 [some (.ref 157), some (.int a1)] [] (0, 0) (i6, l7, dd8, x9) (ab_E0 sc)) ∧ (¬ r2 = 0 → ab_Fr MX2_next (d + 1) Q 5 [some (.ref 157), some (.int (a1 + 1))] [] (0, 0) (i6, l7, dd8, x9) (ab_E0 sc))))))) :
    ab_Fr MX2_next (d + 1) Q 5 [some (.ref 157), some (.int a1)] [] (0, 0) (i, l, dd, x) (ab_E0 sc) := by
  refine ab_iloadn dX2_next_5 rfl ?_
  refine ab_aloadn dX2_next_6 rfl ?_
  refine ab_getf (v := .ref 4) dX2_next_7 fl_X2_9 kd_157 ff_157_1 ?_
  refine ab_getf (v := .int (i 4 1)) dX2_next_10 fl_X2_55 kd_4 rfl ?_
  refine ab_icmp_ge (tgt := 37) dX2_next_13 (by decide) (fun c1 => ?_) (fun c1 => ?_)
  · exact (h.1 c1)
  · refine ab_aloadn dX2_next_16 rfl ?_
    refine ab_getf (v := .ref 4) dX2_next_17 fl_X2_9 kd_157 ff_157_1 ?_
    refine ab_getf (v := .ref 5) dX2_next_20 fl_X2_67 kd_4 ff_4_0 ?_
    refine ab_iloadn dX2_next_23 rfl ?_
    refine ab_iaload (v := (i 5 a1.toNatClampNeg)) dX2_next_24 kd_5 (h.2 c1).1 rfl ?_
    obtain ⟨r2, P3, hs4, hk5⟩ := (h.2 c1).2
    refine ab_callS (vs := [.int (i 5 a1.toNatClampNeg)]) (st := []) dX2_next_25 okMX2_isBlank wd_563 rfl rfl (Nat.le_of_ble_eq_true rfl) ⟨Nat.le_of_ble_eq_true rfl, Nat.le_of_ble_eq_true rfl⟩ hs4 ?_
    rintro v9 ⟨i6, l7, dd8, x9⟩ E9 - ⟨rfl, rfl, hp10⟩
    show ab_Fr MX2_next (d + 1) Q 28 [some (.ref 157), some (.int a1)] [.int r2] (0, 0) (i6, l7, dd8, x9) (ab_E0 sc)
    refine ab_if_eq (tgt := 37) dX2_next_28 (by decide) (fun c11 => ?_) (fun c11 => ?_)
    · exact ((hk5 i6 l7 dd8 x9 hp10).1 c11)
    · refine ab_iinc (v := (a1 + 1)) dX2_next_31 rfl (by rfl) (Nat.le_of_ble_eq_true rfl) (L2 := [some (.ref 157), some (.int (a1 + 1))]) rfl ?_
      refine ab_goto (tgt := 5) dX2_next_34 (by decide) ?_
      exact ((hk5 i6 l7 dd8 x9 hp10).2 c11)
theorem tMX2_next_37 {d : Nat} {Q : ab_Qt} {sc : Nat × (Nat → Int32)} {i : Nat → Nat → Int32} {l : Nat → Nat → Int64} {dd : Nat → Nat → Value} {x : Nat} {a1 : Int32} 
    (h : (∀ i1, i1 = ab_u i 157 8 (-1) → (((i1 4 1) ≤ a1 → ab_Fr MX2_next (d + 1) Q 60 [some (.ref 157), some (.int a1)] [] (0, 0) (i1, l, dd, x) (ab_E0 sc)) ∧ (¬ (i1 4 1) ≤ a1 → ((a1 < 700 → (vp_in a1 740 ∧ ((¬ (i1 5 a1.toNatClampNeg) = 59 → (∀ i6, i6 = ab_u i1 157 4 a1 → ∃ (P9 : ab_S → Prop), ab_Sp MX2_nextRun d [.ref 157] (i6, l, dd, x) (ab_E0 sc) (none) P9 ∧ ∀ i12 l13 dd14 x15, P9 (i12, l13, dd14, x15) → Q (some none) (i12, l13, dd14, x15) (ab_E0 sc))) ∧ ((i1 5 a1.toNatClampNeg) = 59 → (∀ i17, i17 = ab_u i1 157 6 2 → ∀ i19, i19 = ab_u i17 157 4 a1 → ∀ i21, i21 = ab_u i19 157 5 (a1 + 1) → Q (some none) (i21, l, dd, x) (ab_E0 sc)))))) ∧ (¬ a1 < 700 → ab_Fr MX2_next (d + 1) Q 60 [some (.ref 157), some (.int a1)] [] (0, 0) (i1, l, dd, x) (ab_E0 sc))))))) :
    ab_Fr MX2_next (d + 1) Q 37 [some (.ref 157), some (.int a1)] [] (0, 0) (i, l, dd, x) (ab_E0 sc) := by
  refine ab_aloadn dX2_next_37 rfl ?_
  refine ab_iconst (v := (-1)) dX2_next_38 (by decide) ?_
  refine ab_putI dX2_next_39 fl_X2_74 kd_157 rfl ?_
  obtain ⟨i1, e2⟩ : ∃ z, z = ab_u i 157 8 (-1) := ⟨_, rfl⟩
  show ab_Fr MX2_next (d + 1) Q 42 [some (.ref 157), some (.int a1)] [] (0, 0) (ab_u i 157 8 (-1), l, dd, x) (ab_E0 sc)
  rw [show ab_u i 157 8 (-1) = i1 from e2.symm]
  refine ab_iloadn dX2_next_42 rfl ?_
  refine ab_aloadn dX2_next_43 rfl ?_
  refine ab_getf (v := .ref 4) dX2_next_44 fl_X2_9 kd_157 ff_157_1 ?_
  refine ab_getf (v := .int (i1 4 1)) dX2_next_47 fl_X2_55 kd_4 rfl ?_
  refine ab_icmp_ge (tgt := 60) dX2_next_50 (by decide) (fun c3 => ?_) (fun c3 => ?_)
  · exact ((h i1 e2).1 c3)
  · refine ab_iloadn dX2_next_53 rfl ?_
    refine ab_sipush (v := 700) dX2_next_54 (by decide) ?_
    refine ab_icmp_lt (tgt := 90) dX2_next_57 (by decide) (fun c4 => ?_) (fun c4 => ?_)
    · refine ab_aloadn dX2_next_90 rfl ?_
      refine ab_getf (v := .ref 4) dX2_next_91 fl_X2_9 kd_157 ff_157_1 ?_
      refine ab_getf (v := .ref 5) dX2_next_94 fl_X2_67 kd_4 ff_4_0 ?_
      refine ab_iloadn dX2_next_97 rfl ?_
      refine ab_iaload (v := (i1 5 a1.toNatClampNeg)) dX2_next_98 kd_5 (((h i1 e2).2 c3).1 c4).1 rfl ?_
      refine ab_bipush (v := 59) dX2_next_99 (by decide) ?_
      refine ab_icmp_ne (tgt := 124) dX2_next_101 (by decide) (fun c5 => ?_) (fun c5 => ?_)
      · refine ab_aloadn dX2_next_124 rfl ?_
        refine ab_iloadn dX2_next_125 rfl ?_
        refine ab_putI dX2_next_126 fl_X2_64 kd_157 rfl ?_
        obtain ⟨i6, e7⟩ : ∃ z, z = ab_u i1 157 4 a1 := ⟨_, rfl⟩
        show ab_Fr MX2_next (d + 1) Q 129 [some (.ref 157), some (.int a1)] [] (0, 0) (ab_u i1 157 4 a1, l, dd, x) (ab_E0 sc)
        rw [show ab_u i1 157 4 a1 = i6 from e7.symm]
        refine ab_aloadn dX2_next_129 rfl ?_
        obtain ⟨P9, hs10, hk11⟩ := (((((h i1 e2).2 c3).1 c4).2.1 c5) i6 e7)
        refine ab_callV (vs := []) (st := []) dX2_next_130 okMX2_nextRun wd_569 kd_157 rfl rfl rfl (Nat.le_of_ble_eq_true rfl) ⟨Nat.le_of_ble_eq_true rfl, Nat.le_of_ble_eq_true rfl⟩ hs10 ?_
        rintro v9 ⟨i12, l13, dd14, x15⟩ E9 - ⟨rfl, rfl, hp16⟩
        show ab_Fr MX2_next (d + 1) Q 133 [some (.ref 157), some (.int a1)] [] (0, 0) (i12, l13, dd14, x15) (ab_E0 sc)
        exact ab_vret dX2_next_133 rfl ⟨Nat.zero_le _, Nat.zero_le _⟩ (hk11 i12 l13 dd14 x15 hp16)
      · refine ab_aloadn dX2_next_104 rfl ?_
        refine ab_iconst (v := 2) dX2_next_105 (by decide) ?_
        refine ab_putI dX2_next_106 fl_X2_45 kd_157 rfl ?_
        obtain ⟨i17, e18⟩ : ∃ z, z = ab_u i1 157 6 2 := ⟨_, rfl⟩
        show ab_Fr MX2_next (d + 1) Q 109 [some (.ref 157), some (.int a1)] [] (0, 0) (ab_u i1 157 6 2, l, dd, x) (ab_E0 sc)
        rw [show ab_u i1 157 6 2 = i17 from e18.symm]
        refine ab_aloadn dX2_next_109 rfl ?_
        refine ab_iloadn dX2_next_110 rfl ?_
        refine ab_putI dX2_next_111 fl_X2_64 kd_157 rfl ?_
        obtain ⟨i19, e20⟩ : ∃ z, z = ab_u i17 157 4 a1 := ⟨_, rfl⟩
        show ab_Fr MX2_next (d + 1) Q 114 [some (.ref 157), some (.int a1)] [] (0, 0) (ab_u i17 157 4 a1, l, dd, x) (ab_E0 sc)
        rw [show ab_u i17 157 4 a1 = i19 from e20.symm]
        refine ab_aloadn dX2_next_114 rfl ?_
        refine ab_iloadn dX2_next_115 rfl ?_
        refine ab_iconst (v := 1) dX2_next_116 (by decide) ?_
        refine ab_iadd dX2_next_117 ?_
        refine ab_putI dX2_next_118 fl_X2_35 kd_157 rfl ?_
        obtain ⟨i21, e22⟩ : ∃ z, z = ab_u i19 157 5 (a1 + 1) := ⟨_, rfl⟩
        show ab_Fr MX2_next (d + 1) Q 121 [some (.ref 157), some (.int a1)] [] (0, 0) (ab_u i19 157 5 (a1 + 1), l, dd, x) (ab_E0 sc)
        rw [show ab_u i19 157 5 (a1 + 1) = i21 from e22.symm]
        refine ab_goto (tgt := 133) dX2_next_121 (by decide) ?_
        exact ab_vret dX2_next_133 rfl ⟨Nat.zero_le _, Nat.zero_le _⟩ (((((((h i1 e2).2 c3).1 c4).2.2 c5) i17 e18) i19 e20) i21 e22)
    · exact (((h i1 e2).2 c3).2 c4)
theorem tMX2_next_60 {d : Nat} {Q : ab_Qt} {sc : Nat × (Nat → Int32)} {i : Nat → Nat → Int32} {l : Nat → Nat → Int64} {dd : Nat → Nat → Value} {x : Nat} {a1 : Int32} 
    (h : (∀ i1, i1 = ab_u i 157 6 3 → ∀ i3, i3 = ab_u i1 157 4 (if 700 < (i1 4 1) then 700 else (i1 4 1)) → ∀ i5, i5 = ab_u i3 157 5 a1 → Q (some none) (i5, l, dd, x) (ab_E0 sc))) :
    ab_Fr MX2_next (d + 1) Q 60 [some (.ref 157), some (.int a1)] [] (0, 0) (i, l, dd, x) (ab_E0 sc) := by
  refine ab_aloadn dX2_next_60 rfl ?_
  refine ab_iconst (v := 3) dX2_next_61 (by decide) ?_
  refine ab_putI dX2_next_62 fl_X2_45 kd_157 rfl ?_
  obtain ⟨i1, e2⟩ : ∃ z, z = ab_u i 157 6 3 := ⟨_, rfl⟩
  show ab_Fr MX2_next (d + 1) Q 65 [some (.ref 157), some (.int a1)] [] (0, 0) (ab_u i 157 6 3, l, dd, x) (ab_E0 sc)
  rw [show ab_u i 157 6 3 = i1 from e2.symm]
  refine ab_aloadn dX2_next_65 rfl ?_
  refine ab_aloadn dX2_next_66 rfl ?_
  refine ab_getf (v := .ref 4) dX2_next_67 fl_X2_9 kd_157 ff_157_1 ?_
  refine ab_getf (v := .int (i1 4 1)) dX2_next_70 fl_X2_55 kd_4 rfl ?_
  refine ab_sipush (v := 700) dX2_next_73 (by decide) ?_
  refine ab_min (v := (if 700 < (i1 4 1) then 700 else (i1 4 1))) dX2_next_76 wd_566 ⟨wd_567, wd_151, wd_568⟩ (Nat.le_of_ble_eq_true rfl) ⟨Nat.zero_le _, Nat.zero_le _⟩ rfl ?_
  refine ab_putI dX2_next_79 fl_X2_64 kd_157 rfl ?_
  obtain ⟨i3, e4⟩ : ∃ z, z = ab_u i1 157 4 (if 700 < (i1 4 1) then 700 else (i1 4 1)) := ⟨_, rfl⟩
  show ab_Fr MX2_next (d + 1) Q 82 [some (.ref 157), some (.int a1)] [] (0, 0) (ab_u i1 157 4 (if 700 < (i1 4 1) then 700 else (i1 4 1)), l, dd, x) (ab_E0 sc)
  rw [show ab_u i1 157 4 (if 700 < (i1 4 1) then 700 else (i1 4 1)) = i3 from e4.symm]
  refine ab_aloadn dX2_next_82 rfl ?_
  refine ab_iloadn dX2_next_83 rfl ?_
  refine ab_putI dX2_next_84 fl_X2_35 kd_157 rfl ?_
  obtain ⟨i5, e6⟩ : ∃ z, z = ab_u i3 157 5 a1 := ⟨_, rfl⟩
  show ab_Fr MX2_next (d + 1) Q 87 [some (.ref 157), some (.int a1)] [] (0, 0) (ab_u i3 157 5 a1, l, dd, x) (ab_E0 sc)
  rw [show ab_u i3 157 5 a1 = i5 from e6.symm]
  refine ab_goto (tgt := 133) dX2_next_87 (by decide) ?_
  exact ab_vret dX2_next_133 rfl ⟨Nat.zero_le _, Nat.zero_le _⟩ (((h i1 e2) i3 e4) i5 e6)
theorem tMX2_isBlank_0 {d : Nat} {Q : ab_Qt} {sc : Nat × (Nat → Int32)} {i : Nat → Nat → Int32} {l : Nat → Nat → Int64} {dd : Nat → Nat → Value} {x : Nat} {a0 : Int32} 
    (h : ((a0 = 32 → Q (some (some (.int 1))) (i, l, dd, x) (ab_E0 sc)) ∧ (¬ a0 = 32 → ((¬ a0 = 10 → Q (some (some (.int 0))) (i, l, dd, x) (ab_E0 sc)) ∧ (a0 = 10 → Q (some (some (.int 1))) (i, l, dd, x) (ab_E0 sc)))))) :
    ab_Fr MX2_isBlank (d + 1) Q 0 [some (.int a0)] [] (0, 0) (i, l, dd, x) (ab_E0 sc) := by
  refine ab_iloadn dX2_isBlank_0 rfl ?_
  refine ab_bipush (v := 32) dX2_isBlank_1 (by decide) ?_
  refine ab_icmp_eq (tgt := 12) dX2_isBlank_3 (by decide) (fun c1 => ?_) (fun c1 => ?_)
  · refine ab_iconst (v := 1) dX2_isBlank_12 (by decide) ?_
    refine ab_goto (tgt := 17) dX2_isBlank_13 (by decide) ?_
    exact ab_zret dX2_isBlank_17 rfl (by decide) ⟨Nat.zero_le _, Nat.zero_le _⟩ (h.1 c1)
  · refine ab_iloadn dX2_isBlank_6 rfl ?_
    refine ab_bipush (v := 10) dX2_isBlank_7 (by decide) ?_
    refine ab_icmp_ne (tgt := 16) dX2_isBlank_9 (by decide) (fun c2 => ?_) (fun c2 => ?_)
    · refine ab_iconst (v := 0) dX2_isBlank_16 (by decide) ?_
      exact ab_zret dX2_isBlank_17 rfl (by decide) ⟨Nat.zero_le _, Nat.zero_le _⟩ ((h.2 c1).1 c2)
    · refine ab_iconst (v := 1) dX2_isBlank_12 (by decide) ?_
      refine ab_goto (tgt := 17) dX2_isBlank_13 (by decide) ?_
      exact ab_zret dX2_isBlank_17 rfl (by decide) ⟨Nat.zero_le _, Nat.zero_le _⟩ ((h.2 c1).2 c2)
theorem tMX2_nextRun_0 {d : Nat} {Q : ab_Qt} {sc : Nat × (Nat → Int32)} {i : Nat → Nat → Int32} {l : Nat → Nat → Int64} {dd : Nat → Nat → Value} {x : Nat}  
    (h : (∀ l1, l1 = ab_u l 157 7 0 → ∀ i3, i3 = ab_u i 157 9 0 → ∀ i5, i5 = ab_u i3 157 5 (i3 157 4) → ab_Fr MX2_nextRun (d + 1) Q 22 [some (.ref 157), some (.int 0), some (.int 0), none] [] (0, 0) (i5, l1, dd, x) (ab_E0 sc))) :
    ab_Fr MX2_nextRun (d + 1) Q 0 [some (.ref 157), none, none, none] [] (0, 0) (i, l, dd, x) (ab_E0 sc) := by
  refine ab_iconst (v := 0) dX2_nextRun_0 (by decide) ?_
  refine ab_istoren dX2_nextRun_1 (Nat.le_of_ble_eq_true rfl) (L2 := [some (.ref 157), some (.int 0), none, none]) rfl ?_
  refine ab_iconst (v := 0) dX2_nextRun_2 (by decide) ?_
  refine ab_istoren dX2_nextRun_3 (Nat.le_of_ble_eq_true rfl) (L2 := [some (.ref 157), some (.int 0), some (.int 0), none]) rfl ?_
  refine ab_aloadn dX2_nextRun_4 rfl ?_
  refine ab_lconst (v := 0) dX2_nextRun_5 (by decide) ?_
  refine ab_putL dX2_nextRun_6 fl_X2_86 kd_157 rfl ?_
  obtain ⟨l1, e2⟩ : ∃ z, z = ab_u l 157 7 0 := ⟨_, rfl⟩
  show ab_Fr MX2_nextRun (d + 1) Q 9 [some (.ref 157), some (.int 0), some (.int 0), none] [] (0, 0) (i, ab_u l 157 7 0, dd, x) (ab_E0 sc)
  rw [show ab_u l 157 7 0 = l1 from e2.symm]
  refine ab_aloadn dX2_nextRun_9 rfl ?_
  refine ab_iconst (v := 0) dX2_nextRun_10 (by decide) ?_
  refine ab_putI dX2_nextRun_11 fl_X2_90 kd_157 rfl ?_
  obtain ⟨i3, e4⟩ : ∃ z, z = ab_u i 157 9 0 := ⟨_, rfl⟩
  show ab_Fr MX2_nextRun (d + 1) Q 14 [some (.ref 157), some (.int 0), some (.int 0), none] [] (0, 0) (ab_u i 157 9 0, l1, dd, x) (ab_E0 sc)
  rw [show ab_u i 157 9 0 = i3 from e4.symm]
  refine ab_aloadn dX2_nextRun_14 rfl ?_
  refine ab_aloadn dX2_nextRun_15 rfl ?_
  refine ab_getf (v := .int (i3 157 4)) dX2_nextRun_16 fl_X2_64 kd_157 rfl ?_
  refine ab_putI dX2_nextRun_19 fl_X2_35 kd_157 rfl ?_
  obtain ⟨i5, e6⟩ : ∃ z, z = ab_u i3 157 5 (i3 157 4) := ⟨_, rfl⟩
  show ab_Fr MX2_nextRun (d + 1) Q 22 [some (.ref 157), some (.int 0), some (.int 0), none] [] (0, 0) (ab_u i3 157 5 (i3 157 4), l1, dd, x) (ab_E0 sc)
  rw [show ab_u i3 157 5 (i3 157 4) = i5 from e6.symm]
  exact (((h l1 e2) i3 e4) i5 e6)
theorem tMX2_nextRun_22 {d : Nat} {Q : ab_Qt} {sc : Nat × (Nat → Int32)} {i : Nat → Nat → Int32} {l : Nat → Nat → Int64} {dd : Nat → Nat → Value} {x : Nat} {a1 : Int32} {a2 : Int32} 
    (h : (((i 4 1) ≤ (i 157 5) → ab_Fr MX2_nextRun (d + 1) Q 125 [some (.ref 157), some (.int a1), some (.int a2), none] [] (0, 0) (i, l, dd, x) (ab_E0 sc)) ∧ (¬ (i 4 1) ≤ (i 157 5) → (vp_in (i 157 5) 740 ∧ (((i 5 (i 157 5).toNatClampNeg) < 48 → ab_Fr MX2_nextRun (d + 1) Q 83 [some (.ref 157), some (.int a1), some (.int a2), some (.int (i 5 (i 157 5).toNatClampNeg))] [] (0, 0) (i, l, dd, x) (ab_E0 sc)) ∧ (¬ (i 5 (i 157 5).toNatClampNeg) < 48 → ((57 < (i 5 (i 157 5).toNatClampNeg) → ab_Fr MX2_nextRun (d + 1) Q 83 [some (.ref 157), some (.int a1), some (.int a2), some (.int (i 5 (i 157 5).toNatClampNeg))] [] (0, 0) (i, l, dd, x) (ab_E0 sc)) ∧ (¬ 57 < (i 5 (i 157 5).toNatClampNeg) → (∀ i4, i4 = ab_u i 157 9 ((((i 157 9) * 10) + (i 5 (i 157 5).toNatClampNeg)) - 48) → ∀ i6, i6 = ab_u i4 157 5 ((i4 157 5) + 1) → ab_Fr MX2_nextRun (d + 1) Q 22 [some (.ref 157), some (.int a1), some (.int (a2 + 1)), none] [] (0, 0) (i6, l, dd, x) (ab_E0 sc)))))))))) :
    ab_Fr MX2_nextRun (d + 1) Q 22 [some (.ref 157), some (.int a1), some (.int a2), none] [] (0, 0) (i, l, dd, x) (ab_E0 sc) := by
  refine ab_aloadn dX2_nextRun_22 rfl ?_
  refine ab_getf (v := .int (i 157 5)) dX2_nextRun_23 fl_X2_35 kd_157 rfl ?_
  refine ab_aloadn dX2_nextRun_26 rfl ?_
  refine ab_getf (v := .ref 4) dX2_nextRun_27 fl_X2_9 kd_157 ff_157_1 ?_
  refine ab_getf (v := .int (i 4 1)) dX2_nextRun_30 fl_X2_55 kd_4 rfl ?_
  refine ab_icmp_ge (tgt := 125) dX2_nextRun_33 (by decide) (fun c1 => ?_) (fun c1 => ?_)
  · exact (h.1 c1)
  · refine ab_aloadn dX2_nextRun_36 rfl ?_
    refine ab_getf (v := .ref 4) dX2_nextRun_37 fl_X2_9 kd_157 ff_157_1 ?_
    refine ab_getf (v := .ref 5) dX2_nextRun_40 fl_X2_67 kd_4 ff_4_0 ?_
    refine ab_aloadn dX2_nextRun_43 rfl ?_
    refine ab_getf (v := .int (i 157 5)) dX2_nextRun_44 fl_X2_35 kd_157 rfl ?_
    refine ab_iaload (v := (i 5 (i 157 5).toNatClampNeg)) dX2_nextRun_47 kd_5 (h.2 c1).1 rfl ?_
    refine ab_istoren dX2_nextRun_48 (Nat.le_of_ble_eq_true rfl) (L2 := [some (.ref 157), some (.int a1), some (.int a2), some (.int (i 5 (i 157 5).toNatClampNeg))]) rfl ?_
    refine ab_iloadn dX2_nextRun_49 rfl ?_
    refine ab_bipush (v := 48) dX2_nextRun_50 (by decide) ?_
    refine ab_icmp_lt (tgt := 83) dX2_nextRun_52 (by decide) (fun c2 => ?_) (fun c2 => ?_)
    · exact ((h.2 c1).2.1 c2)
    · refine ab_iloadn dX2_nextRun_55 rfl ?_
      refine ab_bipush (v := 57) dX2_nextRun_56 (by decide) ?_
      refine ab_icmp_gt (tgt := 83) dX2_nextRun_58 (by decide) (fun c3 => ?_) (fun c3 => ?_)
      · exact (((h.2 c1).2.2 c2).1 c3)
      · refine ab_iinc (v := (a2 + 1)) dX2_nextRun_61 rfl (by rfl) (Nat.le_of_ble_eq_true rfl) (L2 := [some (.ref 157), some (.int a1), some (.int (a2 + 1)), some (.int (i 5 (i 157 5).toNatClampNeg))]) rfl ?_
        refine ab_aloadn dX2_nextRun_64 rfl ?_
        refine ab_aloadn dX2_nextRun_65 rfl ?_
        refine ab_getf (v := .int (i 157 9)) dX2_nextRun_66 fl_X2_90 kd_157 rfl ?_
        refine ab_bipush (v := 10) dX2_nextRun_69 (by decide) ?_
        refine ab_imul dX2_nextRun_71 ?_
        refine ab_iloadn dX2_nextRun_72 rfl ?_
        refine ab_iadd dX2_nextRun_73 ?_
        refine ab_bipush (v := 48) dX2_nextRun_74 (by decide) ?_
        refine ab_isub dX2_nextRun_76 ?_
        refine ab_putI dX2_nextRun_77 fl_X2_90 kd_157 rfl ?_
        obtain ⟨i4, e5⟩ : ∃ z, z = ab_u i 157 9 ((((i 157 9) * 10) + (i 5 (i 157 5).toNatClampNeg)) - 48) := ⟨_, rfl⟩
        show ab_Fr MX2_nextRun (d + 1) Q 80 [some (.ref 157), some (.int a1), some (.int (a2 + 1)), some (.int (i 5 (i 157 5).toNatClampNeg))] [] (0, 0) (ab_u i 157 9 ((((i 157 9) * 10) + (i 5 (i 157 5).toNatClampNeg)) - 48), l, dd, x) (ab_E0 sc)
        rw [show ab_u i 157 9 ((((i 157 9) * 10) + (i 5 (i 157 5).toNatClampNeg)) - 48) = i4 from e5.symm]
        refine ab_goto (tgt := 112) dX2_nextRun_80 (by decide) ?_
        refine ab_aloadn dX2_nextRun_112 rfl ?_
        refine ab_dup dX2_nextRun_113 rfl ?_
        refine ab_getf (v := .int (i4 157 5)) dX2_nextRun_114 fl_X2_35 kd_157 rfl ?_
        refine ab_iconst (v := 1) dX2_nextRun_117 (by decide) ?_
        refine ab_iadd dX2_nextRun_118 ?_
        refine ab_putI dX2_nextRun_119 fl_X2_35 kd_157 rfl ?_
        obtain ⟨i6, e7⟩ : ∃ z, z = ab_u i4 157 5 ((i4 157 5) + 1) := ⟨_, rfl⟩
        show ab_Fr MX2_nextRun (d + 1) Q 122 [some (.ref 157), some (.int a1), some (.int (a2 + 1)), some (.int (i 5 (i 157 5).toNatClampNeg))] [] (0, 0) (ab_u i4 157 5 ((i4 157 5) + 1), l, dd, x) (ab_E0 sc)
        rw [show ab_u i4 157 5 ((i4 157 5) + 1) = i6 from e7.symm]
        refine ab_goto (tgt := 22) dX2_nextRun_122 (by decide) ?_
        refine ab_forget (i := 3) (L2 := [some (.ref 157), some (.int a1), some (.int (a2 + 1)), none]) rfl ?_
        exact (((((h.2 c1).2.2 c2).2 c3) i4 e5) i6 e7)
theorem tMX2_nextRun_83 {d : Nat} {Q : ab_Qt} {sc : Nat × (Nat → Int32)} {i : Nat → Nat → Int32} {l : Nat → Nat → Int64} {dd : Nat → Nat → Value} {x : Nat} {a1 : Int32} {a2 : Int32} {a3 : Int32} 
    (h : ((a3 < 97 → ab_Fr MX2_nextRun (d + 1) Q 125 [some (.ref 157), some (.int a1), some (.int a2), none] [] (0, 0) (i, l, dd, x) (ab_E0 sc)) ∧ (¬ a3 < 97 → ((122 < a3 → ab_Fr MX2_nextRun (d + 1) Q 125 [some (.ref 157), some (.int a1), some (.int a2), none] [] (0, 0) (i, l, dd, x) (ab_E0 sc)) ∧ (¬ 122 < a3 → (∀ l3, l3 = ab_u l 157 7 (((l 157 7) <<< ((8 : Int32).toInt64 &&& 63)) ||| a3.toInt64) → ∀ i5, i5 = ab_u i 157 5 ((i 157 5) + 1) → ab_Fr MX2_nextRun (d + 1) Q 22 [some (.ref 157), some (.int (a1 + 1)), some (.int a2), none] [] (0, 0) (i5, l3, dd, x) (ab_E0 sc))))))) :
    ab_Fr MX2_nextRun (d + 1) Q 83 [some (.ref 157), some (.int a1), some (.int a2), some (.int a3)] [] (0, 0) (i, l, dd, x) (ab_E0 sc) := by
  refine ab_iloadn dX2_nextRun_83 rfl ?_
  refine ab_bipush (v := 97) dX2_nextRun_84 (by decide) ?_
  refine ab_icmp_lt (tgt := 125) dX2_nextRun_86 (by decide) (fun c1 => ?_) (fun c1 => ?_)
  · refine ab_forget (i := 3) (L2 := [some (.ref 157), some (.int a1), some (.int a2), none]) rfl ?_
    exact (h.1 c1)
  · refine ab_iloadn dX2_nextRun_89 rfl ?_
    refine ab_bipush (v := 122) dX2_nextRun_90 (by decide) ?_
    refine ab_icmp_gt (tgt := 125) dX2_nextRun_92 (by decide) (fun c2 => ?_) (fun c2 => ?_)
    · refine ab_forget (i := 3) (L2 := [some (.ref 157), some (.int a1), some (.int a2), none]) rfl ?_
      exact ((h.2 c1).1 c2)
    · refine ab_iinc (v := (a1 + 1)) dX2_nextRun_95 rfl (by rfl) (Nat.le_of_ble_eq_true rfl) (L2 := [some (.ref 157), some (.int (a1 + 1)), some (.int a2), some (.int a3)]) rfl ?_
      refine ab_aloadn dX2_nextRun_98 rfl ?_
      refine ab_aloadn dX2_nextRun_99 rfl ?_
      refine ab_getf (v := .long (l 157 7)) dX2_nextRun_100 fl_X2_86 kd_157 rfl ?_
      refine ab_bipush (v := 8) dX2_nextRun_103 (by decide) ?_
      refine ab_lshl dX2_nextRun_105 rfl ?_
      refine ab_iloadn dX2_nextRun_106 rfl ?_
      refine ab_i2l dX2_nextRun_107 rfl ?_
      refine ab_lor dX2_nextRun_108 ?_
      refine ab_putL dX2_nextRun_109 fl_X2_86 kd_157 rfl ?_
      obtain ⟨l3, e4⟩ : ∃ z, z = ab_u l 157 7 (((l 157 7) <<< ((8 : Int32).toInt64 &&& 63)) ||| a3.toInt64) := ⟨_, rfl⟩
      show ab_Fr MX2_nextRun (d + 1) Q 112 [some (.ref 157), some (.int (a1 + 1)), some (.int a2), some (.int a3)] [] (0, 0) (i, ab_u l 157 7 (((l 157 7) <<< ((8 : Int32).toInt64 &&& 63)) ||| a3.toInt64), dd, x) (ab_E0 sc)
      rw [show ab_u l 157 7 (((l 157 7) <<< ((8 : Int32).toInt64 &&& 63)) ||| a3.toInt64) = l3 from e4.symm]
      refine ab_aloadn dX2_nextRun_112 rfl ?_
      refine ab_dup dX2_nextRun_113 rfl ?_
      refine ab_getf (v := .int (i 157 5)) dX2_nextRun_114 fl_X2_35 kd_157 rfl ?_
      refine ab_iconst (v := 1) dX2_nextRun_117 (by decide) ?_
      refine ab_iadd dX2_nextRun_118 ?_
      refine ab_putI dX2_nextRun_119 fl_X2_35 kd_157 rfl ?_
      obtain ⟨i5, e6⟩ : ∃ z, z = ab_u i 157 5 ((i 157 5) + 1) := ⟨_, rfl⟩
      show ab_Fr MX2_nextRun (d + 1) Q 122 [some (.ref 157), some (.int (a1 + 1)), some (.int a2), some (.int a3)] [] (0, 0) (ab_u i 157 5 ((i 157 5) + 1), l3, dd, x) (ab_E0 sc)
      rw [show ab_u i 157 5 ((i 157 5) + 1) = i5 from e6.symm]
      refine ab_goto (tgt := 22) dX2_nextRun_122 (by decide) ?_
      refine ab_forget (i := 3) (L2 := [some (.ref 157), some (.int (a1 + 1)), some (.int a2), none]) rfl ?_
      exact ((((h.2 c1).2 c2) l3 e4) i5 e6)
theorem tMX2_nextRun_125 {d : Nat} {Q : ab_Qt} {sc : Nat × (Nat → Int32)} {i : Nat → Nat → Int32} {l : Nat → Nat → Int64} {dd : Nat → Nat → Value} {x : Nat} {a1 : Int32} {a2 : Int32} 
    (h : (∀ i1, i1 = ab_u i 157 6 4 → ((¬ a2 = 0 → ab_Fr MX2_nextRun (d + 1) Q 194 [some (.ref 157), some (.int a1), some (.int a2), none] [] (0, 0) (i1, l, dd, x) (ab_E0 sc)) ∧ (a2 = 0 → ((a1 < 1 → ab_Fr MX2_nextRun (d + 1) Q 194 [some (.ref 157), some (.int a1), some (.int a2), none] [] (0, 0) (i1, l, dd, x) (ab_E0 sc)) ∧ (¬ a1 < 1 → ((6 < a1 → ab_Fr MX2_nextRun (d + 1) Q 194 [some (.ref 157), some (.int a1), some (.int a2), none] [] (0, 0) (i1, l, dd, x) (ab_E0 sc)) ∧ (¬ 6 < a1 → (∀ i6, i6 = ab_u i1 157 6 0 → ab_Fr MX2_nextRun (d + 1) Q 152 [some (.ref 157), none, none, some (.int 0)] [] (0, 0) (i6, l, dd, x) (ab_E0 sc)))))))))) :
    ab_Fr MX2_nextRun (d + 1) Q 125 [some (.ref 157), some (.int a1), some (.int a2), none] [] (0, 0) (i, l, dd, x) (ab_E0 sc) := by
  refine ab_aloadn dX2_nextRun_125 rfl ?_
  refine ab_iconst (v := 4) dX2_nextRun_126 (by decide) ?_
  refine ab_putI dX2_nextRun_127 fl_X2_45 kd_157 rfl ?_
  obtain ⟨i1, e2⟩ : ∃ z, z = ab_u i 157 6 4 := ⟨_, rfl⟩
  show ab_Fr MX2_nextRun (d + 1) Q 130 [some (.ref 157), some (.int a1), some (.int a2), none] [] (0, 0) (ab_u i 157 6 4, l, dd, x) (ab_E0 sc)
  rw [show ab_u i 157 6 4 = i1 from e2.symm]
  refine ab_iloadn dX2_nextRun_130 rfl ?_
  refine ab_if_ne (tgt := 194) dX2_nextRun_131 (by decide) (fun c3 => ?_) (fun c3 => ?_)
  · exact ((h i1 e2).1 c3)
  · refine ab_iloadn dX2_nextRun_134 rfl ?_
    refine ab_iconst (v := 1) dX2_nextRun_135 (by decide) ?_
    refine ab_icmp_lt (tgt := 194) dX2_nextRun_136 (by decide) (fun c4 => ?_) (fun c4 => ?_)
    · exact (((h i1 e2).2 c3).1 c4)
    · refine ab_iloadn dX2_nextRun_139 rfl ?_
      refine ab_bipush (v := 6) dX2_nextRun_140 (by decide) ?_
      refine ab_icmp_gt (tgt := 194) dX2_nextRun_142 (by decide) (fun c5 => ?_) (fun c5 => ?_)
      · exact ((((h i1 e2).2 c3).2 c4).1 c5)
      · refine ab_aloadn dX2_nextRun_145 rfl ?_
        refine ab_iconst (v := 0) dX2_nextRun_146 (by decide) ?_
        refine ab_putI dX2_nextRun_147 fl_X2_45 kd_157 rfl ?_
        obtain ⟨i6, e7⟩ : ∃ z, z = ab_u i1 157 6 0 := ⟨_, rfl⟩
        show ab_Fr MX2_nextRun (d + 1) Q 150 [some (.ref 157), some (.int a1), some (.int a2), none] [] (0, 0) (ab_u i1 157 6 0, l, dd, x) (ab_E0 sc)
        rw [show ab_u i1 157 6 0 = i6 from e7.symm]
        refine ab_iconst (v := 0) dX2_nextRun_150 (by decide) ?_
        refine ab_istoren dX2_nextRun_151 (Nat.le_of_ble_eq_true rfl) (L2 := [some (.ref 157), some (.int a1), some (.int a2), some (.int 0)]) rfl ?_
        refine ab_forget (i := 1) (L2 := [some (.ref 157), none, some (.int a2), some (.int 0)]) rfl ?_
        refine ab_forget (i := 2) (L2 := [some (.ref 157), none, none, some (.int 0)]) rfl ?_
        exact (((((h i1 e2).2 c3).2 c4).2 c5) i6 e7)
theorem tMX2_nextRun_152 {d : Nat} {Q : ab_Qt} {sc : Nat × (Nat → Int32)} {i : Nat → Nat → Int32} {l : Nat → Nat → Int64} {dd : Nat → Nat → Value} {x : Nat} {a3 : Int32} 
    (h : ((16 ≤ a3 → Q (some none) (i, l, dd, x) (ab_E0 sc)) ∧ (¬ 16 ≤ a3 → (vp_in a3 16 ∧ ((¬ (ab_kw a3.toNatClampNeg) = (l 157 7) → (∀ i3, i3 = ab_u i 157 8 (i 157 8) → ab_Fr MX2_nextRun (d + 1) Q 152 [some (.ref 157), none, none, some (.int (a3 + 1))] [] (0, 0) (i3, l, dd, x) (ab_E0 sc))) ∧ ((ab_kw a3.toNatClampNeg) = (l 157 7) → (∀ i5, i5 = ab_u i 157 8 a3 → ab_Fr MX2_nextRun (d + 1) Q 152 [some (.ref 157), none, none, some (.int (a3 + 1))] [] (0, 0) (i5, l, dd, x) (ab_E0 sc)))))))) :
    ab_Fr MX2_nextRun (d + 1) Q 152 [some (.ref 157), none, none, some (.int a3)] [] (0, 0) (i, l, dd, x) (ab_E0 sc) := by
  refine ab_iloadn dX2_nextRun_152 rfl ?_
  refine ab_getsK dX2_nextRun_153 wd_572 ?_
  refine ab_klen dX2_nextRun_156 ?_
  refine ab_icmp_ge (tgt := 191) dX2_nextRun_157 (by decide) (fun c1 => ?_) (fun c1 => ?_)
  · refine ab_goto (tgt := 213) dX2_nextRun_191 (by decide) ?_
    exact ab_vret dX2_nextRun_213 rfl ⟨Nat.zero_le _, Nat.zero_le _⟩ (h.1 c1)
  · refine ab_aloadn dX2_nextRun_160 rfl ?_
    refine ab_getsK dX2_nextRun_161 wd_572 ?_
    refine ab_iloadn dX2_nextRun_164 rfl ?_
    refine ab_kld (v := (ab_kw a3.toNatClampNeg)) dX2_nextRun_165 (h.2 c1).1 rfl ?_
    refine ab_aloadn dX2_nextRun_166 rfl ?_
    refine ab_getf (v := .long (l 157 7)) dX2_nextRun_167 fl_X2_86 kd_157 rfl ?_
    refine ab_lcne (tgt := 178) dX2_nextRun_170 dX2_nextRun_171 (by decide) (fun c2 => ?_) (fun c2 => ?_)
    · refine ab_aloadn dX2_nextRun_178 rfl ?_
      refine ab_getf (v := .int (i 157 8)) dX2_nextRun_179 fl_X2_74 kd_157 rfl ?_
      refine ab_putI dX2_nextRun_182 fl_X2_74 kd_157 rfl ?_
      obtain ⟨i3, e4⟩ : ∃ z, z = ab_u i 157 8 (i 157 8) := ⟨_, rfl⟩
      show ab_Fr MX2_nextRun (d + 1) Q 185 [some (.ref 157), none, none, some (.int a3)] [] (0, 0) (ab_u i 157 8 (i 157 8), l, dd, x) (ab_E0 sc)
      rw [show ab_u i 157 8 (i 157 8) = i3 from e4.symm]
      refine ab_iinc (v := (a3 + 1)) dX2_nextRun_185 rfl (by rfl) (Nat.le_of_ble_eq_true rfl) (L2 := [some (.ref 157), none, none, some (.int (a3 + 1))]) rfl ?_
      refine ab_goto (tgt := 152) dX2_nextRun_188 (by decide) ?_
      exact (((h.2 c1).2.1 c2) i3 e4)
    · refine ab_iloadn dX2_nextRun_174 rfl ?_
      refine ab_goto (tgt := 182) dX2_nextRun_175 (by decide) ?_
      refine ab_putI dX2_nextRun_182 fl_X2_74 kd_157 rfl ?_
      obtain ⟨i5, e6⟩ : ∃ z, z = ab_u i 157 8 a3 := ⟨_, rfl⟩
      show ab_Fr MX2_nextRun (d + 1) Q 185 [some (.ref 157), none, none, some (.int a3)] [] (0, 0) (ab_u i 157 8 a3, l, dd, x) (ab_E0 sc)
      rw [show ab_u i 157 8 a3 = i5 from e6.symm]
      refine ab_iinc (v := (a3 + 1)) dX2_nextRun_185 rfl (by rfl) (Nat.le_of_ble_eq_true rfl) (L2 := [some (.ref 157), none, none, some (.int (a3 + 1))]) rfl ?_
      refine ab_goto (tgt := 152) dX2_nextRun_188 (by decide) ?_
      exact (((h.2 c1).2.2 c2) i5 e6)
theorem tMX2_nextRun_194 {d : Nat} {Q : ab_Qt} {sc : Nat × (Nat → Int32)} {i : Nat → Nat → Int32} {l : Nat → Nat → Int64} {dd : Nat → Nat → Value} {x : Nat} {a1 : Int32} {a2 : Int32} 
    (h : ((¬ a1 = 0 → Q (some none) (i, l, dd, x) (ab_E0 sc)) ∧ (a1 = 0 → ((a2 < 1 → Q (some none) (i, l, dd, x) (ab_E0 sc)) ∧ (¬ a2 < 1 → ((2 < a2 → Q (some none) (i, l, dd, x) (ab_E0 sc)) ∧ (¬ 2 < a2 → (∀ i4, i4 = ab_u i 157 6 1 → Q (some none) (i4, l, dd, x) (ab_E0 sc))))))))) :
    ab_Fr MX2_nextRun (d + 1) Q 194 [some (.ref 157), some (.int a1), some (.int a2), none] [] (0, 0) (i, l, dd, x) (ab_E0 sc) := by
  refine ab_iloadn dX2_nextRun_194 rfl ?_
  refine ab_if_ne (tgt := 213) dX2_nextRun_195 (by decide) (fun c1 => ?_) (fun c1 => ?_)
  · exact ab_vret dX2_nextRun_213 rfl ⟨Nat.zero_le _, Nat.zero_le _⟩ (h.1 c1)
  · refine ab_iloadn dX2_nextRun_198 rfl ?_
    refine ab_iconst (v := 1) dX2_nextRun_199 (by decide) ?_
    refine ab_icmp_lt (tgt := 213) dX2_nextRun_200 (by decide) (fun c2 => ?_) (fun c2 => ?_)
    · exact ab_vret dX2_nextRun_213 rfl ⟨Nat.zero_le _, Nat.zero_le _⟩ ((h.2 c1).1 c2)
    · refine ab_iloadn dX2_nextRun_203 rfl ?_
      refine ab_iconst (v := 2) dX2_nextRun_204 (by decide) ?_
      refine ab_icmp_gt (tgt := 213) dX2_nextRun_205 (by decide) (fun c3 => ?_) (fun c3 => ?_)
      · exact ab_vret dX2_nextRun_213 rfl ⟨Nat.zero_le _, Nat.zero_le _⟩ (((h.2 c1).2 c2).1 c3)
      · refine ab_aloadn dX2_nextRun_208 rfl ?_
        refine ab_iconst (v := 1) dX2_nextRun_209 (by decide) ?_
        refine ab_putI dX2_nextRun_210 fl_X2_45 kd_157 rfl ?_
        obtain ⟨i4, e5⟩ : ∃ z, z = ab_u i 157 6 1 := ⟨_, rfl⟩
        show ab_Fr MX2_nextRun (d + 1) Q 213 [some (.ref 157), some (.int a1), some (.int a2), none] [] (0, 0) (ab_u i 157 6 1, l, dd, x) (ab_E0 sc)
        rw [show ab_u i 157 6 1 = i4 from e5.symm]
        exact ab_vret dX2_nextRun_213 rfl ⟨Nat.zero_le _, Nat.zero_le _⟩ ((((h.2 c1).2 c2).2 c3) i4 e5)
theorem tMX2_readLine_0 {d : Nat} {Q : ab_Qt} {sc : Nat × (Nat → Int32)} {i : Nat → Nat → Int32} {l : Nat → Nat → Int64} {dd : Nat → Nat → Value} {x : Nat}  
    (h : (((i 157 8) < 0 → ab_Fr MX2_readLine (d + 1) Q 15 [some (.ref 157)] [] (0, 0) (i, l, dd, x) (ab_E0 sc)) ∧ (¬ (i 157 8) < 0 → (((i 157 8) ≤ 5 → ((¬ (i 157 8) = 0 → ((¬ (i 157 3) = 0 → ab_Fr MX2_readLine (d + 1) Q 53 [some (.ref 157)] [] (0, 0) (i, l, dd, x) (ab_E0 sc)) ∧ ((i 157 3) = 0 → (∃ (r5 : Int32) (P6 : ab_S → Prop), ab_Sp MX2_truthsStand d [.ref 157] (i, l, dd, x) (ab_E0 sc) (some (.int r5)) P6 ∧ ∀ i9 l10 dd11 x12, P6 (i9, l10, dd11, x12) → ((¬ r5 = 0 → ab_Fr MX2_readLine (d + 1) Q 53 [some (.ref 157)] [] (0, 0) (i9, l10, dd11, x12) (ab_E0 sc)) ∧ (r5 = 0 → (∃ (r15 : Int32) (P16 : ab_S → Prop), ab_Sp MX2_fail d [.ref 157, .int 4] (i9, l10, dd11, x12) (ab_E0 sc) (some (.int r15)) P16 ∧ ∀ i19 l20 dd21 x22, P16 (i19, l20, dd21, x22) → (r15 = 0 ∨ r15 = 1) ∧ Q (some (some (.int r15))) (i19, l20, dd21, x22) (ab_E0 sc)))))))) ∧ ((i 157 8) = 0 → (∃ (r24 : Int32) (P25 : ab_S → Prop), ab_Sp MX2_readTruth d [.ref 157] (i, l, dd, x) (ab_E0 sc) (some (.int r24)) P25 ∧ ∀ i28 l29 dd30 x31, P25 (i28, l29, dd30, x31) → (r24 = 0 ∨ r24 = 1) ∧ Q (some (some (.int r24))) (i28, l29, dd30, x31) (ab_E0 sc))))) ∧ (¬ (i 157 8) ≤ 5 → ab_Fr MX2_readLine (d + 1) Q 15 [some (.ref 157)] [] (0, 0) (i, l, dd, x) (ab_E0 sc)))))) :
    ab_Fr MX2_readLine (d + 1) Q 0 [some (.ref 157)] [] (0, 0) (i, l, dd, x) (ab_E0 sc) := by
  refine ab_aloadn dX2_readLine_0 rfl ?_
  refine ab_getf (v := .int (i 157 8)) dX2_readLine_1 fl_X2_74 kd_157 rfl ?_
  refine ab_if_lt (tgt := 15) dX2_readLine_4 (by decide) (fun c1 => ?_) (fun c1 => ?_)
  · exact (h.1 c1)
  · refine ab_aloadn dX2_readLine_7 rfl ?_
    refine ab_getf (v := .int (i 157 8)) dX2_readLine_8 fl_X2_74 kd_157 rfl ?_
    refine ab_iconst (v := 5) dX2_readLine_11 (by decide) ?_
    refine ab_icmp_le (tgt := 21) dX2_readLine_12 (by decide) (fun c2 => ?_) (fun c2 => ?_)
    · refine ab_aloadn dX2_readLine_21 rfl ?_
      refine ab_getf (v := .int (i 157 8)) dX2_readLine_22 fl_X2_74 kd_157 rfl ?_
      refine ab_if_ne (tgt := 33) dX2_readLine_25 (by decide) (fun c3 => ?_) (fun c3 => ?_)
      · refine ab_aloadn dX2_readLine_33 rfl ?_
        refine ab_getf (v := .int (i 157 3)) dX2_readLine_34 fl_X2_31 kd_157 rfl ?_
        refine ab_if_ne (tgt := 53) dX2_readLine_37 (by decide) (fun c4 => ?_) (fun c4 => ?_)
        · exact ((((h.2 c1).1 c2).1 c3).1 c4)
        · refine ab_aloadn dX2_readLine_40 rfl ?_
          obtain ⟨r5, P6, hs7, hk8⟩ := ((((h.2 c1).1 c2).1 c3).2 c4)
          refine ab_callV (vs := []) (st := []) dX2_readLine_41 okMX2_truthsStand wd_594 kd_157 rfl rfl rfl (Nat.le_of_ble_eq_true rfl) ⟨Nat.le_of_ble_eq_true rfl, Nat.le_of_ble_eq_true rfl⟩ hs7 ?_
          rintro v9 ⟨i9, l10, dd11, x12⟩ E9 - ⟨rfl, rfl, hp13⟩
          show ab_Fr MX2_readLine (d + 1) Q 44 [some (.ref 157)] [.int r5] (0, 0) (i9, l10, dd11, x12) (ab_E0 sc)
          refine ab_if_ne (tgt := 53) dX2_readLine_44 (by decide) (fun c14 => ?_) (fun c14 => ?_)
          · exact ((hk8 i9 l10 dd11 x12 hp13).1 c14)
          · refine ab_aloadn dX2_readLine_47 rfl ?_
            refine ab_iconst (v := 4) dX2_readLine_48 (by decide) ?_
            obtain ⟨r15, P16, hs17, hk18⟩ := ((hk8 i9 l10 dd11 x12 hp13).2 c14)
            refine ab_callV (vs := [.int 4]) (st := []) dX2_readLine_49 okMX2_fail wd_576 kd_157 rfl rfl rfl (Nat.le_of_ble_eq_true rfl) ⟨Nat.le_of_ble_eq_true rfl, Nat.le_of_ble_eq_true rfl⟩ hs17 ?_
            rintro v9 ⟨i19, l20, dd21, x22⟩ E9 - ⟨rfl, rfl, hp23⟩
            show ab_Fr MX2_readLine (d + 1) Q 52 [some (.ref 157)] [.int r15] (0, 0) (i19, l20, dd21, x22) (ab_E0 sc)
            exact ab_zret dX2_readLine_52 rfl (hk18 i19 l20 dd21 x22 hp23).1 ⟨Nat.zero_le _, Nat.zero_le _⟩ (hk18 i19 l20 dd21 x22 hp23).2
      · refine ab_aloadn dX2_readLine_28 rfl ?_
        obtain ⟨r24, P25, hs26, hk27⟩ := (((h.2 c1).1 c2).2 c3)
        refine ab_callV (vs := []) (st := []) dX2_readLine_29 okMX2_readTruth wd_579 kd_157 rfl rfl rfl (Nat.le_of_ble_eq_true rfl) ⟨Nat.le_of_ble_eq_true rfl, Nat.le_of_ble_eq_true rfl⟩ hs26 ?_
        rintro v9 ⟨i28, l29, dd30, x31⟩ E9 - ⟨rfl, rfl, hp32⟩
        show ab_Fr MX2_readLine (d + 1) Q 32 [some (.ref 157)] [.int r24] (0, 0) (i28, l29, dd30, x31) (ab_E0 sc)
        exact ab_zret dX2_readLine_32 rfl (hk27 i28 l29 dd30 x31 hp32).1 ⟨Nat.zero_le _, Nat.zero_le _⟩ (hk27 i28 l29 dd30 x31 hp32).2
    · exact ((h.2 c1).2 c2)
theorem tMX2_readLine_15 {d : Nat} {Q : ab_Qt} {sc : Nat × (Nat → Int32)} {i : Nat → Nat → Int32} {l : Nat → Nat → Int64} {dd : Nat → Nat → Value} {x : Nat}  
    (h : (∃ (r1 : Int32) (P2 : ab_S → Prop), ab_Sp MX2_fail d [.ref 157, .int 1] (i, l, dd, x) (ab_E0 sc) (some (.int r1)) P2 ∧ ∀ i5 l6 dd7 x8, P2 (i5, l6, dd7, x8) → (r1 = 0 ∨ r1 = 1) ∧ Q (some (some (.int r1))) (i5, l6, dd7, x8) (ab_E0 sc))) :
    ab_Fr MX2_readLine (d + 1) Q 15 [some (.ref 157)] [] (0, 0) (i, l, dd, x) (ab_E0 sc) := by
  refine ab_aloadn dX2_readLine_15 rfl ?_
  refine ab_iconst (v := 1) dX2_readLine_16 (by decide) ?_
  obtain ⟨r1, P2, hs3, hk4⟩ := h
  refine ab_callV (vs := [.int 1]) (st := []) dX2_readLine_17 okMX2_fail wd_576 kd_157 rfl rfl rfl (Nat.le_of_ble_eq_true rfl) ⟨Nat.le_of_ble_eq_true rfl, Nat.le_of_ble_eq_true rfl⟩ hs3 ?_
  rintro v9 ⟨i5, l6, dd7, x8⟩ E9 - ⟨rfl, rfl, hp9⟩
  show ab_Fr MX2_readLine (d + 1) Q 20 [some (.ref 157)] [.int r1] (0, 0) (i5, l6, dd7, x8) (ab_E0 sc)
  exact ab_zret dX2_readLine_20 rfl (hk4 i5 l6 dd7 x8 hp9).1 ⟨Nat.zero_le _, Nat.zero_le _⟩ (hk4 i5 l6 dd7 x8 hp9).2
theorem tMX2_readLine_53 {d : Nat} {Q : ab_Qt} {sc : Nat × (Nat → Int32)} {i : Nat → Nat → Int32} {l : Nat → Nat → Int64} {dd : Nat → Nat → Value} {x : Nat}  
    (h : (∀ i1, i1 = ab_u i 157 3 1 → (((i1 157 8).toInt < 1 ∨ 4 < (i1 157 8).toInt → (∃ (P5 : ab_S → Prop), ab_Sp MX2_next d [.ref 157] (i1, l, dd, x) (ab_E0 sc) (none) P5 ∧ ∀ i8 l9 dd10 x11, P5 (i8, l9, dd10, x11) → ((¬ (i8 157 8) = 14 → (∃ (r14 : Int32) (P15 : ab_S → Prop), ab_Sp MX2_readMost d [.ref 157] (i8, l9, dd10, x11) (ab_E0 sc) (some (.int r14)) P15 ∧ ∀ i18 l19 dd20 x21, P15 (i18, l19, dd20, x21) → (r14 = 0 ∨ r14 = 1) ∧ Q (some (some (.int r14))) (i18, l19, dd20, x21) (ab_E0 sc))) ∧ ((i8 157 8) = 14 → (∃ (r23 : Int32) (P24 : ab_S → Prop), ab_Sp MX2_readNeed d [.ref 157] (i8, l9, dd10, x11) (ab_E0 sc) (some (.int r23)) P24 ∧ ∀ i27 l28 dd29 x30, P24 (i27, l28, dd29, x30) → (r23 = 0 ∨ r23 = 1) ∧ Q (some (some (.int r23))) (i27, l28, dd29, x30) (ab_E0 sc)))))) ∧ ((i1 157 8).toInt = 1 → (∃ (r32 : Int32) (P33 : ab_S → Prop), ab_Sp MX2_readVoter d [.ref 157] (i1, l, dd, x) (ab_E0 sc) (some (.int r32)) P33 ∧ ∀ i36 l37 dd38 x39, P33 (i36, l37, dd38, x39) → (r32 = 0 ∨ r32 = 1) ∧ Q (some (some (.int r32))) (i36, l37, dd38, x39) (ab_E0 sc))) ∧ ((i1 157 8).toInt = 2 → (∃ (r41 : Int32) (P42 : ab_S → Prop), ab_Sp MX2_readLoss d [.ref 157] (i1, l, dd, x) (ab_E0 sc) (some (.int r41)) P42 ∧ ∀ i45 l46 dd47 x48, P42 (i45, l46, dd47, x48) → (r41 = 0 ∨ r41 = 1) ∧ Q (some (some (.int r41))) (i45, l46, dd47, x48) (ab_E0 sc))) ∧ ((i1 157 8).toInt = 3 → (∃ (r50 : Int32) (P51 : ab_S → Prop), ab_Sp MX2_readWay d [.ref 157] (i1, l, dd, x) (ab_E0 sc) (some (.int r50)) P51 ∧ ∀ i54 l55 dd56 x57, P51 (i54, l55, dd56, x57) → (r50 = 0 ∨ r50 = 1) ∧ Q (some (some (.int r50))) (i54, l55, dd56, x57) (ab_E0 sc))) ∧ ((i1 157 8).toInt = 4 → (∃ (r59 : Int32) (P60 : ab_S → Prop), ab_Sp MX2_readWeight d [.ref 157] (i1, l, dd, x) (ab_E0 sc) (some (.int r59)) P60 ∧ ∀ i63 l64 dd65 x66, P60 (i63, l64, dd65, x66) → (r59 = 0 ∨ r59 = 1) ∧ Q (some (some (.int r59))) (i63, l64, dd65, x66) (ab_E0 sc)))))) :
    ab_Fr MX2_readLine (d + 1) Q 53 [some (.ref 157)] [] (0, 0) (i, l, dd, x) (ab_E0 sc) := by
  refine ab_aloadn dX2_readLine_53 rfl ?_
  refine ab_iconst (v := 1) dX2_readLine_54 (by decide) ?_
  refine ab_putZ dX2_readLine_55 fl_X2_31 kd_157 rfl (by decide) ?_
  obtain ⟨i1, e2⟩ : ∃ z, z = ab_u i 157 3 1 := ⟨_, rfl⟩
  show ab_Fr MX2_readLine (d + 1) Q 58 [some (.ref 157)] [] (0, 0) (ab_u i 157 3 1, l, dd, x) (ab_E0 sc)
  rw [show ab_u i 157 3 1 = i1 from e2.symm]
  refine ab_aloadn dX2_readLine_58 rfl ?_
  refine ab_getf (v := .int (i1 157 8)) dX2_readLine_59 fl_X2_74 kd_157 rfl ?_
  rcases ab_tabsplit (i1 157 8) 1 4 with c3 | ⟨q, hq, c3⟩
  · refine ab_tabOut (tgt := 112) dX2_readLine_62 (by simpa using c3) (by decide) ?_
    refine ab_aloadn dX2_readLine_112 rfl ?_
    obtain ⟨P5, hs6, hk7⟩ := ((h i1 e2).1 c3)
    refine ab_callV (vs := []) (st := []) dX2_readLine_113 okMX2_next wd_560 kd_157 rfl rfl rfl (Nat.le_of_ble_eq_true rfl) ⟨Nat.le_of_ble_eq_true rfl, Nat.le_of_ble_eq_true rfl⟩ hs6 ?_
    rintro v9 ⟨i8, l9, dd10, x11⟩ E9 - ⟨rfl, rfl, hp12⟩
    show ab_Fr MX2_readLine (d + 1) Q 116 [some (.ref 157)] [] (0, 0) (i8, l9, dd10, x11) (ab_E0 sc)
    refine ab_aloadn dX2_readLine_116 rfl ?_
    refine ab_getf (v := .int (i8 157 8)) dX2_readLine_117 fl_X2_74 kd_157 rfl ?_
    refine ab_bipush (v := 14) dX2_readLine_120 (by decide) ?_
    refine ab_icmp_ne (tgt := 132) dX2_readLine_122 (by decide) (fun c13 => ?_) (fun c13 => ?_)
    · refine ab_aloadn dX2_readLine_132 rfl ?_
      obtain ⟨r14, P15, hs16, hk17⟩ := ((hk7 i8 l9 dd10 x11 hp12).1 c13)
      refine ab_callV (vs := []) (st := []) dX2_readLine_133 okMX2_readMost wd_622 kd_157 rfl rfl rfl (Nat.le_of_ble_eq_true rfl) ⟨Nat.le_of_ble_eq_true rfl, Nat.le_of_ble_eq_true rfl⟩ hs16 ?_
      rintro v9 ⟨i18, l19, dd20, x21⟩ E9 - ⟨rfl, rfl, hp22⟩
      show ab_Fr MX2_readLine (d + 1) Q 136 [some (.ref 157)] [.int r14] (0, 0) (i18, l19, dd20, x21) (ab_E0 sc)
      exact ab_zret dX2_readLine_136 rfl (hk17 i18 l19 dd20 x21 hp22).1 ⟨Nat.zero_le _, Nat.zero_le _⟩ (hk17 i18 l19 dd20 x21 hp22).2
    · refine ab_aloadn dX2_readLine_125 rfl ?_
      obtain ⟨r23, P24, hs25, hk26⟩ := ((hk7 i8 l9 dd10 x11 hp12).2 c13)
      refine ab_callV (vs := []) (st := []) dX2_readLine_126 okMX2_readNeed wd_619 kd_157 rfl rfl rfl (Nat.le_of_ble_eq_true rfl) ⟨Nat.le_of_ble_eq_true rfl, Nat.le_of_ble_eq_true rfl⟩ hs25 ?_
      rintro v9 ⟨i27, l28, dd29, x30⟩ E9 - ⟨rfl, rfl, hp31⟩
      show ab_Fr MX2_readLine (d + 1) Q 129 [some (.ref 157)] [.int r23] (0, 0) (i27, l28, dd29, x30) (ab_E0 sc)
      refine ab_goto (tgt := 136) dX2_readLine_129 (by decide) ?_
      exact ab_zret dX2_readLine_136 rfl (hk26 i27 l28 dd29 x30 hp31).1 ⟨Nat.zero_le _, Nat.zero_le _⟩ (hk26 i27 l28 dd29 x30 hp31).2
  · match q, hq with
    | 0, _ =>
        have c3 : (i1 157 8).toInt = 1 := by simpa using c3
        refine ab_tabIn (tgt := 92) dX2_readLine_62 (by rw [c3]; decide) (by rw [c3]; decide) (off := 30) (by rw [c3]; rfl) (by decide) ?_
        refine ab_aloadn dX2_readLine_92 rfl ?_
        obtain ⟨r32, P33, hs34, hk35⟩ := ((h i1 e2).2.1 c3)
        refine ab_callV (vs := []) (st := []) dX2_readLine_93 okMX2_readVoter wd_597 kd_157 rfl rfl rfl (Nat.le_of_ble_eq_true rfl) ⟨Nat.le_of_ble_eq_true rfl, Nat.le_of_ble_eq_true rfl⟩ hs34 ?_
        rintro v9 ⟨i36, l37, dd38, x39⟩ E9 - ⟨rfl, rfl, hp40⟩
        show ab_Fr MX2_readLine (d + 1) Q 96 [some (.ref 157)] [.int r32] (0, 0) (i36, l37, dd38, x39) (ab_E0 sc)
        exact ab_zret dX2_readLine_96 rfl (hk35 i36 l37 dd38 x39 hp40).1 ⟨Nat.zero_le _, Nat.zero_le _⟩ (hk35 i36 l37 dd38 x39 hp40).2
    | 1, _ =>
        have c3 : (i1 157 8).toInt = 2 := by simpa using c3
        refine ab_tabIn (tgt := 97) dX2_readLine_62 (by rw [c3]; decide) (by rw [c3]; decide) (off := 35) (by rw [c3]; rfl) (by decide) ?_
        refine ab_aloadn dX2_readLine_97 rfl ?_
        obtain ⟨r41, P42, hs43, hk44⟩ := ((h i1 e2).2.2.1 c3)
        refine ab_callV (vs := []) (st := []) dX2_readLine_98 okMX2_readLoss wd_607 kd_157 rfl rfl rfl (Nat.le_of_ble_eq_true rfl) ⟨Nat.le_of_ble_eq_true rfl, Nat.le_of_ble_eq_true rfl⟩ hs43 ?_
        rintro v9 ⟨i45, l46, dd47, x48⟩ E9 - ⟨rfl, rfl, hp49⟩
        show ab_Fr MX2_readLine (d + 1) Q 101 [some (.ref 157)] [.int r41] (0, 0) (i45, l46, dd47, x48) (ab_E0 sc)
        exact ab_zret dX2_readLine_101 rfl (hk44 i45 l46 dd47 x48 hp49).1 ⟨Nat.zero_le _, Nat.zero_le _⟩ (hk44 i45 l46 dd47 x48 hp49).2
    | 2, _ =>
        have c3 : (i1 157 8).toInt = 3 := by simpa using c3
        refine ab_tabIn (tgt := 102) dX2_readLine_62 (by rw [c3]; decide) (by rw [c3]; decide) (off := 40) (by rw [c3]; rfl) (by decide) ?_
        refine ab_aloadn dX2_readLine_102 rfl ?_
        obtain ⟨r50, P51, hs52, hk53⟩ := ((h i1 e2).2.2.2.1 c3)
        refine ab_callV (vs := []) (st := []) dX2_readLine_103 okMX2_readWay wd_610 kd_157 rfl rfl rfl (Nat.le_of_ble_eq_true rfl) ⟨Nat.le_of_ble_eq_true rfl, Nat.le_of_ble_eq_true rfl⟩ hs52 ?_
        rintro v9 ⟨i54, l55, dd56, x57⟩ E9 - ⟨rfl, rfl, hp58⟩
        show ab_Fr MX2_readLine (d + 1) Q 106 [some (.ref 157)] [.int r50] (0, 0) (i54, l55, dd56, x57) (ab_E0 sc)
        exact ab_zret dX2_readLine_106 rfl (hk53 i54 l55 dd56 x57 hp58).1 ⟨Nat.zero_le _, Nat.zero_le _⟩ (hk53 i54 l55 dd56 x57 hp58).2
    | 3, _ =>
        have c3 : (i1 157 8).toInt = 4 := by simpa using c3
        refine ab_tabIn (tgt := 107) dX2_readLine_62 (by rw [c3]; decide) (by rw [c3]; decide) (off := 45) (by rw [c3]; rfl) (by decide) ?_
        refine ab_aloadn dX2_readLine_107 rfl ?_
        obtain ⟨r59, P60, hs61, hk62⟩ := ((h i1 e2).2.2.2.2 c3)
        refine ab_callV (vs := []) (st := []) dX2_readLine_108 okMX2_readWeight wd_616 kd_157 rfl rfl rfl (Nat.le_of_ble_eq_true rfl) ⟨Nat.le_of_ble_eq_true rfl, Nat.le_of_ble_eq_true rfl⟩ hs61 ?_
        rintro v9 ⟨i63, l64, dd65, x66⟩ E9 - ⟨rfl, rfl, hp67⟩
        show ab_Fr MX2_readLine (d + 1) Q 111 [some (.ref 157)] [.int r59] (0, 0) (i63, l64, dd65, x66) (ab_E0 sc)
        exact ab_zret dX2_readLine_111 rfl (hk62 i63 l64 dd65 x66 hp67).1 ⟨Nat.zero_le _, Nat.zero_le _⟩ (hk62 i63 l64 dd65 x66 hp67).2
    | n + 4, hq => exact absurd hq (by omega)
theorem tMX2_fail_0 {d : Nat} {Q : ab_Qt} {sc : Nat × (Nat → Int32)} {i : Nat → Nat → Int32} {l : Nat → Nat → Int64} {dd : Nat → Nat → Value} {x : Nat} {a1 : Int32} 
    (h : (∀ i1, i1 = ab_u i 157 0 a1 → Q (some (some (.int 0))) (i1, l, dd, x) (ab_E0 sc))) :
    ab_Fr MX2_fail (d + 1) Q 0 [some (.ref 157), some (.int a1)] [] (0, 0) (i, l, dd, x) (ab_E0 sc) := by
  refine ab_aloadn dX2_fail_0 rfl ?_
  refine ab_iloadn dX2_fail_1 rfl ?_
  refine ab_putI dX2_fail_2 fl_X2_39 kd_157 rfl ?_
  obtain ⟨i1, e2⟩ : ∃ z, z = ab_u i 157 0 a1 := ⟨_, rfl⟩
  show ab_Fr MX2_fail (d + 1) Q 5 [some (.ref 157), some (.int a1)] [] (0, 0) (ab_u i 157 0 a1, l, dd, x) (ab_E0 sc)
  rw [show ab_u i 157 0 a1 = i1 from e2.symm]
  refine ab_iconst (v := 0) dX2_fail_5 (by decide) ?_
  exact ab_zret dX2_fail_6 rfl (by decide) ⟨Nat.zero_le _, Nat.zero_le _⟩ (h i1 e2)
theorem tMX2_readTruth_0 {d : Nat} {Q : ab_Qt} {sc : Nat × (Nat → Int32)} {i : Nat → Nat → Int32} {l : Nat → Nat → Int64} {dd : Nat → Nat → Value} {x : Nat}  
    (h : ((¬ (i 157 3) = 0 → ab_Fr MX2_readTruth (d + 1) Q 18 [some (.ref 157)] [] (0, 0) (i, l, dd, x) (ab_E0 sc)) ∧ ((i 157 3) = 0 → (∃ m2, dd 157 2 = .ref m2 ∧ ab_isM m2 ∧ (((i m2 0) < 3 → (∃ (r5 : Int32) (P6 : ab_S → Prop), ab_Sp MX2_someName d [.ref 157, .int 1] (i, l, dd, x) (ab_E0 sc) (some (.int r5)) P6 ∧ ∀ i9 l10 dd11 x12, P6 (i9, l10, dd11, x12) → ((¬ r5 = 0 → (∃ m15, dd11 157 2 = .ref m15 ∧ ab_isM m15 ∧ vp_in (i9 m15 0) 3 ∧ ∀ l17, l17 = ab_u l10 158 (i9 m15 0).toNatClampNeg (l10 157 7) → ∃ (r19 : Int32) (P20 : ab_S → Prop), ab_Sp MX2_someNumber d [.ref 157, .int 1, .int 19] (i9, l17, dd11, x12) (ab_E0 sc) (some (.int r19)) P20 ∧ ∀ i23 l24 dd25 x26, P20 (i23, l24, dd25, x26) → ((¬ r19 = 0 → (∃ m29, dd25 157 2 = .ref m29 ∧ ab_isM m29 ∧ vp_in (i23 m29 0) 3 ∧ ∀ i31, i31 = ab_u i23 (m29 + 1) (i23 m29 0).toNatClampNeg (i23 157 9) → ∀ i33, i33 = ab_u i31 m29 0 ((i31 m29 0) + 1) → ∃ (r35 : Int32) (P36 : ab_S → Prop), ab_Sp MX2_stop d [.ref 157] (i33, l24, dd25, x26) (ab_E0 sc) (some (.int r35)) P36 ∧ ∀ i39 l40 dd41 x42, P36 (i39, l40, dd41, x42) → (r35 = 0 ∨ r35 = 1) ∧ Q (some (some (.int r35))) (i39, l40, dd41, x42) (ab_E0 sc))) ∧ (r19 = 0 → Q (some (some (.int 0))) (i23, l24, dd25, x26) (ab_E0 sc))))) ∧ (r5 = 0 → Q (some (some (.int 0))) (i9, l10, dd11, x12) (ab_E0 sc))))) ∧ (¬ (i m2 0) < 3 → ab_Fr MX2_readTruth (d + 1) Q 18 [some (.ref 157)] [] (0, 0) (i, l, dd, x) (ab_E0 sc))))))) :
    ab_Fr MX2_readTruth (d + 1) Q 0 [some (.ref 157)] [] (0, 0) (i, l, dd, x) (ab_E0 sc) := by
  refine ab_aloadn dX2_readTruth_0 rfl ?_
  refine ab_getf (v := .int (i 157 3)) dX2_readTruth_1 fl_X2_31 kd_157 rfl ?_
  refine ab_if_ne (tgt := 18) dX2_readTruth_4 (by decide) (fun c1 => ?_) (fun c1 => ?_)
  · exact (h.1 c1)
  · refine ab_aloadn dX2_readTruth_7 rfl ?_
    obtain ⟨m2, hm3d, hm3, hm3t⟩ := (h.2 c1)
    refine ab_getf (v := .ref m2) dX2_readTruth_8 fl_X2_15 kd_157 hm3d ?_
    refine ab_getf (v := .int (i m2 0)) dX2_readTruth_11 fl_X2_120 (kM hm3) rfl ?_
    refine ab_iconst (v := 3) dX2_readTruth_14 (by decide) ?_
    refine ab_icmp_lt (tgt := 24) dX2_readTruth_15 (by decide) (fun c4 => ?_) (fun c4 => ?_)
    · refine ab_aloadn dX2_readTruth_24 rfl ?_
      refine ab_iconst (v := 1) dX2_readTruth_25 (by decide) ?_
      obtain ⟨r5, P6, hs7, hk8⟩ := (hm3t.1 c4)
      refine ab_callV (vs := [.int 1]) (st := []) dX2_readTruth_26 okMX2_someName wd_582 kd_157 rfl rfl rfl (Nat.le_of_ble_eq_true rfl) ⟨Nat.le_of_ble_eq_true rfl, Nat.le_of_ble_eq_true rfl⟩ hs7 ?_
      rintro v9 ⟨i9, l10, dd11, x12⟩ E9 - ⟨rfl, rfl, hp13⟩
      show ab_Fr MX2_readTruth (d + 1) Q 29 [some (.ref 157)] [.int r5] (0, 0) (i9, l10, dd11, x12) (ab_E0 sc)
      refine ab_if_ne (tgt := 34) dX2_readTruth_29 (by decide) (fun c14 => ?_) (fun c14 => ?_)
      · refine ab_aloadn dX2_readTruth_34 rfl ?_
        refine ab_getf (v := .ref 158) dX2_readTruth_35 fl_X2_19 kd_157 ff_157_12 ?_
        refine ab_aloadn dX2_readTruth_38 rfl ?_
        obtain ⟨m15, hm16d, hm16, hm16t⟩ := ((hk8 i9 l10 dd11 x12 hp13).1 c14)
        refine ab_getf (v := .ref m15) dX2_readTruth_39 fl_X2_15 kd_157 hm16d ?_
        refine ab_getf (v := .int (i9 m15 0)) dX2_readTruth_42 fl_X2_120 (kM hm16) rfl ?_
        refine ab_aloadn dX2_readTruth_45 rfl ?_
        refine ab_getf (v := .long (l10 157 7)) dX2_readTruth_46 fl_X2_86 kd_157 rfl ?_
        refine ab_lastore dX2_readTruth_49 kd_158 hm16t.1 ?_
        obtain ⟨l17, e18⟩ : ∃ z, z = ab_u l10 158 (i9 m15 0).toNatClampNeg (l10 157 7) := ⟨_, rfl⟩
        rw [show ab_u l10 158 (i9 m15 0).toNatClampNeg (l10 157 7) = l17 from e18.symm]
        refine ab_aloadn dX2_readTruth_50 rfl ?_
        refine ab_iconst (v := 1) dX2_readTruth_51 (by decide) ?_
        refine ab_bipush (v := 19) dX2_readTruth_52 (by decide) ?_
        obtain ⟨r19, P20, hs21, hk22⟩ := (hm16t.2 l17 e18)
        refine ab_callV (vs := [.int 1, .int 19]) (st := []) dX2_readTruth_54 okMX2_someNumber wd_588 kd_157 rfl rfl rfl (Nat.le_of_ble_eq_true rfl) ⟨Nat.le_of_ble_eq_true rfl, Nat.le_of_ble_eq_true rfl⟩ hs21 ?_
        rintro v9 ⟨i23, l24, dd25, x26⟩ E9 - ⟨rfl, rfl, hp27⟩
        show ab_Fr MX2_readTruth (d + 1) Q 57 [some (.ref 157)] [.int r19] (0, 0) (i23, l24, dd25, x26) (ab_E0 sc)
        refine ab_if_ne (tgt := 62) dX2_readTruth_57 (by decide) (fun c28 => ?_) (fun c28 => ?_)
        · refine ab_aloadn dX2_readTruth_62 rfl ?_
          obtain ⟨m29, hm30d, hm30, hm30t⟩ := ((hk22 i23 l24 dd25 x26 hp27).1 c28)
          refine ab_getf (v := .ref m29) dX2_readTruth_63 fl_X2_15 kd_157 hm30d ?_
          refine ab_getf (v := .ref (m29 + 1)) dX2_readTruth_66 fl_X2_123 (kM hm30) (fM_6 hm30) ?_
          refine ab_aloadn dX2_readTruth_69 rfl ?_
          refine ab_getf (v := .ref m29) dX2_readTruth_70 fl_X2_15 kd_157 hm30d ?_
          refine ab_getf (v := .int (i23 m29 0)) dX2_readTruth_73 fl_X2_120 (kM hm30) rfl ?_
          refine ab_aloadn dX2_readTruth_76 rfl ?_
          refine ab_getf (v := .int (i23 157 9)) dX2_readTruth_77 fl_X2_90 kd_157 rfl ?_
          refine ab_iastore dX2_readTruth_80 (kM_1 hm30) hm30t.1 ?_
          obtain ⟨i31, e32⟩ : ∃ z, z = ab_u i23 (m29 + 1) (i23 m29 0).toNatClampNeg (i23 157 9) := ⟨_, rfl⟩
          rw [show ab_u i23 (m29 + 1) (i23 m29 0).toNatClampNeg (i23 157 9) = i31 from e32.symm]
          refine ab_aloadn dX2_readTruth_81 rfl ?_
          refine ab_getf (v := .ref m29) dX2_readTruth_82 fl_X2_15 kd_157 hm30d ?_
          refine ab_dup dX2_readTruth_85 rfl ?_
          refine ab_getf (v := .int (i31 m29 0)) dX2_readTruth_86 fl_X2_120 (kM hm30) rfl ?_
          refine ab_iconst (v := 1) dX2_readTruth_89 (by decide) ?_
          refine ab_iadd dX2_readTruth_90 ?_
          refine ab_putI dX2_readTruth_91 fl_X2_120 (kM hm30) rfl ?_
          obtain ⟨i33, e34⟩ : ∃ z, z = ab_u i31 m29 0 ((i31 m29 0) + 1) := ⟨_, rfl⟩
          show ab_Fr MX2_readTruth (d + 1) Q 94 [some (.ref 157)] [] (0, 0) (ab_u i31 m29 0 ((i31 m29 0) + 1), l24, dd25, x26) (ab_E0 sc)
          rw [show ab_u i31 m29 0 ((i31 m29 0) + 1) = i33 from e34.symm]
          refine ab_aloadn dX2_readTruth_94 rfl ?_
          obtain ⟨r35, P36, hs37, hk38⟩ := ((hm30t.2 i31 e32) i33 e34)
          refine ab_callV (vs := []) (st := []) dX2_readTruth_95 okMX2_stop wd_591 kd_157 rfl rfl rfl (Nat.le_of_ble_eq_true rfl) ⟨Nat.le_of_ble_eq_true rfl, Nat.le_of_ble_eq_true rfl⟩ hs37 ?_
          rintro v9 ⟨i39, l40, dd41, x42⟩ E9 - ⟨rfl, rfl, hp43⟩
          show ab_Fr MX2_readTruth (d + 1) Q 98 [some (.ref 157)] [.int r35] (0, 0) (i39, l40, dd41, x42) (ab_E0 sc)
          exact ab_zret dX2_readTruth_98 rfl (hk38 i39 l40 dd41 x42 hp43).1 ⟨Nat.zero_le _, Nat.zero_le _⟩ (hk38 i39 l40 dd41 x42 hp43).2
        · refine ab_iconst (v := 0) dX2_readTruth_60 (by decide) ?_
          exact ab_zret dX2_readTruth_61 rfl (by decide) ⟨Nat.zero_le _, Nat.zero_le _⟩ ((hk22 i23 l24 dd25 x26 hp27).2 c28)
      · refine ab_iconst (v := 0) dX2_readTruth_32 (by decide) ?_
        exact ab_zret dX2_readTruth_33 rfl (by decide) ⟨Nat.zero_le _, Nat.zero_le _⟩ ((hk8 i9 l10 dd11 x12 hp13).2 c14)
    · exact (hm3t.2 c4)
theorem tMX2_readTruth_18 {d : Nat} {Q : ab_Qt} {sc : Nat × (Nat → Int32)} {i : Nat → Nat → Int32} {l : Nat → Nat → Int64} {dd : Nat → Nat → Value} {x : Nat}  
    (h : (∃ (r1 : Int32) (P2 : ab_S → Prop), ab_Sp MX2_fail d [.ref 157, .int 4] (i, l, dd, x) (ab_E0 sc) (some (.int r1)) P2 ∧ ∀ i5 l6 dd7 x8, P2 (i5, l6, dd7, x8) → (r1 = 0 ∨ r1 = 1) ∧ Q (some (some (.int r1))) (i5, l6, dd7, x8) (ab_E0 sc))) :
    ab_Fr MX2_readTruth (d + 1) Q 18 [some (.ref 157)] [] (0, 0) (i, l, dd, x) (ab_E0 sc) := by
  refine ab_aloadn dX2_readTruth_18 rfl ?_
  refine ab_iconst (v := 4) dX2_readTruth_19 (by decide) ?_
  obtain ⟨r1, P2, hs3, hk4⟩ := h
  refine ab_callV (vs := [.int 4]) (st := []) dX2_readTruth_20 okMX2_fail wd_576 kd_157 rfl rfl rfl (Nat.le_of_ble_eq_true rfl) ⟨Nat.le_of_ble_eq_true rfl, Nat.le_of_ble_eq_true rfl⟩ hs3 ?_
  rintro v9 ⟨i5, l6, dd7, x8⟩ E9 - ⟨rfl, rfl, hp9⟩
  show ab_Fr MX2_readTruth (d + 1) Q 23 [some (.ref 157)] [.int r1] (0, 0) (i5, l6, dd7, x8) (ab_E0 sc)
  exact ab_zret dX2_readTruth_23 rfl (hk4 i5 l6 dd7 x8 hp9).1 ⟨Nat.zero_le _, Nat.zero_le _⟩ (hk4 i5 l6 dd7 x8 hp9).2
theorem tMX2_someName_0 {d : Nat} {Q : ab_Qt} {sc : Nat × (Nat → Int32)} {i : Nat → Nat → Int32} {l : Nat → Nat → Int64} {dd : Nat → Nat → Value} {x : Nat} {a1 : Int32} 
    (h : (∃ (P2 : ab_S → Prop), ab_Sp MX2_next d [.ref 157] (i, l, dd, x) (ab_E0 sc) (none) P2 ∧ ∀ i5 l6 dd7 x8, P2 (i5, l6, dd7, x8) → ∃ (r10 : Int32) (P11 : ab_S → Prop), ab_Sp MX2_isName d [.ref 157, .int a1] (i5, l6, dd7, x8) (ab_E0 sc) (some (.int r10)) P11 ∧ ∀ i14 l15 dd16 x17, P11 (i14, l15, dd16, x17) → (r10 = 0 ∨ r10 = 1) ∧ Q (some (some (.int r10))) (i14, l15, dd16, x17) (ab_E0 sc))) :
    ab_Fr MX2_someName (d + 1) Q 0 [some (.ref 157), some (.int a1)] [] (0, 0) (i, l, dd, x) (ab_E0 sc) := by
  refine ab_aloadn dX2_someName_0 rfl ?_
  obtain ⟨P2, hs3, hk4⟩ := h
  refine ab_callV (vs := []) (st := []) dX2_someName_1 okMX2_next wd_560 kd_157 rfl rfl rfl (Nat.le_of_ble_eq_true rfl) ⟨Nat.le_of_ble_eq_true rfl, Nat.le_of_ble_eq_true rfl⟩ hs3 ?_
  rintro v9 ⟨i5, l6, dd7, x8⟩ E9 - ⟨rfl, rfl, hp9⟩
  show ab_Fr MX2_someName (d + 1) Q 4 [some (.ref 157), some (.int a1)] [] (0, 0) (i5, l6, dd7, x8) (ab_E0 sc)
  refine ab_aloadn dX2_someName_4 rfl ?_
  refine ab_iloadn dX2_someName_5 rfl ?_
  obtain ⟨r10, P11, hs12, hk13⟩ := (hk4 i5 l6 dd7 x8 hp9)
  refine ab_callV (vs := [.int a1]) (st := []) dX2_someName_6 okMX2_isName wd_585 kd_157 rfl rfl rfl (Nat.le_of_ble_eq_true rfl) ⟨Nat.le_of_ble_eq_true rfl, Nat.le_of_ble_eq_true rfl⟩ hs12 ?_
  rintro v9 ⟨i14, l15, dd16, x17⟩ E9 - ⟨rfl, rfl, hp18⟩
  show ab_Fr MX2_someName (d + 1) Q 9 [some (.ref 157), some (.int a1)] [.int r10] (0, 0) (i14, l15, dd16, x17) (ab_E0 sc)
  exact ab_zret dX2_someName_9 rfl (hk13 i14 l15 dd16 x17 hp18).1 ⟨Nat.zero_le _, Nat.zero_le _⟩ (hk13 i14 l15 dd16 x17 hp18).2
theorem tMX2_isName_0 {d : Nat} {Q : ab_Qt} {sc : Nat × (Nat → Int32)} {i : Nat → Nat → Int32} {l : Nat → Nat → Int64} {dd : Nat → Nat → Value} {x : Nat} {a1 : Int32} 
    (h : ((¬ (i 157 6) = 0 → ab_Fr MX2_isName (d + 1) Q 15 [some (.ref 157), none, none, none] [] (0, 0) (i, l, dd, x) (ab_E0 sc)) ∧ ((i 157 6) = 0 → (((i 157 8) = (-1) → (∀ i3, i3 = ab_u i 157 10 (-1) → ab_Fr MX2_isName (d + 1) Q 30 [some (.ref 157), some (.int a1), some (.int 1), some (.int 0)] [] (0, 0) (i3, l, dd, x) (ab_E0 sc))) ∧ (¬ (i 157 8) = (-1) → ab_Fr MX2_isName (d + 1) Q 15 [some (.ref 157), none, none, none] [] (0, 0) (i, l, dd, x) (ab_E0 sc)))))) :
    ab_Fr MX2_isName (d + 1) Q 0 [some (.ref 157), some (.int a1), none, none] [] (0, 0) (i, l, dd, x) (ab_E0 sc) := by
  refine ab_aloadn dX2_isName_0 rfl ?_
  refine ab_getf (v := .int (i 157 6)) dX2_isName_1 fl_X2_45 kd_157 rfl ?_
  refine ab_if_ne (tgt := 15) dX2_isName_4 (by decide) (fun c1 => ?_) (fun c1 => ?_)
  · refine ab_forget (i := 1) (L2 := [some (.ref 157), none, none, none]) rfl ?_
    exact (h.1 c1)
  · refine ab_aloadn dX2_isName_7 rfl ?_
    refine ab_getf (v := .int (i 157 8)) dX2_isName_8 fl_X2_74 kd_157 rfl ?_
    refine ab_iconst (v := (-1)) dX2_isName_11 (by decide) ?_
    refine ab_icmp_eq (tgt := 21) dX2_isName_12 (by decide) (fun c2 => ?_) (fun c2 => ?_)
    · refine ab_iconst (v := 1) dX2_isName_21 (by decide) ?_
      refine ab_istoren dX2_isName_22 (Nat.le_of_ble_eq_true rfl) (L2 := [some (.ref 157), some (.int a1), some (.int 1), none]) rfl ?_
      refine ab_aloadn dX2_isName_23 rfl ?_
      refine ab_iconst (v := (-1)) dX2_isName_24 (by decide) ?_
      refine ab_putI dX2_isName_25 fl_X2_171 kd_157 rfl ?_
      obtain ⟨i3, e4⟩ : ∃ z, z = ab_u i 157 10 (-1) := ⟨_, rfl⟩
      show ab_Fr MX2_isName (d + 1) Q 28 [some (.ref 157), some (.int a1), some (.int 1), none] [] (0, 0) (ab_u i 157 10 (-1), l, dd, x) (ab_E0 sc)
      rw [show ab_u i 157 10 (-1) = i3 from e4.symm]
      refine ab_iconst (v := 0) dX2_isName_28 (by decide) ?_
      refine ab_istoren dX2_isName_29 (Nat.le_of_ble_eq_true rfl) (L2 := [some (.ref 157), some (.int a1), some (.int 1), some (.int 0)]) rfl ?_
      exact (((h.2 c1).1 c2) i3 e4)
    · refine ab_forget (i := 1) (L2 := [some (.ref 157), none, none, none]) rfl ?_
      exact ((h.2 c1).2 c2)
theorem tMX2_isName_15 {d : Nat} {Q : ab_Qt} {sc : Nat × (Nat → Int32)} {i : Nat → Nat → Int32} {l : Nat → Nat → Int64} {dd : Nat → Nat → Value} {x : Nat}  
    (h : (∃ (r1 : Int32) (P2 : ab_S → Prop), ab_Sp MX2_fail d [.ref 157, .int 1] (i, l, dd, x) (ab_E0 sc) (some (.int r1)) P2 ∧ ∀ i5 l6 dd7 x8, P2 (i5, l6, dd7, x8) → (r1 = 0 ∨ r1 = 1) ∧ Q (some (some (.int r1))) (i5, l6, dd7, x8) (ab_E0 sc))) :
    ab_Fr MX2_isName (d + 1) Q 15 [some (.ref 157), none, none, none] [] (0, 0) (i, l, dd, x) (ab_E0 sc) := by
  refine ab_aloadn dX2_isName_15 rfl ?_
  refine ab_iconst (v := 1) dX2_isName_16 (by decide) ?_
  obtain ⟨r1, P2, hs3, hk4⟩ := h
  refine ab_callV (vs := [.int 1]) (st := []) dX2_isName_17 okMX2_fail wd_576 kd_157 rfl rfl rfl (Nat.le_of_ble_eq_true rfl) ⟨Nat.le_of_ble_eq_true rfl, Nat.le_of_ble_eq_true rfl⟩ hs3 ?_
  rintro v9 ⟨i5, l6, dd7, x8⟩ E9 - ⟨rfl, rfl, hp9⟩
  show ab_Fr MX2_isName (d + 1) Q 20 [some (.ref 157), none, none, none] [.int r1] (0, 0) (i5, l6, dd7, x8) (ab_E0 sc)
  exact ab_zret dX2_isName_20 rfl (hk4 i5 l6 dd7 x8 hp9).1 ⟨Nat.zero_le _, Nat.zero_le _⟩ (hk4 i5 l6 dd7 x8 hp9).2
theorem tMX2_isName_30 {d : Nat} {Q : ab_Qt} {sc : Nat × (Nat → Int32)} {i : Nat → Nat → Int32} {l : Nat → Nat → Int64} {dd : Nat → Nat → Value} {x : Nat} {a1 : Int32} {a2 : Int32} {a3 : Int32} 
    (h : (∃ m1, dd 157 2 = .ref m1 ∧ ab_isM m1 ∧ (((i m1 0) ≤ a3 → (∀ i4, i4 = ab_u i 157 11 (-1) → ab_Fr MX2_isName (d + 1) Q 75 [some (.ref 157), some (.int a1), some (.int a2), some (.int 0)] [] (0, 0) (i4, l, dd, x) (ab_E0 sc))) ∧ (¬ (i m1 0) ≤ a3 → (vp_in a3 3 ∧ ((¬ (l 158 a3.toNatClampNeg) = (l 157 7) → ab_Fr MX2_isName (d + 1) Q 30 [some (.ref 157), some (.int a1), some (.int a2), some (.int (a3 + 1))] [] (0, 0) (i, l, dd, x) (ab_E0 sc)) ∧ ((l 158 a3.toNatClampNeg) = (l 157 7) → (∀ i7, i7 = ab_u i 157 10 a3 → ab_Fr MX2_isName (d + 1) Q 30 [some (.ref 157), some (.int a1), some (.int 2), some (.int (a3 + 1))] [] (0, 0) (i7, l, dd, x) (ab_E0 sc))))))))) :
    ab_Fr MX2_isName (d + 1) Q 30 [some (.ref 157), some (.int a1), some (.int a2), some (.int a3)] [] (0, 0) (i, l, dd, x) (ab_E0 sc) := by
  refine ab_iloadn dX2_isName_30 rfl ?_
  refine ab_aloadn dX2_isName_31 rfl ?_
  obtain ⟨m1, hm2d, hm2, hm2t⟩ := h
  refine ab_getf (v := .ref m1) dX2_isName_32 fl_X2_15 kd_157 hm2d ?_
  refine ab_getf (v := .int (i m1 0)) dX2_isName_35 fl_X2_120 (kM hm2) rfl ?_
  refine ab_icmp_ge (tgt := 68) dX2_isName_38 (by decide) (fun c3 => ?_) (fun c3 => ?_)
  · refine ab_aloadn dX2_isName_68 rfl ?_
    refine ab_iconst (v := (-1)) dX2_isName_69 (by decide) ?_
    refine ab_putI dX2_isName_70 fl_X2_166 kd_157 rfl ?_
    obtain ⟨i4, e5⟩ : ∃ z, z = ab_u i 157 11 (-1) := ⟨_, rfl⟩
    show ab_Fr MX2_isName (d + 1) Q 73 [some (.ref 157), some (.int a1), some (.int a2), some (.int a3)] [] (0, 0) (ab_u i 157 11 (-1), l, dd, x) (ab_E0 sc)
    rw [show ab_u i 157 11 (-1) = i4 from e5.symm]
    refine ab_iconst (v := 0) dX2_isName_73 (by decide) ?_
    refine ab_istoren dX2_isName_74 (Nat.le_of_ble_eq_true rfl) (L2 := [some (.ref 157), some (.int a1), some (.int a2), some (.int 0)]) rfl ?_
    exact ((hm2t.1 c3) i4 e5)
  · refine ab_aloadn dX2_isName_41 rfl ?_
    refine ab_getf (v := .ref 158) dX2_isName_42 fl_X2_19 kd_157 ff_157_12 ?_
    refine ab_iloadn dX2_isName_45 rfl ?_
    refine ab_laload (v := (l 158 a3.toNatClampNeg)) dX2_isName_46 kd_158 (hm2t.2 c3).1 rfl ?_
    refine ab_aloadn dX2_isName_47 rfl ?_
    refine ab_getf (v := .long (l 157 7)) dX2_isName_48 fl_X2_86 kd_157 rfl ?_
    refine ab_lcne (tgt := 62) dX2_isName_51 dX2_isName_52 (by decide) (fun c6 => ?_) (fun c6 => ?_)
    · refine ab_iinc (v := (a3 + 1)) dX2_isName_62 rfl (by rfl) (Nat.le_of_ble_eq_true rfl) (L2 := [some (.ref 157), some (.int a1), some (.int a2), some (.int (a3 + 1))]) rfl ?_
      refine ab_goto (tgt := 30) dX2_isName_65 (by decide) ?_
      exact ((hm2t.2 c3).2.1 c6)
    · refine ab_aloadn dX2_isName_55 rfl ?_
      refine ab_iloadn dX2_isName_56 rfl ?_
      refine ab_putI dX2_isName_57 fl_X2_171 kd_157 rfl ?_
      obtain ⟨i7, e8⟩ : ∃ z, z = ab_u i 157 10 a3 := ⟨_, rfl⟩
      show ab_Fr MX2_isName (d + 1) Q 60 [some (.ref 157), some (.int a1), some (.int a2), some (.int a3)] [] (0, 0) (ab_u i 157 10 a3, l, dd, x) (ab_E0 sc)
      rw [show ab_u i 157 10 a3 = i7 from e8.symm]
      refine ab_iconst (v := 2) dX2_isName_60 (by decide) ?_
      refine ab_istoren dX2_isName_61 (Nat.le_of_ble_eq_true rfl) (L2 := [some (.ref 157), some (.int a1), some (.int 2), some (.int a3)]) rfl ?_
      refine ab_iinc (v := (a3 + 1)) dX2_isName_62 rfl (by rfl) (Nat.le_of_ble_eq_true rfl) (L2 := [some (.ref 157), some (.int a1), some (.int 2), some (.int (a3 + 1))]) rfl ?_
      refine ab_goto (tgt := 30) dX2_isName_65 (by decide) ?_
      exact (((hm2t.2 c3).2.2 c6) i7 e8)
theorem tMX2_isName_75 {d : Nat} {Q : ab_Qt} {sc : Nat × (Nat → Int32)} {i : Nat → Nat → Int32} {l : Nat → Nat → Int64} {dd : Nat → Nat → Value} {x : Nat} {a1 : Int32} {a2 : Int32} {a3 : Int32} 
    (h : (∃ m1, dd 157 2 = .ref m1 ∧ ab_isM m1 ∧ (((i m1 1) ≤ a3 → ((¬ (a1 &&& a2) = 0 → Q (some (some (.int 1))) (i, l, dd, x) (ab_E0 sc)) ∧ ((a1 &&& a2) = 0 → (∃ (r5 : Int32) (P6 : ab_S → Prop), ab_Sp MX2_fail d [.ref 157, .int 3] (i, l, dd, x) (ab_E0 sc) (some (.int r5)) P6 ∧ ∀ i9 l10 dd11 x12, P6 (i9, l10, dd11, x12) → ((r5 = 0 → Q (some (some (.int 0))) (i9, l10, dd11, x12) (ab_E0 sc)) ∧ (¬ r5 = 0 → Q (some (some (.int 1))) (i9, l10, dd11, x12) (ab_E0 sc))))))) ∧ (¬ (i m1 1) ≤ a3 → (vp_in a3 7 ∧ ((¬ (l 159 a3.toNatClampNeg) = (l 157 7) → ab_Fr MX2_isName (d + 1) Q 75 [some (.ref 157), some (.int a1), some (.int a2), some (.int (a3 + 1))] [] (0, 0) (i, l, dd, x) (ab_E0 sc)) ∧ ((l 159 a3.toNatClampNeg) = (l 157 7) → (∀ i16, i16 = ab_u i 157 11 a3 → ab_Fr MX2_isName (d + 1) Q 75 [some (.ref 157), some (.int a1), some (.int 4), some (.int (a3 + 1))] [] (0, 0) (i16, l, dd, x) (ab_E0 sc))))))))) :
    ab_Fr MX2_isName (d + 1) Q 75 [some (.ref 157), some (.int a1), some (.int a2), some (.int a3)] [] (0, 0) (i, l, dd, x) (ab_E0 sc) := by
  refine ab_iloadn dX2_isName_75 rfl ?_
  refine ab_aloadn dX2_isName_76 rfl ?_
  obtain ⟨m1, hm2d, hm2, hm2t⟩ := h
  refine ab_getf (v := .ref m1) dX2_isName_77 fl_X2_15 kd_157 hm2d ?_
  refine ab_getf (v := .int (i m1 1)) dX2_isName_80 fl_X2_136 (kM hm2) rfl ?_
  refine ab_icmp_ge (tgt := 113) dX2_isName_83 (by decide) (fun c3 => ?_) (fun c3 => ?_)
  · refine ab_iloadn dX2_isName_113 rfl ?_
    refine ab_iloadn dX2_isName_114 rfl ?_
    refine ab_iand dX2_isName_115 ?_
    refine ab_if_ne (tgt := 127) dX2_isName_116 (by decide) (fun c4 => ?_) (fun c4 => ?_)
    · refine ab_iconst (v := 1) dX2_isName_127 (by decide) ?_
      refine ab_goto (tgt := 132) dX2_isName_128 (by decide) ?_
      exact ab_zret dX2_isName_132 rfl (by decide) ⟨Nat.zero_le _, Nat.zero_le _⟩ ((hm2t.1 c3).1 c4)
    · refine ab_aloadn dX2_isName_119 rfl ?_
      refine ab_iconst (v := 3) dX2_isName_120 (by decide) ?_
      obtain ⟨r5, P6, hs7, hk8⟩ := ((hm2t.1 c3).2 c4)
      refine ab_callV (vs := [.int 3]) (st := []) dX2_isName_121 okMX2_fail wd_576 kd_157 rfl rfl rfl (Nat.le_of_ble_eq_true rfl) ⟨Nat.le_of_ble_eq_true rfl, Nat.le_of_ble_eq_true rfl⟩ hs7 ?_
      rintro v9 ⟨i9, l10, dd11, x12⟩ E9 - ⟨rfl, rfl, hp13⟩
      show ab_Fr MX2_isName (d + 1) Q 124 [some (.ref 157), some (.int a1), some (.int a2), some (.int a3)] [.int r5] (0, 0) (i9, l10, dd11, x12) (ab_E0 sc)
      refine ab_if_eq (tgt := 131) dX2_isName_124 (by decide) (fun c14 => ?_) (fun c14 => ?_)
      · refine ab_iconst (v := 0) dX2_isName_131 (by decide) ?_
        exact ab_zret dX2_isName_132 rfl (by decide) ⟨Nat.zero_le _, Nat.zero_le _⟩ ((hk8 i9 l10 dd11 x12 hp13).1 c14)
      · refine ab_iconst (v := 1) dX2_isName_127 (by decide) ?_
        refine ab_goto (tgt := 132) dX2_isName_128 (by decide) ?_
        exact ab_zret dX2_isName_132 rfl (by decide) ⟨Nat.zero_le _, Nat.zero_le _⟩ ((hk8 i9 l10 dd11 x12 hp13).2 c14)
  · refine ab_aloadn dX2_isName_86 rfl ?_
    refine ab_getf (v := .ref 159) dX2_isName_87 fl_X2_23 kd_157 ff_157_13 ?_
    refine ab_iloadn dX2_isName_90 rfl ?_
    refine ab_laload (v := (l 159 a3.toNatClampNeg)) dX2_isName_91 kd_159 (hm2t.2 c3).1 rfl ?_
    refine ab_aloadn dX2_isName_92 rfl ?_
    refine ab_getf (v := .long (l 157 7)) dX2_isName_93 fl_X2_86 kd_157 rfl ?_
    refine ab_lcne (tgt := 107) dX2_isName_96 dX2_isName_97 (by decide) (fun c15 => ?_) (fun c15 => ?_)
    · refine ab_iinc (v := (a3 + 1)) dX2_isName_107 rfl (by rfl) (Nat.le_of_ble_eq_true rfl) (L2 := [some (.ref 157), some (.int a1), some (.int a2), some (.int (a3 + 1))]) rfl ?_
      refine ab_goto (tgt := 75) dX2_isName_110 (by decide) ?_
      exact ((hm2t.2 c3).2.1 c15)
    · refine ab_aloadn dX2_isName_100 rfl ?_
      refine ab_iloadn dX2_isName_101 rfl ?_
      refine ab_putI dX2_isName_102 fl_X2_166 kd_157 rfl ?_
      obtain ⟨i16, e17⟩ : ∃ z, z = ab_u i 157 11 a3 := ⟨_, rfl⟩
      show ab_Fr MX2_isName (d + 1) Q 105 [some (.ref 157), some (.int a1), some (.int a2), some (.int a3)] [] (0, 0) (ab_u i 157 11 a3, l, dd, x) (ab_E0 sc)
      rw [show ab_u i 157 11 a3 = i16 from e17.symm]
      refine ab_iconst (v := 4) dX2_isName_105 (by decide) ?_
      refine ab_istoren dX2_isName_106 (Nat.le_of_ble_eq_true rfl) (L2 := [some (.ref 157), some (.int a1), some (.int 4), some (.int a3)]) rfl ?_
      refine ab_iinc (v := (a3 + 1)) dX2_isName_107 rfl (by rfl) (Nat.le_of_ble_eq_true rfl) (L2 := [some (.ref 157), some (.int a1), some (.int 4), some (.int (a3 + 1))]) rfl ?_
      refine ab_goto (tgt := 75) dX2_isName_110 (by decide) ?_
      exact (((hm2t.2 c3).2.2 c15) i16 e17)
theorem tMX2_someNumber_0 {d : Nat} {Q : ab_Qt} {sc : Nat × (Nat → Int32)} {i : Nat → Nat → Int32} {l : Nat → Nat → Int64} {dd : Nat → Nat → Value} {x : Nat} {a1 : Int32} {a2 : Int32} 
    (h : (∃ (P2 : ab_S → Prop), ab_Sp MX2_next d [.ref 157] (i, l, dd, x) (ab_E0 sc) (none) P2 ∧ ∀ i5 l6 dd7 x8, P2 (i5, l6, dd7, x8) → (((i5 157 6) = 1 → (((i5 157 9) < a1 → ab_Fr MX2_someNumber (d + 1) Q 34 [some (.ref 157), none, none] [] (0, 0) (i5, l6, dd7, x8) (ab_E0 sc)) ∧ (¬ (i5 157 9) < a1 → (((i5 157 9) ≤ a2 → Q (some (some (.int 1))) (i5, l6, dd7, x8) (ab_E0 sc)) ∧ (¬ (i5 157 9) ≤ a2 → ab_Fr MX2_someNumber (d + 1) Q 34 [some (.ref 157), none, none] [] (0, 0) (i5, l6, dd7, x8) (ab_E0 sc)))))) ∧ (¬ (i5 157 6) = 1 → (∃ (r13 : Int32) (P14 : ab_S → Prop), ab_Sp MX2_fail d [.ref 157, .int 1] (i5, l6, dd7, x8) (ab_E0 sc) (some (.int r13)) P14 ∧ ∀ i17 l18 dd19 x20, P14 (i17, l18, dd19, x20) → (r13 = 0 ∨ r13 = 1) ∧ Q (some (some (.int r13))) (i17, l18, dd19, x20) (ab_E0 sc)))))) :
    ab_Fr MX2_someNumber (d + 1) Q 0 [some (.ref 157), some (.int a1), some (.int a2)] [] (0, 0) (i, l, dd, x) (ab_E0 sc) := by
  refine ab_aloadn dX2_someNumber_0 rfl ?_
  obtain ⟨P2, hs3, hk4⟩ := h
  refine ab_callV (vs := []) (st := []) dX2_someNumber_1 okMX2_next wd_560 kd_157 rfl rfl rfl (Nat.le_of_ble_eq_true rfl) ⟨Nat.le_of_ble_eq_true rfl, Nat.le_of_ble_eq_true rfl⟩ hs3 ?_
  rintro v9 ⟨i5, l6, dd7, x8⟩ E9 - ⟨rfl, rfl, hp9⟩
  show ab_Fr MX2_someNumber (d + 1) Q 4 [some (.ref 157), some (.int a1), some (.int a2)] [] (0, 0) (i5, l6, dd7, x8) (ab_E0 sc)
  refine ab_aloadn dX2_someNumber_4 rfl ?_
  refine ab_getf (v := .int (i5 157 6)) dX2_someNumber_5 fl_X2_45 kd_157 rfl ?_
  refine ab_iconst (v := 1) dX2_someNumber_8 (by decide) ?_
  refine ab_icmp_eq (tgt := 18) dX2_someNumber_9 (by decide) (fun c10 => ?_) (fun c10 => ?_)
  · refine ab_aloadn dX2_someNumber_18 rfl ?_
    refine ab_getf (v := .int (i5 157 9)) dX2_someNumber_19 fl_X2_90 kd_157 rfl ?_
    refine ab_iloadn dX2_someNumber_22 rfl ?_
    refine ab_icmp_lt (tgt := 34) dX2_someNumber_23 (by decide) (fun c11 => ?_) (fun c11 => ?_)
    · refine ab_forget (i := 1) (L2 := [some (.ref 157), none, some (.int a2)]) rfl ?_
      refine ab_forget (i := 2) (L2 := [some (.ref 157), none, none]) rfl ?_
      exact (((hk4 i5 l6 dd7 x8 hp9).1 c10).1 c11)
    · refine ab_aloadn dX2_someNumber_26 rfl ?_
      refine ab_getf (v := .int (i5 157 9)) dX2_someNumber_27 fl_X2_90 kd_157 rfl ?_
      refine ab_iloadn dX2_someNumber_30 rfl ?_
      refine ab_icmp_le (tgt := 42) dX2_someNumber_31 (by decide) (fun c12 => ?_) (fun c12 => ?_)
      · refine ab_iconst (v := 1) dX2_someNumber_42 (by decide) ?_
        refine ab_goto (tgt := 47) dX2_someNumber_43 (by decide) ?_
        exact ab_zret dX2_someNumber_47 rfl (by decide) ⟨Nat.zero_le _, Nat.zero_le _⟩ ((((hk4 i5 l6 dd7 x8 hp9).1 c10).2 c11).1 c12)
      · refine ab_forget (i := 1) (L2 := [some (.ref 157), none, some (.int a2)]) rfl ?_
        refine ab_forget (i := 2) (L2 := [some (.ref 157), none, none]) rfl ?_
        exact ((((hk4 i5 l6 dd7 x8 hp9).1 c10).2 c11).2 c12)
  · refine ab_aloadn dX2_someNumber_12 rfl ?_
    refine ab_iconst (v := 1) dX2_someNumber_13 (by decide) ?_
    obtain ⟨r13, P14, hs15, hk16⟩ := ((hk4 i5 l6 dd7 x8 hp9).2 c10)
    refine ab_callV (vs := [.int 1]) (st := []) dX2_someNumber_14 okMX2_fail wd_576 kd_157 rfl rfl rfl (Nat.le_of_ble_eq_true rfl) ⟨Nat.le_of_ble_eq_true rfl, Nat.le_of_ble_eq_true rfl⟩ hs15 ?_
    rintro v9 ⟨i17, l18, dd19, x20⟩ E9 - ⟨rfl, rfl, hp21⟩
    show ab_Fr MX2_someNumber (d + 1) Q 17 [some (.ref 157), some (.int a1), some (.int a2)] [.int r13] (0, 0) (i17, l18, dd19, x20) (ab_E0 sc)
    exact ab_zret dX2_someNumber_17 rfl (hk16 i17 l18 dd19 x20 hp21).1 ⟨Nat.zero_le _, Nat.zero_le _⟩ (hk16 i17 l18 dd19 x20 hp21).2
theorem tMX2_someNumber_34 {d : Nat} {Q : ab_Qt} {sc : Nat × (Nat → Int32)} {i : Nat → Nat → Int32} {l : Nat → Nat → Int64} {dd : Nat → Nat → Value} {x : Nat}  
    (h : (∃ (r1 : Int32) (P2 : ab_S → Prop), ab_Sp MX2_fail d [.ref 157, .int 2] (i, l, dd, x) (ab_E0 sc) (some (.int r1)) P2 ∧ ∀ i5 l6 dd7 x8, P2 (i5, l6, dd7, x8) → ((r1 = 0 → Q (some (some (.int 0))) (i5, l6, dd7, x8) (ab_E0 sc)) ∧ (¬ r1 = 0 → Q (some (some (.int 1))) (i5, l6, dd7, x8) (ab_E0 sc))))) :
    ab_Fr MX2_someNumber (d + 1) Q 34 [some (.ref 157), none, none] [] (0, 0) (i, l, dd, x) (ab_E0 sc) := by
  refine ab_aloadn dX2_someNumber_34 rfl ?_
  refine ab_iconst (v := 2) dX2_someNumber_35 (by decide) ?_
  obtain ⟨r1, P2, hs3, hk4⟩ := h
  refine ab_callV (vs := [.int 2]) (st := []) dX2_someNumber_36 okMX2_fail wd_576 kd_157 rfl rfl rfl (Nat.le_of_ble_eq_true rfl) ⟨Nat.le_of_ble_eq_true rfl, Nat.le_of_ble_eq_true rfl⟩ hs3 ?_
  rintro v9 ⟨i5, l6, dd7, x8⟩ E9 - ⟨rfl, rfl, hp9⟩
  show ab_Fr MX2_someNumber (d + 1) Q 39 [some (.ref 157), none, none] [.int r1] (0, 0) (i5, l6, dd7, x8) (ab_E0 sc)
  refine ab_if_eq (tgt := 46) dX2_someNumber_39 (by decide) (fun c10 => ?_) (fun c10 => ?_)
  · refine ab_iconst (v := 0) dX2_someNumber_46 (by decide) ?_
    exact ab_zret dX2_someNumber_47 rfl (by decide) ⟨Nat.zero_le _, Nat.zero_le _⟩ ((hk4 i5 l6 dd7 x8 hp9).1 c10)
  · refine ab_iconst (v := 1) dX2_someNumber_42 (by decide) ?_
    refine ab_goto (tgt := 47) dX2_someNumber_43 (by decide) ?_
    exact ab_zret dX2_someNumber_47 rfl (by decide) ⟨Nat.zero_le _, Nat.zero_le _⟩ ((hk4 i5 l6 dd7 x8 hp9).2 c10)
theorem tMX2_stop_0 {d : Nat} {Q : ab_Qt} {sc : Nat × (Nat → Int32)} {i : Nat → Nat → Int32} {l : Nat → Nat → Int64} {dd : Nat → Nat → Value} {x : Nat}  
    (h : (∃ (P2 : ab_S → Prop), ab_Sp MX2_next d [.ref 157] (i, l, dd, x) (ab_E0 sc) (none) P2 ∧ ∀ i5 l6 dd7 x8, P2 (i5, l6, dd7, x8) → (((i5 157 6) = 2 → Q (some (some (.int 1))) (i5, l6, dd7, x8) (ab_E0 sc)) ∧ (¬ (i5 157 6) = 2 → (∃ (r11 : Int32) (P12 : ab_S → Prop), ab_Sp MX2_fail d [.ref 157, .int 1] (i5, l6, dd7, x8) (ab_E0 sc) (some (.int r11)) P12 ∧ ∀ i15 l16 dd17 x18, P12 (i15, l16, dd17, x18) → ((r11 = 0 → Q (some (some (.int 0))) (i15, l16, dd17, x18) (ab_E0 sc)) ∧ (¬ r11 = 0 → Q (some (some (.int 1))) (i15, l16, dd17, x18) (ab_E0 sc)))))))) :
    ab_Fr MX2_stop (d + 1) Q 0 [some (.ref 157)] [] (0, 0) (i, l, dd, x) (ab_E0 sc) := by
  refine ab_aloadn dX2_stop_0 rfl ?_
  obtain ⟨P2, hs3, hk4⟩ := h
  refine ab_callV (vs := []) (st := []) dX2_stop_1 okMX2_next wd_560 kd_157 rfl rfl rfl (Nat.le_of_ble_eq_true rfl) ⟨Nat.le_of_ble_eq_true rfl, Nat.le_of_ble_eq_true rfl⟩ hs3 ?_
  rintro v9 ⟨i5, l6, dd7, x8⟩ E9 - ⟨rfl, rfl, hp9⟩
  show ab_Fr MX2_stop (d + 1) Q 4 [some (.ref 157)] [] (0, 0) (i5, l6, dd7, x8) (ab_E0 sc)
  refine ab_aloadn dX2_stop_4 rfl ?_
  refine ab_getf (v := .int (i5 157 6)) dX2_stop_5 fl_X2_45 kd_157 rfl ?_
  refine ab_iconst (v := 2) dX2_stop_8 (by decide) ?_
  refine ab_icmp_eq (tgt := 20) dX2_stop_9 (by decide) (fun c10 => ?_) (fun c10 => ?_)
  · refine ab_iconst (v := 1) dX2_stop_20 (by decide) ?_
    refine ab_goto (tgt := 25) dX2_stop_21 (by decide) ?_
    exact ab_zret dX2_stop_25 rfl (by decide) ⟨Nat.zero_le _, Nat.zero_le _⟩ ((hk4 i5 l6 dd7 x8 hp9).1 c10)
  · refine ab_aloadn dX2_stop_12 rfl ?_
    refine ab_iconst (v := 1) dX2_stop_13 (by decide) ?_
    obtain ⟨r11, P12, hs13, hk14⟩ := ((hk4 i5 l6 dd7 x8 hp9).2 c10)
    refine ab_callV (vs := [.int 1]) (st := []) dX2_stop_14 okMX2_fail wd_576 kd_157 rfl rfl rfl (Nat.le_of_ble_eq_true rfl) ⟨Nat.le_of_ble_eq_true rfl, Nat.le_of_ble_eq_true rfl⟩ hs13 ?_
    rintro v9 ⟨i15, l16, dd17, x18⟩ E9 - ⟨rfl, rfl, hp19⟩
    show ab_Fr MX2_stop (d + 1) Q 17 [some (.ref 157)] [.int r11] (0, 0) (i15, l16, dd17, x18) (ab_E0 sc)
    refine ab_if_eq (tgt := 24) dX2_stop_17 (by decide) (fun c20 => ?_) (fun c20 => ?_)
    · refine ab_iconst (v := 0) dX2_stop_24 (by decide) ?_
      exact ab_zret dX2_stop_25 rfl (by decide) ⟨Nat.zero_le _, Nat.zero_le _⟩ ((hk14 i15 l16 dd17 x18 hp19).1 c20)
    · refine ab_iconst (v := 1) dX2_stop_20 (by decide) ?_
      refine ab_goto (tgt := 25) dX2_stop_21 (by decide) ?_
      exact ab_zret dX2_stop_25 rfl (by decide) ⟨Nat.zero_le _, Nat.zero_le _⟩ ((hk14 i15 l16 dd17 x18 hp19).2 c20)
theorem tMX2_truthsStand_0 {d : Nat} {Q : ab_Qt} {sc : Nat × (Nat → Int32)} {i : Nat → Nat → Int32} {l : Nat → Nat → Int64} {dd : Nat → Nat → Value} {x : Nat}  
    (h : ab_Fr MX2_truthsStand (d + 1) Q 4 [some (.ref 157), some (.int 0), some (.int 0)] [] (0, 0) (i, l, dd, x) (ab_E0 sc)) :
    ab_Fr MX2_truthsStand (d + 1) Q 0 [some (.ref 157), none, none] [] (0, 0) (i, l, dd, x) (ab_E0 sc) := by
  refine ab_iconst (v := 0) dX2_truthsStand_0 (by decide) ?_
  refine ab_istoren dX2_truthsStand_1 (Nat.le_of_ble_eq_true rfl) (L2 := [some (.ref 157), some (.int 0), none]) rfl ?_
  refine ab_iconst (v := 0) dX2_truthsStand_2 (by decide) ?_
  refine ab_istoren dX2_truthsStand_3 (Nat.le_of_ble_eq_true rfl) (L2 := [some (.ref 157), some (.int 0), some (.int 0)]) rfl ?_
  exact h
theorem tMX2_truthsStand_4 {d : Nat} {Q : ab_Qt} {sc : Nat × (Nat → Int32)} {i : Nat → Nat → Int32} {l : Nat → Nat → Int64} {dd : Nat → Nat → Value} {x : Nat} {a1 : Int32} {a2 : Int32} 
    (h : (∃ m1, dd 157 2 = .ref m1 ∧ ab_isM m1 ∧ (((i m1 0) ≤ a2 → (((i m1 0) < 2 → Q (some (some (.int 0))) (i, l, dd, x) (ab_E0 sc)) ∧ (¬ (i m1 0) < 2 → ((¬ a1 = 20 → Q (some (some (.int 0))) (i, l, dd, x) (ab_E0 sc)) ∧ (a1 = 20 → Q (some (some (.int 1))) (i, l, dd, x) (ab_E0 sc)))))) ∧ (¬ (i m1 0) ≤ a2 → (vp_in a2 3 ∧ ab_Fr MX2_truthsStand (d + 1) Q 4 [some (.ref 157), some (.int (a1 + (i (m1 + 1) a2.toNatClampNeg))), some (.int (a2 + 1))] [] (0, 0) (i, l, dd, x) (ab_E0 sc)))))) :
    ab_Fr MX2_truthsStand (d + 1) Q 4 [some (.ref 157), some (.int a1), some (.int a2)] [] (0, 0) (i, l, dd, x) (ab_E0 sc) := by
  refine ab_iloadn dX2_truthsStand_4 rfl ?_
  refine ab_aloadn dX2_truthsStand_5 rfl ?_
  obtain ⟨m1, hm2d, hm2, hm2t⟩ := h
  refine ab_getf (v := .ref m1) dX2_truthsStand_6 fl_X2_15 kd_157 hm2d ?_
  refine ab_getf (v := .int (i m1 0)) dX2_truthsStand_9 fl_X2_120 (kM hm2) rfl ?_
  refine ab_icmp_ge (tgt := 33) dX2_truthsStand_12 (by decide) (fun c3 => ?_) (fun c3 => ?_)
  · refine ab_aloadn dX2_truthsStand_33 rfl ?_
    refine ab_getf (v := .ref m1) dX2_truthsStand_34 fl_X2_15 kd_157 hm2d ?_
    refine ab_getf (v := .int (i m1 0)) dX2_truthsStand_37 fl_X2_120 (kM hm2) rfl ?_
    refine ab_iconst (v := 2) dX2_truthsStand_40 (by decide) ?_
    refine ab_icmp_lt (tgt := 54) dX2_truthsStand_41 (by decide) (fun c4 => ?_) (fun c4 => ?_)
    · refine ab_iconst (v := 0) dX2_truthsStand_54 (by decide) ?_
      exact ab_zret dX2_truthsStand_55 rfl (by decide) ⟨Nat.zero_le _, Nat.zero_le _⟩ ((hm2t.1 c3).1 c4)
    · refine ab_iloadn dX2_truthsStand_44 rfl ?_
      refine ab_bipush (v := 20) dX2_truthsStand_45 (by decide) ?_
      refine ab_icmp_ne (tgt := 54) dX2_truthsStand_47 (by decide) (fun c5 => ?_) (fun c5 => ?_)
      · refine ab_iconst (v := 0) dX2_truthsStand_54 (by decide) ?_
        exact ab_zret dX2_truthsStand_55 rfl (by decide) ⟨Nat.zero_le _, Nat.zero_le _⟩ (((hm2t.1 c3).2 c4).1 c5)
      · refine ab_iconst (v := 1) dX2_truthsStand_50 (by decide) ?_
        refine ab_goto (tgt := 55) dX2_truthsStand_51 (by decide) ?_
        exact ab_zret dX2_truthsStand_55 rfl (by decide) ⟨Nat.zero_le _, Nat.zero_le _⟩ (((hm2t.1 c3).2 c4).2 c5)
  · refine ab_iloadn dX2_truthsStand_15 rfl ?_
    refine ab_aloadn dX2_truthsStand_16 rfl ?_
    refine ab_getf (v := .ref m1) dX2_truthsStand_17 fl_X2_15 kd_157 hm2d ?_
    refine ab_getf (v := .ref (m1 + 1)) dX2_truthsStand_20 fl_X2_123 (kM hm2) (fM_6 hm2) ?_
    refine ab_iloadn dX2_truthsStand_23 rfl ?_
    refine ab_iaload (v := (i (m1 + 1) a2.toNatClampNeg)) dX2_truthsStand_24 (kM_1 hm2) (hm2t.2 c3).1 rfl ?_
    refine ab_iadd dX2_truthsStand_25 ?_
    refine ab_istoren dX2_truthsStand_26 (Nat.le_of_ble_eq_true rfl) (L2 := [some (.ref 157), some (.int (a1 + (i (m1 + 1) a2.toNatClampNeg))), some (.int a2)]) rfl ?_
    refine ab_iinc (v := (a2 + 1)) dX2_truthsStand_27 rfl (by rfl) (Nat.le_of_ble_eq_true rfl) (L2 := [some (.ref 157), some (.int (a1 + (i (m1 + 1) a2.toNatClampNeg))), some (.int (a2 + 1))]) rfl ?_
    refine ab_goto (tgt := 4) dX2_truthsStand_30 (by decide) ?_
    exact (hm2t.2 c3).2
theorem tMX2_readVoter_0 {d : Nat} {Q : ab_Qt} {sc : Nat × (Nat → Int32)} {i : Nat → Nat → Int32} {l : Nat → Nat → Int64} {dd : Nat → Nat → Value} {x : Nat}  
    (h : (∃ m1, dd 157 2 = .ref m1 ∧ ab_isM m1 ∧ (((i m1 1) < 7 → (∃ (r4 : Int32) (P5 : ab_S → Prop), ab_Sp MX2_someName d [.ref 157, .int 1] (i, l, dd, x) (ab_E0 sc) (some (.int r4)) P5 ∧ ∀ i8 l9 dd10 x11, P5 (i8, l9, dd10, x11) → ((¬ r4 = 0 → (∃ m14, dd10 157 2 = .ref m14 ∧ ab_isM m14 ∧ vp_in (i8 m14 1) 7 ∧ ∀ l16, l16 = ab_u l9 159 (i8 m14 1).toNatClampNeg (l9 157 7) → ∃ (r18 : Int32) (P19 : ab_S → Prop), ab_Sp MX2_someKeyword d [.ref 157, .int 6] (i8, l16, dd10, x11) (ab_E0 sc) (some (.int r18)) P19 ∧ ∀ i22 l23 dd24 x25, P19 (i22, l23, dd24, x25) → ((r18 = 0 → Q (some (some (.int 0))) (i22, l23, dd24, x25) (ab_E0 sc)) ∧ (¬ r18 = 0 → (∃ (r28 : Int32) (P29 : ab_S → Prop), ab_Sp MX2_someNumber d [.ref 157, .int 2, .int 3] (i22, l23, dd24, x25) (ab_E0 sc) (some (.int r28)) P29 ∧ ∀ i32 l33 dd34 x35, P29 (i32, l33, dd34, x35) → ((¬ r28 = 0 → (∃ m38, dd34 157 2 = .ref m38 ∧ ab_isM m38 ∧ vp_in (i32 m38 1) 7 ∧ ∃ (P41 : ab_S → Prop), ab_Sp MX9_begin d [.ref (m38 + 5 + 6 * (i32 m38 1).toNatClampNeg), .int (i32 157 9)] (i32, l33, dd34, x35) (ab_E0 sc) (none) P41 ∧ ∀ i44 l45 dd46 x47, P41 (i44, l45, dd46, x47) → ab_Fr MX2_readVoter (d + 1) Q 90 [some (.ref 157), some (.ref (m38 + 5 + 6 * (i32 m38 1).toNatClampNeg)), some (.int 0), none, none] [] (0, 0) (i44, l45, dd46, x47) (ab_E0 sc))) ∧ (r28 = 0 → Q (some (some (.int 0))) (i32, l33, dd34, x35) (ab_E0 sc)))))))) ∧ (r4 = 0 → Q (some (some (.int 0))) (i8, l9, dd10, x11) (ab_E0 sc))))) ∧ (¬ (i m1 1) < 7 → (∃ (r49 : Int32) (P50 : ab_S → Prop), ab_Sp MX2_fail d [.ref 157, .int 4] (i, l, dd, x) (ab_E0 sc) (some (.int r49)) P50 ∧ ∀ i53 l54 dd55 x56, P50 (i53, l54, dd55, x56) → (r49 = 0 ∨ r49 = 1) ∧ Q (some (some (.int r49))) (i53, l54, dd55, x56) (ab_E0 sc)))))) :
    ab_Fr MX2_readVoter (d + 1) Q 0 [some (.ref 157), none, none, none, none] [] (0, 0) (i, l, dd, x) (ab_E0 sc) := by
  refine ab_aloadn dX2_readVoter_0 rfl ?_
  obtain ⟨m1, hm2d, hm2, hm2t⟩ := h
  refine ab_getf (v := .ref m1) dX2_readVoter_1 fl_X2_15 kd_157 hm2d ?_
  refine ab_getf (v := .int (i m1 1)) dX2_readVoter_4 fl_X2_136 (kM hm2) rfl ?_
  refine ab_bipush (v := 7) dX2_readVoter_7 (by decide) ?_
  refine ab_icmp_lt (tgt := 18) dX2_readVoter_9 (by decide) (fun c3 => ?_) (fun c3 => ?_)
  · refine ab_aloadn dX2_readVoter_18 rfl ?_
    refine ab_iconst (v := 1) dX2_readVoter_19 (by decide) ?_
    obtain ⟨r4, P5, hs6, hk7⟩ := (hm2t.1 c3)
    refine ab_callV (vs := [.int 1]) (st := []) dX2_readVoter_20 okMX2_someName wd_582 kd_157 rfl rfl rfl (Nat.le_of_ble_eq_true rfl) ⟨Nat.le_of_ble_eq_true rfl, Nat.le_of_ble_eq_true rfl⟩ hs6 ?_
    rintro v9 ⟨i8, l9, dd10, x11⟩ E9 - ⟨rfl, rfl, hp12⟩
    show ab_Fr MX2_readVoter (d + 1) Q 23 [some (.ref 157), none, none, none, none] [.int r4] (0, 0) (i8, l9, dd10, x11) (ab_E0 sc)
    refine ab_if_ne (tgt := 28) dX2_readVoter_23 (by decide) (fun c13 => ?_) (fun c13 => ?_)
    · refine ab_aloadn dX2_readVoter_28 rfl ?_
      refine ab_getf (v := .ref 159) dX2_readVoter_29 fl_X2_23 kd_157 ff_157_13 ?_
      refine ab_aloadn dX2_readVoter_32 rfl ?_
      obtain ⟨m14, hm15d, hm15, hm15t⟩ := ((hk7 i8 l9 dd10 x11 hp12).1 c13)
      refine ab_getf (v := .ref m14) dX2_readVoter_33 fl_X2_15 kd_157 hm15d ?_
      refine ab_getf (v := .int (i8 m14 1)) dX2_readVoter_36 fl_X2_136 (kM hm15) rfl ?_
      refine ab_aloadn dX2_readVoter_39 rfl ?_
      refine ab_getf (v := .long (l9 157 7)) dX2_readVoter_40 fl_X2_86 kd_157 rfl ?_
      refine ab_lastore dX2_readVoter_43 kd_159 hm15t.1 ?_
      obtain ⟨l16, e17⟩ : ∃ z, z = ab_u l9 159 (i8 m14 1).toNatClampNeg (l9 157 7) := ⟨_, rfl⟩
      rw [show ab_u l9 159 (i8 m14 1).toNatClampNeg (l9 157 7) = l16 from e17.symm]
      refine ab_aloadn dX2_readVoter_44 rfl ?_
      refine ab_bipush (v := 6) dX2_readVoter_45 (by decide) ?_
      obtain ⟨r18, P19, hs20, hk21⟩ := (hm15t.2 l16 e17)
      refine ab_callV (vs := [.int 6]) (st := []) dX2_readVoter_47 okMX2_someKeyword wd_600 kd_157 rfl rfl rfl (Nat.le_of_ble_eq_true rfl) ⟨Nat.le_of_ble_eq_true rfl, Nat.le_of_ble_eq_true rfl⟩ hs20 ?_
      rintro v9 ⟨i22, l23, dd24, x25⟩ E9 - ⟨rfl, rfl, hp26⟩
      show ab_Fr MX2_readVoter (d + 1) Q 50 [some (.ref 157), none, none, none, none] [.int r18] (0, 0) (i22, l23, dd24, x25) (ab_E0 sc)
      refine ab_if_eq (tgt := 62) dX2_readVoter_50 (by decide) (fun c27 => ?_) (fun c27 => ?_)
      · refine ab_iconst (v := 0) dX2_readVoter_62 (by decide) ?_
        exact ab_zret dX2_readVoter_63 rfl (by decide) ⟨Nat.zero_le _, Nat.zero_le _⟩ ((hk21 i22 l23 dd24 x25 hp26).1 c27)
      · refine ab_aloadn dX2_readVoter_53 rfl ?_
        refine ab_iconst (v := 2) dX2_readVoter_54 (by decide) ?_
        refine ab_iconst (v := 3) dX2_readVoter_55 (by decide) ?_
        obtain ⟨r28, P29, hs30, hk31⟩ := ((hk21 i22 l23 dd24 x25 hp26).2 c27)
        refine ab_callV (vs := [.int 2, .int 3]) (st := []) dX2_readVoter_56 okMX2_someNumber wd_588 kd_157 rfl rfl rfl (Nat.le_of_ble_eq_true rfl) ⟨Nat.le_of_ble_eq_true rfl, Nat.le_of_ble_eq_true rfl⟩ hs30 ?_
        rintro v9 ⟨i32, l33, dd34, x35⟩ E9 - ⟨rfl, rfl, hp36⟩
        show ab_Fr MX2_readVoter (d + 1) Q 59 [some (.ref 157), none, none, none, none] [.int r28] (0, 0) (i32, l33, dd34, x35) (ab_E0 sc)
        refine ab_if_ne (tgt := 64) dX2_readVoter_59 (by decide) (fun c37 => ?_) (fun c37 => ?_)
        · refine ab_aloadn dX2_readVoter_64 rfl ?_
          obtain ⟨m38, hm39d, hm39, hm39t⟩ := ((hk31 i32 l33 dd34 x35 hp36).1 c37)
          refine ab_getf (v := .ref m38) dX2_readVoter_65 fl_X2_15 kd_157 hm39d ?_
          refine ab_getf (v := .ref (m38 + 4)) dX2_readVoter_68 fl_X2_142 (kM hm39) (fM_8 hm39) ?_
          refine ab_aloadn dX2_readVoter_71 rfl ?_
          refine ab_getf (v := .ref m38) dX2_readVoter_72 fl_X2_15 kd_157 hm39d ?_
          refine ab_getf (v := .int (i32 m38 1)) dX2_readVoter_75 fl_X2_136 (kM hm39) rfl ?_
          refine ab_aaload (a := (m38 + 5 + 6 * (i32 m38 1).toNatClampNeg)) dX2_readVoter_78 (Or.inl rfl) (kM_4 hm39) hm39t.1 (fMv hm39 hm39t.1) ?_
          refine ab_astoren dX2_readVoter_79 (Nat.le_of_ble_eq_true rfl) (L2 := [some (.ref 157), some (.ref (m38 + 5 + 6 * (i32 m38 1).toNatClampNeg)), none, none, none]) rfl ?_
          refine ab_aloadn dX2_readVoter_80 rfl ?_
          refine ab_aloadn dX2_readVoter_81 rfl ?_
          refine ab_getf (v := .int (i32 157 9)) dX2_readVoter_82 fl_X2_90 kd_157 rfl ?_
          obtain ⟨P41, hs42, hk43⟩ := hm39t.2
          refine ab_callV (vs := [.int (i32 157 9)]) (st := []) dX2_readVoter_85 okMX9_begin wd_603 (kV (isVof hm39 hm39t.1)) rfl rfl rfl (Nat.le_of_ble_eq_true rfl) ⟨Nat.le_of_ble_eq_true rfl, Nat.le_of_ble_eq_true rfl⟩ hs42 ?_
          rintro v9 ⟨i44, l45, dd46, x47⟩ E9 - ⟨rfl, rfl, hp48⟩
          show ab_Fr MX2_readVoter (d + 1) Q 88 [some (.ref 157), some (.ref (m38 + 5 + 6 * (i32 m38 1).toNatClampNeg)), none, none, none] [] (0, 0) (i44, l45, dd46, x47) (ab_E0 sc)
          refine ab_iconst (v := 0) dX2_readVoter_88 (by decide) ?_
          refine ab_istoren dX2_readVoter_89 (Nat.le_of_ble_eq_true rfl) (L2 := [some (.ref 157), some (.ref (m38 + 5 + 6 * (i32 m38 1).toNatClampNeg)), some (.int 0), none, none]) rfl ?_
          exact (hk43 i44 l45 dd46 x47 hp48)
        · refine ab_iconst (v := 0) dX2_readVoter_62 (by decide) ?_
          exact ab_zret dX2_readVoter_63 rfl (by decide) ⟨Nat.zero_le _, Nat.zero_le _⟩ ((hk31 i32 l33 dd34 x35 hp36).2 c37)
    · refine ab_iconst (v := 0) dX2_readVoter_26 (by decide) ?_
      exact ab_zret dX2_readVoter_27 rfl (by decide) ⟨Nat.zero_le _, Nat.zero_le _⟩ ((hk7 i8 l9 dd10 x11 hp12).2 c13)
  · refine ab_aloadn dX2_readVoter_12 rfl ?_
    refine ab_iconst (v := 4) dX2_readVoter_13 (by decide) ?_
    obtain ⟨r49, P50, hs51, hk52⟩ := (hm2t.2 c3)
    refine ab_callV (vs := [.int 4]) (st := []) dX2_readVoter_14 okMX2_fail wd_576 kd_157 rfl rfl rfl (Nat.le_of_ble_eq_true rfl) ⟨Nat.le_of_ble_eq_true rfl, Nat.le_of_ble_eq_true rfl⟩ hs51 ?_
    rintro v9 ⟨i53, l54, dd55, x56⟩ E9 - ⟨rfl, rfl, hp57⟩
    show ab_Fr MX2_readVoter (d + 1) Q 17 [some (.ref 157), none, none, none, none] [.int r49] (0, 0) (i53, l54, dd55, x56) (ab_E0 sc)
    exact ab_zret dX2_readVoter_17 rfl (hk52 i53 l54 dd55 x56 hp57).1 ⟨Nat.zero_le _, Nat.zero_le _⟩ (hk52 i53 l54 dd55 x56 hp57).2
theorem tMX2_readVoter_90 {d : Nat} {Q : ab_Qt} {sc : Nat × (Nat → Int32)} {i : Nat → Nat → Int32} {l : Nat → Nat → Int64} {dd : Nat → Nat → Value} {x : Nat} {a1 : Nat} {a2 : Int32} (k_a1 : ab_isV a1)
    (h : (∃ m1, dd 157 2 = .ref m1 ∧ ab_isM m1 ∧ (((i m1 0) ≤ a2 → (∀ i4, i4 = ab_u i m1 1 ((i m1 1) + 1) → ∃ (r6 : Int32) (P7 : ab_S → Prop), ab_Sp MX2_stop d [.ref 157] (i4, l, dd, x) (ab_E0 sc) (some (.int r6)) P7 ∧ ∀ i10 l11 dd12 x13, P7 (i10, l11, dd12, x13) → (r6 = 0 ∨ r6 = 1) ∧ Q (some (some (.int r6))) (i10, l11, dd12, x13) (ab_E0 sc))) ∧ (¬ (i m1 0) ≤ a2 → ab_Fr MX2_readVoter (d + 1) Q 106 [some (.ref 157), some (.ref a1), some (.int a2), some (.int 0), some (.int 0)] [] (0, 0) (i, l, dd, x) (ab_E0 sc))))) :
    ab_Fr MX2_readVoter (d + 1) Q 90 [some (.ref 157), some (.ref a1), some (.int a2), none, none] [] (0, 0) (i, l, dd, x) (ab_E0 sc) := by
  refine ab_iloadn dX2_readVoter_90 rfl ?_
  refine ab_aloadn dX2_readVoter_91 rfl ?_
  obtain ⟨m1, hm2d, hm2, hm2t⟩ := h
  refine ab_getf (v := .ref m1) dX2_readVoter_92 fl_X2_15 kd_157 hm2d ?_
  refine ab_getf (v := .int (i m1 0)) dX2_readVoter_95 fl_X2_120 (kM hm2) rfl ?_
  refine ab_icmp_ge (tgt := 173) dX2_readVoter_98 (by decide) (fun c3 => ?_) (fun c3 => ?_)
  · refine ab_aloadn dX2_readVoter_173 rfl ?_
    refine ab_getf (v := .ref m1) dX2_readVoter_174 fl_X2_15 kd_157 hm2d ?_
    refine ab_dup dX2_readVoter_177 rfl ?_
    refine ab_getf (v := .int (i m1 1)) dX2_readVoter_178 fl_X2_136 (kM hm2) rfl ?_
    refine ab_iconst (v := 1) dX2_readVoter_181 (by decide) ?_
    refine ab_iadd dX2_readVoter_182 ?_
    refine ab_putI dX2_readVoter_183 fl_X2_136 (kM hm2) rfl ?_
    obtain ⟨i4, e5⟩ : ∃ z, z = ab_u i m1 1 ((i m1 1) + 1) := ⟨_, rfl⟩
    show ab_Fr MX2_readVoter (d + 1) Q 186 [some (.ref 157), some (.ref a1), some (.int a2), none, none] [] (0, 0) (ab_u i m1 1 ((i m1 1) + 1), l, dd, x) (ab_E0 sc)
    rw [show ab_u i m1 1 ((i m1 1) + 1) = i4 from e5.symm]
    refine ab_aloadn dX2_readVoter_186 rfl ?_
    obtain ⟨r6, P7, hs8, hk9⟩ := ((hm2t.1 c3) i4 e5)
    refine ab_callV (vs := []) (st := []) dX2_readVoter_187 okMX2_stop wd_591 kd_157 rfl rfl rfl (Nat.le_of_ble_eq_true rfl) ⟨Nat.le_of_ble_eq_true rfl, Nat.le_of_ble_eq_true rfl⟩ hs8 ?_
    rintro v9 ⟨i10, l11, dd12, x13⟩ E9 - ⟨rfl, rfl, hp14⟩
    show ab_Fr MX2_readVoter (d + 1) Q 190 [some (.ref 157), some (.ref a1), some (.int a2), none, none] [.int r6] (0, 0) (i10, l11, dd12, x13) (ab_E0 sc)
    exact ab_zret dX2_readVoter_190 rfl (hk9 i10 l11 dd12 x13 hp14).1 ⟨Nat.zero_le _, Nat.zero_le _⟩ (hk9 i10 l11 dd12 x13 hp14).2
  · refine ab_iconst (v := 0) dX2_readVoter_101 (by decide) ?_
    refine ab_istoren dX2_readVoter_102 (Nat.le_of_ble_eq_true rfl) (L2 := [some (.ref 157), some (.ref a1), some (.int a2), some (.int 0), none]) rfl ?_
    refine ab_iconst (v := 0) dX2_readVoter_103 (by decide) ?_
    refine ab_istore dX2_readVoter_104 (Nat.le_of_ble_eq_true rfl) (L2 := [some (.ref 157), some (.ref a1), some (.int a2), some (.int 0), some (.int 0)]) rfl ?_
    exact (hm2t.2 c3)
theorem tMX2_readVoter_106 {d : Nat} {Q : ab_Qt} {sc : Nat × (Nat → Int32)} {i : Nat → Nat → Int32} {l : Nat → Nat → Int64} {dd : Nat → Nat → Value} {x : Nat} {a1 : Nat} {a2 : Int32} {a3 : Int32} {a4 : Int32} (k_a1 : ab_isV a1)
    (h : (((i a1 0) ≤ a4 → ((a3 = 20 → ab_Fr MX2_readVoter (d + 1) Q 90 [some (.ref 157), some (.ref a1), some (.int (a2 + 1)), none, none] [] (0, 0) (i, l, dd, x) (ab_E0 sc)) ∧ (¬ a3 = 20 → (∃ (r3 : Int32) (P4 : ab_S → Prop), ab_Sp MX2_fail d [.ref 157, .int 2] (i, l, dd, x) (ab_E0 sc) (some (.int r3)) P4 ∧ ∀ i7 l8 dd9 x10, P4 (i7, l8, dd9, x10) → (r3 = 0 ∨ r3 = 1) ∧ Q (some (some (.int r3))) (i7, l8, dd9, x10) (ab_E0 sc))))) ∧ (¬ (i a1 0) ≤ a4 → (∃ (r12 : Int32) (P13 : ab_S → Prop), ab_Sp MX2_someNumber d [.ref 157, .int 0, .int 20] (i, l, dd, x) (ab_E0 sc) (some (.int r12)) P13 ∧ ∀ i16 l17 dd18 x19, P13 (i16, l17, dd18, x19) → ((¬ r12 = 0 → (vp_in ((a2 * 3) + a4) 9 ∧ ∀ i22, i22 = ab_u i16 (a1 + 1) ((a2 * 3) + a4).toNatClampNeg (i16 157 9) → ab_Fr MX2_readVoter (d + 1) Q 106 [some (.ref 157), some (.ref a1), some (.int a2), some (.int (a3 + (i22 157 9))), some (.int (a4 + 1))] [] (0, 0) (i22, l17, dd18, x19) (ab_E0 sc))) ∧ (r12 = 0 → Q (some (some (.int 0))) (i16, l17, dd18, x19) (ab_E0 sc))))))) :
    ab_Fr MX2_readVoter (d + 1) Q 106 [some (.ref 157), some (.ref a1), some (.int a2), some (.int a3), some (.int a4)] [] (0, 0) (i, l, dd, x) (ab_E0 sc) := by
  refine ab_iload dX2_readVoter_106 rfl ?_
  refine ab_aloadn dX2_readVoter_108 rfl ?_
  refine ab_getf (v := .int (i a1 0)) dX2_readVoter_109 fl_X2_151 (kV k_a1) rfl ?_
  refine ab_icmp_ge (tgt := 155) dX2_readVoter_112 (by decide) (fun c1 => ?_) (fun c1 => ?_)
  · refine ab_iloadn dX2_readVoter_155 rfl ?_
    refine ab_bipush (v := 20) dX2_readVoter_156 (by decide) ?_
    refine ab_icmp_eq (tgt := 167) dX2_readVoter_158 (by decide) (fun c2 => ?_) (fun c2 => ?_)
    · refine ab_iinc (v := (a2 + 1)) dX2_readVoter_167 rfl (by rfl) (Nat.le_of_ble_eq_true rfl) (L2 := [some (.ref 157), some (.ref a1), some (.int (a2 + 1)), some (.int a3), some (.int a4)]) rfl ?_
      refine ab_goto (tgt := 90) dX2_readVoter_170 (by decide) ?_
      refine ab_forget (i := 3) (L2 := [some (.ref 157), some (.ref a1), some (.int (a2 + 1)), none, some (.int a4)]) rfl ?_
      refine ab_forget (i := 4) (L2 := [some (.ref 157), some (.ref a1), some (.int (a2 + 1)), none, none]) rfl ?_
      exact ((h.1 c1).1 c2)
    · refine ab_aloadn dX2_readVoter_161 rfl ?_
      refine ab_iconst (v := 2) dX2_readVoter_162 (by decide) ?_
      obtain ⟨r3, P4, hs5, hk6⟩ := ((h.1 c1).2 c2)
      refine ab_callV (vs := [.int 2]) (st := []) dX2_readVoter_163 okMX2_fail wd_576 kd_157 rfl rfl rfl (Nat.le_of_ble_eq_true rfl) ⟨Nat.le_of_ble_eq_true rfl, Nat.le_of_ble_eq_true rfl⟩ hs5 ?_
      rintro v9 ⟨i7, l8, dd9, x10⟩ E9 - ⟨rfl, rfl, hp11⟩
      show ab_Fr MX2_readVoter (d + 1) Q 166 [some (.ref 157), some (.ref a1), some (.int a2), some (.int a3), some (.int a4)] [.int r3] (0, 0) (i7, l8, dd9, x10) (ab_E0 sc)
      exact ab_zret dX2_readVoter_166 rfl (hk6 i7 l8 dd9 x10 hp11).1 ⟨Nat.zero_le _, Nat.zero_le _⟩ (hk6 i7 l8 dd9 x10 hp11).2
  · refine ab_aloadn dX2_readVoter_115 rfl ?_
    refine ab_iconst (v := 0) dX2_readVoter_116 (by decide) ?_
    refine ab_bipush (v := 20) dX2_readVoter_117 (by decide) ?_
    obtain ⟨r12, P13, hs14, hk15⟩ := (h.2 c1)
    refine ab_callV (vs := [.int 0, .int 20]) (st := []) dX2_readVoter_119 okMX2_someNumber wd_588 kd_157 rfl rfl rfl (Nat.le_of_ble_eq_true rfl) ⟨Nat.le_of_ble_eq_true rfl, Nat.le_of_ble_eq_true rfl⟩ hs14 ?_
    rintro v9 ⟨i16, l17, dd18, x19⟩ E9 - ⟨rfl, rfl, hp20⟩
    show ab_Fr MX2_readVoter (d + 1) Q 122 [some (.ref 157), some (.ref a1), some (.int a2), some (.int a3), some (.int a4)] [.int r12] (0, 0) (i16, l17, dd18, x19) (ab_E0 sc)
    refine ab_if_ne (tgt := 127) dX2_readVoter_122 (by decide) (fun c21 => ?_) (fun c21 => ?_)
    · refine ab_aloadn dX2_readVoter_127 rfl ?_
      refine ab_getf (v := .ref (a1 + 1)) dX2_readVoter_128 fl_X2_154 (kV k_a1) (fV_4 k_a1) ?_
      refine ab_iloadn dX2_readVoter_131 rfl ?_
      refine ab_iconst (v := 3) dX2_readVoter_132 (by decide) ?_
      refine ab_imul dX2_readVoter_133 ?_
      refine ab_iload dX2_readVoter_134 rfl ?_
      refine ab_iadd dX2_readVoter_136 ?_
      refine ab_aloadn dX2_readVoter_137 rfl ?_
      refine ab_getf (v := .int (i16 157 9)) dX2_readVoter_138 fl_X2_90 kd_157 rfl ?_
      refine ab_iastore dX2_readVoter_141 (kV_1 k_a1) ((hk15 i16 l17 dd18 x19 hp20).1 c21).1 ?_
      obtain ⟨i22, e23⟩ : ∃ z, z = ab_u i16 (a1 + 1) ((a2 * 3) + a4).toNatClampNeg (i16 157 9) := ⟨_, rfl⟩
      rw [show ab_u i16 (a1 + 1) ((a2 * 3) + a4).toNatClampNeg (i16 157 9) = i22 from e23.symm]
      refine ab_iloadn dX2_readVoter_142 rfl ?_
      refine ab_aloadn dX2_readVoter_143 rfl ?_
      refine ab_getf (v := .int (i22 157 9)) dX2_readVoter_144 fl_X2_90 kd_157 rfl ?_
      refine ab_iadd dX2_readVoter_147 ?_
      refine ab_istoren dX2_readVoter_148 (Nat.le_of_ble_eq_true rfl) (L2 := [some (.ref 157), some (.ref a1), some (.int a2), some (.int (a3 + (i22 157 9))), some (.int a4)]) rfl ?_
      refine ab_iinc (v := (a4 + 1)) dX2_readVoter_149 rfl (by rfl) (Nat.le_of_ble_eq_true rfl) (L2 := [some (.ref 157), some (.ref a1), some (.int a2), some (.int (a3 + (i22 157 9))), some (.int (a4 + 1))]) rfl ?_
      refine ab_goto (tgt := 106) dX2_readVoter_152 (by decide) ?_
      exact (((hk15 i16 l17 dd18 x19 hp20).1 c21).2 i22 e23)
    · refine ab_iconst (v := 0) dX2_readVoter_125 (by decide) ?_
      exact ab_zret dX2_readVoter_126 rfl (by decide) ⟨Nat.zero_le _, Nat.zero_le _⟩ ((hk15 i16 l17 dd18 x19 hp20).2 c21)
theorem tMX2_someKeyword_0 {d : Nat} {Q : ab_Qt} {sc : Nat × (Nat → Int32)} {i : Nat → Nat → Int32} {l : Nat → Nat → Int64} {dd : Nat → Nat → Value} {x : Nat} {a1 : Int32} 
    (h : (∃ (P2 : ab_S → Prop), ab_Sp MX2_next d [.ref 157] (i, l, dd, x) (ab_E0 sc) (none) P2 ∧ ∀ i5 l6 dd7 x8, P2 (i5, l6, dd7, x8) → (((i5 157 8) = a1 → Q (some (some (.int 1))) (i5, l6, dd7, x8) (ab_E0 sc)) ∧ (¬ (i5 157 8) = a1 → (∃ (r11 : Int32) (P12 : ab_S → Prop), ab_Sp MX2_fail d [.ref 157, .int 1] (i5, l6, dd7, x8) (ab_E0 sc) (some (.int r11)) P12 ∧ ∀ i15 l16 dd17 x18, P12 (i15, l16, dd17, x18) → ((r11 = 0 → Q (some (some (.int 0))) (i15, l16, dd17, x18) (ab_E0 sc)) ∧ (¬ r11 = 0 → Q (some (some (.int 1))) (i15, l16, dd17, x18) (ab_E0 sc)))))))) :
    ab_Fr MX2_someKeyword (d + 1) Q 0 [some (.ref 157), some (.int a1)] [] (0, 0) (i, l, dd, x) (ab_E0 sc) := by
  refine ab_aloadn dX2_someKeyword_0 rfl ?_
  obtain ⟨P2, hs3, hk4⟩ := h
  refine ab_callV (vs := []) (st := []) dX2_someKeyword_1 okMX2_next wd_560 kd_157 rfl rfl rfl (Nat.le_of_ble_eq_true rfl) ⟨Nat.le_of_ble_eq_true rfl, Nat.le_of_ble_eq_true rfl⟩ hs3 ?_
  rintro v9 ⟨i5, l6, dd7, x8⟩ E9 - ⟨rfl, rfl, hp9⟩
  show ab_Fr MX2_someKeyword (d + 1) Q 4 [some (.ref 157), some (.int a1)] [] (0, 0) (i5, l6, dd7, x8) (ab_E0 sc)
  refine ab_aloadn dX2_someKeyword_4 rfl ?_
  refine ab_getf (v := .int (i5 157 8)) dX2_someKeyword_5 fl_X2_74 kd_157 rfl ?_
  refine ab_iloadn dX2_someKeyword_8 rfl ?_
  refine ab_icmp_eq (tgt := 20) dX2_someKeyword_9 (by decide) (fun c10 => ?_) (fun c10 => ?_)
  · refine ab_iconst (v := 1) dX2_someKeyword_20 (by decide) ?_
    refine ab_goto (tgt := 25) dX2_someKeyword_21 (by decide) ?_
    exact ab_zret dX2_someKeyword_25 rfl (by decide) ⟨Nat.zero_le _, Nat.zero_le _⟩ ((hk4 i5 l6 dd7 x8 hp9).1 c10)
  · refine ab_aloadn dX2_someKeyword_12 rfl ?_
    refine ab_iconst (v := 1) dX2_someKeyword_13 (by decide) ?_
    obtain ⟨r11, P12, hs13, hk14⟩ := ((hk4 i5 l6 dd7 x8 hp9).2 c10)
    refine ab_callV (vs := [.int 1]) (st := []) dX2_someKeyword_14 okMX2_fail wd_576 kd_157 rfl rfl rfl (Nat.le_of_ble_eq_true rfl) ⟨Nat.le_of_ble_eq_true rfl, Nat.le_of_ble_eq_true rfl⟩ hs13 ?_
    rintro v9 ⟨i15, l16, dd17, x18⟩ E9 - ⟨rfl, rfl, hp19⟩
    show ab_Fr MX2_someKeyword (d + 1) Q 17 [some (.ref 157), some (.int a1)] [.int r11] (0, 0) (i15, l16, dd17, x18) (ab_E0 sc)
    refine ab_if_eq (tgt := 24) dX2_someKeyword_17 (by decide) (fun c20 => ?_) (fun c20 => ?_)
    · refine ab_iconst (v := 0) dX2_someKeyword_24 (by decide) ?_
      exact ab_zret dX2_someKeyword_25 rfl (by decide) ⟨Nat.zero_le _, Nat.zero_le _⟩ ((hk14 i15 l16 dd17 x18 hp19).1 c20)
    · refine ab_iconst (v := 1) dX2_someKeyword_20 (by decide) ?_
      refine ab_goto (tgt := 25) dX2_someKeyword_21 (by decide) ?_
      exact ab_zret dX2_someKeyword_25 rfl (by decide) ⟨Nat.zero_le _, Nat.zero_le _⟩ ((hk14 i15 l16 dd17 x18 hp19).2 c20)
theorem tMX2_readLoss_0 {d : Nat} {Q : ab_Qt} {sc : Nat × (Nat → Int32)} {i : Nat → Nat → Int32} {l : Nat → Nat → Int64} {dd : Nat → Nat → Value} {x : Nat}  
    (h : (∃ (r1 : Int32) (P2 : ab_S → Prop), ab_Sp MX2_someName d [.ref 157, .int 6] (i, l, dd, x) (ab_E0 sc) (some (.int r1)) P2 ∧ ∀ i5 l6 dd7 x8, P2 (i5, l6, dd7, x8) → ((¬ r1 = 0 → (∃ m11, dd7 157 2 = .ref m11 ∧ ab_isM m11 ∧ (((i5 157 11) = (-1) → ab_Fr MX2_readLoss (d + 1) Q 56 [some (.ref 157), some (.ref ((m11 + 2) + 1)), none, none] [] (0, 0) (i5, l6, dd7, x8) (ab_E0 sc)) ∧ (¬ (i5 157 11) = (-1) → (vp_in (i5 157 11) 7 ∧ ∃ (r14 : Int32) (P15 : ab_S → Prop), ab_Sp MX2_someName d [.ref 157, .int 2] (i5, l6, dd7, x8) (ab_E0 sc) (some (.int r14)) P15 ∧ ∀ i18 l19 dd20 x21, P15 (i18, l19, dd20, x21) → ((¬ r14 = 0 → ab_Fr MX2_readLoss (d + 1) Q 56 [some (.ref 157), some (.ref ((m11 + 5 + 6 * (i5 157 11).toNatClampNeg) + 2)), none, none] [] (0, 0) (i18, l19, dd20, x21) (ab_E0 sc)) ∧ (r14 = 0 → Q (some (some (.int 0))) (i18, l19, dd20, x21) (ab_E0 sc)))))))) ∧ (r1 = 0 → Q (some (some (.int 0))) (i5, l6, dd7, x8) (ab_E0 sc))))) :
    ab_Fr MX2_readLoss (d + 1) Q 0 [some (.ref 157), none, none, none] [] (0, 0) (i, l, dd, x) (ab_E0 sc) := by
  refine ab_aloadn dX2_readLoss_0 rfl ?_
  refine ab_bipush (v := 6) dX2_readLoss_1 (by decide) ?_
  obtain ⟨r1, P2, hs3, hk4⟩ := h
  refine ab_callV (vs := [.int 6]) (st := []) dX2_readLoss_3 okMX2_someName wd_582 kd_157 rfl rfl rfl (Nat.le_of_ble_eq_true rfl) ⟨Nat.le_of_ble_eq_true rfl, Nat.le_of_ble_eq_true rfl⟩ hs3 ?_
  rintro v9 ⟨i5, l6, dd7, x8⟩ E9 - ⟨rfl, rfl, hp9⟩
  show ab_Fr MX2_readLoss (d + 1) Q 6 [some (.ref 157), none, none, none] [.int r1] (0, 0) (i5, l6, dd7, x8) (ab_E0 sc)
  refine ab_if_ne (tgt := 11) dX2_readLoss_6 (by decide) (fun c10 => ?_) (fun c10 => ?_)
  · refine ab_aloadn dX2_readLoss_11 rfl ?_
    obtain ⟨m11, hm12d, hm12, hm12t⟩ := ((hk4 i5 l6 dd7 x8 hp9).1 c10)
    refine ab_getf (v := .ref m11) dX2_readLoss_12 fl_X2_15 kd_157 hm12d ?_
    refine ab_getf (v := .ref (m11 + 2)) dX2_readLoss_15 fl_X2_157 (kM hm12) (fM_7 hm12) ?_
    refine ab_getf (v := .ref ((m11 + 2) + 1)) dX2_readLoss_18 fl_X2_161 (kLo (isM_2 hm12)) (fLo_0 (isM_2 hm12)) ?_
    refine ab_astoren dX2_readLoss_21 (Nat.le_of_ble_eq_true rfl) (L2 := [some (.ref 157), some (.ref ((m11 + 2) + 1)), none, none]) rfl ?_
    refine ab_aloadn dX2_readLoss_22 rfl ?_
    refine ab_getf (v := .int (i5 157 11)) dX2_readLoss_23 fl_X2_166 kd_157 rfl ?_
    refine ab_iconst (v := (-1)) dX2_readLoss_26 (by decide) ?_
    refine ab_icmp_eq (tgt := 56) dX2_readLoss_27 (by decide) (fun c13 => ?_) (fun c13 => ?_)
    · exact (hm12t.1 c13)
    · refine ab_aloadn dX2_readLoss_30 rfl ?_
      refine ab_getf (v := .ref m11) dX2_readLoss_31 fl_X2_15 kd_157 hm12d ?_
      refine ab_getf (v := .ref (m11 + 4)) dX2_readLoss_34 fl_X2_142 (kM hm12) (fM_8 hm12) ?_
      refine ab_aloadn dX2_readLoss_37 rfl ?_
      refine ab_getf (v := .int (i5 157 11)) dX2_readLoss_38 fl_X2_166 kd_157 rfl ?_
      refine ab_aaload (a := (m11 + 5 + 6 * (i5 157 11).toNatClampNeg)) dX2_readLoss_41 (Or.inl rfl) (kM_4 hm12) (hm12t.2 c13).1 (fMv hm12 (hm12t.2 c13).1) ?_
      refine ab_getf (v := .ref ((m11 + 5 + 6 * (i5 157 11).toNatClampNeg) + 2)) dX2_readLoss_42 fl_X2_168 (kV (isVof hm12 (hm12t.2 c13).1)) (fV_5 (isVof hm12 (hm12t.2 c13).1)) ?_
      refine ab_astoren dX2_readLoss_45 (Nat.le_of_ble_eq_true rfl) (L2 := [some (.ref 157), some (.ref ((m11 + 5 + 6 * (i5 157 11).toNatClampNeg) + 2)), none, none]) rfl ?_
      refine ab_aloadn dX2_readLoss_46 rfl ?_
      refine ab_iconst (v := 2) dX2_readLoss_47 (by decide) ?_
      obtain ⟨r14, P15, hs16, hk17⟩ := (hm12t.2 c13).2
      refine ab_callV (vs := [.int 2]) (st := []) dX2_readLoss_48 okMX2_someName wd_582 kd_157 rfl rfl rfl (Nat.le_of_ble_eq_true rfl) ⟨Nat.le_of_ble_eq_true rfl, Nat.le_of_ble_eq_true rfl⟩ hs16 ?_
      rintro v9 ⟨i18, l19, dd20, x21⟩ E9 - ⟨rfl, rfl, hp22⟩
      show ab_Fr MX2_readLoss (d + 1) Q 51 [some (.ref 157), some (.ref ((m11 + 5 + 6 * (i5 157 11).toNatClampNeg) + 2)), none, none] [.int r14] (0, 0) (i18, l19, dd20, x21) (ab_E0 sc)
      refine ab_if_ne (tgt := 56) dX2_readLoss_51 (by decide) (fun c23 => ?_) (fun c23 => ?_)
      · exact ((hk17 i18 l19 dd20 x21 hp22).1 c23)
      · refine ab_iconst (v := 0) dX2_readLoss_54 (by decide) ?_
        exact ab_zret dX2_readLoss_55 rfl (by decide) ⟨Nat.zero_le _, Nat.zero_le _⟩ ((hk17 i18 l19 dd20 x21 hp22).2 c23)
  · refine ab_iconst (v := 0) dX2_readLoss_9 (by decide) ?_
    exact ab_zret dX2_readLoss_10 rfl (by decide) ⟨Nat.zero_le _, Nat.zero_le _⟩ ((hk4 i5 l6 dd7 x8 hp9).2 c10)
theorem tMX2_readLoss_56 {d : Nat} {Q : ab_Qt} {sc : Nat × (Nat → Int32)} {i : Nat → Nat → Int32} {l : Nat → Nat → Int64} {dd : Nat → Nat → Value} {x : Nat} {a1 : Nat} {n_a1 : Nat} (k_a1 : (ab_E0 sc).1 a1 = .inr (0, n_a1))
    (h : (∃ (r1 : Int32) (P2 : ab_S → Prop), ab_Sp MX2_someName d [.ref 157, .int 2] (i, l, dd, x) (ab_E0 sc) (some (.int r1)) P2 ∧ ∀ i5 l6 dd7 x8, P2 (i5, l6, dd7, x8) → ((¬ r1 = 0 → (∃ (r11 : Int32) (P12 : ab_S → Prop), ab_Sp MX2_someNumber d [.ref 157, .int 0, .int 50] (i5, l6, dd7, x8) (ab_E0 sc) (some (.int r11)) P12 ∧ ∀ i15 l16 dd17 x18, P12 (i15, l16, dd17, x18) → ((¬ r11 = 0 → (vp_in (((i 157 10) * 3) + (i5 157 10)) n_a1 ∧ ∀ i21, i21 = ab_u i15 a1 (((i 157 10) * 3) + (i5 157 10)).toNatClampNeg (i15 157 9) → ∃ (r23 : Int32) (P24 : ab_S → Prop), ab_Sp MX2_stop d [.ref 157] (i21, l16, dd17, x18) (ab_E0 sc) (some (.int r23)) P24 ∧ ∀ i27 l28 dd29 x30, P24 (i27, l28, dd29, x30) → (r23 = 0 ∨ r23 = 1) ∧ Q (some (some (.int r23))) (i27, l28, dd29, x30) (ab_E0 sc))) ∧ (r11 = 0 → Q (some (some (.int 0))) (i15, l16, dd17, x18) (ab_E0 sc))))) ∧ (r1 = 0 → Q (some (some (.int 0))) (i5, l6, dd7, x8) (ab_E0 sc))))) :
    ab_Fr MX2_readLoss (d + 1) Q 56 [some (.ref 157), some (.ref a1), none, none] [] (0, 0) (i, l, dd, x) (ab_E0 sc) := by
  refine ab_aloadn dX2_readLoss_56 rfl ?_
  refine ab_getf (v := .int (i 157 10)) dX2_readLoss_57 fl_X2_171 kd_157 rfl ?_
  refine ab_istoren dX2_readLoss_60 (Nat.le_of_ble_eq_true rfl) (L2 := [some (.ref 157), some (.ref a1), some (.int (i 157 10)), none]) rfl ?_
  refine ab_aloadn dX2_readLoss_61 rfl ?_
  refine ab_iconst (v := 2) dX2_readLoss_62 (by decide) ?_
  obtain ⟨r1, P2, hs3, hk4⟩ := h
  refine ab_callV (vs := [.int 2]) (st := []) dX2_readLoss_63 okMX2_someName wd_582 kd_157 rfl rfl rfl (Nat.le_of_ble_eq_true rfl) ⟨Nat.le_of_ble_eq_true rfl, Nat.le_of_ble_eq_true rfl⟩ hs3 ?_
  rintro v9 ⟨i5, l6, dd7, x8⟩ E9 - ⟨rfl, rfl, hp9⟩
  show ab_Fr MX2_readLoss (d + 1) Q 66 [some (.ref 157), some (.ref a1), some (.int (i 157 10)), none] [.int r1] (0, 0) (i5, l6, dd7, x8) (ab_E0 sc)
  refine ab_if_ne (tgt := 71) dX2_readLoss_66 (by decide) (fun c10 => ?_) (fun c10 => ?_)
  · refine ab_aloadn dX2_readLoss_71 rfl ?_
    refine ab_getf (v := .int (i5 157 10)) dX2_readLoss_72 fl_X2_171 kd_157 rfl ?_
    refine ab_istoren dX2_readLoss_75 (Nat.le_of_ble_eq_true rfl) (L2 := [some (.ref 157), some (.ref a1), some (.int (i 157 10)), some (.int (i5 157 10))]) rfl ?_
    refine ab_aloadn dX2_readLoss_76 rfl ?_
    refine ab_iconst (v := 0) dX2_readLoss_77 (by decide) ?_
    refine ab_bipush (v := 50) dX2_readLoss_78 (by decide) ?_
    obtain ⟨r11, P12, hs13, hk14⟩ := ((hk4 i5 l6 dd7 x8 hp9).1 c10)
    refine ab_callV (vs := [.int 0, .int 50]) (st := []) dX2_readLoss_80 okMX2_someNumber wd_588 kd_157 rfl rfl rfl (Nat.le_of_ble_eq_true rfl) ⟨Nat.le_of_ble_eq_true rfl, Nat.le_of_ble_eq_true rfl⟩ hs13 ?_
    rintro v9 ⟨i15, l16, dd17, x18⟩ E9 - ⟨rfl, rfl, hp19⟩
    show ab_Fr MX2_readLoss (d + 1) Q 83 [some (.ref 157), some (.ref a1), some (.int (i 157 10)), some (.int (i5 157 10))] [.int r11] (0, 0) (i15, l16, dd17, x18) (ab_E0 sc)
    refine ab_if_ne (tgt := 88) dX2_readLoss_83 (by decide) (fun c20 => ?_) (fun c20 => ?_)
    · refine ab_aloadn dX2_readLoss_88 rfl ?_
      refine ab_iloadn dX2_readLoss_89 rfl ?_
      refine ab_iconst (v := 3) dX2_readLoss_90 (by decide) ?_
      refine ab_imul dX2_readLoss_91 ?_
      refine ab_iloadn dX2_readLoss_92 rfl ?_
      refine ab_iadd dX2_readLoss_93 ?_
      refine ab_aloadn dX2_readLoss_94 rfl ?_
      refine ab_getf (v := .int (i15 157 9)) dX2_readLoss_95 fl_X2_90 kd_157 rfl ?_
      refine ab_iastore dX2_readLoss_98 k_a1 ((hk14 i15 l16 dd17 x18 hp19).1 c20).1 ?_
      obtain ⟨i21, e22⟩ : ∃ z, z = ab_u i15 a1 (((i 157 10) * 3) + (i5 157 10)).toNatClampNeg (i15 157 9) := ⟨_, rfl⟩
      rw [show ab_u i15 a1 (((i 157 10) * 3) + (i5 157 10)).toNatClampNeg (i15 157 9) = i21 from e22.symm]
      refine ab_aloadn dX2_readLoss_99 rfl ?_
      obtain ⟨r23, P24, hs25, hk26⟩ := (((hk14 i15 l16 dd17 x18 hp19).1 c20).2 i21 e22)
      refine ab_callV (vs := []) (st := []) dX2_readLoss_100 okMX2_stop wd_591 kd_157 rfl rfl rfl (Nat.le_of_ble_eq_true rfl) ⟨Nat.le_of_ble_eq_true rfl, Nat.le_of_ble_eq_true rfl⟩ hs25 ?_
      rintro v9 ⟨i27, l28, dd29, x30⟩ E9 - ⟨rfl, rfl, hp31⟩
      show ab_Fr MX2_readLoss (d + 1) Q 103 [some (.ref 157), some (.ref a1), some (.int (i 157 10)), some (.int (i5 157 10))] [.int r23] (0, 0) (i27, l28, dd29, x30) (ab_E0 sc)
      exact ab_zret dX2_readLoss_103 rfl (hk26 i27 l28 dd29 x30 hp31).1 ⟨Nat.zero_le _, Nat.zero_le _⟩ (hk26 i27 l28 dd29 x30 hp31).2
    · refine ab_iconst (v := 0) dX2_readLoss_86 (by decide) ?_
      exact ab_zret dX2_readLoss_87 rfl (by decide) ⟨Nat.zero_le _, Nat.zero_le _⟩ ((hk14 i15 l16 dd17 x18 hp19).2 c20)
  · refine ab_iconst (v := 0) dX2_readLoss_69 (by decide) ?_
    exact ab_zret dX2_readLoss_70 rfl (by decide) ⟨Nat.zero_le _, Nat.zero_le _⟩ ((hk4 i5 l6 dd7 x8 hp9).2 c10)
theorem tMX2_readWay_0 {d : Nat} {Q : ab_Qt} {sc : Nat × (Nat → Int32)} {i : Nat → Nat → Int32} {l : Nat → Nat → Int64} {dd : Nat → Nat → Value} {x : Nat}  
    (h : (∃ (r1 : Int32) (P2 : ab_S → Prop), ab_Sp MX2_someName d [.ref 157, .int 4] (i, l, dd, x) (ab_E0 sc) (some (.int r1)) P2 ∧ ∀ i5 l6 dd7 x8, P2 (i5, l6, dd7, x8) → ((¬ r1 = 0 → (∃ m11, dd7 157 2 = .ref m11 ∧ ab_isM m11 ∧ vp_in (i5 157 11) 7 ∧ ∃ (P14 : ab_S → Prop), ab_Sp MX2_next d [.ref 157] (i5, l6, dd7, x8) (ab_E0 sc) (none) P14 ∧ ∀ i17 l18 dd19 x20, P14 (i17, l18, dd19, x20) → (((i17 157 8).toInt < 7 ∨ 10 < (i17 157 8).toInt → (∃ (r23 : Int32) (P24 : ab_S → Prop), ab_Sp MX2_fail d [.ref 157, .int 1] (i17, l18, dd19, x20) (ab_E0 sc) (some (.int r23)) P24 ∧ ∀ i27 l28 dd29 x30, P24 (i27, l28, dd29, x30) → (r23 = 0 ∨ r23 = 1) ∧ Q (some (some (.int r23))) (i27, l28, dd29, x30) (ab_E0 sc))) ∧ ((i17 157 8).toInt = 7 → (∀ i32, i32 = ab_u i17 (m11 + 5 + 6 * (i5 157 11).toNatClampNeg) 2 0 → ab_Fr MX2_readWay (d + 1) Q 125 [some (.ref 157), none] [] (0, 0) (i32, l18, dd19, x20) (ab_E0 sc))) ∧ ((i17 157 8).toInt = 8 → (∀ i34, i34 = ab_u i17 (m11 + 5 + 6 * (i5 157 11).toNatClampNeg) 2 1 → ab_Fr MX2_readWay (d + 1) Q 125 [some (.ref 157), none] [] (0, 0) (i34, l18, dd19, x20) (ab_E0 sc))) ∧ ((i17 157 8).toInt = 9 → (∀ i36, i36 = ab_u i17 (m11 + 5 + 6 * (i5 157 11).toNatClampNeg) 2 2 → ∃ (r38 : Int32) (P39 : ab_S → Prop), ab_Sp MX2_someNumber d [.ref 157, .int 1, .int 20] (i36, l18, dd19, x20) (ab_E0 sc) (some (.int r38)) P39 ∧ ∀ i42 l43 dd44 x45, P39 (i42, l43, dd44, x45) → ((¬ r38 = 0 → (∀ i48, i48 = ab_u i42 (m11 + 5 + 6 * (i5 157 11).toNatClampNeg) 3 (i42 157 9) → ab_Fr MX2_readWay (d + 1) Q 125 [some (.ref 157), none] [] (0, 0) (i48, l43, dd44, x45) (ab_E0 sc))) ∧ (r38 = 0 → Q (some (some (.int 0))) (i42, l43, dd44, x45) (ab_E0 sc))))) ∧ ((i17 157 8).toInt = 10 → (∀ i50, i50 = ab_u i17 (m11 + 5 + 6 * (i5 157 11).toNatClampNeg) 2 3 → ∃ (r52 : Int32) (P53 : ab_S → Prop), ab_Sp MX2_readSet d [.ref 157, .ref (m11 + 5 + 6 * (i5 157 11).toNatClampNeg)] (i50, l18, dd19, x20) (ab_E0 sc) (some (.int r52)) P53 ∧ ∀ i56 l57 dd58 x59, P53 (i56, l57, dd58, x59) → ((¬ r52 = 0 → ab_Fr MX2_readWay (d + 1) Q 125 [some (.ref 157), none] [] (0, 0) (i56, l57, dd58, x59) (ab_E0 sc)) ∧ (r52 = 0 → Q (some (some (.int 0))) (i56, l57, dd58, x59) (ab_E0 sc)))))))) ∧ (r1 = 0 → Q (some (some (.int 0))) (i5, l6, dd7, x8) (ab_E0 sc))))) :
    ab_Fr MX2_readWay (d + 1) Q 0 [some (.ref 157), none] [] (0, 0) (i, l, dd, x) (ab_E0 sc) := by
  refine ab_aloadn dX2_readWay_0 rfl ?_
  refine ab_iconst (v := 4) dX2_readWay_1 (by decide) ?_
  obtain ⟨r1, P2, hs3, hk4⟩ := h
  refine ab_callV (vs := [.int 4]) (st := []) dX2_readWay_2 okMX2_someName wd_582 kd_157 rfl rfl rfl (Nat.le_of_ble_eq_true rfl) ⟨Nat.le_of_ble_eq_true rfl, Nat.le_of_ble_eq_true rfl⟩ hs3 ?_
  rintro v9 ⟨i5, l6, dd7, x8⟩ E9 - ⟨rfl, rfl, hp9⟩
  show ab_Fr MX2_readWay (d + 1) Q 5 [some (.ref 157), none] [.int r1] (0, 0) (i5, l6, dd7, x8) (ab_E0 sc)
  refine ab_if_ne (tgt := 10) dX2_readWay_5 (by decide) (fun c10 => ?_) (fun c10 => ?_)
  · refine ab_aloadn dX2_readWay_10 rfl ?_
    obtain ⟨m11, hm12d, hm12, hm12t⟩ := ((hk4 i5 l6 dd7 x8 hp9).1 c10)
    refine ab_getf (v := .ref m11) dX2_readWay_11 fl_X2_15 kd_157 hm12d ?_
    refine ab_getf (v := .ref (m11 + 4)) dX2_readWay_14 fl_X2_142 (kM hm12) (fM_8 hm12) ?_
    refine ab_aloadn dX2_readWay_17 rfl ?_
    refine ab_getf (v := .int (i5 157 11)) dX2_readWay_18 fl_X2_166 kd_157 rfl ?_
    refine ab_aaload (a := (m11 + 5 + 6 * (i5 157 11).toNatClampNeg)) dX2_readWay_21 (Or.inl rfl) (kM_4 hm12) hm12t.1 (fMv hm12 hm12t.1) ?_
    refine ab_astoren dX2_readWay_22 (Nat.le_of_ble_eq_true rfl) (L2 := [some (.ref 157), some (.ref (m11 + 5 + 6 * (i5 157 11).toNatClampNeg))]) rfl ?_
    refine ab_aloadn dX2_readWay_23 rfl ?_
    obtain ⟨P14, hs15, hk16⟩ := hm12t.2
    refine ab_callV (vs := []) (st := []) dX2_readWay_24 okMX2_next wd_560 kd_157 rfl rfl rfl (Nat.le_of_ble_eq_true rfl) ⟨Nat.le_of_ble_eq_true rfl, Nat.le_of_ble_eq_true rfl⟩ hs15 ?_
    rintro v9 ⟨i17, l18, dd19, x20⟩ E9 - ⟨rfl, rfl, hp21⟩
    show ab_Fr MX2_readWay (d + 1) Q 27 [some (.ref 157), some (.ref (m11 + 5 + 6 * (i5 157 11).toNatClampNeg))] [] (0, 0) (i17, l18, dd19, x20) (ab_E0 sc)
    refine ab_aloadn dX2_readWay_27 rfl ?_
    refine ab_getf (v := .int (i17 157 8)) dX2_readWay_28 fl_X2_74 kd_157 rfl ?_
    rcases ab_tabsplit (i17 157 8) 7 4 with c22 | ⟨q, hq, c22⟩
    · refine ab_tabOut (tgt := 119) dX2_readWay_31 (by simpa using c22) (by decide) ?_
      refine ab_aloadn dX2_readWay_119 rfl ?_
      refine ab_iconst (v := 1) dX2_readWay_120 (by decide) ?_
      obtain ⟨r23, P24, hs25, hk26⟩ := ((hk16 i17 l18 dd19 x20 hp21).1 c22)
      refine ab_callV (vs := [.int 1]) (st := []) dX2_readWay_121 okMX2_fail wd_576 kd_157 rfl rfl rfl (Nat.le_of_ble_eq_true rfl) ⟨Nat.le_of_ble_eq_true rfl, Nat.le_of_ble_eq_true rfl⟩ hs25 ?_
      rintro v9 ⟨i27, l28, dd29, x30⟩ E9 - ⟨rfl, rfl, hp31⟩
      show ab_Fr MX2_readWay (d + 1) Q 124 [some (.ref 157), some (.ref (m11 + 5 + 6 * (i5 157 11).toNatClampNeg))] [.int r23] (0, 0) (i27, l28, dd29, x30) (ab_E0 sc)
      exact ab_zret dX2_readWay_124 rfl (hk26 i27 l28 dd29 x30 hp31).1 ⟨Nat.zero_le _, Nat.zero_le _⟩ (hk26 i27 l28 dd29 x30 hp31).2
    · match q, hq with
      | 0, _ =>
          have c22 : (i17 157 8).toInt = 7 := by simpa using c22
          refine ab_tabIn (tgt := 60) dX2_readWay_31 (by rw [c22]; decide) (by rw [c22]; decide) (off := 29) (by rw [c22]; rfl) (by decide) ?_
          refine ab_aloadn dX2_readWay_60 rfl ?_
          refine ab_iconst (v := 0) dX2_readWay_61 (by decide) ?_
          refine ab_putI dX2_readWay_62 fl_X2_174 (kV (isVof hm12 hm12t.1)) rfl ?_
          obtain ⟨i32, e33⟩ : ∃ z, z = ab_u i17 (m11 + 5 + 6 * (i5 157 11).toNatClampNeg) 2 0 := ⟨_, rfl⟩
          show ab_Fr MX2_readWay (d + 1) Q 65 [some (.ref 157), some (.ref (m11 + 5 + 6 * (i5 157 11).toNatClampNeg))] [] (0, 0) (ab_u i17 (m11 + 5 + 6 * (i5 157 11).toNatClampNeg) 2 0, l18, dd19, x20) (ab_E0 sc)
          rw [show ab_u i17 (m11 + 5 + 6 * (i5 157 11).toNatClampNeg) 2 0 = i32 from e33.symm]
          refine ab_goto (tgt := 125) dX2_readWay_65 (by decide) ?_
          refine ab_forget (i := 1) (L2 := [some (.ref 157), none]) rfl ?_
          exact (((hk16 i17 l18 dd19 x20 hp21).2.1 c22) i32 e33)
      | 1, _ =>
          have c22 : (i17 157 8).toInt = 8 := by simpa using c22
          refine ab_tabIn (tgt := 68) dX2_readWay_31 (by rw [c22]; decide) (by rw [c22]; decide) (off := 37) (by rw [c22]; rfl) (by decide) ?_
          refine ab_aloadn dX2_readWay_68 rfl ?_
          refine ab_iconst (v := 1) dX2_readWay_69 (by decide) ?_
          refine ab_putI dX2_readWay_70 fl_X2_174 (kV (isVof hm12 hm12t.1)) rfl ?_
          obtain ⟨i34, e35⟩ : ∃ z, z = ab_u i17 (m11 + 5 + 6 * (i5 157 11).toNatClampNeg) 2 1 := ⟨_, rfl⟩
          show ab_Fr MX2_readWay (d + 1) Q 73 [some (.ref 157), some (.ref (m11 + 5 + 6 * (i5 157 11).toNatClampNeg))] [] (0, 0) (ab_u i17 (m11 + 5 + 6 * (i5 157 11).toNatClampNeg) 2 1, l18, dd19, x20) (ab_E0 sc)
          rw [show ab_u i17 (m11 + 5 + 6 * (i5 157 11).toNatClampNeg) 2 1 = i34 from e35.symm]
          refine ab_goto (tgt := 125) dX2_readWay_73 (by decide) ?_
          refine ab_forget (i := 1) (L2 := [some (.ref 157), none]) rfl ?_
          exact (((hk16 i17 l18 dd19 x20 hp21).2.2.1 c22) i34 e35)
      | 2, _ =>
          have c22 : (i17 157 8).toInt = 9 := by simpa using c22
          refine ab_tabIn (tgt := 76) dX2_readWay_31 (by rw [c22]; decide) (by rw [c22]; decide) (off := 45) (by rw [c22]; rfl) (by decide) ?_
          refine ab_aloadn dX2_readWay_76 rfl ?_
          refine ab_iconst (v := 2) dX2_readWay_77 (by decide) ?_
          refine ab_putI dX2_readWay_78 fl_X2_174 (kV (isVof hm12 hm12t.1)) rfl ?_
          obtain ⟨i36, e37⟩ : ∃ z, z = ab_u i17 (m11 + 5 + 6 * (i5 157 11).toNatClampNeg) 2 2 := ⟨_, rfl⟩
          show ab_Fr MX2_readWay (d + 1) Q 81 [some (.ref 157), some (.ref (m11 + 5 + 6 * (i5 157 11).toNatClampNeg))] [] (0, 0) (ab_u i17 (m11 + 5 + 6 * (i5 157 11).toNatClampNeg) 2 2, l18, dd19, x20) (ab_E0 sc)
          rw [show ab_u i17 (m11 + 5 + 6 * (i5 157 11).toNatClampNeg) 2 2 = i36 from e37.symm]
          refine ab_aloadn dX2_readWay_81 rfl ?_
          refine ab_iconst (v := 1) dX2_readWay_82 (by decide) ?_
          refine ab_bipush (v := 20) dX2_readWay_83 (by decide) ?_
          obtain ⟨r38, P39, hs40, hk41⟩ := (((hk16 i17 l18 dd19 x20 hp21).2.2.2.1 c22) i36 e37)
          refine ab_callV (vs := [.int 1, .int 20]) (st := []) dX2_readWay_85 okMX2_someNumber wd_588 kd_157 rfl rfl rfl (Nat.le_of_ble_eq_true rfl) ⟨Nat.le_of_ble_eq_true rfl, Nat.le_of_ble_eq_true rfl⟩ hs40 ?_
          rintro v9 ⟨i42, l43, dd44, x45⟩ E9 - ⟨rfl, rfl, hp46⟩
          show ab_Fr MX2_readWay (d + 1) Q 88 [some (.ref 157), some (.ref (m11 + 5 + 6 * (i5 157 11).toNatClampNeg))] [.int r38] (0, 0) (i42, l43, dd44, x45) (ab_E0 sc)
          refine ab_if_ne (tgt := 93) dX2_readWay_88 (by decide) (fun c47 => ?_) (fun c47 => ?_)
          · refine ab_aloadn dX2_readWay_93 rfl ?_
            refine ab_aloadn dX2_readWay_94 rfl ?_
            refine ab_getf (v := .int (i42 157 9)) dX2_readWay_95 fl_X2_90 kd_157 rfl ?_
            refine ab_putI dX2_readWay_98 fl_X2_177 (kV (isVof hm12 hm12t.1)) rfl ?_
            obtain ⟨i48, e49⟩ : ∃ z, z = ab_u i42 (m11 + 5 + 6 * (i5 157 11).toNatClampNeg) 3 (i42 157 9) := ⟨_, rfl⟩
            show ab_Fr MX2_readWay (d + 1) Q 101 [some (.ref 157), some (.ref (m11 + 5 + 6 * (i5 157 11).toNatClampNeg))] [] (0, 0) (ab_u i42 (m11 + 5 + 6 * (i5 157 11).toNatClampNeg) 3 (i42 157 9), l43, dd44, x45) (ab_E0 sc)
            rw [show ab_u i42 (m11 + 5 + 6 * (i5 157 11).toNatClampNeg) 3 (i42 157 9) = i48 from e49.symm]
            refine ab_goto (tgt := 125) dX2_readWay_101 (by decide) ?_
            refine ab_forget (i := 1) (L2 := [some (.ref 157), none]) rfl ?_
            exact (((hk41 i42 l43 dd44 x45 hp46).1 c47) i48 e49)
          · refine ab_iconst (v := 0) dX2_readWay_91 (by decide) ?_
            exact ab_zret dX2_readWay_92 rfl (by decide) ⟨Nat.zero_le _, Nat.zero_le _⟩ ((hk41 i42 l43 dd44 x45 hp46).2 c47)
      | 3, _ =>
          have c22 : (i17 157 8).toInt = 10 := by simpa using c22
          refine ab_tabIn (tgt := 104) dX2_readWay_31 (by rw [c22]; decide) (by rw [c22]; decide) (off := 73) (by rw [c22]; rfl) (by decide) ?_
          refine ab_aloadn dX2_readWay_104 rfl ?_
          refine ab_iconst (v := 3) dX2_readWay_105 (by decide) ?_
          refine ab_putI dX2_readWay_106 fl_X2_174 (kV (isVof hm12 hm12t.1)) rfl ?_
          obtain ⟨i50, e51⟩ : ∃ z, z = ab_u i17 (m11 + 5 + 6 * (i5 157 11).toNatClampNeg) 2 3 := ⟨_, rfl⟩
          show ab_Fr MX2_readWay (d + 1) Q 109 [some (.ref 157), some (.ref (m11 + 5 + 6 * (i5 157 11).toNatClampNeg))] [] (0, 0) (ab_u i17 (m11 + 5 + 6 * (i5 157 11).toNatClampNeg) 2 3, l18, dd19, x20) (ab_E0 sc)
          rw [show ab_u i17 (m11 + 5 + 6 * (i5 157 11).toNatClampNeg) 2 3 = i50 from e51.symm]
          refine ab_aloadn dX2_readWay_109 rfl ?_
          refine ab_aloadn dX2_readWay_110 rfl ?_
          obtain ⟨r52, P53, hs54, hk55⟩ := (((hk16 i17 l18 dd19 x20 hp21).2.2.2.2 c22) i50 e51)
          refine ab_callV (vs := [.ref (m11 + 5 + 6 * (i5 157 11).toNatClampNeg)]) (st := []) dX2_readWay_111 okMX2_readSet wd_613 kd_157 rfl rfl rfl (Nat.le_of_ble_eq_true rfl) ⟨Nat.le_of_ble_eq_true rfl, Nat.le_of_ble_eq_true rfl⟩ hs54 ?_
          rintro v9 ⟨i56, l57, dd58, x59⟩ E9 - ⟨rfl, rfl, hp60⟩
          show ab_Fr MX2_readWay (d + 1) Q 114 [some (.ref 157), some (.ref (m11 + 5 + 6 * (i5 157 11).toNatClampNeg))] [.int r52] (0, 0) (i56, l57, dd58, x59) (ab_E0 sc)
          refine ab_if_ne (tgt := 125) dX2_readWay_114 (by decide) (fun c61 => ?_) (fun c61 => ?_)
          · refine ab_forget (i := 1) (L2 := [some (.ref 157), none]) rfl ?_
            exact ((hk55 i56 l57 dd58 x59 hp60).1 c61)
          · refine ab_iconst (v := 0) dX2_readWay_117 (by decide) ?_
            exact ab_zret dX2_readWay_118 rfl (by decide) ⟨Nat.zero_le _, Nat.zero_le _⟩ ((hk55 i56 l57 dd58 x59 hp60).2 c61)
      | n + 4, hq => exact absurd hq (by omega)
  · refine ab_iconst (v := 0) dX2_readWay_8 (by decide) ?_
    exact ab_zret dX2_readWay_9 rfl (by decide) ⟨Nat.zero_le _, Nat.zero_le _⟩ ((hk4 i5 l6 dd7 x8 hp9).2 c10)
theorem tMX2_readWay_125 {d : Nat} {Q : ab_Qt} {sc : Nat × (Nat → Int32)} {i : Nat → Nat → Int32} {l : Nat → Nat → Int64} {dd : Nat → Nat → Value} {x : Nat}  
    (h : (∃ (r1 : Int32) (P2 : ab_S → Prop), ab_Sp MX2_stop d [.ref 157] (i, l, dd, x) (ab_E0 sc) (some (.int r1)) P2 ∧ ∀ i5 l6 dd7 x8, P2 (i5, l6, dd7, x8) → (r1 = 0 ∨ r1 = 1) ∧ Q (some (some (.int r1))) (i5, l6, dd7, x8) (ab_E0 sc))) :
    ab_Fr MX2_readWay (d + 1) Q 125 [some (.ref 157), none] [] (0, 0) (i, l, dd, x) (ab_E0 sc) := by
  refine ab_aloadn dX2_readWay_125 rfl ?_
  obtain ⟨r1, P2, hs3, hk4⟩ := h
  refine ab_callV (vs := []) (st := []) dX2_readWay_126 okMX2_stop wd_591 kd_157 rfl rfl rfl (Nat.le_of_ble_eq_true rfl) ⟨Nat.le_of_ble_eq_true rfl, Nat.le_of_ble_eq_true rfl⟩ hs3 ?_
  rintro v9 ⟨i5, l6, dd7, x8⟩ E9 - ⟨rfl, rfl, hp9⟩
  show ab_Fr MX2_readWay (d + 1) Q 129 [some (.ref 157), none] [.int r1] (0, 0) (i5, l6, dd7, x8) (ab_E0 sc)
  exact ab_zret dX2_readWay_129 rfl (hk4 i5 l6 dd7 x8 hp9).1 ⟨Nat.zero_le _, Nat.zero_le _⟩ (hk4 i5 l6 dd7 x8 hp9).2
theorem tMX2_readSet_0 {d : Nat} {Q : ab_Qt} {sc : Nat × (Nat → Int32)} {i : Nat → Nat → Int32} {l : Nat → Nat → Int64} {dd : Nat → Nat → Value} {x : Nat} {a1 : Nat} (k_a1 : ab_isV a1)
    (h : ab_Fr MX2_readSet (d + 1) Q 2 [some (.ref 157), some (.ref a1), some (.int 0)] [] (0, 0) (i, l, dd, x) (ab_E0 sc)) :
    ab_Fr MX2_readSet (d + 1) Q 0 [some (.ref 157), some (.ref a1), none] [] (0, 0) (i, l, dd, x) (ab_E0 sc) := by
  refine ab_iconst (v := 0) dX2_readSet_0 (by decide) ?_
  refine ab_istoren dX2_readSet_1 (Nat.le_of_ble_eq_true rfl) (L2 := [some (.ref 157), some (.ref a1), some (.int 0)]) rfl ?_
  exact h
theorem tMX2_readSet_2 {d : Nat} {Q : ab_Qt} {sc : Nat × (Nat → Int32)} {i : Nat → Nat → Int32} {l : Nat → Nat → Int64} {dd : Nat → Nat → Value} {x : Nat} {a1 : Nat} {a2 : Int32} (k_a1 : ab_isV a1)
    (h : (((i a1 0) ≤ a2 → Q (some (some (.int 1))) (i, l, dd, x) (ab_E0 sc)) ∧ (¬ (i a1 0) ≤ a2 → (∃ (P3 : ab_S → Prop), ab_Sp MX2_next d [.ref 157] (i, l, dd, x) (ab_E0 sc) (none) P3 ∧ ∀ i6 l7 dd8 x9, P3 (i6, l7, dd8, x9) → ((¬ (i6 157 8) = 11 → (∃ (r12 : Int32) (P13 : ab_S → Prop), ab_Sp MX2_isName d [.ref 157, .int 2] (i6, l7, dd8, x9) (ab_E0 sc) (some (.int r12)) P13 ∧ ∀ i16 l17 dd18 x19, P13 (i16, l17, dd18, x19) → ((r12 = 0 → Q (some (some (.int 0))) (i16, l17, dd18, x19) (ab_E0 sc)) ∧ (¬ r12 = 0 → (vp_in a2 3 ∧ ∀ i22, i22 = ab_u i16 (a1 + 5) a2.toNatClampNeg (i16 157 10) → ab_Fr MX2_readSet (d + 1) Q 2 [some (.ref 157), some (.ref a1), some (.int (a2 + 1))] [] (0, 0) (i22, l17, dd18, x19) (ab_E0 sc)))))) ∧ ((i6 157 8) = 11 → (vp_in a2 3 ∧ ∀ i24, i24 = ab_u i6 (a1 + 5) a2.toNatClampNeg 9 → ab_Fr MX2_readSet (d + 1) Q 2 [some (.ref 157), some (.ref a1), some (.int (a2 + 1))] [] (0, 0) (i24, l7, dd8, x9) (ab_E0 sc)))))))) :
    ab_Fr MX2_readSet (d + 1) Q 2 [some (.ref 157), some (.ref a1), some (.int a2)] [] (0, 0) (i, l, dd, x) (ab_E0 sc) := by
  refine ab_iloadn dX2_readSet_2 rfl ?_
  refine ab_aloadn dX2_readSet_3 rfl ?_
  refine ab_getf (v := .int (i a1 0)) dX2_readSet_4 fl_X2_151 (kV k_a1) rfl ?_
  refine ab_icmp_ge (tgt := 63) dX2_readSet_7 (by decide) (fun c1 => ?_) (fun c1 => ?_)
  · refine ab_iconst (v := 1) dX2_readSet_63 (by decide) ?_
    exact ab_zret dX2_readSet_64 rfl (by decide) ⟨Nat.zero_le _, Nat.zero_le _⟩ (h.1 c1)
  · refine ab_aloadn dX2_readSet_10 rfl ?_
    obtain ⟨P3, hs4, hk5⟩ := (h.2 c1)
    refine ab_callV (vs := []) (st := []) dX2_readSet_11 okMX2_next wd_560 kd_157 rfl rfl rfl (Nat.le_of_ble_eq_true rfl) ⟨Nat.le_of_ble_eq_true rfl, Nat.le_of_ble_eq_true rfl⟩ hs4 ?_
    rintro v9 ⟨i6, l7, dd8, x9⟩ E9 - ⟨rfl, rfl, hp10⟩
    show ab_Fr MX2_readSet (d + 1) Q 14 [some (.ref 157), some (.ref a1), some (.int a2)] [] (0, 0) (i6, l7, dd8, x9) (ab_E0 sc)
    refine ab_aloadn dX2_readSet_14 rfl ?_
    refine ab_getf (v := .int (i6 157 8)) dX2_readSet_15 fl_X2_74 kd_157 rfl ?_
    refine ab_bipush (v := 11) dX2_readSet_18 (by decide) ?_
    refine ab_icmp_ne (tgt := 34) dX2_readSet_20 (by decide) (fun c11 => ?_) (fun c11 => ?_)
    · refine ab_aloadn dX2_readSet_34 rfl ?_
      refine ab_iconst (v := 2) dX2_readSet_35 (by decide) ?_
      obtain ⟨r12, P13, hs14, hk15⟩ := ((hk5 i6 l7 dd8 x9 hp10).1 c11)
      refine ab_callV (vs := [.int 2]) (st := []) dX2_readSet_36 okMX2_isName wd_585 kd_157 rfl rfl rfl (Nat.le_of_ble_eq_true rfl) ⟨Nat.le_of_ble_eq_true rfl, Nat.le_of_ble_eq_true rfl⟩ hs14 ?_
      rintro v9 ⟨i16, l17, dd18, x19⟩ E9 - ⟨rfl, rfl, hp20⟩
      show ab_Fr MX2_readSet (d + 1) Q 39 [some (.ref 157), some (.ref a1), some (.int a2)] [.int r12] (0, 0) (i16, l17, dd18, x19) (ab_E0 sc)
      refine ab_if_eq (tgt := 55) dX2_readSet_39 (by decide) (fun c21 => ?_) (fun c21 => ?_)
      · refine ab_iconst (v := 0) dX2_readSet_55 (by decide) ?_
        exact ab_zret dX2_readSet_56 rfl (by decide) ⟨Nat.zero_le _, Nat.zero_le _⟩ ((hk15 i16 l17 dd18 x19 hp20).1 c21)
      · refine ab_aloadn dX2_readSet_42 rfl ?_
        refine ab_getf (v := .ref (a1 + 5)) dX2_readSet_43 fl_X2_184 (kV k_a1) (fV_7 k_a1) ?_
        refine ab_iloadn dX2_readSet_46 rfl ?_
        refine ab_aloadn dX2_readSet_47 rfl ?_
        refine ab_getf (v := .int (i16 157 10)) dX2_readSet_48 fl_X2_171 kd_157 rfl ?_
        refine ab_iastore dX2_readSet_51 (kV_5 k_a1) ((hk15 i16 l17 dd18 x19 hp20).2 c21).1 ?_
        obtain ⟨i22, e23⟩ : ∃ z, z = ab_u i16 (a1 + 5) a2.toNatClampNeg (i16 157 10) := ⟨_, rfl⟩
        rw [show ab_u i16 (a1 + 5) a2.toNatClampNeg (i16 157 10) = i22 from e23.symm]
        refine ab_goto (tgt := 57) dX2_readSet_52 (by decide) ?_
        refine ab_iinc (v := (a2 + 1)) dX2_readSet_57 rfl (by rfl) (Nat.le_of_ble_eq_true rfl) (L2 := [some (.ref 157), some (.ref a1), some (.int (a2 + 1))]) rfl ?_
        refine ab_goto (tgt := 2) dX2_readSet_60 (by decide) ?_
        exact (((hk15 i16 l17 dd18 x19 hp20).2 c21).2 i22 e23)
    · refine ab_aloadn dX2_readSet_23 rfl ?_
      refine ab_getf (v := .ref (a1 + 5)) dX2_readSet_24 fl_X2_184 (kV k_a1) (fV_7 k_a1) ?_
      refine ab_iloadn dX2_readSet_27 rfl ?_
      refine ab_bipush (v := 9) dX2_readSet_28 (by decide) ?_
      refine ab_iastore dX2_readSet_30 (kV_5 k_a1) ((hk5 i6 l7 dd8 x9 hp10).2 c11).1 ?_
      obtain ⟨i24, e25⟩ : ∃ z, z = ab_u i6 (a1 + 5) a2.toNatClampNeg 9 := ⟨_, rfl⟩
      rw [show ab_u i6 (a1 + 5) a2.toNatClampNeg 9 = i24 from e25.symm]
      refine ab_goto (tgt := 57) dX2_readSet_31 (by decide) ?_
      refine ab_iinc (v := (a2 + 1)) dX2_readSet_57 rfl (by rfl) (Nat.le_of_ble_eq_true rfl) (L2 := [some (.ref 157), some (.ref a1), some (.int (a2 + 1))]) rfl ?_
      refine ab_goto (tgt := 2) dX2_readSet_60 (by decide) ?_
      exact (((hk5 i6 l7 dd8 x9 hp10).2 c11).2 i24 e25)
theorem tMX2_readWeight_0 {d : Nat} {Q : ab_Qt} {sc : Nat × (Nat → Int32)} {i : Nat → Nat → Int32} {l : Nat → Nat → Int64} {dd : Nat → Nat → Value} {x : Nat}  
    (h : (∃ (r1 : Int32) (P2 : ab_S → Prop), ab_Sp MX2_someName d [.ref 157, .int 4] (i, l, dd, x) (ab_E0 sc) (some (.int r1)) P2 ∧ ∀ i5 l6 dd7 x8, P2 (i5, l6, dd7, x8) → ((r1 = 0 → Q (some (some (.int 0))) (i5, l6, dd7, x8) (ab_E0 sc)) ∧ (¬ r1 = 0 → (∃ (r11 : Int32) (P12 : ab_S → Prop), ab_Sp MX2_someNumber d [.ref 157, .int 0, .int 9] (i5, l6, dd7, x8) (ab_E0 sc) (some (.int r11)) P12 ∧ ∀ i15 l16 dd17 x18, P12 (i15, l16, dd17, x18) → ((¬ r11 = 0 → (∃ m21, dd17 157 2 = .ref m21 ∧ ab_isM m21 ∧ vp_in (i15 157 11) 7 ∧ ∀ i23, i23 = ab_u i15 (m21 + 5 + 6 * (i15 157 11).toNatClampNeg) 1 (i15 157 9) → ∃ (r25 : Int32) (P26 : ab_S → Prop), ab_Sp MX2_stop d [.ref 157] (i23, l16, dd17, x18) (ab_E0 sc) (some (.int r25)) P26 ∧ ∀ i29 l30 dd31 x32, P26 (i29, l30, dd31, x32) → (r25 = 0 ∨ r25 = 1) ∧ Q (some (some (.int r25))) (i29, l30, dd31, x32) (ab_E0 sc))) ∧ (r11 = 0 → Q (some (some (.int 0))) (i15, l16, dd17, x18) (ab_E0 sc)))))))) :
    ab_Fr MX2_readWeight (d + 1) Q 0 [some (.ref 157)] [] (0, 0) (i, l, dd, x) (ab_E0 sc) := by
  refine ab_aloadn dX2_readWeight_0 rfl ?_
  refine ab_iconst (v := 4) dX2_readWeight_1 (by decide) ?_
  obtain ⟨r1, P2, hs3, hk4⟩ := h
  refine ab_callV (vs := [.int 4]) (st := []) dX2_readWeight_2 okMX2_someName wd_582 kd_157 rfl rfl rfl (Nat.le_of_ble_eq_true rfl) ⟨Nat.le_of_ble_eq_true rfl, Nat.le_of_ble_eq_true rfl⟩ hs3 ?_
  rintro v9 ⟨i5, l6, dd7, x8⟩ E9 - ⟨rfl, rfl, hp9⟩
  show ab_Fr MX2_readWeight (d + 1) Q 5 [some (.ref 157)] [.int r1] (0, 0) (i5, l6, dd7, x8) (ab_E0 sc)
  refine ab_if_eq (tgt := 18) dX2_readWeight_5 (by decide) (fun c10 => ?_) (fun c10 => ?_)
  · refine ab_iconst (v := 0) dX2_readWeight_18 (by decide) ?_
    exact ab_zret dX2_readWeight_19 rfl (by decide) ⟨Nat.zero_le _, Nat.zero_le _⟩ ((hk4 i5 l6 dd7 x8 hp9).1 c10)
  · refine ab_aloadn dX2_readWeight_8 rfl ?_
    refine ab_iconst (v := 0) dX2_readWeight_9 (by decide) ?_
    refine ab_bipush (v := 9) dX2_readWeight_10 (by decide) ?_
    obtain ⟨r11, P12, hs13, hk14⟩ := ((hk4 i5 l6 dd7 x8 hp9).2 c10)
    refine ab_callV (vs := [.int 0, .int 9]) (st := []) dX2_readWeight_12 okMX2_someNumber wd_588 kd_157 rfl rfl rfl (Nat.le_of_ble_eq_true rfl) ⟨Nat.le_of_ble_eq_true rfl, Nat.le_of_ble_eq_true rfl⟩ hs13 ?_
    rintro v9 ⟨i15, l16, dd17, x18⟩ E9 - ⟨rfl, rfl, hp19⟩
    show ab_Fr MX2_readWeight (d + 1) Q 15 [some (.ref 157)] [.int r11] (0, 0) (i15, l16, dd17, x18) (ab_E0 sc)
    refine ab_if_ne (tgt := 20) dX2_readWeight_15 (by decide) (fun c20 => ?_) (fun c20 => ?_)
    · refine ab_aloadn dX2_readWeight_20 rfl ?_
      obtain ⟨m21, hm22d, hm22, hm22t⟩ := ((hk14 i15 l16 dd17 x18 hp19).1 c20)
      refine ab_getf (v := .ref m21) dX2_readWeight_21 fl_X2_15 kd_157 hm22d ?_
      refine ab_getf (v := .ref (m21 + 4)) dX2_readWeight_24 fl_X2_142 (kM hm22) (fM_8 hm22) ?_
      refine ab_aloadn dX2_readWeight_27 rfl ?_
      refine ab_getf (v := .int (i15 157 11)) dX2_readWeight_28 fl_X2_166 kd_157 rfl ?_
      refine ab_aaload (a := (m21 + 5 + 6 * (i15 157 11).toNatClampNeg)) dX2_readWeight_31 (Or.inl rfl) (kM_4 hm22) hm22t.1 (fMv hm22 hm22t.1) ?_
      refine ab_aloadn dX2_readWeight_32 rfl ?_
      refine ab_getf (v := .int (i15 157 9)) dX2_readWeight_33 fl_X2_90 kd_157 rfl ?_
      refine ab_putI dX2_readWeight_36 fl_X2_190 (kV (isVof hm22 hm22t.1)) rfl ?_
      obtain ⟨i23, e24⟩ : ∃ z, z = ab_u i15 (m21 + 5 + 6 * (i15 157 11).toNatClampNeg) 1 (i15 157 9) := ⟨_, rfl⟩
      show ab_Fr MX2_readWeight (d + 1) Q 39 [some (.ref 157)] [] (0, 0) (ab_u i15 (m21 + 5 + 6 * (i15 157 11).toNatClampNeg) 1 (i15 157 9), l16, dd17, x18) (ab_E0 sc)
      rw [show ab_u i15 (m21 + 5 + 6 * (i15 157 11).toNatClampNeg) 1 (i15 157 9) = i23 from e24.symm]
      refine ab_aloadn dX2_readWeight_39 rfl ?_
      obtain ⟨r25, P26, hs27, hk28⟩ := (hm22t.2 i23 e24)
      refine ab_callV (vs := []) (st := []) dX2_readWeight_40 okMX2_stop wd_591 kd_157 rfl rfl rfl (Nat.le_of_ble_eq_true rfl) ⟨Nat.le_of_ble_eq_true rfl, Nat.le_of_ble_eq_true rfl⟩ hs27 ?_
      rintro v9 ⟨i29, l30, dd31, x32⟩ E9 - ⟨rfl, rfl, hp33⟩
      show ab_Fr MX2_readWeight (d + 1) Q 43 [some (.ref 157)] [.int r25] (0, 0) (i29, l30, dd31, x32) (ab_E0 sc)
      exact ab_zret dX2_readWeight_43 rfl (hk28 i29 l30 dd31 x32 hp33).1 ⟨Nat.zero_le _, Nat.zero_le _⟩ (hk28 i29 l30 dd31 x32 hp33).2
    · refine ab_iconst (v := 0) dX2_readWeight_18 (by decide) ?_
      exact ab_zret dX2_readWeight_19 rfl (by decide) ⟨Nat.zero_le _, Nat.zero_le _⟩ ((hk14 i15 l16 dd17 x18 hp19).2 c20)
theorem tMX2_readNeed_0 {d : Nat} {Q : ab_Qt} {sc : Nat × (Nat → Int32)} {i : Nat → Nat → Int32} {l : Nat → Nat → Int64} {dd : Nat → Nat → Value} {x : Nat}  
    (h : (∃ (r1 : Int32) (P2 : ab_S → Prop), ab_Sp MX2_someNumber d [.ref 157, .int 1, .int 81] (i, l, dd, x) (ab_E0 sc) (some (.int r1)) P2 ∧ ∀ i5 l6 dd7 x8, P2 (i5, l6, dd7, x8) → ((¬ r1 = 0 → (∃ m11, dd7 157 2 = .ref m11 ∧ ab_isM m11 ∧ ∀ i13, i13 = ab_u i5 m11 2 (i5 157 9) → ∃ (r15 : Int32) (P16 : ab_S → Prop), ab_Sp MX2_someName d [.ref 157, .int 2] (i13, l6, dd7, x8) (ab_E0 sc) (some (.int r15)) P16 ∧ ∀ i19 l20 dd21 x22, P16 (i19, l20, dd21, x22) → ((¬ r15 = 0 → (∃ m25, dd21 157 2 = .ref m25 ∧ ab_isM m25 ∧ ∀ i27, i27 = ab_u i19 m25 3 (i19 157 10) → ∃ (r29 : Int32) (P30 : ab_S → Prop), ab_Sp MX2_someKeyword d [.ref 157, .int 15] (i27, l20, dd21, x22) (ab_E0 sc) (some (.int r29)) P30 ∧ ∀ i33 l34 dd35 x36, P30 (i33, l34, dd35, x36) → ((r29 = 0 → Q (some (some (.int 0))) (i33, l34, dd35, x36) (ab_E0 sc)) ∧ (¬ r29 = 0 → (∃ (r39 : Int32) (P40 : ab_S → Prop), ab_Sp MX2_someName d [.ref 157, .int 2] (i33, l34, dd35, x36) (ab_E0 sc) (some (.int r39)) P40 ∧ ∀ i43 l44 dd45 x46, P40 (i43, l44, dd45, x46) → ((¬ r39 = 0 → (∃ m49, dd45 157 2 = .ref m49 ∧ ab_isM m49 ∧ ∀ i51, i51 = ab_u i43 m49 4 (i43 157 10) → ∃ (r53 : Int32) (P54 : ab_S → Prop), ab_Sp MX2_stop d [.ref 157] (i51, l44, dd45, x46) (ab_E0 sc) (some (.int r53)) P54 ∧ ∀ i57 l58 dd59 x60, P54 (i57, l58, dd59, x60) → (r53 = 0 ∨ r53 = 1) ∧ Q (some (some (.int r53))) (i57, l58, dd59, x60) (ab_E0 sc))) ∧ (r39 = 0 → Q (some (some (.int 0))) (i43, l44, dd45, x46) (ab_E0 sc)))))))) ∧ (r15 = 0 → Q (some (some (.int 0))) (i19, l20, dd21, x22) (ab_E0 sc))))) ∧ (r1 = 0 → Q (some (some (.int 0))) (i5, l6, dd7, x8) (ab_E0 sc))))) :
    ab_Fr MX2_readNeed (d + 1) Q 0 [some (.ref 157)] [] (0, 0) (i, l, dd, x) (ab_E0 sc) := by
  refine ab_aloadn dX2_readNeed_0 rfl ?_
  refine ab_iconst (v := 1) dX2_readNeed_1 (by decide) ?_
  refine ab_bipush (v := 81) dX2_readNeed_2 (by decide) ?_
  obtain ⟨r1, P2, hs3, hk4⟩ := h
  refine ab_callV (vs := [.int 1, .int 81]) (st := []) dX2_readNeed_4 okMX2_someNumber wd_588 kd_157 rfl rfl rfl (Nat.le_of_ble_eq_true rfl) ⟨Nat.le_of_ble_eq_true rfl, Nat.le_of_ble_eq_true rfl⟩ hs3 ?_
  rintro v9 ⟨i5, l6, dd7, x8⟩ E9 - ⟨rfl, rfl, hp9⟩
  show ab_Fr MX2_readNeed (d + 1) Q 7 [some (.ref 157)] [.int r1] (0, 0) (i5, l6, dd7, x8) (ab_E0 sc)
  refine ab_if_ne (tgt := 12) dX2_readNeed_7 (by decide) (fun c10 => ?_) (fun c10 => ?_)
  · refine ab_aloadn dX2_readNeed_12 rfl ?_
    obtain ⟨m11, hm12d, hm12, hm12t⟩ := ((hk4 i5 l6 dd7 x8 hp9).1 c10)
    refine ab_getf (v := .ref m11) dX2_readNeed_13 fl_X2_15 kd_157 hm12d ?_
    refine ab_aloadn dX2_readNeed_16 rfl ?_
    refine ab_getf (v := .int (i5 157 9)) dX2_readNeed_17 fl_X2_90 kd_157 rfl ?_
    refine ab_putI dX2_readNeed_20 fl_X2_193 (kM hm12) rfl ?_
    obtain ⟨i13, e14⟩ : ∃ z, z = ab_u i5 m11 2 (i5 157 9) := ⟨_, rfl⟩
    show ab_Fr MX2_readNeed (d + 1) Q 23 [some (.ref 157)] [] (0, 0) (ab_u i5 m11 2 (i5 157 9), l6, dd7, x8) (ab_E0 sc)
    rw [show ab_u i5 m11 2 (i5 157 9) = i13 from e14.symm]
    refine ab_aloadn dX2_readNeed_23 rfl ?_
    refine ab_iconst (v := 2) dX2_readNeed_24 (by decide) ?_
    obtain ⟨r15, P16, hs17, hk18⟩ := (hm12t i13 e14)
    refine ab_callV (vs := [.int 2]) (st := []) dX2_readNeed_25 okMX2_someName wd_582 kd_157 rfl rfl rfl (Nat.le_of_ble_eq_true rfl) ⟨Nat.le_of_ble_eq_true rfl, Nat.le_of_ble_eq_true rfl⟩ hs17 ?_
    rintro v9 ⟨i19, l20, dd21, x22⟩ E9 - ⟨rfl, rfl, hp23⟩
    show ab_Fr MX2_readNeed (d + 1) Q 28 [some (.ref 157)] [.int r15] (0, 0) (i19, l20, dd21, x22) (ab_E0 sc)
    refine ab_if_ne (tgt := 33) dX2_readNeed_28 (by decide) (fun c24 => ?_) (fun c24 => ?_)
    · refine ab_aloadn dX2_readNeed_33 rfl ?_
      obtain ⟨m25, hm26d, hm26, hm26t⟩ := ((hk18 i19 l20 dd21 x22 hp23).1 c24)
      refine ab_getf (v := .ref m25) dX2_readNeed_34 fl_X2_15 kd_157 hm26d ?_
      refine ab_aloadn dX2_readNeed_37 rfl ?_
      refine ab_getf (v := .int (i19 157 10)) dX2_readNeed_38 fl_X2_171 kd_157 rfl ?_
      refine ab_putI dX2_readNeed_41 fl_X2_199 (kM hm26) rfl ?_
      obtain ⟨i27, e28⟩ : ∃ z, z = ab_u i19 m25 3 (i19 157 10) := ⟨_, rfl⟩
      show ab_Fr MX2_readNeed (d + 1) Q 44 [some (.ref 157)] [] (0, 0) (ab_u i19 m25 3 (i19 157 10), l20, dd21, x22) (ab_E0 sc)
      rw [show ab_u i19 m25 3 (i19 157 10) = i27 from e28.symm]
      refine ab_aloadn dX2_readNeed_44 rfl ?_
      refine ab_bipush (v := 15) dX2_readNeed_45 (by decide) ?_
      obtain ⟨r29, P30, hs31, hk32⟩ := (hm26t i27 e28)
      refine ab_callV (vs := [.int 15]) (st := []) dX2_readNeed_47 okMX2_someKeyword wd_600 kd_157 rfl rfl rfl (Nat.le_of_ble_eq_true rfl) ⟨Nat.le_of_ble_eq_true rfl, Nat.le_of_ble_eq_true rfl⟩ hs31 ?_
      rintro v9 ⟨i33, l34, dd35, x36⟩ E9 - ⟨rfl, rfl, hp37⟩
      show ab_Fr MX2_readNeed (d + 1) Q 50 [some (.ref 157)] [.int r29] (0, 0) (i33, l34, dd35, x36) (ab_E0 sc)
      refine ab_if_eq (tgt := 61) dX2_readNeed_50 (by decide) (fun c38 => ?_) (fun c38 => ?_)
      · refine ab_iconst (v := 0) dX2_readNeed_61 (by decide) ?_
        exact ab_zret dX2_readNeed_62 rfl (by decide) ⟨Nat.zero_le _, Nat.zero_le _⟩ ((hk32 i33 l34 dd35 x36 hp37).1 c38)
      · refine ab_aloadn dX2_readNeed_53 rfl ?_
        refine ab_iconst (v := 2) dX2_readNeed_54 (by decide) ?_
        obtain ⟨r39, P40, hs41, hk42⟩ := ((hk32 i33 l34 dd35 x36 hp37).2 c38)
        refine ab_callV (vs := [.int 2]) (st := []) dX2_readNeed_55 okMX2_someName wd_582 kd_157 rfl rfl rfl (Nat.le_of_ble_eq_true rfl) ⟨Nat.le_of_ble_eq_true rfl, Nat.le_of_ble_eq_true rfl⟩ hs41 ?_
        rintro v9 ⟨i43, l44, dd45, x46⟩ E9 - ⟨rfl, rfl, hp47⟩
        show ab_Fr MX2_readNeed (d + 1) Q 58 [some (.ref 157)] [.int r39] (0, 0) (i43, l44, dd45, x46) (ab_E0 sc)
        refine ab_if_ne (tgt := 63) dX2_readNeed_58 (by decide) (fun c48 => ?_) (fun c48 => ?_)
        · refine ab_aloadn dX2_readNeed_63 rfl ?_
          obtain ⟨m49, hm50d, hm50, hm50t⟩ := ((hk42 i43 l44 dd45 x46 hp47).1 c48)
          refine ab_getf (v := .ref m49) dX2_readNeed_64 fl_X2_15 kd_157 hm50d ?_
          refine ab_aloadn dX2_readNeed_67 rfl ?_
          refine ab_getf (v := .int (i43 157 10)) dX2_readNeed_68 fl_X2_171 kd_157 rfl ?_
          refine ab_putI dX2_readNeed_71 fl_X2_202 (kM hm50) rfl ?_
          obtain ⟨i51, e52⟩ : ∃ z, z = ab_u i43 m49 4 (i43 157 10) := ⟨_, rfl⟩
          show ab_Fr MX2_readNeed (d + 1) Q 74 [some (.ref 157)] [] (0, 0) (ab_u i43 m49 4 (i43 157 10), l44, dd45, x46) (ab_E0 sc)
          rw [show ab_u i43 m49 4 (i43 157 10) = i51 from e52.symm]
          refine ab_aloadn dX2_readNeed_74 rfl ?_
          obtain ⟨r53, P54, hs55, hk56⟩ := (hm50t i51 e52)
          refine ab_callV (vs := []) (st := []) dX2_readNeed_75 okMX2_stop wd_591 kd_157 rfl rfl rfl (Nat.le_of_ble_eq_true rfl) ⟨Nat.le_of_ble_eq_true rfl, Nat.le_of_ble_eq_true rfl⟩ hs55 ?_
          rintro v9 ⟨i57, l58, dd59, x60⟩ E9 - ⟨rfl, rfl, hp61⟩
          show ab_Fr MX2_readNeed (d + 1) Q 78 [some (.ref 157)] [.int r53] (0, 0) (i57, l58, dd59, x60) (ab_E0 sc)
          exact ab_zret dX2_readNeed_78 rfl (hk56 i57 l58 dd59 x60 hp61).1 ⟨Nat.zero_le _, Nat.zero_le _⟩ (hk56 i57 l58 dd59 x60 hp61).2
        · refine ab_iconst (v := 0) dX2_readNeed_61 (by decide) ?_
          exact ab_zret dX2_readNeed_62 rfl (by decide) ⟨Nat.zero_le _, Nat.zero_le _⟩ ((hk42 i43 l44 dd45 x46 hp47).2 c48)
    · refine ab_iconst (v := 0) dX2_readNeed_31 (by decide) ?_
      exact ab_zret dX2_readNeed_32 rfl (by decide) ⟨Nat.zero_le _, Nat.zero_le _⟩ ((hk18 i19 l20 dd21 x22 hp23).2 c24)
  · refine ab_iconst (v := 0) dX2_readNeed_10 (by decide) ?_
    exact ab_zret dX2_readNeed_11 rfl (by decide) ⟨Nat.zero_le _, Nat.zero_le _⟩ ((hk4 i5 l6 dd7 x8 hp9).2 c10)
theorem tMX2_readMost_0 {d : Nat} {Q : ab_Qt} {sc : Nat × (Nat → Int32)} {i : Nat → Nat → Int32} {l : Nat → Nat → Int64} {dd : Nat → Nat → Value} {x : Nat}  
    (h : (((i 157 8) = 12 → (∃ m2, dd 157 2 = .ref m2 ∧ ab_isM m2 ∧ ∀ i4, i4 = ab_u i m2 2 0 → ∀ i6, i6 = ab_u i4 m2 5 (-1) → ∃ (P9 : ab_S → Prop), ab_Sp MX2_next d [.ref 157] (i6, l, dd, x) (ab_E0 sc) (none) P9 ∧ ∀ i12 l13 dd14 x15, P9 (i12, l13, dd14, x15) → ((¬ (i12 157 8) = 13 → ab_Fr MX2_readMost (d + 1) Q 69 [some (.ref 157)] [] (0, 0) (i12, l13, dd14, x15) (ab_E0 sc)) ∧ ((i12 157 8) = 13 → (∃ (r18 : Int32) (P19 : ab_S → Prop), ab_Sp MX2_someName d [.ref 157, .int 4] (i12, l13, dd14, x15) (ab_E0 sc) (some (.int r18)) P19 ∧ ∀ i22 l23 dd24 x25, P19 (i22, l23, dd24, x25) → ((¬ r18 = 0 → (∃ m28, dd24 157 2 = .ref m28 ∧ ab_isM m28 ∧ ∀ i30, i30 = ab_u i22 m28 5 (i22 157 11) → ∃ (P33 : ab_S → Prop), ab_Sp MX2_next d [.ref 157] (i30, l23, dd24, x25) (ab_E0 sc) (none) P33 ∧ ∀ i36 l37 dd38 x39, P33 (i36, l37, dd38, x39) → ab_Fr MX2_readMost (d + 1) Q 69 [some (.ref 157)] [] (0, 0) (i36, l37, dd38, x39) (ab_E0 sc))) ∧ (r18 = 0 → Q (some (some (.int 0))) (i22, l23, dd24, x25) (ab_E0 sc)))))))) ∧ (¬ (i 157 8) = 12 → (∃ (r41 : Int32) (P42 : ab_S → Prop), ab_Sp MX2_fail d [.ref 157, .int 1] (i, l, dd, x) (ab_E0 sc) (some (.int r41)) P42 ∧ ∀ i45 l46 dd47 x48, P42 (i45, l46, dd47, x48) → (r41 = 0 ∨ r41 = 1) ∧ Q (some (some (.int r41))) (i45, l46, dd47, x48) (ab_E0 sc))))) :
    ab_Fr MX2_readMost (d + 1) Q 0 [some (.ref 157)] [] (0, 0) (i, l, dd, x) (ab_E0 sc) := by
  refine ab_aloadn dX2_readMost_0 rfl ?_
  refine ab_getf (v := .int (i 157 8)) dX2_readMost_1 fl_X2_74 kd_157 rfl ?_
  refine ab_bipush (v := 12) dX2_readMost_4 (by decide) ?_
  refine ab_icmp_eq (tgt := 15) dX2_readMost_6 (by decide) (fun c1 => ?_) (fun c1 => ?_)
  · refine ab_aloadn dX2_readMost_15 rfl ?_
    obtain ⟨m2, hm3d, hm3, hm3t⟩ := (h.1 c1)
    refine ab_getf (v := .ref m2) dX2_readMost_16 fl_X2_15 kd_157 hm3d ?_
    refine ab_iconst (v := 0) dX2_readMost_19 (by decide) ?_
    refine ab_putI dX2_readMost_20 fl_X2_193 (kM hm3) rfl ?_
    obtain ⟨i4, e5⟩ : ∃ z, z = ab_u i m2 2 0 := ⟨_, rfl⟩
    show ab_Fr MX2_readMost (d + 1) Q 23 [some (.ref 157)] [] (0, 0) (ab_u i m2 2 0, l, dd, x) (ab_E0 sc)
    rw [show ab_u i m2 2 0 = i4 from e5.symm]
    refine ab_aloadn dX2_readMost_23 rfl ?_
    refine ab_getf (v := .ref m2) dX2_readMost_24 fl_X2_15 kd_157 hm3d ?_
    refine ab_iconst (v := (-1)) dX2_readMost_27 (by decide) ?_
    refine ab_putI dX2_readMost_28 fl_X2_196 (kM hm3) rfl ?_
    obtain ⟨i6, e7⟩ : ∃ z, z = ab_u i4 m2 5 (-1) := ⟨_, rfl⟩
    show ab_Fr MX2_readMost (d + 1) Q 31 [some (.ref 157)] [] (0, 0) (ab_u i4 m2 5 (-1), l, dd, x) (ab_E0 sc)
    rw [show ab_u i4 m2 5 (-1) = i6 from e7.symm]
    refine ab_aloadn dX2_readMost_31 rfl ?_
    obtain ⟨P9, hs10, hk11⟩ := ((hm3t i4 e5) i6 e7)
    refine ab_callV (vs := []) (st := []) dX2_readMost_32 okMX2_next wd_560 kd_157 rfl rfl rfl (Nat.le_of_ble_eq_true rfl) ⟨Nat.le_of_ble_eq_true rfl, Nat.le_of_ble_eq_true rfl⟩ hs10 ?_
    rintro v9 ⟨i12, l13, dd14, x15⟩ E9 - ⟨rfl, rfl, hp16⟩
    show ab_Fr MX2_readMost (d + 1) Q 35 [some (.ref 157)] [] (0, 0) (i12, l13, dd14, x15) (ab_E0 sc)
    refine ab_aloadn dX2_readMost_35 rfl ?_
    refine ab_getf (v := .int (i12 157 8)) dX2_readMost_36 fl_X2_74 kd_157 rfl ?_
    refine ab_bipush (v := 13) dX2_readMost_39 (by decide) ?_
    refine ab_icmp_ne (tgt := 69) dX2_readMost_41 (by decide) (fun c17 => ?_) (fun c17 => ?_)
    · exact ((hk11 i12 l13 dd14 x15 hp16).1 c17)
    · refine ab_aloadn dX2_readMost_44 rfl ?_
      refine ab_iconst (v := 4) dX2_readMost_45 (by decide) ?_
      obtain ⟨r18, P19, hs20, hk21⟩ := ((hk11 i12 l13 dd14 x15 hp16).2 c17)
      refine ab_callV (vs := [.int 4]) (st := []) dX2_readMost_46 okMX2_someName wd_582 kd_157 rfl rfl rfl (Nat.le_of_ble_eq_true rfl) ⟨Nat.le_of_ble_eq_true rfl, Nat.le_of_ble_eq_true rfl⟩ hs20 ?_
      rintro v9 ⟨i22, l23, dd24, x25⟩ E9 - ⟨rfl, rfl, hp26⟩
      show ab_Fr MX2_readMost (d + 1) Q 49 [some (.ref 157)] [.int r18] (0, 0) (i22, l23, dd24, x25) (ab_E0 sc)
      refine ab_if_ne (tgt := 54) dX2_readMost_49 (by decide) (fun c27 => ?_) (fun c27 => ?_)
      · refine ab_aloadn dX2_readMost_54 rfl ?_
        obtain ⟨m28, hm29d, hm29, hm29t⟩ := ((hk21 i22 l23 dd24 x25 hp26).1 c27)
        refine ab_getf (v := .ref m28) dX2_readMost_55 fl_X2_15 kd_157 hm29d ?_
        refine ab_aloadn dX2_readMost_58 rfl ?_
        refine ab_getf (v := .int (i22 157 11)) dX2_readMost_59 fl_X2_166 kd_157 rfl ?_
        refine ab_putI dX2_readMost_62 fl_X2_196 (kM hm29) rfl ?_
        obtain ⟨i30, e31⟩ : ∃ z, z = ab_u i22 m28 5 (i22 157 11) := ⟨_, rfl⟩
        show ab_Fr MX2_readMost (d + 1) Q 65 [some (.ref 157)] [] (0, 0) (ab_u i22 m28 5 (i22 157 11), l23, dd24, x25) (ab_E0 sc)
        rw [show ab_u i22 m28 5 (i22 157 11) = i30 from e31.symm]
        refine ab_aloadn dX2_readMost_65 rfl ?_
        obtain ⟨P33, hs34, hk35⟩ := (hm29t i30 e31)
        refine ab_callV (vs := []) (st := []) dX2_readMost_66 okMX2_next wd_560 kd_157 rfl rfl rfl (Nat.le_of_ble_eq_true rfl) ⟨Nat.le_of_ble_eq_true rfl, Nat.le_of_ble_eq_true rfl⟩ hs34 ?_
        rintro v9 ⟨i36, l37, dd38, x39⟩ E9 - ⟨rfl, rfl, hp40⟩
        show ab_Fr MX2_readMost (d + 1) Q 69 [some (.ref 157)] [] (0, 0) (i36, l37, dd38, x39) (ab_E0 sc)
        exact (hk35 i36 l37 dd38 x39 hp40)
      · refine ab_iconst (v := 0) dX2_readMost_52 (by decide) ?_
        exact ab_zret dX2_readMost_53 rfl (by decide) ⟨Nat.zero_le _, Nat.zero_le _⟩ ((hk21 i22 l23 dd24 x25 hp26).2 c27)
  · refine ab_aloadn dX2_readMost_9 rfl ?_
    refine ab_iconst (v := 1) dX2_readMost_10 (by decide) ?_
    obtain ⟨r41, P42, hs43, hk44⟩ := (h.2 c1)
    refine ab_callV (vs := [.int 1]) (st := []) dX2_readMost_11 okMX2_fail wd_576 kd_157 rfl rfl rfl (Nat.le_of_ble_eq_true rfl) ⟨Nat.le_of_ble_eq_true rfl, Nat.le_of_ble_eq_true rfl⟩ hs43 ?_
    rintro v9 ⟨i45, l46, dd47, x48⟩ E9 - ⟨rfl, rfl, hp49⟩
    show ab_Fr MX2_readMost (d + 1) Q 14 [some (.ref 157)] [.int r41] (0, 0) (i45, l46, dd47, x48) (ab_E0 sc)
    exact ab_zret dX2_readMost_14 rfl (hk44 i45 l46 dd47 x48 hp49).1 ⟨Nat.zero_le _, Nat.zero_le _⟩ (hk44 i45 l46 dd47 x48 hp49).2
theorem tMX2_readMost_69 {d : Nat} {Q : ab_Qt} {sc : Nat × (Nat → Int32)} {i : Nat → Nat → Int32} {l : Nat → Nat → Int64} {dd : Nat → Nat → Value} {x : Nat}  
    (h : (((i 157 6) = 2 → Q (some (some (.int 1))) (i, l, dd, x) (ab_E0 sc)) ∧ (¬ (i 157 6) = 2 → (∃ (r2 : Int32) (P3 : ab_S → Prop), ab_Sp MX2_fail d [.ref 157, .int 1] (i, l, dd, x) (ab_E0 sc) (some (.int r2)) P3 ∧ ∀ i6 l7 dd8 x9, P3 (i6, l7, dd8, x9) → ((r2 = 0 → Q (some (some (.int 0))) (i6, l7, dd8, x9) (ab_E0 sc)) ∧ (¬ r2 = 0 → Q (some (some (.int 1))) (i6, l7, dd8, x9) (ab_E0 sc))))))) :
    ab_Fr MX2_readMost (d + 1) Q 69 [some (.ref 157)] [] (0, 0) (i, l, dd, x) (ab_E0 sc) := by
  refine ab_aloadn dX2_readMost_69 rfl ?_
  refine ab_getf (v := .int (i 157 6)) dX2_readMost_70 fl_X2_45 kd_157 rfl ?_
  refine ab_iconst (v := 2) dX2_readMost_73 (by decide) ?_
  refine ab_icmp_eq (tgt := 85) dX2_readMost_74 (by decide) (fun c1 => ?_) (fun c1 => ?_)
  · refine ab_iconst (v := 1) dX2_readMost_85 (by decide) ?_
    refine ab_goto (tgt := 90) dX2_readMost_86 (by decide) ?_
    exact ab_zret dX2_readMost_90 rfl (by decide) ⟨Nat.zero_le _, Nat.zero_le _⟩ (h.1 c1)
  · refine ab_aloadn dX2_readMost_77 rfl ?_
    refine ab_iconst (v := 1) dX2_readMost_78 (by decide) ?_
    obtain ⟨r2, P3, hs4, hk5⟩ := (h.2 c1)
    refine ab_callV (vs := [.int 1]) (st := []) dX2_readMost_79 okMX2_fail wd_576 kd_157 rfl rfl rfl (Nat.le_of_ble_eq_true rfl) ⟨Nat.le_of_ble_eq_true rfl, Nat.le_of_ble_eq_true rfl⟩ hs4 ?_
    rintro v9 ⟨i6, l7, dd8, x9⟩ E9 - ⟨rfl, rfl, hp10⟩
    show ab_Fr MX2_readMost (d + 1) Q 82 [some (.ref 157)] [.int r2] (0, 0) (i6, l7, dd8, x9) (ab_E0 sc)
    refine ab_if_eq (tgt := 89) dX2_readMost_82 (by decide) (fun c11 => ?_) (fun c11 => ?_)
    · refine ab_iconst (v := 0) dX2_readMost_89 (by decide) ?_
      exact ab_zret dX2_readMost_90 rfl (by decide) ⟨Nat.zero_le _, Nat.zero_le _⟩ ((hk5 i6 l7 dd8 x9 hp10).1 c11)
    · refine ab_iconst (v := 1) dX2_readMost_85 (by decide) ?_
      refine ab_goto (tgt := 90) dX2_readMost_86 (by decide) ?_
      exact ab_zret dX2_readMost_90 rfl (by decide) ⟨Nat.zero_le _, Nat.zero_le _⟩ ((hk5 i6 l7 dd8 x9 hp10).2 c11)
theorem tMX4_voting_0 {d : Nat} {Q : ab_Qt} {sc : Nat × (Nat → Int32)} {i : Nat → Nat → Int32} {l : Nat → Nat → Int64} {dd : Nat → Nat → Value} {x : Nat} {a1 : Nat} {a2 : Nat} {n_a2 : Nat} (k_a1 : ab_isM a1) (k_a2 : (ab_E0 sc).1 a2 = .inr (0, n_a2))
    (h : (∀ dd1, dd1 = ab_u dd 160 0 (.ref a1) → ab_Fr MX4_voting (d + 1) Q 7 [some (.ref 160), none, some (.ref a2), some (.int 0), none] [] (0, 0) (i, l, dd1, x) (ab_E0 sc))) :
    ab_Fr MX4_voting (d + 1) Q 0 [some (.ref 160), some (.ref a1), some (.ref a2), none, none] [] (0, 0) (i, l, dd, x) (ab_E0 sc) := by
  refine ab_aloadn dX4_voting_0 rfl ?_
  refine ab_aloadn dX4_voting_1 rfl ?_
  refine ab_putR dX4_voting_2 fl_X4_9 kd_160 rfl ?_
  obtain ⟨dd1, e2⟩ : ∃ z, z = ab_u dd 160 0 (.ref a1) := ⟨_, rfl⟩
  show ab_Fr MX4_voting (d + 1) Q 5 [some (.ref 160), some (.ref a1), some (.ref a2), none, none] [] (0, 0) (i, l, ab_u dd 160 0 (.ref a1), x) (ab_E0 sc)
  rw [show ab_u dd 160 0 (.ref a1) = dd1 from e2.symm]
  refine ab_iconst (v := 0) dX4_voting_5 (by decide) ?_
  refine ab_istoren dX4_voting_6 (Nat.le_of_ble_eq_true rfl) (L2 := [some (.ref 160), some (.ref a1), some (.ref a2), some (.int 0), none]) rfl ?_
  refine ab_forget (i := 1) (L2 := [some (.ref 160), none, some (.ref a2), some (.int 0), none]) rfl ?_
  exact (h dd1 e2)
theorem tMX4_voting_7 {d : Nat} {Q : ab_Qt} {sc : Nat × (Nat → Int32)} {i : Nat → Nat → Int32} {l : Nat → Nat → Int64} {dd : Nat → Nat → Value} {x : Nat} {a2 : Nat} {n_a2 : Nat} {a3 : Int32} (k_a2 : (ab_E0 sc).1 a2 = .inr (0, n_a2))
    (h : (∃ m1, dd 160 0 = .ref m1 ∧ ab_isM m1 ∧ (((i m1 1) ≤ a3 → Q (some none) (i, l, dd, x) (ab_E0 sc)) ∧ (¬ (i m1 1) ≤ a3 → (vp_in a3 7 ∧ ∀ i4, i4 = ab_u i 161 a3.toNatClampNeg 0 → ab_Fr MX4_voting (d + 1) Q 28 [some (.ref 160), none, some (.ref a2), some (.int a3), some (.int 0)] [] (0, 0) (i4, l, dd, x) (ab_E0 sc)))))) :
    ab_Fr MX4_voting (d + 1) Q 7 [some (.ref 160), none, some (.ref a2), some (.int a3), none] [] (0, 0) (i, l, dd, x) (ab_E0 sc) := by
  refine ab_iloadn dX4_voting_7 rfl ?_
  refine ab_aloadn dX4_voting_8 rfl ?_
  obtain ⟨m1, hm2d, hm2, hm2t⟩ := h
  refine ab_getf (v := .ref m1) dX4_voting_9 fl_X4_9 kd_160 hm2d ?_
  refine ab_getf (v := .int (i m1 1)) dX4_voting_12 fl_X4_41 (kM hm2) rfl ?_
  refine ab_icmp_ge (tgt := 72) dX4_voting_15 (by decide) (fun c3 => ?_) (fun c3 => ?_)
  · exact ab_vret dX4_voting_72 rfl ⟨Nat.zero_le _, Nat.zero_le _⟩ (hm2t.1 c3)
  · refine ab_aloadn dX4_voting_18 rfl ?_
    refine ab_getf (v := .ref 161) dX4_voting_19 fl_X4_15 kd_160 ff_160_1 ?_
    refine ab_iloadn dX4_voting_22 rfl ?_
    refine ab_iconst (v := 0) dX4_voting_23 (by decide) ?_
    refine ab_iastore dX4_voting_24 kd_161 (hm2t.2 c3).1 ?_
    obtain ⟨i4, e5⟩ : ∃ z, z = ab_u i 161 a3.toNatClampNeg 0 := ⟨_, rfl⟩
    rw [show ab_u i 161 a3.toNatClampNeg 0 = i4 from e5.symm]
    refine ab_iconst (v := 0) dX4_voting_25 (by decide) ?_
    refine ab_istore dX4_voting_26 (Nat.le_of_ble_eq_true rfl) (L2 := [some (.ref 160), none, some (.ref a2), some (.int a3), some (.int 0)]) rfl ?_
    exact ((hm2t.2 c3).2 i4 e5)
theorem tMX4_voting_28 {d : Nat} {Q : ab_Qt} {sc : Nat × (Nat → Int32)} {i : Nat → Nat → Int32} {l : Nat → Nat → Int64} {dd : Nat → Nat → Value} {x : Nat} {a2 : Nat} {n_a2 : Nat} {a3 : Int32} {a4 : Int32} (k_a2 : (ab_E0 sc).1 a2 = .inr (0, n_a2))
    (h : (∃ m1, dd 160 0 = .ref m1 ∧ ab_isM m1 ∧ vp_in a3 7 ∧ (((i (m1 + 5 + 6 * a3.toNatClampNeg) 0) ≤ a4 → ab_Fr MX4_voting (d + 1) Q 7 [some (.ref 160), none, some (.ref a2), some (.int (a3 + 1)), none] [] (0, 0) (i, l, dd, x) (ab_E0 sc)) ∧ (¬ (i (m1 + 5 + 6 * a3.toNatClampNeg) 0) ≤ a4 → (vp_in ((a3 * 3) + a4) n_a2 ∧ ∃ (P5 : ab_S → Prop), ab_Sp MX4_addChoice d [.ref 160, .int a3, .int a4, .int (i a2 ((a3 * 3) + a4).toNatClampNeg)] (i, l, dd, x) (ab_E0 sc) (none) P5 ∧ ∀ i8 l9 dd10 x11, P5 (i8, l9, dd10, x11) → ab_Fr MX4_voting (d + 1) Q 28 [some (.ref 160), none, some (.ref a2), some (.int a3), some (.int (a4 + 1))] [] (0, 0) (i8, l9, dd10, x11) (ab_E0 sc)))))) :
    ab_Fr MX4_voting (d + 1) Q 28 [some (.ref 160), none, some (.ref a2), some (.int a3), some (.int a4)] [] (0, 0) (i, l, dd, x) (ab_E0 sc) := by
  refine ab_iload dX4_voting_28 rfl ?_
  refine ab_aloadn dX4_voting_30 rfl ?_
  obtain ⟨m1, hm2d, hm2, hm2t⟩ := h
  refine ab_getf (v := .ref m1) dX4_voting_31 fl_X4_9 kd_160 hm2d ?_
  refine ab_getf (v := .ref (m1 + 4)) dX4_voting_34 fl_X4_47 (kM hm2) (fM_8 hm2) ?_
  refine ab_iloadn dX4_voting_37 rfl ?_
  refine ab_aaload (a := (m1 + 5 + 6 * a3.toNatClampNeg)) dX4_voting_38 (Or.inl rfl) (kM_4 hm2) hm2t.1 (fMv hm2 hm2t.1) ?_
  refine ab_getf (v := .int (i (m1 + 5 + 6 * a3.toNatClampNeg) 0)) dX4_voting_39 fl_X4_51 (kV (isVof hm2 hm2t.1)) rfl ?_
  refine ab_icmp_ge (tgt := 66) dX4_voting_42 (by decide) (fun c3 => ?_) (fun c3 => ?_)
  · refine ab_iinc (v := (a3 + 1)) dX4_voting_66 rfl (by rfl) (Nat.le_of_ble_eq_true rfl) (L2 := [some (.ref 160), none, some (.ref a2), some (.int (a3 + 1)), some (.int a4)]) rfl ?_
    refine ab_goto (tgt := 7) dX4_voting_69 (by decide) ?_
    refine ab_forget (i := 4) (L2 := [some (.ref 160), none, some (.ref a2), some (.int (a3 + 1)), none]) rfl ?_
    exact (hm2t.2.1 c3)
  · refine ab_aloadn dX4_voting_45 rfl ?_
    refine ab_iloadn dX4_voting_46 rfl ?_
    refine ab_iload dX4_voting_47 rfl ?_
    refine ab_aloadn dX4_voting_49 rfl ?_
    refine ab_iloadn dX4_voting_50 rfl ?_
    refine ab_iconst (v := 3) dX4_voting_51 (by decide) ?_
    refine ab_imul dX4_voting_52 ?_
    refine ab_iload dX4_voting_53 rfl ?_
    refine ab_iadd dX4_voting_55 ?_
    refine ab_iaload (v := (i a2 ((a3 * 3) + a4).toNatClampNeg)) dX4_voting_56 k_a2 (hm2t.2.2 c3).1 rfl ?_
    obtain ⟨P5, hs6, hk7⟩ := (hm2t.2.2 c3).2
    refine ab_callV (vs := [.int a3, .int a4, .int (i a2 ((a3 * 3) + a4).toNatClampNeg)]) (st := []) dX4_voting_57 okMX4_addChoice wd_729 kd_160 rfl rfl rfl (Nat.le_of_ble_eq_true rfl) ⟨Nat.le_of_ble_eq_true rfl, Nat.le_of_ble_eq_true rfl⟩ hs6 ?_
    rintro v9 ⟨i8, l9, dd10, x11⟩ E9 - ⟨rfl, rfl, hp12⟩
    show ab_Fr MX4_voting (d + 1) Q 60 [some (.ref 160), none, some (.ref a2), some (.int a3), some (.int a4)] [] (0, 0) (i8, l9, dd10, x11) (ab_E0 sc)
    refine ab_iinc (v := (a4 + 1)) dX4_voting_60 rfl (by rfl) (Nat.le_of_ble_eq_true rfl) (L2 := [some (.ref 160), none, some (.ref a2), some (.int a3), some (.int (a4 + 1))]) rfl ?_
    refine ab_goto (tgt := 28) dX4_voting_63 (by decide) ?_
    exact (hk7 i8 l9 dd10 x11 hp12)
theorem tMX4_addChoice_0 {d : Nat} {Q : ab_Qt} {sc : Nat × (Nat → Int32)} {i : Nat → Nat → Int32} {l : Nat → Nat → Int64} {dd : Nat → Nat → Value} {x : Nat} {a1 : Int32} {a2 : Int32} {a3 : Int32} 
    (h : ab_Fr MX4_addChoice (d + 1) Q 3 [some (.ref 160), some (.int a1), some (.int a2), some (.int a3), some (.int 0), none] [] (0, 0) (i, l, dd, x) (ab_E0 sc)) :
    ab_Fr MX4_addChoice (d + 1) Q 0 [some (.ref 160), some (.int a1), some (.int a2), some (.int a3), none, none] [] (0, 0) (i, l, dd, x) (ab_E0 sc) := by
  refine ab_iconst (v := 0) dX4_addChoice_0 (by decide) ?_
  refine ab_istore dX4_addChoice_1 (Nat.le_of_ble_eq_true rfl) (L2 := [some (.ref 160), some (.int a1), some (.int a2), some (.int a3), some (.int 0), none]) rfl ?_
  exact h
theorem tMX4_addChoice_3 {d : Nat} {Q : ab_Qt} {sc : Nat × (Nat → Int32)} {i : Nat → Nat → Int32} {l : Nat → Nat → Int64} {dd : Nat → Nat → Value} {x : Nat} {a1 : Int32} {a2 : Int32} {a3 : Int32} {a4 : Int32} 
    (h : (vp_in a1 7 ∧ (((i 161 a1.toNatClampNeg) ≤ a4 → ab_Fr MX4_addChoice (d + 1) Q 35 [some (.ref 160), some (.int a1), some (.int a2), some (.int a3), some (.int a4), none] [] (0, 0) (i, l, dd, x) (ab_E0 sc)) ∧ (¬ (i 161 a1.toNatClampNeg) ≤ a4 → (vp_in ((a1 * 3) + a4) 21 ∧ (((i 163 ((a1 * 3) + a4).toNatClampNeg) = a3 → ab_Fr MX4_addChoice (d + 1) Q 35 [some (.ref 160), some (.int a1), some (.int a2), some (.int a3), some (.int a4), none] [] (0, 0) (i, l, dd, x) (ab_E0 sc)) ∧ (¬ (i 163 ((a1 * 3) + a4).toNatClampNeg) = a3 → ab_Fr MX4_addChoice (d + 1) Q 3 [some (.ref 160), some (.int a1), some (.int a2), some (.int a3), some (.int (a4 + 1)), none] [] (0, 0) (i, l, dd, x) (ab_E0 sc)))))))) :
    ab_Fr MX4_addChoice (d + 1) Q 3 [some (.ref 160), some (.int a1), some (.int a2), some (.int a3), some (.int a4), none] [] (0, 0) (i, l, dd, x) (ab_E0 sc) := by
  refine ab_iload dX4_addChoice_3 rfl ?_
  refine ab_aloadn dX4_addChoice_5 rfl ?_
  refine ab_getf (v := .ref 161) dX4_addChoice_6 fl_X4_15 kd_160 ff_160_1 ?_
  refine ab_iloadn dX4_addChoice_9 rfl ?_
  refine ab_iaload (v := (i 161 a1.toNatClampNeg)) dX4_addChoice_10 kd_161 h.1 rfl ?_
  refine ab_icmp_ge (tgt := 35) dX4_addChoice_11 (by decide) (fun c1 => ?_) (fun c1 => ?_)
  · exact (h.2.1 c1)
  · refine ab_aloadn dX4_addChoice_14 rfl ?_
    refine ab_getf (v := .ref 163) dX4_addChoice_15 fl_X4_22 kd_160 ff_160_3 ?_
    refine ab_iloadn dX4_addChoice_18 rfl ?_
    refine ab_iconst (v := 3) dX4_addChoice_19 (by decide) ?_
    refine ab_imul dX4_addChoice_20 ?_
    refine ab_iload dX4_addChoice_21 rfl ?_
    refine ab_iadd dX4_addChoice_23 ?_
    refine ab_iaload (v := (i 163 ((a1 * 3) + a4).toNatClampNeg)) dX4_addChoice_24 kd_163 (h.2.2 c1).1 rfl ?_
    refine ab_iloadn dX4_addChoice_25 rfl ?_
    refine ab_icmp_eq (tgt := 35) dX4_addChoice_26 (by decide) (fun c2 => ?_) (fun c2 => ?_)
    · exact ((h.2.2 c1).2.1 c2)
    · refine ab_iinc (v := (a4 + 1)) dX4_addChoice_29 rfl (by rfl) (Nat.le_of_ble_eq_true rfl) (L2 := [some (.ref 160), some (.int a1), some (.int a2), some (.int a3), some (.int (a4 + 1)), none]) rfl ?_
      refine ab_goto (tgt := 3) dX4_addChoice_32 (by decide) ?_
      exact ((h.2.2 c1).2.2 c2)
theorem tMX4_addChoice_35 {d : Nat} {Q : ab_Qt} {sc : Nat × (Nat → Int32)} {i : Nat → Nat → Int32} {l : Nat → Nat → Int64} {dd : Nat → Nat → Value} {x : Nat} {a1 : Int32} {a2 : Int32} {a3 : Int32} {a4 : Int32} 
    (h : (vp_in a1 7 ∧ ((¬ a4 = (i 161 a1.toNatClampNeg) → ab_Fr MX4_addChoice (d + 1) Q 53 [some (.ref 160), some (.int a1), some (.int a2), none, some (.int a4), none] [] (0, 0) (i, l, dd, x) (ab_E0 sc)) ∧ (a4 = (i 161 a1.toNatClampNeg) → (∃ (P3 : ab_S → Prop), ab_Sp MX4_openChoice d [.ref 160, .int a1, .int a3, .int 0] (i, l, dd, x) (ab_E0 sc) (none) P3 ∧ ∀ i6 l7 dd8 x9, P3 (i6, l7, dd8, x9) → ab_Fr MX4_addChoice (d + 1) Q 53 [some (.ref 160), some (.int a1), some (.int a2), none, some (.int a4), none] [] (0, 0) (i6, l7, dd8, x9) (ab_E0 sc)))))) :
    ab_Fr MX4_addChoice (d + 1) Q 35 [some (.ref 160), some (.int a1), some (.int a2), some (.int a3), some (.int a4), none] [] (0, 0) (i, l, dd, x) (ab_E0 sc) := by
  refine ab_iload dX4_addChoice_35 rfl ?_
  refine ab_aloadn dX4_addChoice_37 rfl ?_
  refine ab_getf (v := .ref 161) dX4_addChoice_38 fl_X4_15 kd_160 ff_160_1 ?_
  refine ab_iloadn dX4_addChoice_41 rfl ?_
  refine ab_iaload (v := (i 161 a1.toNatClampNeg)) dX4_addChoice_42 kd_161 h.1 rfl ?_
  refine ab_icmp_ne (tgt := 53) dX4_addChoice_43 (by decide) (fun c1 => ?_) (fun c1 => ?_)
  · refine ab_forget (i := 3) (L2 := [some (.ref 160), some (.int a1), some (.int a2), none, some (.int a4), none]) rfl ?_
    exact (h.2.1 c1)
  · refine ab_aloadn dX4_addChoice_46 rfl ?_
    refine ab_iloadn dX4_addChoice_47 rfl ?_
    refine ab_iloadn dX4_addChoice_48 rfl ?_
    refine ab_iconst (v := 0) dX4_addChoice_49 (by decide) ?_
    obtain ⟨P3, hs4, hk5⟩ := (h.2.2 c1)
    refine ab_callV (vs := [.int a1, .int a3, .int 0]) (st := []) dX4_addChoice_50 okMX4_openChoice wd_732 kd_160 rfl rfl rfl (Nat.le_of_ble_eq_true rfl) ⟨Nat.le_of_ble_eq_true rfl, Nat.le_of_ble_eq_true rfl⟩ hs4 ?_
    rintro v9 ⟨i6, l7, dd8, x9⟩ E9 - ⟨rfl, rfl, hp10⟩
    show ab_Fr MX4_addChoice (d + 1) Q 53 [some (.ref 160), some (.int a1), some (.int a2), some (.int a3), some (.int a4), none] [] (0, 0) (i6, l7, dd8, x9) (ab_E0 sc)
    refine ab_forget (i := 3) (L2 := [some (.ref 160), some (.int a1), some (.int a2), none, some (.int a4), none]) rfl ?_
    exact (hk5 i6 l7 dd8 x9 hp10)
theorem tMX4_addChoice_53 {d : Nat} {Q : ab_Qt} {sc : Nat × (Nat → Int32)} {i : Nat → Nat → Int32} {l : Nat → Nat → Int64} {dd : Nat → Nat → Value} {x : Nat} {a1 : Int32} {a2 : Int32} {a4 : Int32} 
    (h : ab_Fr MX4_addChoice (d + 1) Q 56 [some (.ref 160), some (.int a1), some (.int a2), none, some (.int a4), some (.int 0)] [] (0, 0) (i, l, dd, x) (ab_E0 sc)) :
    ab_Fr MX4_addChoice (d + 1) Q 53 [some (.ref 160), some (.int a1), some (.int a2), none, some (.int a4), none] [] (0, 0) (i, l, dd, x) (ab_E0 sc) := by
  refine ab_iconst (v := 0) dX4_addChoice_53 (by decide) ?_
  refine ab_istore dX4_addChoice_54 (Nat.le_of_ble_eq_true rfl) (L2 := [some (.ref 160), some (.int a1), some (.int a2), none, some (.int a4), some (.int 0)]) rfl ?_
  exact h
theorem tMX4_addChoice_56 {d : Nat} {Q : ab_Qt} {sc : Nat × (Nat → Int32)} {i : Nat → Nat → Int32} {l : Nat → Nat → Int64} {dd : Nat → Nat → Value} {x : Nat} {a1 : Int32} {a2 : Int32} {a4 : Int32} {a5 : Int32} 
    (h : ((3 ≤ a5 → Q (some none) (i, l, dd, x) (ab_E0 sc)) ∧ (¬ 3 ≤ a5 → (vp_in ((((a1 * 3) + a4) * 3) + a5) 63 ∧ ∃ m2, dd 160 0 = .ref m2 ∧ ab_isM m2 ∧ vp_in a1 7 ∧ vp_in ((a5 * 3) + a2) 9 ∧ vp_in ((((a1 * 3) + a4) * 3) + a5) 63 ∧ ∀ i4, i4 = ab_u i 164 ((((a1 * 3) + a4) * 3) + a5).toNatClampNeg ((i 164 ((((a1 * 3) + a4) * 3) + a5).toNatClampNeg) + (i ((m2 + 5 + 6 * a1.toNatClampNeg) + 1) ((a5 * 3) + a2).toNatClampNeg)) → ab_Fr MX4_addChoice (d + 1) Q 56 [some (.ref 160), some (.int a1), some (.int a2), none, some (.int a4), some (.int (a5 + 1))] [] (0, 0) (i4, l, dd, x) (ab_E0 sc))))) :
    ab_Fr MX4_addChoice (d + 1) Q 56 [some (.ref 160), some (.int a1), some (.int a2), none, some (.int a4), some (.int a5)] [] (0, 0) (i, l, dd, x) (ab_E0 sc) := by
  refine ab_iload dX4_addChoice_56 rfl ?_
  refine ab_iconst (v := 3) dX4_addChoice_58 (by decide) ?_
  refine ab_icmp_ge (tgt := 106) dX4_addChoice_59 (by decide) (fun c1 => ?_) (fun c1 => ?_)
  · exact ab_vret dX4_addChoice_106 rfl ⟨Nat.zero_le _, Nat.zero_le _⟩ (h.1 c1)
  · refine ab_aloadn dX4_addChoice_62 rfl ?_
    refine ab_getf (v := .ref 164) dX4_addChoice_63 fl_X4_25 kd_160 ff_160_4 ?_
    refine ab_iloadn dX4_addChoice_66 rfl ?_
    refine ab_iconst (v := 3) dX4_addChoice_67 (by decide) ?_
    refine ab_imul dX4_addChoice_68 ?_
    refine ab_iload dX4_addChoice_69 rfl ?_
    refine ab_iadd dX4_addChoice_71 ?_
    refine ab_iconst (v := 3) dX4_addChoice_72 (by decide) ?_
    refine ab_imul dX4_addChoice_73 ?_
    refine ab_iload dX4_addChoice_74 rfl ?_
    refine ab_iadd dX4_addChoice_76 ?_
    refine ab_dup2 dX4_addChoice_77 rfl rfl ?_
    refine ab_iaload (v := (i 164 ((((a1 * 3) + a4) * 3) + a5).toNatClampNeg)) dX4_addChoice_78 kd_164 (h.2 c1).1 rfl ?_
    refine ab_aloadn dX4_addChoice_79 rfl ?_
    obtain ⟨m2, hm3d, hm3, hm3t⟩ := (h.2 c1).2
    refine ab_getf (v := .ref m2) dX4_addChoice_80 fl_X4_9 kd_160 hm3d ?_
    refine ab_getf (v := .ref (m2 + 4)) dX4_addChoice_83 fl_X4_47 (kM hm3) (fM_8 hm3) ?_
    refine ab_iloadn dX4_addChoice_86 rfl ?_
    refine ab_aaload (a := (m2 + 5 + 6 * a1.toNatClampNeg)) dX4_addChoice_87 (Or.inl rfl) (kM_4 hm3) hm3t.1 (fMv hm3 hm3t.1) ?_
    refine ab_getf (v := .ref ((m2 + 5 + 6 * a1.toNatClampNeg) + 1)) dX4_addChoice_88 fl_X4_66 (kV (isVof hm3 hm3t.1)) (fV_4 (isVof hm3 hm3t.1)) ?_
    refine ab_iload dX4_addChoice_91 rfl ?_
    refine ab_iconst (v := 3) dX4_addChoice_93 (by decide) ?_
    refine ab_imul dX4_addChoice_94 ?_
    refine ab_iloadn dX4_addChoice_95 rfl ?_
    refine ab_iadd dX4_addChoice_96 ?_
    refine ab_iaload (v := (i ((m2 + 5 + 6 * a1.toNatClampNeg) + 1) ((a5 * 3) + a2).toNatClampNeg)) dX4_addChoice_97 (kV_1 (isVof hm3 hm3t.1)) hm3t.2.1 rfl ?_
    refine ab_iadd dX4_addChoice_98 ?_
    refine ab_iastore dX4_addChoice_99 kd_164 hm3t.2.2.1 ?_
    obtain ⟨i4, e5⟩ : ∃ z, z = ab_u i 164 ((((a1 * 3) + a4) * 3) + a5).toNatClampNeg ((i 164 ((((a1 * 3) + a4) * 3) + a5).toNatClampNeg) + (i ((m2 + 5 + 6 * a1.toNatClampNeg) + 1) ((a5 * 3) + a2).toNatClampNeg)) := ⟨_, rfl⟩
    rw [show ab_u i 164 ((((a1 * 3) + a4) * 3) + a5).toNatClampNeg ((i 164 ((((a1 * 3) + a4) * 3) + a5).toNatClampNeg) + (i ((m2 + 5 + 6 * a1.toNatClampNeg) + 1) ((a5 * 3) + a2).toNatClampNeg)) = i4 from e5.symm]
    refine ab_iinc (v := (a5 + 1)) dX4_addChoice_100 rfl (by rfl) (Nat.le_of_ble_eq_true rfl) (L2 := [some (.ref 160), some (.int a1), some (.int a2), none, some (.int a4), some (.int (a5 + 1))]) rfl ?_
    refine ab_goto (tgt := 56) dX4_addChoice_103 (by decide) ?_
    exact (hm3t.2.2.2 i4 e5)
theorem tMX4_openChoice_0 {d : Nat} {Q : ab_Qt} {sc : Nat × (Nat → Int32)} {i : Nat → Nat → Int32} {l : Nat → Nat → Int64} {dd : Nat → Nat → Value} {x : Nat} {a1 : Int32} {a2 : Int32} {a3 : Int32} 
    (h : (vp_in a1 7 ∧ ((3 ≤ (i 161 a1.toNatClampNeg) → Q (some none) (i, l, dd, x) (ab_E0 sc)) ∧ (¬ 3 ≤ (i 161 a1.toNatClampNeg) → (vp_in a1 7 ∧ vp_in ((a1 * 3) + (i 161 a1.toNatClampNeg)) 21 ∧ ∀ i2, i2 = ab_u i 163 ((a1 * 3) + (i 161 a1.toNatClampNeg)).toNatClampNeg a2 → ab_Fr MX4_openChoice (d + 1) Q 33 [some (.ref 160), some (.int a1), none, some (.int a3), some (.int ((a1 * 3) + (i 161 a1.toNatClampNeg))), some (.int 0)] [] (0, 0) (i2, l, dd, x) (ab_E0 sc)))))) :
    ab_Fr MX4_openChoice (d + 1) Q 0 [some (.ref 160), some (.int a1), some (.int a2), some (.int a3), none, none] [] (0, 0) (i, l, dd, x) (ab_E0 sc) := by
  refine ab_aloadn dX4_openChoice_0 rfl ?_
  refine ab_getf (v := .ref 161) dX4_openChoice_1 fl_X4_15 kd_160 ff_160_1 ?_
  refine ab_iloadn dX4_openChoice_4 rfl ?_
  refine ab_iaload (v := (i 161 a1.toNatClampNeg)) dX4_openChoice_5 kd_161 h.1 rfl ?_
  refine ab_iconst (v := 3) dX4_openChoice_6 (by decide) ?_
  refine ab_icmp_ge (tgt := 68) dX4_openChoice_7 (by decide) (fun c1 => ?_) (fun c1 => ?_)
  · exact ab_vret dX4_openChoice_68 rfl ⟨Nat.zero_le _, Nat.zero_le _⟩ (h.2.1 c1)
  · refine ab_iloadn dX4_openChoice_10 rfl ?_
    refine ab_iconst (v := 3) dX4_openChoice_11 (by decide) ?_
    refine ab_imul dX4_openChoice_12 ?_
    refine ab_aloadn dX4_openChoice_13 rfl ?_
    refine ab_getf (v := .ref 161) dX4_openChoice_14 fl_X4_15 kd_160 ff_160_1 ?_
    refine ab_iloadn dX4_openChoice_17 rfl ?_
    refine ab_iaload (v := (i 161 a1.toNatClampNeg)) dX4_openChoice_18 kd_161 (h.2.2 c1).1 rfl ?_
    refine ab_iadd dX4_openChoice_19 ?_
    refine ab_istore dX4_openChoice_20 (Nat.le_of_ble_eq_true rfl) (L2 := [some (.ref 160), some (.int a1), some (.int a2), some (.int a3), some (.int ((a1 * 3) + (i 161 a1.toNatClampNeg))), none]) rfl ?_
    refine ab_aloadn dX4_openChoice_22 rfl ?_
    refine ab_getf (v := .ref 163) dX4_openChoice_23 fl_X4_22 kd_160 ff_160_3 ?_
    refine ab_iload dX4_openChoice_26 rfl ?_
    refine ab_iloadn dX4_openChoice_28 rfl ?_
    refine ab_iastore dX4_openChoice_29 kd_163 (h.2.2 c1).2.1 ?_
    obtain ⟨i2, e3⟩ : ∃ z, z = ab_u i 163 ((a1 * 3) + (i 161 a1.toNatClampNeg)).toNatClampNeg a2 := ⟨_, rfl⟩
    rw [show ab_u i 163 ((a1 * 3) + (i 161 a1.toNatClampNeg)).toNatClampNeg a2 = i2 from e3.symm]
    refine ab_iconst (v := 0) dX4_openChoice_30 (by decide) ?_
    refine ab_istore dX4_openChoice_31 (Nat.le_of_ble_eq_true rfl) (L2 := [some (.ref 160), some (.int a1), some (.int a2), some (.int a3), some (.int ((a1 * 3) + (i 161 a1.toNatClampNeg))), some (.int 0)]) rfl ?_
    refine ab_forget (i := 2) (L2 := [some (.ref 160), some (.int a1), none, some (.int a3), some (.int ((a1 * 3) + (i 161 a1.toNatClampNeg))), some (.int 0)]) rfl ?_
    exact ((h.2.2 c1).2.2 i2 e3)
theorem tMX4_openChoice_33 {d : Nat} {Q : ab_Qt} {sc : Nat × (Nat → Int32)} {i : Nat → Nat → Int32} {l : Nat → Nat → Int64} {dd : Nat → Nat → Value} {x : Nat} {a1 : Int32} {a3 : Int32} {a4 : Int32} {a5 : Int32} 
    (h : ((3 ≤ a5 → (vp_in a1 7 ∧ vp_in a1 7 ∧ ∀ i2, i2 = ab_u i 161 a1.toNatClampNeg ((i 161 a1.toNatClampNeg) + 1) → Q (some none) (i2, l, dd, x) (ab_E0 sc))) ∧ (¬ 3 ≤ a5 → (vp_in ((a4 * 3) + a5) 63 ∧ ∀ i4, i4 = ab_u i 164 ((a4 * 3) + a5).toNatClampNeg a3 → ab_Fr MX4_openChoice (d + 1) Q 33 [some (.ref 160), some (.int a1), none, some (.int a3), some (.int a4), some (.int (a5 + 1))] [] (0, 0) (i4, l, dd, x) (ab_E0 sc))))) :
    ab_Fr MX4_openChoice (d + 1) Q 33 [some (.ref 160), some (.int a1), none, some (.int a3), some (.int a4), some (.int a5)] [] (0, 0) (i, l, dd, x) (ab_E0 sc) := by
  refine ab_iload dX4_openChoice_33 rfl ?_
  refine ab_iconst (v := 3) dX4_openChoice_35 (by decide) ?_
  refine ab_icmp_ge (tgt := 58) dX4_openChoice_36 (by decide) (fun c1 => ?_) (fun c1 => ?_)
  · refine ab_aloadn dX4_openChoice_58 rfl ?_
    refine ab_getf (v := .ref 161) dX4_openChoice_59 fl_X4_15 kd_160 ff_160_1 ?_
    refine ab_iloadn dX4_openChoice_62 rfl ?_
    refine ab_dup2 dX4_openChoice_63 rfl rfl ?_
    refine ab_iaload (v := (i 161 a1.toNatClampNeg)) dX4_openChoice_64 kd_161 (h.1 c1).1 rfl ?_
    refine ab_iconst (v := 1) dX4_openChoice_65 (by decide) ?_
    refine ab_iadd dX4_openChoice_66 ?_
    refine ab_iastore dX4_openChoice_67 kd_161 (h.1 c1).2.1 ?_
    obtain ⟨i2, e3⟩ : ∃ z, z = ab_u i 161 a1.toNatClampNeg ((i 161 a1.toNatClampNeg) + 1) := ⟨_, rfl⟩
    rw [show ab_u i 161 a1.toNatClampNeg ((i 161 a1.toNatClampNeg) + 1) = i2 from e3.symm]
    exact ab_vret dX4_openChoice_68 rfl ⟨Nat.zero_le _, Nat.zero_le _⟩ ((h.1 c1).2.2 i2 e3)
  · refine ab_aloadn dX4_openChoice_39 rfl ?_
    refine ab_getf (v := .ref 164) dX4_openChoice_40 fl_X4_25 kd_160 ff_160_4 ?_
    refine ab_iload dX4_openChoice_43 rfl ?_
    refine ab_iconst (v := 3) dX4_openChoice_45 (by decide) ?_
    refine ab_imul dX4_openChoice_46 ?_
    refine ab_iload dX4_openChoice_47 rfl ?_
    refine ab_iadd dX4_openChoice_49 ?_
    refine ab_iloadn dX4_openChoice_50 rfl ?_
    refine ab_iastore dX4_openChoice_51 kd_164 (h.2 c1).1 ?_
    obtain ⟨i4, e5⟩ : ∃ z, z = ab_u i 164 ((a4 * 3) + a5).toNatClampNeg a3 := ⟨_, rfl⟩
    rw [show ab_u i 164 ((a4 * 3) + a5).toNatClampNeg a3 = i4 from e5.symm]
    refine ab_iinc (v := (a5 + 1)) dX4_openChoice_52 rfl (by rfl) (Nat.le_of_ble_eq_true rfl) (L2 := [some (.ref 160), some (.int a1), none, some (.int a3), some (.int a4), some (.int (a5 + 1))]) rfl ?_
    refine ab_goto (tgt := 33) dX4_openChoice_55 (by decide) ?_
    exact ((h.2 c1).2 i4 e5)
theorem tMX4_sumUp_0 {d : Nat} {Q : ab_Qt} {sc : Nat × (Nat → Int32)} {i : Nat → Nat → Int32} {l : Nat → Nat → Int64} {dd : Nat → Nat → Value} {x : Nat} {a1 : Nat} {n_a1 : Nat} (k_a1 : (ab_E0 sc).1 a1 = .inr (1, n_a1))
    (h : (∃ (P2 : ab_S → Prop), ab_Sp MX11_empty d [.ref a1] (i, l, dd, x) (ab_E0 sc) (none) P2 ∧ ∀ i5 l6 dd7 x8, P2 (i5, l6, dd7, x8) → ∃ (r10 : Int32) (P11 : ab_S → Prop), ab_Sp MX4_first d [.ref 160] (i5, l6, dd7, x8) (ab_E0 sc) (some (.int r10)) P11 ∧ ∀ i14 l15 dd16 x17, P11 (i14, l15, dd16, x17) → ab_Fr MX4_sumUp (d + 1) Q 11 [some (.ref 160), some (.ref a1), some (.int r10), some (.int 0)] [] (0, 0) (i14, l15, dd16, x17) (ab_E0 sc))) :
    ab_Fr MX4_sumUp (d + 1) Q 0 [some (.ref 160), some (.ref a1), none, none] [] (0, 0) (i, l, dd, x) (ab_E0 sc) := by
  refine ab_aloadn dX4_sumUp_0 rfl ?_
  obtain ⟨P2, hs3, hk4⟩ := h
  refine ab_callN (vs := [.ref a1]) (st := []) dX4_sumUp_1 okMX11_empty (List.mem_of_getElem? (i := 0) rfl) rfl rfl (Nat.le_of_ble_eq_true rfl) ⟨Nat.le_of_ble_eq_true rfl, Nat.le_of_ble_eq_true rfl⟩ hs3 ?_
  rintro v9 ⟨i5, l6, dd7, x8⟩ E9 - ⟨rfl, rfl, hp9⟩
  show ab_Fr MX4_sumUp (d + 1) Q 4 [some (.ref 160), some (.ref a1), none, none] [] (0, 0) (i5, l6, dd7, x8) (ab_E0 sc)
  refine ab_aloadn dX4_sumUp_4 rfl ?_
  obtain ⟨r10, P11, hs12, hk13⟩ := (hk4 i5 l6 dd7 x8 hp9)
  refine ab_callV (vs := []) (st := []) dX4_sumUp_5 okMX4_first wd_741 kd_160 rfl rfl rfl (Nat.le_of_ble_eq_true rfl) ⟨Nat.le_of_ble_eq_true rfl, Nat.le_of_ble_eq_true rfl⟩ hs12 ?_
  rintro v9 ⟨i14, l15, dd16, x17⟩ E9 - ⟨rfl, rfl, hp18⟩
  show ab_Fr MX4_sumUp (d + 1) Q 8 [some (.ref 160), some (.ref a1), none, none] [.int r10] (0, 0) (i14, l15, dd16, x17) (ab_E0 sc)
  refine ab_istoren dX4_sumUp_8 (Nat.le_of_ble_eq_true rfl) (L2 := [some (.ref 160), some (.ref a1), some (.int r10), none]) rfl ?_
  refine ab_iconst (v := 0) dX4_sumUp_9 (by decide) ?_
  refine ab_istoren dX4_sumUp_10 (Nat.le_of_ble_eq_true rfl) (L2 := [some (.ref 160), some (.ref a1), some (.int r10), some (.int 0)]) rfl ?_
  exact (hk13 i14 l15 dd16 x17 hp18)
theorem tMX4_sumUp_11 {d : Nat} {Q : ab_Qt} {sc : Nat × (Nat → Int32)} {i : Nat → Nat → Int32} {l : Nat → Nat → Int64} {dd : Nat → Nat → Value} {x : Nat} {a1 : Nat} {n_a1 : Nat} {a2 : Int32} {a3 : Int32} (k_a1 : (ab_E0 sc).1 a1 = .inr (1, n_a1))
    (h : ((a2 ≤ a3 → Q (some none) (i, l, dd, x) (ab_E0 sc)) ∧ (¬ a2 ≤ a3 → (∃ (r2 : Int32) (P3 : ab_S → Prop), ab_Sp MX4_decidesNow d [.ref 160] (i, l, dd, x) (ab_E0 sc) (some (.int r2)) P3 ∧ ∀ i6 l7 dd8 x9, P3 (i6, l7, dd8, x9) → ∃ (P12 : ab_S → Prop), ab_Sp MX4_addRow d [.ref 160, .ref a1, .int r2] (i6, l7, dd8, x9) (ab_E0 sc) (none) P12 ∧ ∀ i15 l16 dd17 x18, P12 (i15, l16, dd17, x18) → ∃ (P21 : ab_S → Prop), ab_Sp MX4_step d [.ref 160] (i15, l16, dd17, x18) (ab_E0 sc) (none) P21 ∧ ∀ i24 l25 dd26 x27, P21 (i24, l25, dd26, x27) → ab_Fr MX4_sumUp (d + 1) Q 11 [some (.ref 160), some (.ref a1), some (.int a2), some (.int (a3 + 1))] [] (0, 0) (i24, l25, dd26, x27) (ab_E0 sc))))) :
    ab_Fr MX4_sumUp (d + 1) Q 11 [some (.ref 160), some (.ref a1), some (.int a2), some (.int a3)] [] (0, 0) (i, l, dd, x) (ab_E0 sc) := by
  refine ab_iloadn dX4_sumUp_11 rfl ?_
  refine ab_iloadn dX4_sumUp_12 rfl ?_
  refine ab_icmp_ge (tgt := 35) dX4_sumUp_13 (by decide) (fun c1 => ?_) (fun c1 => ?_)
  · exact ab_vret dX4_sumUp_35 rfl ⟨Nat.zero_le _, Nat.zero_le _⟩ (h.1 c1)
  · refine ab_aloadn dX4_sumUp_16 rfl ?_
    refine ab_aloadn dX4_sumUp_17 rfl ?_
    refine ab_aloadn dX4_sumUp_18 rfl ?_
    obtain ⟨r2, P3, hs4, hk5⟩ := (h.2 c1)
    refine ab_callV (vs := []) (st := [.ref a1, .ref 160]) dX4_sumUp_19 okMX4_decidesNow wd_748 kd_160 rfl rfl rfl (Nat.le_of_ble_eq_true rfl) ⟨Nat.le_of_ble_eq_true rfl, Nat.le_of_ble_eq_true rfl⟩ hs4 ?_
    rintro v9 ⟨i6, l7, dd8, x9⟩ E9 - ⟨rfl, rfl, hp10⟩
    show ab_Fr MX4_sumUp (d + 1) Q 22 [some (.ref 160), some (.ref a1), some (.int a2), some (.int a3)] [.int r2, .ref a1, .ref 160] (0, 0) (i6, l7, dd8, x9) (ab_E0 sc)
    obtain ⟨P12, hs13, hk14⟩ := (hk5 i6 l7 dd8 x9 hp10)
    refine ab_callV (vs := [.ref a1, .int r2]) (st := []) dX4_sumUp_22 okMX4_addRow wd_755 kd_160 rfl rfl rfl (Nat.le_of_ble_eq_true rfl) ⟨Nat.le_of_ble_eq_true rfl, Nat.le_of_ble_eq_true rfl⟩ hs13 ?_
    rintro v9 ⟨i15, l16, dd17, x18⟩ E9 - ⟨rfl, rfl, hp19⟩
    show ab_Fr MX4_sumUp (d + 1) Q 25 [some (.ref 160), some (.ref a1), some (.int a2), some (.int a3)] [] (0, 0) (i15, l16, dd17, x18) (ab_E0 sc)
    refine ab_aloadn dX4_sumUp_25 rfl ?_
    obtain ⟨P21, hs22, hk23⟩ := (hk14 i15 l16 dd17 x18 hp19)
    refine ab_callV (vs := []) (st := []) dX4_sumUp_26 okMX4_step wd_762 kd_160 rfl rfl rfl (Nat.le_of_ble_eq_true rfl) ⟨Nat.le_of_ble_eq_true rfl, Nat.le_of_ble_eq_true rfl⟩ hs22 ?_
    rintro v9 ⟨i24, l25, dd26, x27⟩ E9 - ⟨rfl, rfl, hp28⟩
    show ab_Fr MX4_sumUp (d + 1) Q 29 [some (.ref 160), some (.ref a1), some (.int a2), some (.int a3)] [] (0, 0) (i24, l25, dd26, x27) (ab_E0 sc)
    refine ab_iinc (v := (a3 + 1)) dX4_sumUp_29 rfl (by rfl) (Nat.le_of_ble_eq_true rfl) (L2 := [some (.ref 160), some (.ref a1), some (.int a2), some (.int (a3 + 1))]) rfl ?_
    refine ab_goto (tgt := 11) dX4_sumUp_32 (by decide) ?_
    exact (hk23 i24 l25 dd26 x27 hp28)
theorem tMX4_first_0 {d : Nat} {Q : ab_Qt} {sc : Nat × (Nat → Int32)} {i : Nat → Nat → Int32} {l : Nat → Nat → Int64} {dd : Nat → Nat → Value} {x : Nat}  
    (h : ab_Fr MX4_first (d + 1) Q 4 [some (.ref 160), some (.int 1), some (.int 0)] [] (0, 0) (i, l, dd, x) (ab_E0 sc)) :
    ab_Fr MX4_first (d + 1) Q 0 [some (.ref 160), none, none] [] (0, 0) (i, l, dd, x) (ab_E0 sc) := by
  refine ab_iconst (v := 1) dX4_first_0 (by decide) ?_
  refine ab_istoren dX4_first_1 (Nat.le_of_ble_eq_true rfl) (L2 := [some (.ref 160), some (.int 1), none]) rfl ?_
  refine ab_iconst (v := 0) dX4_first_2 (by decide) ?_
  refine ab_istoren dX4_first_3 (Nat.le_of_ble_eq_true rfl) (L2 := [some (.ref 160), some (.int 1), some (.int 0)]) rfl ?_
  exact h
theorem tMX4_first_4 {d : Nat} {Q : ab_Qt} {sc : Nat × (Nat → Int32)} {i : Nat → Nat → Int32} {l : Nat → Nat → Int64} {dd : Nat → Nat → Value} {x : Nat} {a1 : Int32} {a2 : Int32} 
    (h : (∃ m1, dd 160 0 = .ref m1 ∧ ab_isM m1 ∧ (((i m1 1) ≤ a2 → ab_Fr MX4_first (d + 1) Q 39 [some (.ref 160), some (.int a1), some (.int 0)] [] (0, 0) (i, l, dd, x) (ab_E0 sc)) ∧ (¬ (i m1 1) ≤ a2 → (vp_in a2 7 ∧ ∀ i4, i4 = ab_u i 162 a2.toNatClampNeg 0 → vp_in a2 7 ∧ ab_Fr MX4_first (d + 1) Q 4 [some (.ref 160), some (.int (a1 * (i4 161 a2.toNatClampNeg))), some (.int (a2 + 1))] [] (0, 0) (i4, l, dd, x) (ab_E0 sc)))))) :
    ab_Fr MX4_first (d + 1) Q 4 [some (.ref 160), some (.int a1), some (.int a2)] [] (0, 0) (i, l, dd, x) (ab_E0 sc) := by
  refine ab_iloadn dX4_first_4 rfl ?_
  refine ab_aloadn dX4_first_5 rfl ?_
  obtain ⟨m1, hm2d, hm2, hm2t⟩ := h
  refine ab_getf (v := .ref m1) dX4_first_6 fl_X4_9 kd_160 hm2d ?_
  refine ab_getf (v := .int (i m1 1)) dX4_first_9 fl_X4_41 (kM hm2) rfl ?_
  refine ab_icmp_ge (tgt := 37) dX4_first_12 (by decide) (fun c3 => ?_) (fun c3 => ?_)
  · refine ab_iconst (v := 0) dX4_first_37 (by decide) ?_
    refine ab_istoren dX4_first_38 (Nat.le_of_ble_eq_true rfl) (L2 := [some (.ref 160), some (.int a1), some (.int 0)]) rfl ?_
    exact (hm2t.1 c3)
  · refine ab_aloadn dX4_first_15 rfl ?_
    refine ab_getf (v := .ref 162) dX4_first_16 fl_X4_19 kd_160 ff_160_2 ?_
    refine ab_iloadn dX4_first_19 rfl ?_
    refine ab_iconst (v := 0) dX4_first_20 (by decide) ?_
    refine ab_iastore dX4_first_21 kd_162 (hm2t.2 c3).1 ?_
    obtain ⟨i4, e5⟩ : ∃ z, z = ab_u i 162 a2.toNatClampNeg 0 := ⟨_, rfl⟩
    rw [show ab_u i 162 a2.toNatClampNeg 0 = i4 from e5.symm]
    refine ab_iloadn dX4_first_22 rfl ?_
    refine ab_aloadn dX4_first_23 rfl ?_
    refine ab_getf (v := .ref 161) dX4_first_24 fl_X4_15 kd_160 ff_160_1 ?_
    refine ab_iloadn dX4_first_27 rfl ?_
    refine ab_iaload (v := (i4 161 a2.toNatClampNeg)) dX4_first_28 kd_161 ((hm2t.2 c3).2 i4 e5).1 rfl ?_
    refine ab_imul dX4_first_29 ?_
    refine ab_istoren dX4_first_30 (Nat.le_of_ble_eq_true rfl) (L2 := [some (.ref 160), some (.int (a1 * (i4 161 a2.toNatClampNeg))), some (.int a2)]) rfl ?_
    refine ab_iinc (v := (a2 + 1)) dX4_first_31 rfl (by rfl) (Nat.le_of_ble_eq_true rfl) (L2 := [some (.ref 160), some (.int (a1 * (i4 161 a2.toNatClampNeg))), some (.int (a2 + 1))]) rfl ?_
    refine ab_goto (tgt := 4) dX4_first_34 (by decide) ?_
    exact ((hm2t.2 c3).2 i4 e5).2
theorem tMX4_first_39 {d : Nat} {Q : ab_Qt} {sc : Nat × (Nat → Int32)} {i : Nat → Nat → Int32} {l : Nat → Nat → Int64} {dd : Nat → Nat → Value} {x : Nat} {a1 : Int32} {a2 : Int32} 
    (h : ((3 ≤ a2 → (∃ (P3 : ab_S → Prop), ab_Sp MX4_fillFrom d [.ref 160, .int 0] (i, l, dd, x) (ab_E0 sc) (none) P3 ∧ ∀ i6 l7 dd8 x9, P3 (i6, l7, dd8, x9) → Q (some (some (.int a1))) (i6, l7, dd8, x9) (ab_E0 sc))) ∧ (¬ 3 ≤ a2 → (∃ m11, dd 160 0 = .ref m11 ∧ ab_isM m11 ∧ vp_in a2 3 ∧ vp_in a2 24 ∧ ∀ l13, l13 = ab_u l 165 a2.toNatClampNeg ((i (m11 + 1) a2.toNatClampNeg).toInt64) → vp_in a2 24 ∧ ∀ i15, i15 = ab_u i 166 a2.toNatClampNeg 0 → ab_Fr MX4_first (d + 1) Q 39 [some (.ref 160), some (.int a1), some (.int (a2 + 1))] [] (0, 0) (i15, l13, dd, x) (ab_E0 sc))))) :
    ab_Fr MX4_first (d + 1) Q 39 [some (.ref 160), some (.int a1), some (.int a2)] [] (0, 0) (i, l, dd, x) (ab_E0 sc) := by
  refine ab_iloadn dX4_first_39 rfl ?_
  refine ab_iconst (v := 3) dX4_first_40 (by decide) ?_
  refine ab_icmp_ge (tgt := 73) dX4_first_41 (by decide) (fun c1 => ?_) (fun c1 => ?_)
  · refine ab_aloadn dX4_first_73 rfl ?_
    refine ab_iconst (v := 0) dX4_first_74 (by decide) ?_
    obtain ⟨P3, hs4, hk5⟩ := (h.1 c1)
    refine ab_callV (vs := [.int 0]) (st := []) dX4_first_75 okMX4_fillFrom wd_745 kd_160 rfl rfl rfl (Nat.le_of_ble_eq_true rfl) ⟨Nat.le_of_ble_eq_true rfl, Nat.le_of_ble_eq_true rfl⟩ hs4 ?_
    rintro v9 ⟨i6, l7, dd8, x9⟩ E9 - ⟨rfl, rfl, hp10⟩
    show ab_Fr MX4_first (d + 1) Q 78 [some (.ref 160), some (.int a1), some (.int a2)] [] (0, 0) (i6, l7, dd8, x9) (ab_E0 sc)
    refine ab_iloadn dX4_first_78 rfl ?_
    exact ab_iret dX4_first_79 rfl ⟨Nat.zero_le _, Nat.zero_le _⟩ (hk5 i6 l7 dd8 x9 hp10)
  · refine ab_aloadn dX4_first_44 rfl ?_
    refine ab_getf (v := .ref 165) dX4_first_45 fl_X4_28 kd_160 ff_160_5 ?_
    refine ab_iloadn dX4_first_48 rfl ?_
    refine ab_aloadn dX4_first_49 rfl ?_
    obtain ⟨m11, hm12d, hm12, hm12t⟩ := (h.2 c1)
    refine ab_getf (v := .ref m11) dX4_first_50 fl_X4_9 kd_160 hm12d ?_
    refine ab_getf (v := .ref (m11 + 1)) dX4_first_53 fl_X4_67 (kM hm12) (fM_6 hm12) ?_
    refine ab_iloadn dX4_first_56 rfl ?_
    refine ab_iaload (v := (i (m11 + 1) a2.toNatClampNeg)) dX4_first_57 (kM_1 hm12) hm12t.1 rfl ?_
    refine ab_i2l dX4_first_58 rfl ?_
    refine ab_lastore dX4_first_59 kd_165 hm12t.2.1 ?_
    obtain ⟨l13, e14⟩ : ∃ z, z = ab_u l 165 a2.toNatClampNeg ((i (m11 + 1) a2.toNatClampNeg).toInt64) := ⟨_, rfl⟩
    rw [show ab_u l 165 a2.toNatClampNeg ((i (m11 + 1) a2.toNatClampNeg).toInt64) = l13 from e14.symm]
    refine ab_aloadn dX4_first_60 rfl ?_
    refine ab_getf (v := .ref 166) dX4_first_61 fl_X4_32 kd_160 ff_160_6 ?_
    refine ab_iloadn dX4_first_64 rfl ?_
    refine ab_iconst (v := 0) dX4_first_65 (by decide) ?_
    refine ab_iastore dX4_first_66 kd_166 (hm12t.2.2 l13 e14).1 ?_
    obtain ⟨i15, e16⟩ : ∃ z, z = ab_u i 166 a2.toNatClampNeg 0 := ⟨_, rfl⟩
    rw [show ab_u i 166 a2.toNatClampNeg 0 = i15 from e16.symm]
    refine ab_iinc (v := (a2 + 1)) dX4_first_67 rfl (by rfl) (Nat.le_of_ble_eq_true rfl) (L2 := [some (.ref 160), some (.int a1), some (.int (a2 + 1))]) rfl ?_
    refine ab_goto (tgt := 39) dX4_first_70 (by decide) ?_
    exact ((hm12t.2.2 l13 e14).2 i15 e16)
theorem tMX4_fillFrom_0 {d : Nat} {Q : ab_Qt} {sc : Nat × (Nat → Int32)} {i : Nat → Nat → Int32} {l : Nat → Nat → Int64} {dd : Nat → Nat → Value} {x : Nat} {a1 : Int32} 
    (h : ab_Fr MX4_fillFrom (d + 1) Q 2 [some (.ref 160), none, some (.int a1), none, none, none] [] (0, 0) (i, l, dd, x) (ab_E0 sc)) :
    ab_Fr MX4_fillFrom (d + 1) Q 0 [some (.ref 160), some (.int a1), none, none, none, none] [] (0, 0) (i, l, dd, x) (ab_E0 sc) := by
  refine ab_iloadn dX4_fillFrom_0 rfl ?_
  refine ab_istoren dX4_fillFrom_1 (Nat.le_of_ble_eq_true rfl) (L2 := [some (.ref 160), some (.int a1), some (.int a1), none, none, none]) rfl ?_
  refine ab_forget (i := 1) (L2 := [some (.ref 160), none, some (.int a1), none, none, none]) rfl ?_
  exact h
theorem tMX4_fillFrom_2 {d : Nat} {Q : ab_Qt} {sc : Nat × (Nat → Int32)} {i : Nat → Nat → Int32} {l : Nat → Nat → Int64} {dd : Nat → Nat → Value} {x : Nat} {a2 : Int32} 
    (h : (∃ m1, dd 160 0 = .ref m1 ∧ ab_isM m1 ∧ (((i m1 1) ≤ a2 → Q (some none) (i, l, dd, x) (ab_E0 sc)) ∧ (¬ (i m1 1) ≤ a2 → (vp_in a2 7 ∧ vp_in ((a2 * 3) + (i 162 a2.toNatClampNeg)) 21 ∧ vp_in a2 7 ∧ ∀ i4, i4 = ab_u i 167 a2.toNatClampNeg (i 163 ((a2 * 3) + (i 162 a2.toNatClampNeg)).toNatClampNeg) → ab_Fr MX4_fillFrom (d + 1) Q 39 [some (.ref 160), none, some (.int a2), some (.int ((a2 * 3) + (i 162 a2.toNatClampNeg))), some (.int 0), none] [] (0, 0) (i4, l, dd, x) (ab_E0 sc)))))) :
    ab_Fr MX4_fillFrom (d + 1) Q 2 [some (.ref 160), none, some (.int a2), none, none, none] [] (0, 0) (i, l, dd, x) (ab_E0 sc) := by
  refine ab_iloadn dX4_fillFrom_2 rfl ?_
  refine ab_aloadn dX4_fillFrom_3 rfl ?_
  obtain ⟨m1, hm2d, hm2, hm2t⟩ := h
  refine ab_getf (v := .ref m1) dX4_fillFrom_4 fl_X4_9 kd_160 hm2d ?_
  refine ab_getf (v := .int (i m1 1)) dX4_fillFrom_7 fl_X4_41 (kM hm2) rfl ?_
  refine ab_icmp_ge (tgt := 150) dX4_fillFrom_10 (by decide) (fun c3 => ?_) (fun c3 => ?_)
  · exact ab_vret dX4_fillFrom_150 rfl ⟨Nat.zero_le _, Nat.zero_le _⟩ (hm2t.1 c3)
  · refine ab_iloadn dX4_fillFrom_13 rfl ?_
    refine ab_iconst (v := 3) dX4_fillFrom_14 (by decide) ?_
    refine ab_imul dX4_fillFrom_15 ?_
    refine ab_aloadn dX4_fillFrom_16 rfl ?_
    refine ab_getf (v := .ref 162) dX4_fillFrom_17 fl_X4_19 kd_160 ff_160_2 ?_
    refine ab_iloadn dX4_fillFrom_20 rfl ?_
    refine ab_iaload (v := (i 162 a2.toNatClampNeg)) dX4_fillFrom_21 kd_162 (hm2t.2 c3).1 rfl ?_
    refine ab_iadd dX4_fillFrom_22 ?_
    refine ab_istoren dX4_fillFrom_23 (Nat.le_of_ble_eq_true rfl) (L2 := [some (.ref 160), none, some (.int a2), some (.int ((a2 * 3) + (i 162 a2.toNatClampNeg))), none, none]) rfl ?_
    refine ab_aloadn dX4_fillFrom_24 rfl ?_
    refine ab_getf (v := .ref 167) dX4_fillFrom_25 fl_X4_35 kd_160 ff_160_7 ?_
    refine ab_iloadn dX4_fillFrom_28 rfl ?_
    refine ab_aloadn dX4_fillFrom_29 rfl ?_
    refine ab_getf (v := .ref 163) dX4_fillFrom_30 fl_X4_22 kd_160 ff_160_3 ?_
    refine ab_iloadn dX4_fillFrom_33 rfl ?_
    refine ab_iaload (v := (i 163 ((a2 * 3) + (i 162 a2.toNatClampNeg)).toNatClampNeg)) dX4_fillFrom_34 kd_163 (hm2t.2 c3).2.1 rfl ?_
    refine ab_iastore dX4_fillFrom_35 kd_167 (hm2t.2 c3).2.2.1 ?_
    obtain ⟨i4, e5⟩ : ∃ z, z = ab_u i 167 a2.toNatClampNeg (i 163 ((a2 * 3) + (i 162 a2.toNatClampNeg)).toNatClampNeg) := ⟨_, rfl⟩
    rw [show ab_u i 167 a2.toNatClampNeg (i 163 ((a2 * 3) + (i 162 a2.toNatClampNeg)).toNatClampNeg) = i4 from e5.symm]
    refine ab_iconst (v := 0) dX4_fillFrom_36 (by decide) ?_
    refine ab_istore dX4_fillFrom_37 (Nat.le_of_ble_eq_true rfl) (L2 := [some (.ref 160), none, some (.int a2), some (.int ((a2 * 3) + (i 162 a2.toNatClampNeg))), some (.int 0), none]) rfl ?_
    exact ((hm2t.2 c3).2.2.2 i4 e5)
theorem tMX4_fillFrom_39 {d : Nat} {Q : ab_Qt} {sc : Nat × (Nat → Int32)} {i : Nat → Nat → Int32} {l : Nat → Nat → Int64} {dd : Nat → Nat → Value} {x : Nat} {a2 : Int32} {a3 : Int32} {a4 : Int32} 
    (h : ((3 ≤ a4 → ab_Fr MX4_fillFrom (d + 1) Q 2 [some (.ref 160), none, some (.int (a2 + 1)), none, none, none] [] (0, 0) (i, l, dd, x) (ab_E0 sc)) ∧ (¬ 3 ≤ a4 → (vp_in ((a2 * 3) + a4) 24 ∧ vp_in ((a3 * 3) + a4) 63 ∧ vp_in (((a2 + 1) * 3) + a4) 24 ∧ ∀ l2, l2 = ab_u l 165 (((a2 + 1) * 3) + a4).toNatClampNeg ((l 165 ((a2 * 3) + a4).toNatClampNeg) * (i 164 ((a3 * 3) + a4).toNatClampNeg).toInt64) → vp_in a2 7 ∧ ((¬ (i 167 a2.toNatClampNeg) = a4 → ab_Fr MX4_fillFrom (d + 1) Q 109 [some (.ref 160), none, some (.int a2), some (.int a3), some (.int a4), none] [.int 0] (0, 0) (i, l2, dd, x) (ab_E0 sc)) ∧ ((i 167 a2.toNatClampNeg) = a4 → (∃ m5, dd 160 0 = .ref m5 ∧ ab_isM m5 ∧ vp_in a2 7 ∧ ab_Fr MX4_fillFrom (d + 1) Q 109 [some (.ref 160), none, some (.int a2), some (.int a3), some (.int a4), none] [.int (i (m5 + 5 + 6 * a2.toNatClampNeg) 1)] (0, 0) (i, l2, dd, x) (ab_E0 sc)))))))) :
    ab_Fr MX4_fillFrom (d + 1) Q 39 [some (.ref 160), none, some (.int a2), some (.int a3), some (.int a4), none] [] (0, 0) (i, l, dd, x) (ab_E0 sc) := by
  refine ab_iload dX4_fillFrom_39 rfl ?_
  refine ab_iconst (v := 3) dX4_fillFrom_41 (by decide) ?_
  refine ab_icmp_ge (tgt := 144) dX4_fillFrom_42 (by decide) (fun c1 => ?_) (fun c1 => ?_)
  · refine ab_iinc (v := (a2 + 1)) dX4_fillFrom_144 rfl (by rfl) (Nat.le_of_ble_eq_true rfl) (L2 := [some (.ref 160), none, some (.int (a2 + 1)), some (.int a3), some (.int a4), none]) rfl ?_
    refine ab_goto (tgt := 2) dX4_fillFrom_147 (by decide) ?_
    refine ab_forget (i := 3) (L2 := [some (.ref 160), none, some (.int (a2 + 1)), none, some (.int a4), none]) rfl ?_
    refine ab_forget (i := 4) (L2 := [some (.ref 160), none, some (.int (a2 + 1)), none, none, none]) rfl ?_
    exact (h.1 c1)
  · refine ab_aloadn dX4_fillFrom_45 rfl ?_
    refine ab_getf (v := .ref 165) dX4_fillFrom_46 fl_X4_28 kd_160 ff_160_5 ?_
    refine ab_iloadn dX4_fillFrom_49 rfl ?_
    refine ab_iconst (v := 1) dX4_fillFrom_50 (by decide) ?_
    refine ab_iadd dX4_fillFrom_51 ?_
    refine ab_iconst (v := 3) dX4_fillFrom_52 (by decide) ?_
    refine ab_imul dX4_fillFrom_53 ?_
    refine ab_iload dX4_fillFrom_54 rfl ?_
    refine ab_iadd dX4_fillFrom_56 ?_
    refine ab_aloadn dX4_fillFrom_57 rfl ?_
    refine ab_getf (v := .ref 165) dX4_fillFrom_58 fl_X4_28 kd_160 ff_160_5 ?_
    refine ab_iloadn dX4_fillFrom_61 rfl ?_
    refine ab_iconst (v := 3) dX4_fillFrom_62 (by decide) ?_
    refine ab_imul dX4_fillFrom_63 ?_
    refine ab_iload dX4_fillFrom_64 rfl ?_
    refine ab_iadd dX4_fillFrom_66 ?_
    refine ab_laload (v := (l 165 ((a2 * 3) + a4).toNatClampNeg)) dX4_fillFrom_67 kd_165 (h.2 c1).1 rfl ?_
    refine ab_aloadn dX4_fillFrom_68 rfl ?_
    refine ab_getf (v := .ref 164) dX4_fillFrom_69 fl_X4_25 kd_160 ff_160_4 ?_
    refine ab_iloadn dX4_fillFrom_72 rfl ?_
    refine ab_iconst (v := 3) dX4_fillFrom_73 (by decide) ?_
    refine ab_imul dX4_fillFrom_74 ?_
    refine ab_iload dX4_fillFrom_75 rfl ?_
    refine ab_iadd dX4_fillFrom_77 ?_
    refine ab_iaload (v := (i 164 ((a3 * 3) + a4).toNatClampNeg)) dX4_fillFrom_78 kd_164 (h.2 c1).2.1 rfl ?_
    refine ab_i2l dX4_fillFrom_79 rfl ?_
    refine ab_lmul dX4_fillFrom_80 ?_
    refine ab_lastore dX4_fillFrom_81 kd_165 (h.2 c1).2.2.1 ?_
    obtain ⟨l2, e3⟩ : ∃ z, z = ab_u l 165 (((a2 + 1) * 3) + a4).toNatClampNeg ((l 165 ((a2 * 3) + a4).toNatClampNeg) * (i 164 ((a3 * 3) + a4).toNatClampNeg).toInt64) := ⟨_, rfl⟩
    rw [show ab_u l 165 (((a2 + 1) * 3) + a4).toNatClampNeg ((l 165 ((a2 * 3) + a4).toNatClampNeg) * (i 164 ((a3 * 3) + a4).toNatClampNeg).toInt64) = l2 from e3.symm]
    refine ab_aloadn dX4_fillFrom_82 rfl ?_
    refine ab_getf (v := .ref 167) dX4_fillFrom_83 fl_X4_35 kd_160 ff_160_7 ?_
    refine ab_iloadn dX4_fillFrom_86 rfl ?_
    refine ab_iaload (v := (i 167 a2.toNatClampNeg)) dX4_fillFrom_87 kd_167 ((h.2 c1).2.2.2 l2 e3).1 rfl ?_
    refine ab_iload dX4_fillFrom_88 rfl ?_
    refine ab_icmp_ne (tgt := 108) dX4_fillFrom_90 (by decide) (fun c4 => ?_) (fun c4 => ?_)
    · refine ab_iconst (v := 0) dX4_fillFrom_108 (by decide) ?_
      exact (((h.2 c1).2.2.2 l2 e3).2.1 c4)
    · refine ab_aloadn dX4_fillFrom_93 rfl ?_
      obtain ⟨m5, hm6d, hm6, hm6t⟩ := (((h.2 c1).2.2.2 l2 e3).2.2 c4)
      refine ab_getf (v := .ref m5) dX4_fillFrom_94 fl_X4_9 kd_160 hm6d ?_
      refine ab_getf (v := .ref (m5 + 4)) dX4_fillFrom_97 fl_X4_47 (kM hm6) (fM_8 hm6) ?_
      refine ab_iloadn dX4_fillFrom_100 rfl ?_
      refine ab_aaload (a := (m5 + 5 + 6 * a2.toNatClampNeg)) dX4_fillFrom_101 (Or.inl rfl) (kM_4 hm6) hm6t.1 (fMv hm6 hm6t.1) ?_
      refine ab_getf (v := .int (i (m5 + 5 + 6 * a2.toNatClampNeg) 1)) dX4_fillFrom_102 fl_X4_74 (kV (isVof hm6 hm6t.1)) rfl ?_
      refine ab_goto (tgt := 109) dX4_fillFrom_105 (by decide) ?_
      exact hm6t.2
theorem tMX4_fillFrom_109 {d : Nat} {Q : ab_Qt} {sc : Nat × (Nat → Int32)} {i : Nat → Nat → Int32} {l : Nat → Nat → Int64} {dd : Nat → Nat → Value} {x : Nat} {a2 : Int32} {a3 : Int32} {a4 : Int32} {s0 : Int32} 
    (h : (vp_in ((a2 * 3) + a4) 24 ∧ vp_in (((a2 + 1) * 3) + a4) 24 ∧ ∀ i1, i1 = ab_u i 166 (((a2 + 1) * 3) + a4).toNatClampNeg ((i 166 ((a2 * 3) + a4).toNatClampNeg) + s0) → ab_Fr MX4_fillFrom (d + 1) Q 39 [some (.ref 160), none, some (.int a2), some (.int a3), some (.int (a4 + 1)), none] [] (0, 0) (i1, l, dd, x) (ab_E0 sc))) :
    ab_Fr MX4_fillFrom (d + 1) Q 109 [some (.ref 160), none, some (.int a2), some (.int a3), some (.int a4), none] [.int s0] (0, 0) (i, l, dd, x) (ab_E0 sc) := by
  refine ab_istore dX4_fillFrom_109 (Nat.le_of_ble_eq_true rfl) (L2 := [some (.ref 160), none, some (.int a2), some (.int a3), some (.int a4), some (.int s0)]) rfl ?_
  refine ab_aloadn dX4_fillFrom_111 rfl ?_
  refine ab_getf (v := .ref 166) dX4_fillFrom_112 fl_X4_32 kd_160 ff_160_6 ?_
  refine ab_iloadn dX4_fillFrom_115 rfl ?_
  refine ab_iconst (v := 1) dX4_fillFrom_116 (by decide) ?_
  refine ab_iadd dX4_fillFrom_117 ?_
  refine ab_iconst (v := 3) dX4_fillFrom_118 (by decide) ?_
  refine ab_imul dX4_fillFrom_119 ?_
  refine ab_iload dX4_fillFrom_120 rfl ?_
  refine ab_iadd dX4_fillFrom_122 ?_
  refine ab_aloadn dX4_fillFrom_123 rfl ?_
  refine ab_getf (v := .ref 166) dX4_fillFrom_124 fl_X4_32 kd_160 ff_160_6 ?_
  refine ab_iloadn dX4_fillFrom_127 rfl ?_
  refine ab_iconst (v := 3) dX4_fillFrom_128 (by decide) ?_
  refine ab_imul dX4_fillFrom_129 ?_
  refine ab_iload dX4_fillFrom_130 rfl ?_
  refine ab_iadd dX4_fillFrom_132 ?_
  refine ab_iaload (v := (i 166 ((a2 * 3) + a4).toNatClampNeg)) dX4_fillFrom_133 kd_166 h.1 rfl ?_
  refine ab_iload dX4_fillFrom_134 rfl ?_
  refine ab_iadd dX4_fillFrom_136 ?_
  refine ab_iastore dX4_fillFrom_137 kd_166 h.2.1 ?_
  obtain ⟨i1, e2⟩ : ∃ z, z = ab_u i 166 (((a2 + 1) * 3) + a4).toNatClampNeg ((i 166 ((a2 * 3) + a4).toNatClampNeg) + s0) := ⟨_, rfl⟩
  rw [show ab_u i 166 (((a2 + 1) * 3) + a4).toNatClampNeg ((i 166 ((a2 * 3) + a4).toNatClampNeg) + s0) = i1 from e2.symm]
  refine ab_iinc (v := (a4 + 1)) dX4_fillFrom_138 rfl (by rfl) (Nat.le_of_ble_eq_true rfl) (L2 := [some (.ref 160), none, some (.int a2), some (.int a3), some (.int (a4 + 1)), some (.int s0)]) rfl ?_
  refine ab_goto (tgt := 39) dX4_fillFrom_141 (by decide) ?_
  refine ab_forget (i := 5) (L2 := [some (.ref 160), none, some (.int a2), some (.int a3), some (.int (a4 + 1)), none]) rfl ?_
  exact (h.2.2 i1 e2)
theorem tMX4_decidesNow_0 {d : Nat} {Q : ab_Qt} {sc : Nat × (Nat → Int32)} {i : Nat → Nat → Int32} {l : Nat → Nat → Int64} {dd : Nat → Nat → Value} {x : Nat}  
    (h : (∃ (P2 : ab_S → Prop), ab_Sp MX4_takeTally d [.ref 160] (i, l, dd, x) (ab_E0 sc) (none) P2 ∧ ∀ i5 l6 dd7 x8, P2 (i5, l6, dd7, x8) → ∃ m10, dd7 160 0 = .ref m10 ∧ ab_isM m10 ∧ ((¬ (i5 m10 5) = (-1) → (vp_in (i5 m10 5) 7 ∧ ab_Fr MX4_decidesNow (d + 1) Q 40 [none] [.int (i5 167 (i5 m10 5).toNatClampNeg), .ref 168, .ref m10] (0, 0) (i5, l6, dd7, x8) (ab_E0 sc))) ∧ ((i5 m10 5) = (-1) → ab_Fr MX4_decidesNow (d + 1) Q 40 [none] [.int 9, .ref 168, .ref m10] (0, 0) (i5, l6, dd7, x8) (ab_E0 sc))))) :
    ab_Fr MX4_decidesNow (d + 1) Q 0 [some (.ref 160)] [] (0, 0) (i, l, dd, x) (ab_E0 sc) := by
  refine ab_aloadn dX4_decidesNow_0 rfl ?_
  obtain ⟨P2, hs3, hk4⟩ := h
  refine ab_callV (vs := []) (st := []) dX4_decidesNow_1 okMX4_takeTally wd_751 kd_160 rfl rfl rfl (Nat.le_of_ble_eq_true rfl) ⟨Nat.le_of_ble_eq_true rfl, Nat.le_of_ble_eq_true rfl⟩ hs3 ?_
  rintro v9 ⟨i5, l6, dd7, x8⟩ E9 - ⟨rfl, rfl, hp9⟩
  show ab_Fr MX4_decidesNow (d + 1) Q 4 [some (.ref 160)] [] (0, 0) (i5, l6, dd7, x8) (ab_E0 sc)
  refine ab_aloadn dX4_decidesNow_4 rfl ?_
  obtain ⟨m10, hm11d, hm11, hm11t⟩ := (hk4 i5 l6 dd7 x8 hp9)
  refine ab_getf (v := .ref m10) dX4_decidesNow_5 fl_X4_9 kd_160 hm11d ?_
  refine ab_aloadn dX4_decidesNow_8 rfl ?_
  refine ab_getf (v := .ref 168) dX4_decidesNow_9 fl_X4_38 kd_160 ff_160_8 ?_
  refine ab_aloadn dX4_decidesNow_12 rfl ?_
  refine ab_getf (v := .ref m10) dX4_decidesNow_13 fl_X4_9 kd_160 hm11d ?_
  refine ab_getf (v := .int (i5 m10 5)) dX4_decidesNow_16 fl_X4_90 (kM hm11) rfl ?_
  refine ab_iconst (v := (-1)) dX4_decidesNow_19 (by decide) ?_
  refine ab_icmp_ne (tgt := 28) dX4_decidesNow_20 (by decide) (fun c12 => ?_) (fun c12 => ?_)
  · refine ab_aloadn dX4_decidesNow_28 rfl ?_
    refine ab_getf (v := .ref 167) dX4_decidesNow_29 fl_X4_35 kd_160 ff_160_7 ?_
    refine ab_aloadn dX4_decidesNow_32 rfl ?_
    refine ab_getf (v := .ref m10) dX4_decidesNow_33 fl_X4_9 kd_160 hm11d ?_
    refine ab_getf (v := .int (i5 m10 5)) dX4_decidesNow_36 fl_X4_90 (kM hm11) rfl ?_
    refine ab_iaload (v := (i5 167 (i5 m10 5).toNatClampNeg)) dX4_decidesNow_39 kd_167 (hm11t.1 c12).1 rfl ?_
    refine ab_forget (i := 0) (L2 := [none]) rfl ?_
    exact (hm11t.1 c12).2
  · refine ab_bipush (v := 9) dX4_decidesNow_23 (by decide) ?_
    refine ab_goto (tgt := 40) dX4_decidesNow_25 (by decide) ?_
    refine ab_forget (i := 0) (L2 := [none]) rfl ?_
    exact (hm11t.2 c12)
theorem tMX4_decidesNow_40 {d : Nat} {Q : ab_Qt} {sc : Nat × (Nat → Int32)} {i : Nat → Nat → Int32} {l : Nat → Nat → Int64} {dd : Nat → Nat → Value} {x : Nat} {s0 : Nat} {s1 : Nat} {n_s1 : Nat} {s2 : Int32} (k_s0 : ab_isM s0) (k_s1 : (ab_E0 sc).1 s1 = .inr (0, n_s1))
    (h : (∃ (r1 : Int32) (P2 : ab_S → Prop), ab_Sp MX1_decides d [.ref s0, .ref s1, .int s2] (i, l, dd, x) (ab_E0 sc) (some (.int r1)) P2 ∧ ∀ i5 l6 dd7 x8, P2 (i5, l6, dd7, x8) → Q (some (some (.int r1))) (i5, l6, dd7, x8) (ab_E0 sc))) :
    ab_Fr MX4_decidesNow (d + 1) Q 40 [none] [.int s2, .ref s1, .ref s0] (0, 0) (i, l, dd, x) (ab_E0 sc) := by
  obtain ⟨r1, P2, hs3, hk4⟩ := h
  refine ab_callV (vs := [.ref s1, .int s2]) (st := []) dX4_decidesNow_40 okMX1_decides wd_754 (kM k_s0) rfl rfl rfl (Nat.le_of_ble_eq_true rfl) ⟨Nat.le_of_ble_eq_true rfl, Nat.le_of_ble_eq_true rfl⟩ hs3 ?_
  rintro v9 ⟨i5, l6, dd7, x8⟩ E9 - ⟨rfl, rfl, hp9⟩
  show ab_Fr MX4_decidesNow (d + 1) Q 43 [none] [.int r1] (0, 0) (i5, l6, dd7, x8) (ab_E0 sc)
  exact ab_iret dX4_decidesNow_43 rfl ⟨Nat.zero_le _, Nat.zero_le _⟩ (hk4 i5 l6 dd7 x8 hp9)
theorem tMX4_takeTally_0 {d : Nat} {Q : ab_Qt} {sc : Nat × (Nat → Int32)} {i : Nat → Nat → Int32} {l : Nat → Nat → Int64} {dd : Nat → Nat → Value} {x : Nat}  
    (h : ab_Fr MX4_takeTally (d + 1) Q 2 [some (.ref 160), some (.int 0)] [] (0, 0) (i, l, dd, x) (ab_E0 sc)) :
    ab_Fr MX4_takeTally (d + 1) Q 0 [some (.ref 160), none] [] (0, 0) (i, l, dd, x) (ab_E0 sc) := by
  refine ab_iconst (v := 0) dX4_takeTally_0 (by decide) ?_
  refine ab_istoren dX4_takeTally_1 (Nat.le_of_ble_eq_true rfl) (L2 := [some (.ref 160), some (.int 0)]) rfl ?_
  exact h
theorem tMX4_takeTally_2 {d : Nat} {Q : ab_Qt} {sc : Nat × (Nat → Int32)} {i : Nat → Nat → Int32} {l : Nat → Nat → Int64} {dd : Nat → Nat → Value} {x : Nat} {a1 : Int32} 
    (h : ((3 ≤ a1 → Q (some none) (i, l, dd, x) (ab_E0 sc)) ∧ (¬ 3 ≤ a1 → (∃ m2, dd 160 0 = .ref m2 ∧ ab_isM m2 ∧ vp_in (((i m2 1) * 3) + a1) 24 ∧ vp_in a1 3 ∧ ∀ i4, i4 = ab_u i 168 a1.toNatClampNeg (i 166 (((i m2 1) * 3) + a1).toNatClampNeg) → ab_Fr MX4_takeTally (d + 1) Q 2 [some (.ref 160), some (.int (a1 + 1))] [] (0, 0) (i4, l, dd, x) (ab_E0 sc))))) :
    ab_Fr MX4_takeTally (d + 1) Q 2 [some (.ref 160), some (.int a1)] [] (0, 0) (i, l, dd, x) (ab_E0 sc) := by
  refine ab_iloadn dX4_takeTally_2 rfl ?_
  refine ab_iconst (v := 3) dX4_takeTally_3 (by decide) ?_
  refine ab_icmp_ge (tgt := 35) dX4_takeTally_4 (by decide) (fun c1 => ?_) (fun c1 => ?_)
  · exact ab_vret dX4_takeTally_35 rfl ⟨Nat.zero_le _, Nat.zero_le _⟩ (h.1 c1)
  · refine ab_aloadn dX4_takeTally_7 rfl ?_
    refine ab_getf (v := .ref 168) dX4_takeTally_8 fl_X4_38 kd_160 ff_160_8 ?_
    refine ab_iloadn dX4_takeTally_11 rfl ?_
    refine ab_aloadn dX4_takeTally_12 rfl ?_
    refine ab_getf (v := .ref 166) dX4_takeTally_13 fl_X4_32 kd_160 ff_160_6 ?_
    refine ab_aloadn dX4_takeTally_16 rfl ?_
    obtain ⟨m2, hm3d, hm3, hm3t⟩ := (h.2 c1)
    refine ab_getf (v := .ref m2) dX4_takeTally_17 fl_X4_9 kd_160 hm3d ?_
    refine ab_getf (v := .int (i m2 1)) dX4_takeTally_20 fl_X4_41 (kM hm3) rfl ?_
    refine ab_iconst (v := 3) dX4_takeTally_23 (by decide) ?_
    refine ab_imul dX4_takeTally_24 ?_
    refine ab_iloadn dX4_takeTally_25 rfl ?_
    refine ab_iadd dX4_takeTally_26 ?_
    refine ab_iaload (v := (i 166 (((i m2 1) * 3) + a1).toNatClampNeg)) dX4_takeTally_27 kd_166 hm3t.1 rfl ?_
    refine ab_iastore dX4_takeTally_28 kd_168 hm3t.2.1 ?_
    obtain ⟨i4, e5⟩ : ∃ z, z = ab_u i 168 a1.toNatClampNeg (i 166 (((i m2 1) * 3) + a1).toNatClampNeg) := ⟨_, rfl⟩
    rw [show ab_u i 168 a1.toNatClampNeg (i 166 (((i m2 1) * 3) + a1).toNatClampNeg) = i4 from e5.symm]
    refine ab_iinc (v := (a1 + 1)) dX4_takeTally_29 rfl (by rfl) (Nat.le_of_ble_eq_true rfl) (L2 := [some (.ref 160), some (.int (a1 + 1))]) rfl ?_
    refine ab_goto (tgt := 2) dX4_takeTally_32 (by decide) ?_
    exact (hm3t.2.2 i4 e5)
theorem tMX4_addRow_0 {d : Nat} {Q : ab_Qt} {sc : Nat × (Nat → Int32)} {i : Nat → Nat → Int32} {l : Nat → Nat → Int64} {dd : Nat → Nat → Value} {x : Nat} {a1 : Nat} {n_a1 : Nat} {a2 : Int32} (k_a1 : (ab_E0 sc).1 a1 = .inr (1, n_a1))
    (h : ab_Fr MX4_addRow (d + 1) Q 2 [some (.ref 160), some (.ref a1), some (.int a2), some (.int 0)] [] (0, 0) (i, l, dd, x) (ab_E0 sc)) :
    ab_Fr MX4_addRow (d + 1) Q 0 [some (.ref 160), some (.ref a1), some (.int a2), none] [] (0, 0) (i, l, dd, x) (ab_E0 sc) := by
  refine ab_iconst (v := 0) dX4_addRow_0 (by decide) ?_
  refine ab_istoren dX4_addRow_1 (Nat.le_of_ble_eq_true rfl) (L2 := [some (.ref 160), some (.ref a1), some (.int a2), some (.int 0)]) rfl ?_
  exact h
theorem tMX4_addRow_2 {d : Nat} {Q : ab_Qt} {sc : Nat × (Nat → Int32)} {i : Nat → Nat → Int32} {l : Nat → Nat → Int64} {dd : Nat → Nat → Value} {x : Nat} {a1 : Nat} {n_a1 : Nat} {a2 : Int32} {a3 : Int32} (k_a1 : (ab_E0 sc).1 a1 = .inr (1, n_a1))
    (h : ((3 ≤ a3 → Q (some none) (i, l, dd, x) (ab_E0 sc)) ∧ (¬ 3 ≤ a3 → (vp_in ((a3 * 3) + a2) n_a1 ∧ ∃ (r2 : Int64) (P3 : ab_S → Prop), ab_Sp MX4_partsNow d [.ref 160, .int a3] (i, l, dd, x) (ab_E0 sc) (some (.long r2)) P3 ∧ ∀ i6 l7 dd8 x9, P3 (i6, l7, dd8, x9) → vp_in ((a3 * 3) + a2) n_a1 ∧ ∀ l11, l11 = ab_u l7 a1 ((a3 * 3) + a2).toNatClampNeg ((l a1 ((a3 * 3) + a2).toNatClampNeg) + r2) → ab_Fr MX4_addRow (d + 1) Q 2 [some (.ref 160), some (.ref a1), some (.int a2), some (.int (a3 + 1))] [] (0, 0) (i6, l11, dd8, x9) (ab_E0 sc))))) :
    ab_Fr MX4_addRow (d + 1) Q 2 [some (.ref 160), some (.ref a1), some (.int a2), some (.int a3)] [] (0, 0) (i, l, dd, x) (ab_E0 sc) := by
  refine ab_iloadn dX4_addRow_2 rfl ?_
  refine ab_iconst (v := 3) dX4_addRow_3 (by decide) ?_
  refine ab_icmp_ge (tgt := 28) dX4_addRow_4 (by decide) (fun c1 => ?_) (fun c1 => ?_)
  · exact ab_vret dX4_addRow_28 rfl ⟨Nat.zero_le _, Nat.zero_le _⟩ (h.1 c1)
  · refine ab_aloadn dX4_addRow_7 rfl ?_
    refine ab_iloadn dX4_addRow_8 rfl ?_
    refine ab_iconst (v := 3) dX4_addRow_9 (by decide) ?_
    refine ab_imul dX4_addRow_10 ?_
    refine ab_iloadn dX4_addRow_11 rfl ?_
    refine ab_iadd dX4_addRow_12 ?_
    refine ab_dup2 dX4_addRow_13 rfl rfl ?_
    refine ab_laload (v := (l a1 ((a3 * 3) + a2).toNatClampNeg)) dX4_addRow_14 k_a1 (h.2 c1).1 rfl ?_
    refine ab_aloadn dX4_addRow_15 rfl ?_
    refine ab_iloadn dX4_addRow_16 rfl ?_
    obtain ⟨r2, P3, hs4, hk5⟩ := (h.2 c1).2
    refine ab_callV (vs := [.int a3]) (st := [.long (l a1 ((a3 * 3) + a2).toNatClampNeg), .int ((a3 * 3) + a2), .ref a1]) dX4_addRow_17 okMX4_partsNow wd_758 kd_160 rfl rfl rfl (Nat.le_of_ble_eq_true rfl) ⟨Nat.le_of_ble_eq_true rfl, Nat.le_of_ble_eq_true rfl⟩ hs4 ?_
    rintro v9 ⟨i6, l7, dd8, x9⟩ E9 - ⟨rfl, rfl, hp10⟩
    show ab_Fr MX4_addRow (d + 1) Q 20 [some (.ref 160), some (.ref a1), some (.int a2), some (.int a3)] [.long r2, .long (l a1 ((a3 * 3) + a2).toNatClampNeg), .int ((a3 * 3) + a2), .ref a1] (0, 0) (i6, l7, dd8, x9) (ab_E0 sc)
    refine ab_ladd dX4_addRow_20 ?_
    refine ab_lastore dX4_addRow_21 k_a1 (hk5 i6 l7 dd8 x9 hp10).1 ?_
    obtain ⟨l11, e12⟩ : ∃ z, z = ab_u l7 a1 ((a3 * 3) + a2).toNatClampNeg ((l a1 ((a3 * 3) + a2).toNatClampNeg) + r2) := ⟨_, rfl⟩
    rw [show ab_u l7 a1 ((a3 * 3) + a2).toNatClampNeg ((l a1 ((a3 * 3) + a2).toNatClampNeg) + r2) = l11 from e12.symm]
    refine ab_iinc (v := (a3 + 1)) dX4_addRow_22 rfl (by rfl) (Nat.le_of_ble_eq_true rfl) (L2 := [some (.ref 160), some (.ref a1), some (.int a2), some (.int (a3 + 1))]) rfl ?_
    refine ab_goto (tgt := 2) dX4_addRow_25 (by decide) ?_
    exact ((hk5 i6 l7 dd8 x9 hp10).2 l11 e12)
theorem tMX4_partsNow_0 {d : Nat} {Q : ab_Qt} {sc : Nat × (Nat → Int32)} {i : Nat → Nat → Int32} {l : Nat → Nat → Int64} {dd : Nat → Nat → Value} {x : Nat} {a1 : Int32} 
    (h : (∃ m1, dd 160 0 = .ref m1 ∧ ab_isM m1 ∧ vp_in (((i m1 1) * 3) + a1) 24 ∧ Q (some (some (.long (l 165 (((i m1 1) * 3) + a1).toNatClampNeg)))) (i, l, dd, x) (ab_E0 sc))) :
    ab_Fr MX4_partsNow (d + 1) Q 0 [some (.ref 160), some (.int a1)] [] (0, 0) (i, l, dd, x) (ab_E0 sc) := by
  refine ab_aloadn dX4_partsNow_0 rfl ?_
  refine ab_getf (v := .ref 165) dX4_partsNow_1 fl_X4_28 kd_160 ff_160_5 ?_
  refine ab_aloadn dX4_partsNow_4 rfl ?_
  obtain ⟨m1, hm2d, hm2, hm2t⟩ := h
  refine ab_getf (v := .ref m1) dX4_partsNow_5 fl_X4_9 kd_160 hm2d ?_
  refine ab_getf (v := .int (i m1 1)) dX4_partsNow_8 fl_X4_41 (kM hm2) rfl ?_
  refine ab_iconst (v := 3) dX4_partsNow_11 (by decide) ?_
  refine ab_imul dX4_partsNow_12 ?_
  refine ab_iloadn dX4_partsNow_13 rfl ?_
  refine ab_iadd dX4_partsNow_14 ?_
  refine ab_laload (v := (l 165 (((i m1 1) * 3) + a1).toNatClampNeg)) dX4_partsNow_15 kd_165 hm2t.1 rfl ?_
  exact ab_lret dX4_partsNow_16 rfl ⟨Nat.zero_le _, Nat.zero_le _⟩ hm2t.2
theorem tMX4_step_0 {d : Nat} {Q : ab_Qt} {sc : Nat × (Nat → Int32)} {i : Nat → Nat → Int32} {l : Nat → Nat → Int64} {dd : Nat → Nat → Value} {x : Nat}  
    (h : (∃ m1, dd 160 0 = .ref m1 ∧ ab_isM m1 ∧ ab_Fr MX4_step (d + 1) Q 10 [some (.ref 160), some (.int ((i m1 1) - 1))] [] (0, 0) (i, l, dd, x) (ab_E0 sc))) :
    ab_Fr MX4_step (d + 1) Q 0 [some (.ref 160), none] [] (0, 0) (i, l, dd, x) (ab_E0 sc) := by
  refine ab_aloadn dX4_step_0 rfl ?_
  obtain ⟨m1, hm2d, hm2, hm2t⟩ := h
  refine ab_getf (v := .ref m1) dX4_step_1 fl_X4_9 kd_160 hm2d ?_
  refine ab_getf (v := .int (i m1 1)) dX4_step_4 fl_X4_41 (kM hm2) rfl ?_
  refine ab_iconst (v := 1) dX4_step_7 (by decide) ?_
  refine ab_isub dX4_step_8 ?_
  refine ab_istoren dX4_step_9 (Nat.le_of_ble_eq_true rfl) (L2 := [some (.ref 160), some (.int ((i m1 1) - 1))]) rfl ?_
  exact hm2t
theorem tMX4_step_10 {d : Nat} {Q : ab_Qt} {sc : Nat × (Nat → Int32)} {i : Nat → Nat → Int32} {l : Nat → Nat → Int64} {dd : Nat → Nat → Value} {x : Nat} {a1 : Int32} 
    (h : ((a1 ≤ 0 → ab_Fr MX4_step (d + 1) Q 44 [some (.ref 160), some (.int a1)] [] (0, 0) (i, l, dd, x) (ab_E0 sc)) ∧ (¬ a1 ≤ 0 → (vp_in a1 7 ∧ vp_in a1 7 ∧ ((((i 162 a1.toNatClampNeg) + 1) < (i 161 a1.toNatClampNeg) → ab_Fr MX4_step (d + 1) Q 44 [some (.ref 160), some (.int a1)] [] (0, 0) (i, l, dd, x) (ab_E0 sc)) ∧ (¬ ((i 162 a1.toNatClampNeg) + 1) < (i 161 a1.toNatClampNeg) → (vp_in a1 7 ∧ ∀ i3, i3 = ab_u i 162 a1.toNatClampNeg 0 → ab_Fr MX4_step (d + 1) Q 10 [some (.ref 160), some (.int (a1 + (-1)))] [] (0, 0) (i3, l, dd, x) (ab_E0 sc)))))))) :
    ab_Fr MX4_step (d + 1) Q 10 [some (.ref 160), some (.int a1)] [] (0, 0) (i, l, dd, x) (ab_E0 sc) := by
  refine ab_iloadn dX4_step_10 rfl ?_
  refine ab_if_le (tgt := 44) dX4_step_11 (by decide) (fun c1 => ?_) (fun c1 => ?_)
  · exact (h.1 c1)
  · refine ab_aloadn dX4_step_14 rfl ?_
    refine ab_getf (v := .ref 162) dX4_step_15 fl_X4_19 kd_160 ff_160_2 ?_
    refine ab_iloadn dX4_step_18 rfl ?_
    refine ab_iaload (v := (i 162 a1.toNatClampNeg)) dX4_step_19 kd_162 (h.2 c1).1 rfl ?_
    refine ab_iconst (v := 1) dX4_step_20 (by decide) ?_
    refine ab_iadd dX4_step_21 ?_
    refine ab_aloadn dX4_step_22 rfl ?_
    refine ab_getf (v := .ref 161) dX4_step_23 fl_X4_15 kd_160 ff_160_1 ?_
    refine ab_iloadn dX4_step_26 rfl ?_
    refine ab_iaload (v := (i 161 a1.toNatClampNeg)) dX4_step_27 kd_161 (h.2 c1).2.1 rfl ?_
    refine ab_icmp_lt (tgt := 44) dX4_step_28 (by decide) (fun c2 => ?_) (fun c2 => ?_)
    · exact ((h.2 c1).2.2.1 c2)
    · refine ab_aloadn dX4_step_31 rfl ?_
      refine ab_getf (v := .ref 162) dX4_step_32 fl_X4_19 kd_160 ff_160_2 ?_
      refine ab_iloadn dX4_step_35 rfl ?_
      refine ab_iconst (v := 0) dX4_step_36 (by decide) ?_
      refine ab_iastore dX4_step_37 kd_162 ((h.2 c1).2.2.2 c2).1 ?_
      obtain ⟨i3, e4⟩ : ∃ z, z = ab_u i 162 a1.toNatClampNeg 0 := ⟨_, rfl⟩
      rw [show ab_u i 162 a1.toNatClampNeg 0 = i3 from e4.symm]
      refine ab_iinc (v := (a1 + (-1))) dX4_step_38 rfl (by rfl) (Nat.le_of_ble_eq_true rfl) (L2 := [some (.ref 160), some (.int (a1 + (-1)))]) rfl ?_
      refine ab_goto (tgt := 10) dX4_step_41 (by decide) ?_
      exact (((h.2 c1).2.2.2 c2).2 i3 e4)
theorem tMX4_step_44 {d : Nat} {Q : ab_Qt} {sc : Nat × (Nat → Int32)} {i : Nat → Nat → Int32} {l : Nat → Nat → Int64} {dd : Nat → Nat → Value} {x : Nat} {a1 : Int32} 
    (h : (vp_in a1 7 ∧ vp_in a1 7 ∧ (((i 161 a1.toNatClampNeg) ≤ ((i 162 a1.toNatClampNeg) + 1) → ab_Fr MX4_step (d + 1) Q 78 [some (.ref 160), some (.int a1)] [.int 0, .int a1, .ref 162] (0, 0) (i, l, dd, x) (ab_E0 sc)) ∧ (¬ (i 161 a1.toNatClampNeg) ≤ ((i 162 a1.toNatClampNeg) + 1) → (vp_in a1 7 ∧ ab_Fr MX4_step (d + 1) Q 78 [some (.ref 160), some (.int a1)] [.int ((i 162 a1.toNatClampNeg) + 1), .int a1, .ref 162] (0, 0) (i, l, dd, x) (ab_E0 sc)))))) :
    ab_Fr MX4_step (d + 1) Q 44 [some (.ref 160), some (.int a1)] [] (0, 0) (i, l, dd, x) (ab_E0 sc) := by
  refine ab_aloadn dX4_step_44 rfl ?_
  refine ab_getf (v := .ref 162) dX4_step_45 fl_X4_19 kd_160 ff_160_2 ?_
  refine ab_iloadn dX4_step_48 rfl ?_
  refine ab_aloadn dX4_step_49 rfl ?_
  refine ab_getf (v := .ref 162) dX4_step_50 fl_X4_19 kd_160 ff_160_2 ?_
  refine ab_iloadn dX4_step_53 rfl ?_
  refine ab_iaload (v := (i 162 a1.toNatClampNeg)) dX4_step_54 kd_162 h.1 rfl ?_
  refine ab_iconst (v := 1) dX4_step_55 (by decide) ?_
  refine ab_iadd dX4_step_56 ?_
  refine ab_aloadn dX4_step_57 rfl ?_
  refine ab_getf (v := .ref 161) dX4_step_58 fl_X4_15 kd_160 ff_160_1 ?_
  refine ab_iloadn dX4_step_61 rfl ?_
  refine ab_iaload (v := (i 161 a1.toNatClampNeg)) dX4_step_62 kd_161 h.2.1 rfl ?_
  refine ab_icmp_ge (tgt := 77) dX4_step_63 (by decide) (fun c1 => ?_) (fun c1 => ?_)
  · refine ab_iconst (v := 0) dX4_step_77 (by decide) ?_
    exact (h.2.2.1 c1)
  · refine ab_aloadn dX4_step_66 rfl ?_
    refine ab_getf (v := .ref 162) dX4_step_67 fl_X4_19 kd_160 ff_160_2 ?_
    refine ab_iloadn dX4_step_70 rfl ?_
    refine ab_iaload (v := (i 162 a1.toNatClampNeg)) dX4_step_71 kd_162 (h.2.2.2 c1).1 rfl ?_
    refine ab_iconst (v := 1) dX4_step_72 (by decide) ?_
    refine ab_iadd dX4_step_73 ?_
    refine ab_goto (tgt := 78) dX4_step_74 (by decide) ?_
    exact (h.2.2.2 c1).2
theorem tMX4_step_78 {d : Nat} {Q : ab_Qt} {sc : Nat × (Nat → Int32)} {i : Nat → Nat → Int32} {l : Nat → Nat → Int64} {dd : Nat → Nat → Value} {x : Nat} {a1 : Int32} {s0 : Nat} {n_s0 : Nat} {s1 : Int32} {s2 : Int32} (k_s0 : (ab_E0 sc).1 s0 = .inr (0, n_s0))
    (h : (vp_in s1 n_s0 ∧ ∀ i1, i1 = ab_u i s0 s1.toNatClampNeg s2 → ∃ (P4 : ab_S → Prop), ab_Sp MX4_fillFrom d [.ref 160, .int a1] (i1, l, dd, x) (ab_E0 sc) (none) P4 ∧ ∀ i7 l8 dd9 x10, P4 (i7, l8, dd9, x10) → Q (some none) (i7, l8, dd9, x10) (ab_E0 sc))) :
    ab_Fr MX4_step (d + 1) Q 78 [some (.ref 160), some (.int a1)] [.int s2, .int s1, .ref s0] (0, 0) (i, l, dd, x) (ab_E0 sc) := by
  refine ab_iastore dX4_step_78 k_s0 h.1 ?_
  obtain ⟨i1, e2⟩ : ∃ z, z = ab_u i s0 s1.toNatClampNeg s2 := ⟨_, rfl⟩
  rw [show ab_u i s0 s1.toNatClampNeg s2 = i1 from e2.symm]
  refine ab_aloadn dX4_step_79 rfl ?_
  refine ab_iloadn dX4_step_80 rfl ?_
  obtain ⟨P4, hs5, hk6⟩ := (h.2 i1 e2)
  refine ab_callV (vs := [.int a1]) (st := []) dX4_step_81 okMX4_fillFrom wd_745 kd_160 rfl rfl rfl (Nat.le_of_ble_eq_true rfl) ⟨Nat.le_of_ble_eq_true rfl, Nat.le_of_ble_eq_true rfl⟩ hs5 ?_
  rintro v9 ⟨i7, l8, dd9, x10⟩ E9 - ⟨rfl, rfl, hp11⟩
  show ab_Fr MX4_step (d + 1) Q 84 [some (.ref 160), some (.int a1)] [] (0, 0) (i7, l8, dd9, x10) (ab_E0 sc)
  exact ab_vret dX4_step_84 rfl ⟨Nat.zero_le _, Nat.zero_le _⟩ (hk6 i7 l8 dd9 x10 hp11)
theorem tMX4_silence_0 {d : Nat} {Q : ab_Qt} {sc : Nat × (Nat → Int32)} {i : Nat → Nat → Int32} {l : Nat → Nat → Int64} {dd : Nat → Nat → Value} {x : Nat} {a1 : Int32} 
    (h : (vp_in a1 7 ∧ ∀ i1, i1 = ab_u i 161 a1.toNatClampNeg 0 → ∃ (P4 : ab_S → Prop), ab_Sp MX4_openChoice d [.ref 160, .int a1, .int 9, .int 20] (i1, l, dd, x) (ab_E0 sc) (none) P4 ∧ ∀ i7 l8 dd9 x10, P4 (i7, l8, dd9, x10) → Q (some none) (i7, l8, dd9, x10) (ab_E0 sc))) :
    ab_Fr MX4_silence (d + 1) Q 0 [some (.ref 160), some (.int a1)] [] (0, 0) (i, l, dd, x) (ab_E0 sc) := by
  refine ab_aloadn dX4_silence_0 rfl ?_
  refine ab_getf (v := .ref 161) dX4_silence_1 fl_X4_15 kd_160 ff_160_1 ?_
  refine ab_iloadn dX4_silence_4 rfl ?_
  refine ab_iconst (v := 0) dX4_silence_5 (by decide) ?_
  refine ab_iastore dX4_silence_6 kd_161 h.1 ?_
  obtain ⟨i1, e2⟩ : ∃ z, z = ab_u i 161 a1.toNatClampNeg 0 := ⟨_, rfl⟩
  rw [show ab_u i 161 a1.toNatClampNeg 0 = i1 from e2.symm]
  refine ab_aloadn dX4_silence_7 rfl ?_
  refine ab_iloadn dX4_silence_8 rfl ?_
  refine ab_bipush (v := 9) dX4_silence_9 (by decide) ?_
  refine ab_bipush (v := 20) dX4_silence_11 (by decide) ?_
  obtain ⟨P4, hs5, hk6⟩ := (h.2 i1 e2)
  refine ab_callV (vs := [.int a1, .int 9, .int 20]) (st := []) dX4_silence_13 okMX4_openChoice wd_732 kd_160 rfl rfl rfl (Nat.le_of_ble_eq_true rfl) ⟨Nat.le_of_ble_eq_true rfl, Nat.le_of_ble_eq_true rfl⟩ hs5 ?_
  rintro v9 ⟨i7, l8, dd9, x10⟩ E9 - ⟨rfl, rfl, hp11⟩
  show ab_Fr MX4_silence (d + 1) Q 16 [some (.ref 160), some (.int a1)] [] (0, 0) (i7, l8, dd9, x10) (ab_E0 sc)
  exact ab_vret dX4_silence_16 rfl ⟨Nat.zero_le _, Nat.zero_le _⟩ (hk6 i7 l8 dd9 x10 hp11)
theorem tMX4_leaveOut_0 {d : Nat} {Q : ab_Qt} {sc : Nat × (Nat → Int32)} {i : Nat → Nat → Int32} {l : Nat → Nat → Int64} {dd : Nat → Nat → Value} {x : Nat} {a1 : Int32} 
    (h : (vp_in a1 7 ∧ ∀ i1, i1 = ab_u i 161 a1.toNatClampNeg 0 → ∃ (P4 : ab_S → Prop), ab_Sp MX4_openChoice d [.ref 160, .int a1, .int 9, .int 1] (i1, l, dd, x) (ab_E0 sc) (none) P4 ∧ ∀ i7 l8 dd9 x10, P4 (i7, l8, dd9, x10) → Q (some none) (i7, l8, dd9, x10) (ab_E0 sc))) :
    ab_Fr MX4_leaveOut (d + 1) Q 0 [some (.ref 160), some (.int a1)] [] (0, 0) (i, l, dd, x) (ab_E0 sc) := by
  refine ab_aloadn dX4_leaveOut_0 rfl ?_
  refine ab_getf (v := .ref 161) dX4_leaveOut_1 fl_X4_15 kd_160 ff_160_1 ?_
  refine ab_iloadn dX4_leaveOut_4 rfl ?_
  refine ab_iconst (v := 0) dX4_leaveOut_5 (by decide) ?_
  refine ab_iastore dX4_leaveOut_6 kd_161 h.1 ?_
  obtain ⟨i1, e2⟩ : ∃ z, z = ab_u i 161 a1.toNatClampNeg 0 := ⟨_, rfl⟩
  rw [show ab_u i 161 a1.toNatClampNeg 0 = i1 from e2.symm]
  refine ab_aloadn dX4_leaveOut_7 rfl ?_
  refine ab_iloadn dX4_leaveOut_8 rfl ?_
  refine ab_bipush (v := 9) dX4_leaveOut_9 (by decide) ?_
  refine ab_iconst (v := 1) dX4_leaveOut_11 (by decide) ?_
  obtain ⟨P4, hs5, hk6⟩ := (h.2 i1 e2)
  refine ab_callV (vs := [.int a1, .int 9, .int 1]) (st := []) dX4_leaveOut_12 okMX4_openChoice wd_732 kd_160 rfl rfl rfl (Nat.le_of_ble_eq_true rfl) ⟨Nat.le_of_ble_eq_true rfl, Nat.le_of_ble_eq_true rfl⟩ hs5 ?_
  rintro v9 ⟨i7, l8, dd9, x10⟩ E9 - ⟨rfl, rfl, hp11⟩
  show ab_Fr MX4_leaveOut (d + 1) Q 15 [some (.ref 160), some (.int a1)] [] (0, 0) (i7, l8, dd9, x10) (ab_E0 sc)
  exact ab_vret dX4_leaveOut_15 rfl ⟨Nat.zero_le _, Nat.zero_le _⟩ (hk6 i7 l8 dd9 x10 hp11)
theorem tMX4_decidesIf_0 {d : Nat} {Q : ab_Qt} {sc : Nat × (Nat → Int32)} {i : Nat → Nat → Int32} {l : Nat → Nat → Int64} {dd : Nat → Nat → Value} {x : Nat} {a1 : Int32} {a2 : Int32} 
    (h : (∃ (P2 : ab_S → Prop), ab_Sp MX4_takeTally d [.ref 160] (i, l, dd, x) (ab_E0 sc) (none) P2 ∧ ∀ i5 l6 dd7 x8, P2 (i5, l6, dd7, x8) → ∃ m10, dd7 160 0 = .ref m10 ∧ ab_isM m10 ∧ ∃ (P13 : ab_S → Prop), ab_Sp MX1_addVote d [.ref m10, .ref 168, .int a1, .int a2] (i5, l6, dd7, x8) (ab_E0 sc) (none) P13 ∧ ∀ i16 l17 dd18 x19, P13 (i16, l17, dd18, x19) → ∃ m21, dd18 160 0 = .ref m21 ∧ ab_isM m21 ∧ (((i16 m21 5) = a1 → ab_Fr MX4_decidesIf (d + 1) Q 59 [some (.ref 160), none, none, some (.int a2)] [] (0, 0) (i16, l17, dd18, x19) (ab_E0 sc)) ∧ (¬ (i16 m21 5) = a1 → ((¬ (i16 m21 5) = (-1) → (vp_in (i16 m21 5) 7 ∧ ab_Fr MX4_decidesIf (d + 1) Q 58 [some (.ref 160), none, none, none] [.int (i16 167 (i16 m21 5).toNatClampNeg)] (0, 0) (i16, l17, dd18, x19) (ab_E0 sc))) ∧ ((i16 m21 5) = (-1) → ab_Fr MX4_decidesIf (d + 1) Q 58 [some (.ref 160), none, none, none] [.int 9] (0, 0) (i16, l17, dd18, x19) (ab_E0 sc))))))) :
    ab_Fr MX4_decidesIf (d + 1) Q 0 [some (.ref 160), some (.int a1), some (.int a2), none] [] (0, 0) (i, l, dd, x) (ab_E0 sc) := by
  refine ab_aloadn dX4_decidesIf_0 rfl ?_
  obtain ⟨P2, hs3, hk4⟩ := h
  refine ab_callV (vs := []) (st := []) dX4_decidesIf_1 okMX4_takeTally wd_751 kd_160 rfl rfl rfl (Nat.le_of_ble_eq_true rfl) ⟨Nat.le_of_ble_eq_true rfl, Nat.le_of_ble_eq_true rfl⟩ hs3 ?_
  rintro v9 ⟨i5, l6, dd7, x8⟩ E9 - ⟨rfl, rfl, hp9⟩
  show ab_Fr MX4_decidesIf (d + 1) Q 4 [some (.ref 160), some (.int a1), some (.int a2), none] [] (0, 0) (i5, l6, dd7, x8) (ab_E0 sc)
  refine ab_aloadn dX4_decidesIf_4 rfl ?_
  obtain ⟨m10, hm11d, hm11, hm11t⟩ := (hk4 i5 l6 dd7 x8 hp9)
  refine ab_getf (v := .ref m10) dX4_decidesIf_5 fl_X4_9 kd_160 hm11d ?_
  refine ab_aloadn dX4_decidesIf_8 rfl ?_
  refine ab_getf (v := .ref 168) dX4_decidesIf_9 fl_X4_38 kd_160 ff_160_8 ?_
  refine ab_iloadn dX4_decidesIf_12 rfl ?_
  refine ab_iloadn dX4_decidesIf_13 rfl ?_
  obtain ⟨P13, hs14, hk15⟩ := hm11t
  refine ab_callV (vs := [.ref 168, .int a1, .int a2]) (st := []) dX4_decidesIf_14 okMX1_addVote wd_820 (kM hm11) rfl rfl rfl (Nat.le_of_ble_eq_true rfl) ⟨Nat.le_of_ble_eq_true rfl, Nat.le_of_ble_eq_true rfl⟩ hs14 ?_
  rintro v9 ⟨i16, l17, dd18, x19⟩ E9 - ⟨rfl, rfl, hp20⟩
  show ab_Fr MX4_decidesIf (d + 1) Q 17 [some (.ref 160), some (.int a1), some (.int a2), none] [] (0, 0) (i16, l17, dd18, x19) (ab_E0 sc)
  refine ab_iloadn dX4_decidesIf_17 rfl ?_
  refine ab_istoren dX4_decidesIf_18 (Nat.le_of_ble_eq_true rfl) (L2 := [some (.ref 160), some (.int a1), some (.int a2), some (.int a2)]) rfl ?_
  refine ab_aloadn dX4_decidesIf_19 rfl ?_
  obtain ⟨m21, hm22d, hm22, hm22t⟩ := (hk15 i16 l17 dd18 x19 hp20)
  refine ab_getf (v := .ref m21) dX4_decidesIf_20 fl_X4_9 kd_160 hm22d ?_
  refine ab_getf (v := .int (i16 m21 5)) dX4_decidesIf_23 fl_X4_90 (kM hm22) rfl ?_
  refine ab_iloadn dX4_decidesIf_26 rfl ?_
  refine ab_icmp_eq (tgt := 59) dX4_decidesIf_27 (by decide) (fun c23 => ?_) (fun c23 => ?_)
  · refine ab_forget (i := 1) (L2 := [some (.ref 160), none, some (.int a2), some (.int a2)]) rfl ?_
    refine ab_forget (i := 2) (L2 := [some (.ref 160), none, none, some (.int a2)]) rfl ?_
    exact (hm22t.1 c23)
  · refine ab_aloadn dX4_decidesIf_30 rfl ?_
    refine ab_getf (v := .ref m21) dX4_decidesIf_31 fl_X4_9 kd_160 hm22d ?_
    refine ab_getf (v := .int (i16 m21 5)) dX4_decidesIf_34 fl_X4_90 (kM hm22) rfl ?_
    refine ab_iconst (v := (-1)) dX4_decidesIf_37 (by decide) ?_
    refine ab_icmp_ne (tgt := 46) dX4_decidesIf_38 (by decide) (fun c24 => ?_) (fun c24 => ?_)
    · refine ab_aloadn dX4_decidesIf_46 rfl ?_
      refine ab_getf (v := .ref 167) dX4_decidesIf_47 fl_X4_35 kd_160 ff_160_7 ?_
      refine ab_aloadn dX4_decidesIf_50 rfl ?_
      refine ab_getf (v := .ref m21) dX4_decidesIf_51 fl_X4_9 kd_160 hm22d ?_
      refine ab_getf (v := .int (i16 m21 5)) dX4_decidesIf_54 fl_X4_90 (kM hm22) rfl ?_
      refine ab_iaload (v := (i16 167 (i16 m21 5).toNatClampNeg)) dX4_decidesIf_57 kd_167 ((hm22t.2 c23).1 c24).1 rfl ?_
      refine ab_forget (i := 1) (L2 := [some (.ref 160), none, some (.int a2), some (.int a2)]) rfl ?_
      refine ab_forget (i := 2) (L2 := [some (.ref 160), none, none, some (.int a2)]) rfl ?_
      refine ab_forget (i := 3) (L2 := [some (.ref 160), none, none, none]) rfl ?_
      exact ((hm22t.2 c23).1 c24).2
    · refine ab_bipush (v := 9) dX4_decidesIf_41 (by decide) ?_
      refine ab_goto (tgt := 58) dX4_decidesIf_43 (by decide) ?_
      refine ab_forget (i := 1) (L2 := [some (.ref 160), none, some (.int a2), some (.int a2)]) rfl ?_
      refine ab_forget (i := 2) (L2 := [some (.ref 160), none, none, some (.int a2)]) rfl ?_
      refine ab_forget (i := 3) (L2 := [some (.ref 160), none, none, none]) rfl ?_
      exact ((hm22t.2 c23).2 c24)
theorem tMX4_decidesIf_58 {d : Nat} {Q : ab_Qt} {sc : Nat × (Nat → Int32)} {i : Nat → Nat → Int32} {l : Nat → Nat → Int64} {dd : Nat → Nat → Value} {x : Nat} {s0 : Int32} 
    (h : ab_Fr MX4_decidesIf (d + 1) Q 59 [some (.ref 160), none, none, some (.int s0)] [] (0, 0) (i, l, dd, x) (ab_E0 sc)) :
    ab_Fr MX4_decidesIf (d + 1) Q 58 [some (.ref 160), none, none, none] [.int s0] (0, 0) (i, l, dd, x) (ab_E0 sc) := by
  refine ab_istoren dX4_decidesIf_58 (Nat.le_of_ble_eq_true rfl) (L2 := [some (.ref 160), none, none, some (.int s0)]) rfl ?_
  exact h
theorem tMX4_decidesIf_59 {d : Nat} {Q : ab_Qt} {sc : Nat × (Nat → Int32)} {i : Nat → Nat → Int32} {l : Nat → Nat → Int64} {dd : Nat → Nat → Value} {x : Nat} {a3 : Int32} 
    (h : (∃ m1, dd 160 0 = .ref m1 ∧ ab_isM m1 ∧ ∃ (r3 : Int32) (P4 : ab_S → Prop), ab_Sp MX1_decides d [.ref m1, .ref 168, .int a3] (i, l, dd, x) (ab_E0 sc) (some (.int r3)) P4 ∧ ∀ i7 l8 dd9 x10, P4 (i7, l8, dd9, x10) → Q (some (some (.int r3))) (i7, l8, dd9, x10) (ab_E0 sc))) :
    ab_Fr MX4_decidesIf (d + 1) Q 59 [some (.ref 160), none, none, some (.int a3)] [] (0, 0) (i, l, dd, x) (ab_E0 sc) := by
  refine ab_aloadn dX4_decidesIf_59 rfl ?_
  obtain ⟨m1, hm2d, hm2, hm2t⟩ := h
  refine ab_getf (v := .ref m1) dX4_decidesIf_60 fl_X4_9 kd_160 hm2d ?_
  refine ab_aloadn dX4_decidesIf_63 rfl ?_
  refine ab_getf (v := .ref 168) dX4_decidesIf_64 fl_X4_38 kd_160 ff_160_8 ?_
  refine ab_iloadn dX4_decidesIf_67 rfl ?_
  obtain ⟨r3, P4, hs5, hk6⟩ := hm2t
  refine ab_callV (vs := [.ref 168, .int a3]) (st := []) dX4_decidesIf_68 okMX1_decides wd_754 (kM hm2) rfl rfl rfl (Nat.le_of_ble_eq_true rfl) ⟨Nat.le_of_ble_eq_true rfl, Nat.le_of_ble_eq_true rfl⟩ hs5 ?_
  rintro v9 ⟨i7, l8, dd9, x10⟩ E9 - ⟨rfl, rfl, hp11⟩
  show ab_Fr MX4_decidesIf (d + 1) Q 71 [some (.ref 160), none, none, some (.int a3)] [.int r3] (0, 0) (i7, l8, dd9, x10) (ab_E0 sc)
  exact ab_iret dX4_decidesIf_71 rfl ⟨Nat.zero_le _, Nat.zero_le _⟩ (hk6 i7 l8 dd9 x10 hp11)
theorem tMX4_weightNow_0 {d : Nat} {Q : ab_Qt} {sc : Nat × (Nat → Int32)} {i : Nat → Nat → Int32} {l : Nat → Nat → Int64} {dd : Nat → Nat → Value} {x : Nat} {a1 : Int32} 
    (h : (∃ m1, dd 160 0 = .ref m1 ∧ ab_isM m1 ∧ vp_in (((i m1 1) * 3) + a1) 24 ∧ Q (some (some (.int (i 166 (((i m1 1) * 3) + a1).toNatClampNeg)))) (i, l, dd, x) (ab_E0 sc))) :
    ab_Fr MX4_weightNow (d + 1) Q 0 [some (.ref 160), some (.int a1)] [] (0, 0) (i, l, dd, x) (ab_E0 sc) := by
  refine ab_aloadn dX4_weightNow_0 rfl ?_
  refine ab_getf (v := .ref 166) dX4_weightNow_1 fl_X4_32 kd_160 ff_160_6 ?_
  refine ab_aloadn dX4_weightNow_4 rfl ?_
  obtain ⟨m1, hm2d, hm2, hm2t⟩ := h
  refine ab_getf (v := .ref m1) dX4_weightNow_5 fl_X4_9 kd_160 hm2d ?_
  refine ab_getf (v := .int (i m1 1)) dX4_weightNow_8 fl_X4_41 (kM hm2) rfl ?_
  refine ab_iconst (v := 3) dX4_weightNow_11 (by decide) ?_
  refine ab_imul dX4_weightNow_12 ?_
  refine ab_iloadn dX4_weightNow_13 rfl ?_
  refine ab_iadd dX4_weightNow_14 ?_
  refine ab_iaload (v := (i 166 (((i m1 1) * 3) + a1).toNatClampNeg)) dX4_weightNow_15 kd_166 hm2t.1 rfl ?_
  exact ab_iret dX4_weightNow_16 rfl ⟨Nat.zero_le _, Nat.zero_le _⟩ hm2t.2
theorem tMX4_lostNow_0 {d : Nat} {Q : ab_Qt} {sc : Nat × (Nat → Int32)} {i : Nat → Nat → Int32} {l : Nat → Nat → Int64} {dd : Nat → Nat → Value} {x : Nat} {a1 : Int32} 
    (h : (∃ m1, dd 160 0 = .ref m1 ∧ ab_isM m1 ∧ ∃ (r3 : Int64) (P4 : ab_S → Prop), ab_Sp MX0_lostAt d [.ref (m1 + 2), .int a1, .ref 165, .int ((i m1 1) * 3)] (i, l, dd, x) (ab_E0 sc) (some (.long r3)) P4 ∧ ∀ i7 l8 dd9 x10, P4 (i7, l8, dd9, x10) → Q (some (some (.long r3))) (i7, l8, dd9, x10) (ab_E0 sc))) :
    ab_Fr MX4_lostNow (d + 1) Q 0 [some (.ref 160), some (.int a1)] [] (0, 0) (i, l, dd, x) (ab_E0 sc) := by
  refine ab_aloadn dX4_lostNow_0 rfl ?_
  obtain ⟨m1, hm2d, hm2, hm2t⟩ := h
  refine ab_getf (v := .ref m1) dX4_lostNow_1 fl_X4_9 kd_160 hm2d ?_
  refine ab_getf (v := .ref (m1 + 2)) dX4_lostNow_4 fl_X4_77 (kM hm2) (fM_7 hm2) ?_
  refine ab_iloadn dX4_lostNow_7 rfl ?_
  refine ab_aloadn dX4_lostNow_8 rfl ?_
  refine ab_getf (v := .ref 165) dX4_lostNow_9 fl_X4_28 kd_160 ff_160_5 ?_
  refine ab_aloadn dX4_lostNow_12 rfl ?_
  refine ab_getf (v := .ref m1) dX4_lostNow_13 fl_X4_9 kd_160 hm2d ?_
  refine ab_getf (v := .int (i m1 1)) dX4_lostNow_16 fl_X4_41 (kM hm2) rfl ?_
  refine ab_iconst (v := 3) dX4_lostNow_19 (by decide) ?_
  refine ab_imul dX4_lostNow_20 ?_
  obtain ⟨r3, P4, hs5, hk6⟩ := hm2t
  refine ab_callV (vs := [.int a1, .ref 165, .int ((i m1 1) * 3)]) (st := []) dX4_lostNow_21 okMX0_lostAt wd_990 (kLo (isM_2 hm2)) rfl rfl rfl (Nat.le_of_ble_eq_true rfl) ⟨Nat.le_of_ble_eq_true rfl, Nat.le_of_ble_eq_true rfl⟩ hs5 ?_
  rintro v9 ⟨i7, l8, dd9, x10⟩ E9 - ⟨rfl, rfl, hp11⟩
  show ab_Fr MX4_lostNow (d + 1) Q 24 [some (.ref 160), some (.int a1)] [.long r3] (0, 0) (i7, l8, dd9, x10) (ab_E0 sc)
  exact ab_lret dX4_lostNow_24 rfl ⟨Nat.zero_le _, Nat.zero_le _⟩ (hk6 i7 l8 dd9 x10 hp11)
theorem tMX4_votersFor_0 {d : Nat} {Q : ab_Qt} {sc : Nat × (Nat → Int32)} {i : Nat → Nat → Int32} {l : Nat → Nat → Int64} {dd : Nat → Nat → Value} {x : Nat} {a1 : Int32} 
    (h : ab_Fr MX4_votersFor (d + 1) Q 4 [some (.ref 160), some (.int a1), some (.int 0), some (.int 0)] [] (0, 0) (i, l, dd, x) (ab_E0 sc)) :
    ab_Fr MX4_votersFor (d + 1) Q 0 [some (.ref 160), some (.int a1), none, none] [] (0, 0) (i, l, dd, x) (ab_E0 sc) := by
  refine ab_iconst (v := 0) dX4_votersFor_0 (by decide) ?_
  refine ab_istoren dX4_votersFor_1 (Nat.le_of_ble_eq_true rfl) (L2 := [some (.ref 160), some (.int a1), some (.int 0), none]) rfl ?_
  refine ab_iconst (v := 0) dX4_votersFor_2 (by decide) ?_
  refine ab_istoren dX4_votersFor_3 (Nat.le_of_ble_eq_true rfl) (L2 := [some (.ref 160), some (.int a1), some (.int 0), some (.int 0)]) rfl ?_
  exact h
theorem tMX4_votersFor_4 {d : Nat} {Q : ab_Qt} {sc : Nat × (Nat → Int32)} {i : Nat → Nat → Int32} {l : Nat → Nat → Int64} {dd : Nat → Nat → Value} {x : Nat} {a1 : Int32} {a2 : Int32} {a3 : Int32} 
    (h : (∃ m1, dd 160 0 = .ref m1 ∧ ab_isM m1 ∧ (((i m1 1) ≤ a3 → Q (some (some (.int a2))) (i, l, dd, x) (ab_E0 sc)) ∧ (¬ (i m1 1) ≤ a3 → (vp_in a3 7 ∧ ((¬ (i 167 a3.toNatClampNeg) = a1 → ab_Fr MX4_votersFor (d + 1) Q 4 [some (.ref 160), some (.int a1), some (.int a2), some (.int (a3 + 1))] [] (0, 0) (i, l, dd, x) (ab_E0 sc)) ∧ ((i 167 a3.toNatClampNeg) = a1 → ab_Fr MX4_votersFor (d + 1) Q 4 [some (.ref 160), some (.int a1), some (.int (a2 ||| (1 <<< (a3 &&& 31)))), some (.int (a3 + 1))] [] (0, 0) (i, l, dd, x) (ab_E0 sc)))))))) :
    ab_Fr MX4_votersFor (d + 1) Q 4 [some (.ref 160), some (.int a1), some (.int a2), some (.int a3)] [] (0, 0) (i, l, dd, x) (ab_E0 sc) := by
  refine ab_iloadn dX4_votersFor_4 rfl ?_
  refine ab_aloadn dX4_votersFor_5 rfl ?_
  obtain ⟨m1, hm2d, hm2, hm2t⟩ := h
  refine ab_getf (v := .ref m1) dX4_votersFor_6 fl_X4_9 kd_160 hm2d ?_
  refine ab_getf (v := .int (i m1 1)) dX4_votersFor_9 fl_X4_41 (kM hm2) rfl ?_
  refine ab_icmp_ge (tgt := 37) dX4_votersFor_12 (by decide) (fun c3 => ?_) (fun c3 => ?_)
  · refine ab_iloadn dX4_votersFor_37 rfl ?_
    exact ab_iret dX4_votersFor_38 rfl ⟨Nat.zero_le _, Nat.zero_le _⟩ (hm2t.1 c3)
  · refine ab_aloadn dX4_votersFor_15 rfl ?_
    refine ab_getf (v := .ref 167) dX4_votersFor_16 fl_X4_35 kd_160 ff_160_7 ?_
    refine ab_iloadn dX4_votersFor_19 rfl ?_
    refine ab_iaload (v := (i 167 a3.toNatClampNeg)) dX4_votersFor_20 kd_167 (hm2t.2 c3).1 rfl ?_
    refine ab_iloadn dX4_votersFor_21 rfl ?_
    refine ab_icmp_ne (tgt := 31) dX4_votersFor_22 (by decide) (fun c4 => ?_) (fun c4 => ?_)
    · refine ab_iinc (v := (a3 + 1)) dX4_votersFor_31 rfl (by rfl) (Nat.le_of_ble_eq_true rfl) (L2 := [some (.ref 160), some (.int a1), some (.int a2), some (.int (a3 + 1))]) rfl ?_
      refine ab_goto (tgt := 4) dX4_votersFor_34 (by decide) ?_
      exact ((hm2t.2 c3).2.1 c4)
    · refine ab_iloadn dX4_votersFor_25 rfl ?_
      refine ab_iconst (v := 1) dX4_votersFor_26 (by decide) ?_
      refine ab_iloadn dX4_votersFor_27 rfl ?_
      refine ab_ishl dX4_votersFor_28 ?_
      refine ab_ior dX4_votersFor_29 ?_
      refine ab_istoren dX4_votersFor_30 (Nat.le_of_ble_eq_true rfl) (L2 := [some (.ref 160), some (.int a1), some (.int (a2 ||| (1 <<< (a3 &&& 31)))), some (.int a3)]) rfl ?_
      refine ab_iinc (v := (a3 + 1)) dX4_votersFor_31 rfl (by rfl) (Nat.le_of_ble_eq_true rfl) (L2 := [some (.ref 160), some (.int a1), some (.int (a2 ||| (1 <<< (a3 &&& 31)))), some (.int (a3 + 1))]) rfl ?_
      refine ab_goto (tgt := 4) dX4_votersFor_34 (by decide) ?_
      exact ((hm2t.2 c3).2.2 c4)
theorem tMX4_votingAs_0 {d : Nat} {Q : ab_Qt} {sc : Nat × (Nat → Int32)} {i : Nat → Nat → Int32} {l : Nat → Nat → Int64} {dd : Nat → Nat → Value} {x : Nat} {a1 : Nat} {a2 : Nat} {n_a2 : Nat} (k_a1 : ab_isM a1) (k_a2 : (ab_E0 sc).1 a2 = .inr (0, n_a2))
    (h : (∀ dd1, dd1 = ab_u dd 160 0 (.ref a1) → ab_Fr MX4_votingAs (d + 1) Q 7 [some (.ref 160), none, some (.ref a2), some (.int 0), none] [] (0, 0) (i, l, dd1, x) (ab_E0 sc))) :
    ab_Fr MX4_votingAs (d + 1) Q 0 [some (.ref 160), some (.ref a1), some (.ref a2), none, none] [] (0, 0) (i, l, dd, x) (ab_E0 sc) := by
  refine ab_aloadn dX4_votingAs_0 rfl ?_
  refine ab_aloadn dX4_votingAs_1 rfl ?_
  refine ab_putR dX4_votingAs_2 fl_X4_9 kd_160 rfl ?_
  obtain ⟨dd1, e2⟩ : ∃ z, z = ab_u dd 160 0 (.ref a1) := ⟨_, rfl⟩
  show ab_Fr MX4_votingAs (d + 1) Q 5 [some (.ref 160), some (.ref a1), some (.ref a2), none, none] [] (0, 0) (i, l, ab_u dd 160 0 (.ref a1), x) (ab_E0 sc)
  rw [show ab_u dd 160 0 (.ref a1) = dd1 from e2.symm]
  refine ab_iconst (v := 0) dX4_votingAs_5 (by decide) ?_
  refine ab_istoren dX4_votingAs_6 (Nat.le_of_ble_eq_true rfl) (L2 := [some (.ref 160), some (.ref a1), some (.ref a2), some (.int 0), none]) rfl ?_
  refine ab_forget (i := 1) (L2 := [some (.ref 160), none, some (.ref a2), some (.int 0), none]) rfl ?_
  exact (h dd1 e2)
theorem tMX4_votingAs_7 {d : Nat} {Q : ab_Qt} {sc : Nat × (Nat → Int32)} {i : Nat → Nat → Int32} {l : Nat → Nat → Int64} {dd : Nat → Nat → Value} {x : Nat} {a2 : Nat} {n_a2 : Nat} {a3 : Int32} (k_a2 : (ab_E0 sc).1 a2 = .inr (0, n_a2))
    (h : (∃ m1, dd 160 0 = .ref m1 ∧ ab_isM m1 ∧ (((i m1 1) ≤ a3 → Q (some none) (i, l, dd, x) (ab_E0 sc)) ∧ (¬ (i m1 1) ≤ a3 → (vp_in a3 7 ∧ ∀ i4, i4 = ab_u i 161 a3.toNatClampNeg 0 → vp_in a3 n_a2 ∧ ∃ (P7 : ab_S → Prop), ab_Sp MX4_openChoice d [.ref 160, .int a3, .int (i4 a2 a3.toNatClampNeg), .int 0] (i4, l, dd, x) (ab_E0 sc) (none) P7 ∧ ∀ i10 l11 dd12 x13, P7 (i10, l11, dd12, x13) → ab_Fr MX4_votingAs (d + 1) Q 37 [some (.ref 160), none, some (.ref a2), some (.int a3), some (.int 0)] [] (0, 0) (i10, l11, dd12, x13) (ab_E0 sc)))))) :
    ab_Fr MX4_votingAs (d + 1) Q 7 [some (.ref 160), none, some (.ref a2), some (.int a3), none] [] (0, 0) (i, l, dd, x) (ab_E0 sc) := by
  refine ab_iloadn dX4_votingAs_7 rfl ?_
  refine ab_aloadn dX4_votingAs_8 rfl ?_
  obtain ⟨m1, hm2d, hm2, hm2t⟩ := h
  refine ab_getf (v := .ref m1) dX4_votingAs_9 fl_X4_9 kd_160 hm2d ?_
  refine ab_getf (v := .int (i m1 1)) dX4_votingAs_12 fl_X4_41 (kM hm2) rfl ?_
  refine ab_icmp_ge (tgt := 96) dX4_votingAs_15 (by decide) (fun c3 => ?_) (fun c3 => ?_)
  · exact ab_vret dX4_votingAs_96 rfl ⟨Nat.zero_le _, Nat.zero_le _⟩ (hm2t.1 c3)
  · refine ab_aloadn dX4_votingAs_18 rfl ?_
    refine ab_getf (v := .ref 161) dX4_votingAs_19 fl_X4_15 kd_160 ff_160_1 ?_
    refine ab_iloadn dX4_votingAs_22 rfl ?_
    refine ab_iconst (v := 0) dX4_votingAs_23 (by decide) ?_
    refine ab_iastore dX4_votingAs_24 kd_161 (hm2t.2 c3).1 ?_
    obtain ⟨i4, e5⟩ : ∃ z, z = ab_u i 161 a3.toNatClampNeg 0 := ⟨_, rfl⟩
    rw [show ab_u i 161 a3.toNatClampNeg 0 = i4 from e5.symm]
    refine ab_aloadn dX4_votingAs_25 rfl ?_
    refine ab_iloadn dX4_votingAs_26 rfl ?_
    refine ab_aloadn dX4_votingAs_27 rfl ?_
    refine ab_iloadn dX4_votingAs_28 rfl ?_
    refine ab_iaload (v := (i4 a2 a3.toNatClampNeg)) dX4_votingAs_29 k_a2 ((hm2t.2 c3).2 i4 e5).1 rfl ?_
    refine ab_iconst (v := 0) dX4_votingAs_30 (by decide) ?_
    obtain ⟨P7, hs8, hk9⟩ := ((hm2t.2 c3).2 i4 e5).2
    refine ab_callV (vs := [.int a3, .int (i4 a2 a3.toNatClampNeg), .int 0]) (st := []) dX4_votingAs_31 okMX4_openChoice wd_732 kd_160 rfl rfl rfl (Nat.le_of_ble_eq_true rfl) ⟨Nat.le_of_ble_eq_true rfl, Nat.le_of_ble_eq_true rfl⟩ hs8 ?_
    rintro v9 ⟨i10, l11, dd12, x13⟩ E9 - ⟨rfl, rfl, hp14⟩
    show ab_Fr MX4_votingAs (d + 1) Q 34 [some (.ref 160), none, some (.ref a2), some (.int a3), none] [] (0, 0) (i10, l11, dd12, x13) (ab_E0 sc)
    refine ab_iconst (v := 0) dX4_votingAs_34 (by decide) ?_
    refine ab_istore dX4_votingAs_35 (Nat.le_of_ble_eq_true rfl) (L2 := [some (.ref 160), none, some (.ref a2), some (.int a3), some (.int 0)]) rfl ?_
    exact (hk9 i10 l11 dd12 x13 hp14)
theorem tMX4_votingAs_37 {d : Nat} {Q : ab_Qt} {sc : Nat × (Nat → Int32)} {i : Nat → Nat → Int32} {l : Nat → Nat → Int64} {dd : Nat → Nat → Value} {x : Nat} {a2 : Nat} {n_a2 : Nat} {a3 : Int32} {a4 : Int32} (k_a2 : (ab_E0 sc).1 a2 = .inr (0, n_a2))
    (h : (∃ m1, dd 160 0 = .ref m1 ∧ ab_isM m1 ∧ vp_in a3 7 ∧ (((i (m1 + 5 + 6 * a3.toNatClampNeg) 0) ≤ a4 → ab_Fr MX4_votingAs (d + 1) Q 7 [some (.ref 160), none, some (.ref a2), some (.int (a3 + 1)), none] [] (0, 0) (i, l, dd, x) (ab_E0 sc)) ∧ (¬ (i (m1 + 5 + 6 * a3.toNatClampNeg) 0) ≤ a4 → (vp_in ((a3 * 3) + a4) 21 ∧ vp_in a3 n_a2 ∧ ((¬ (i (m1 + 47) ((a3 * 3) + a4).toNatClampNeg) = (i a2 a3.toNatClampNeg) → ab_Fr MX4_votingAs (d + 1) Q 37 [some (.ref 160), none, some (.ref a2), some (.int a3), some (.int (a4 + 1))] [] (0, 0) (i, l, dd, x) (ab_E0 sc)) ∧ ((i (m1 + 47) ((a3 * 3) + a4).toNatClampNeg) = (i a2 a3.toNatClampNeg) → (vp_in a3 n_a2 ∧ ∃ (P6 : ab_S → Prop), ab_Sp MX4_addChoice d [.ref 160, .int a3, .int a4, .int (i a2 a3.toNatClampNeg)] (i, l, dd, x) (ab_E0 sc) (none) P6 ∧ ∀ i9 l10 dd11 x12, P6 (i9, l10, dd11, x12) → ab_Fr MX4_votingAs (d + 1) Q 37 [some (.ref 160), none, some (.ref a2), some (.int a3), some (.int (a4 + 1))] [] (0, 0) (i9, l10, dd11, x12) (ab_E0 sc))))))))) :
    ab_Fr MX4_votingAs (d + 1) Q 37 [some (.ref 160), none, some (.ref a2), some (.int a3), some (.int a4)] [] (0, 0) (i, l, dd, x) (ab_E0 sc) := by
  refine ab_iload dX4_votingAs_37 rfl ?_
  refine ab_aloadn dX4_votingAs_39 rfl ?_
  obtain ⟨m1, hm2d, hm2, hm2t⟩ := h
  refine ab_getf (v := .ref m1) dX4_votingAs_40 fl_X4_9 kd_160 hm2d ?_
  refine ab_getf (v := .ref (m1 + 4)) dX4_votingAs_43 fl_X4_47 (kM hm2) (fM_8 hm2) ?_
  refine ab_iloadn dX4_votingAs_46 rfl ?_
  refine ab_aaload (a := (m1 + 5 + 6 * a3.toNatClampNeg)) dX4_votingAs_47 (Or.inl rfl) (kM_4 hm2) hm2t.1 (fMv hm2 hm2t.1) ?_
  refine ab_getf (v := .int (i (m1 + 5 + 6 * a3.toNatClampNeg) 0)) dX4_votingAs_48 fl_X4_51 (kV (isVof hm2 hm2t.1)) rfl ?_
  refine ab_icmp_ge (tgt := 90) dX4_votingAs_51 (by decide) (fun c3 => ?_) (fun c3 => ?_)
  · refine ab_iinc (v := (a3 + 1)) dX4_votingAs_90 rfl (by rfl) (Nat.le_of_ble_eq_true rfl) (L2 := [some (.ref 160), none, some (.ref a2), some (.int (a3 + 1)), some (.int a4)]) rfl ?_
    refine ab_goto (tgt := 7) dX4_votingAs_93 (by decide) ?_
    refine ab_forget (i := 4) (L2 := [some (.ref 160), none, some (.ref a2), some (.int (a3 + 1)), none]) rfl ?_
    exact (hm2t.2.1 c3)
  · refine ab_aloadn dX4_votingAs_54 rfl ?_
    refine ab_getf (v := .ref m1) dX4_votingAs_55 fl_X4_9 kd_160 hm2d ?_
    refine ab_getf (v := .ref (m1 + 47)) dX4_votingAs_58 fl_X4_63 (kM hm2) (fM_9 hm2) ?_
    refine ab_iloadn dX4_votingAs_61 rfl ?_
    refine ab_iconst (v := 3) dX4_votingAs_62 (by decide) ?_
    refine ab_imul dX4_votingAs_63 ?_
    refine ab_iload dX4_votingAs_64 rfl ?_
    refine ab_iadd dX4_votingAs_66 ?_
    refine ab_iaload (v := (i (m1 + 47) ((a3 * 3) + a4).toNatClampNeg)) dX4_votingAs_67 (kM_47 hm2) (hm2t.2.2 c3).1 rfl ?_
    refine ab_aloadn dX4_votingAs_68 rfl ?_
    refine ab_iloadn dX4_votingAs_69 rfl ?_
    refine ab_iaload (v := (i a2 a3.toNatClampNeg)) dX4_votingAs_70 k_a2 (hm2t.2.2 c3).2.1 rfl ?_
    refine ab_icmp_ne (tgt := 84) dX4_votingAs_71 (by decide) (fun c4 => ?_) (fun c4 => ?_)
    · refine ab_iinc (v := (a4 + 1)) dX4_votingAs_84 rfl (by rfl) (Nat.le_of_ble_eq_true rfl) (L2 := [some (.ref 160), none, some (.ref a2), some (.int a3), some (.int (a4 + 1))]) rfl ?_
      refine ab_goto (tgt := 37) dX4_votingAs_87 (by decide) ?_
      exact ((hm2t.2.2 c3).2.2.1 c4)
    · refine ab_aloadn dX4_votingAs_74 rfl ?_
      refine ab_iloadn dX4_votingAs_75 rfl ?_
      refine ab_iload dX4_votingAs_76 rfl ?_
      refine ab_aloadn dX4_votingAs_78 rfl ?_
      refine ab_iloadn dX4_votingAs_79 rfl ?_
      refine ab_iaload (v := (i a2 a3.toNatClampNeg)) dX4_votingAs_80 k_a2 ((hm2t.2.2 c3).2.2.2 c4).1 rfl ?_
      obtain ⟨P6, hs7, hk8⟩ := ((hm2t.2.2 c3).2.2.2 c4).2
      refine ab_callV (vs := [.int a3, .int a4, .int (i a2 a3.toNatClampNeg)]) (st := []) dX4_votingAs_81 okMX4_addChoice wd_729 kd_160 rfl rfl rfl (Nat.le_of_ble_eq_true rfl) ⟨Nat.le_of_ble_eq_true rfl, Nat.le_of_ble_eq_true rfl⟩ hs7 ?_
      rintro v9 ⟨i9, l10, dd11, x12⟩ E9 - ⟨rfl, rfl, hp13⟩
      show ab_Fr MX4_votingAs (d + 1) Q 84 [some (.ref 160), none, some (.ref a2), some (.int a3), some (.int a4)] [] (0, 0) (i9, l10, dd11, x12) (ab_E0 sc)
      refine ab_iinc (v := (a4 + 1)) dX4_votingAs_84 rfl (by rfl) (Nat.le_of_ble_eq_true rfl) (L2 := [some (.ref 160), none, some (.ref a2), some (.int a3), some (.int (a4 + 1))]) rfl ?_
      refine ab_goto (tgt := 37) dX4_votingAs_87 (by decide) ?_
      exact (hk8 i9 l10 dd11 x12 hp13)
theorem tMX4_likeliest_0 {d : Nat} {Q : ab_Qt} {sc : Nat × (Nat → Int32)} {i : Nat → Nat → Int32} {l : Nat → Nat → Int64} {dd : Nat → Nat → Value} {x : Nat}  
    (h : (∃ (r1 : Int32) (P2 : ab_S → Prop), ab_Sp MX4_first d [.ref 160] (i, l, dd, x) (ab_E0 sc) (some (.int r1)) P2 ∧ ∀ i5 l6 dd7 x8, P2 (i5, l6, dd7, x8) → ab_Fr MX4_likeliest (d + 1) Q 12 [some (.ref 160), some (.int (-1)), some (.long 0), none, some (.int 0)] [] (0, 0) (i5, l6, dd7, x8) (ab_E0 sc))) :
    ab_Fr MX4_likeliest (d + 1) Q 0 [some (.ref 160), none, none, none, none] [] (0, 0) (i, l, dd, x) (ab_E0 sc) := by
  refine ab_aloadn dX4_likeliest_0 rfl ?_
  obtain ⟨r1, P2, hs3, hk4⟩ := h
  refine ab_callV (vs := []) (st := []) dX4_likeliest_1 okMX4_first wd_741 kd_160 rfl rfl rfl (Nat.le_of_ble_eq_true rfl) ⟨Nat.le_of_ble_eq_true rfl, Nat.le_of_ble_eq_true rfl⟩ hs3 ?_
  rintro v9 ⟨i5, l6, dd7, x8⟩ E9 - ⟨rfl, rfl, hp9⟩
  show ab_Fr MX4_likeliest (d + 1) Q 4 [some (.ref 160), none, none, none, none] [.int r1] (0, 0) (i5, l6, dd7, x8) (ab_E0 sc)
  refine ab_pop dX4_likeliest_4 rfl ?_
  refine ab_iconst (v := (-1)) dX4_likeliest_5 (by decide) ?_
  refine ab_istoren dX4_likeliest_6 (Nat.le_of_ble_eq_true rfl) (L2 := [some (.ref 160), some (.int (-1)), none, none, none]) rfl ?_
  refine ab_lconst (v := 0) dX4_likeliest_7 (by decide) ?_
  refine ab_lstoren dX4_likeliest_8 (Nat.le_of_ble_eq_true rfl) (L2 := [some (.ref 160), some (.int (-1)), some (.long 0), none, none]) rfl ?_
  refine ab_iconst (v := 0) dX4_likeliest_9 (by decide) ?_
  refine ab_istore dX4_likeliest_10 (Nat.le_of_ble_eq_true rfl) (L2 := [some (.ref 160), some (.int (-1)), some (.long 0), none, some (.int 0)]) rfl ?_
  exact (hk4 i5 l6 dd7 x8 hp9)
theorem tMX4_likeliest_12 {d : Nat} {Q : ab_Qt} {sc : Nat × (Nat → Int32)} {i : Nat → Nat → Int32} {l : Nat → Nat → Int64} {dd : Nat → Nat → Value} {x : Nat} {a1 : Int32} {a2 : Int64} {a4 : Int32} 
    (h : (∃ m1, dd 160 0 = .ref m1 ∧ ab_isM m1 ∧ (((i m1 0) ≤ a4 → Q (some (some (.int a1))) (i, l, dd, x) (ab_E0 sc)) ∧ (¬ (i m1 0) ≤ a4 → (∃ (r4 : Int64) (P5 : ab_S → Prop), ab_Sp MX4_partsNow d [.ref 160, .int a4] (i, l, dd, x) (ab_E0 sc) (some (.long r4)) P5 ∧ ∀ i8 l9 dd10 x11, P5 (i8, l9, dd10, x11) → ((¬ a2 < r4 → ab_Fr MX4_likeliest (d + 1) Q 12 [some (.ref 160), some (.int a1), some (.long a2), none, some (.int (a4 + 1))] [] (0, 0) (i8, l9, dd10, x11) (ab_E0 sc)) ∧ (a2 < r4 → (∃ (r14 : Int64) (P15 : ab_S → Prop), ab_Sp MX4_partsNow d [.ref 160, .int a4] (i8, l9, dd10, x11) (ab_E0 sc) (some (.long r14)) P15 ∧ ∀ i18 l19 dd20 x21, P15 (i18, l19, dd20, x21) → ab_Fr MX4_likeliest (d + 1) Q 12 [some (.ref 160), some (.int a4), some (.long r14), none, some (.int (a4 + 1))] [] (0, 0) (i18, l19, dd20, x21) (ab_E0 sc))))))))) :
    ab_Fr MX4_likeliest (d + 1) Q 12 [some (.ref 160), some (.int a1), some (.long a2), none, some (.int a4)] [] (0, 0) (i, l, dd, x) (ab_E0 sc) := by
  refine ab_iload dX4_likeliest_12 rfl ?_
  refine ab_aloadn dX4_likeliest_14 rfl ?_
  obtain ⟨m1, hm2d, hm2, hm2t⟩ := h
  refine ab_getf (v := .ref m1) dX4_likeliest_15 fl_X4_9 kd_160 hm2d ?_
  refine ab_getf (v := .int (i m1 0)) dX4_likeliest_18 fl_X4_119 (kM hm2) rfl ?_
  refine ab_icmp_ge (tgt := 51) dX4_likeliest_21 (by decide) (fun c3 => ?_) (fun c3 => ?_)
  · refine ab_iloadn dX4_likeliest_51 rfl ?_
    exact ab_iret dX4_likeliest_52 rfl ⟨Nat.zero_le _, Nat.zero_le _⟩ (hm2t.1 c3)
  · refine ab_aloadn dX4_likeliest_24 rfl ?_
    refine ab_iload dX4_likeliest_25 rfl ?_
    obtain ⟨r4, P5, hs6, hk7⟩ := (hm2t.2 c3)
    refine ab_callV (vs := [.int a4]) (st := []) dX4_likeliest_27 okMX4_partsNow wd_758 kd_160 rfl rfl rfl (Nat.le_of_ble_eq_true rfl) ⟨Nat.le_of_ble_eq_true rfl, Nat.le_of_ble_eq_true rfl⟩ hs6 ?_
    rintro v9 ⟨i8, l9, dd10, x11⟩ E9 - ⟨rfl, rfl, hp12⟩
    show ab_Fr MX4_likeliest (d + 1) Q 30 [some (.ref 160), some (.int a1), some (.long a2), none, some (.int a4)] [.long r4] (0, 0) (i8, l9, dd10, x11) (ab_E0 sc)
    refine ab_lloadn dX4_likeliest_30 rfl ?_
    refine ab_lcle (tgt := 45) dX4_likeliest_31 dX4_likeliest_32 (by decide) (fun c13 => ?_) (fun c13 => ?_)
    · refine ab_iinc (v := (a4 + 1)) dX4_likeliest_45 rfl (by rfl) (Nat.le_of_ble_eq_true rfl) (L2 := [some (.ref 160), some (.int a1), some (.long a2), none, some (.int (a4 + 1))]) rfl ?_
      refine ab_goto (tgt := 12) dX4_likeliest_48 (by decide) ?_
      exact ((hk7 i8 l9 dd10 x11 hp12).1 c13)
    · refine ab_aloadn dX4_likeliest_35 rfl ?_
      refine ab_iload dX4_likeliest_36 rfl ?_
      obtain ⟨r14, P15, hs16, hk17⟩ := ((hk7 i8 l9 dd10 x11 hp12).2 c13)
      refine ab_callV (vs := [.int a4]) (st := []) dX4_likeliest_38 okMX4_partsNow wd_758 kd_160 rfl rfl rfl (Nat.le_of_ble_eq_true rfl) ⟨Nat.le_of_ble_eq_true rfl, Nat.le_of_ble_eq_true rfl⟩ hs16 ?_
      rintro v9 ⟨i18, l19, dd20, x21⟩ E9 - ⟨rfl, rfl, hp22⟩
      show ab_Fr MX4_likeliest (d + 1) Q 41 [some (.ref 160), some (.int a1), some (.long a2), none, some (.int a4)] [.long r14] (0, 0) (i18, l19, dd20, x21) (ab_E0 sc)
      refine ab_lstoren dX4_likeliest_41 (Nat.le_of_ble_eq_true rfl) (L2 := [some (.ref 160), some (.int a1), some (.long r14), none, some (.int a4)]) rfl ?_
      refine ab_iload dX4_likeliest_42 rfl ?_
      refine ab_istoren dX4_likeliest_44 (Nat.le_of_ble_eq_true rfl) (L2 := [some (.ref 160), some (.int a4), some (.long r14), none, some (.int a4)]) rfl ?_
      refine ab_iinc (v := (a4 + 1)) dX4_likeliest_45 rfl (by rfl) (Nat.le_of_ble_eq_true rfl) (L2 := [some (.ref 160), some (.int a4), some (.long r14), none, some (.int (a4 + 1))]) rfl ?_
      refine ab_goto (tgt := 12) dX4_likeliest_48 (by decide) ?_
      exact (hk17 i18 l19 dd20 x21 hp22)
theorem tMX4_seeing_0 {d : Nat} {Q : ab_Qt} {sc : Nat × (Nat → Int32)} {i : Nat → Nat → Int32} {l : Nat → Nat → Int64} {dd : Nat → Nat → Value} {x : Nat} {a1 : Nat} (k_a1 : ab_isM a1)
    (h : (∀ dd1, dd1 = ab_u dd 160 0 (.ref a1) → ab_Fr MX4_seeing (d + 1) Q 7 [some (.ref 160), none, some (.int 0), none] [] (0, 0) (i, l, dd1, x) (ab_E0 sc))) :
    ab_Fr MX4_seeing (d + 1) Q 0 [some (.ref 160), some (.ref a1), none, none] [] (0, 0) (i, l, dd, x) (ab_E0 sc) := by
  refine ab_aloadn dX4_seeing_0 rfl ?_
  refine ab_aloadn dX4_seeing_1 rfl ?_
  refine ab_putR dX4_seeing_2 fl_X4_9 kd_160 rfl ?_
  obtain ⟨dd1, e2⟩ : ∃ z, z = ab_u dd 160 0 (.ref a1) := ⟨_, rfl⟩
  show ab_Fr MX4_seeing (d + 1) Q 5 [some (.ref 160), some (.ref a1), none, none] [] (0, 0) (i, l, ab_u dd 160 0 (.ref a1), x) (ab_E0 sc)
  rw [show ab_u dd 160 0 (.ref a1) = dd1 from e2.symm]
  refine ab_iconst (v := 0) dX4_seeing_5 (by decide) ?_
  refine ab_istoren dX4_seeing_6 (Nat.le_of_ble_eq_true rfl) (L2 := [some (.ref 160), some (.ref a1), some (.int 0), none]) rfl ?_
  refine ab_forget (i := 1) (L2 := [some (.ref 160), none, some (.int 0), none]) rfl ?_
  exact (h dd1 e2)
theorem tMX4_seeing_7 {d : Nat} {Q : ab_Qt} {sc : Nat × (Nat → Int32)} {i : Nat → Nat → Int32} {l : Nat → Nat → Int64} {dd : Nat → Nat → Value} {x : Nat} {a2 : Int32} 
    (h : (∃ m1, dd 160 0 = .ref m1 ∧ ab_isM m1 ∧ (((i m1 1) ≤ a2 → Q (some none) (i, l, dd, x) (ab_E0 sc)) ∧ (¬ (i m1 1) ≤ a2 → (vp_in a2 7 ∧ ∀ i4, i4 = ab_u i 161 a2.toNatClampNeg 0 → ab_Fr MX4_seeing (d + 1) Q 27 [some (.ref 160), none, some (.int a2), some (.int 0)] [] (0, 0) (i4, l, dd, x) (ab_E0 sc)))))) :
    ab_Fr MX4_seeing (d + 1) Q 7 [some (.ref 160), none, some (.int a2), none] [] (0, 0) (i, l, dd, x) (ab_E0 sc) := by
  refine ab_iloadn dX4_seeing_7 rfl ?_
  refine ab_aloadn dX4_seeing_8 rfl ?_
  obtain ⟨m1, hm2d, hm2, hm2t⟩ := h
  refine ab_getf (v := .ref m1) dX4_seeing_9 fl_X4_9 kd_160 hm2d ?_
  refine ab_getf (v := .int (i m1 1)) dX4_seeing_12 fl_X4_41 (kM hm2) rfl ?_
  refine ab_icmp_ge (tgt := 62) dX4_seeing_15 (by decide) (fun c3 => ?_) (fun c3 => ?_)
  · exact ab_vret dX4_seeing_62 rfl ⟨Nat.zero_le _, Nat.zero_le _⟩ (hm2t.1 c3)
  · refine ab_aloadn dX4_seeing_18 rfl ?_
    refine ab_getf (v := .ref 161) dX4_seeing_19 fl_X4_15 kd_160 ff_160_1 ?_
    refine ab_iloadn dX4_seeing_22 rfl ?_
    refine ab_iconst (v := 0) dX4_seeing_23 (by decide) ?_
    refine ab_iastore dX4_seeing_24 kd_161 (hm2t.2 c3).1 ?_
    obtain ⟨i4, e5⟩ : ∃ z, z = ab_u i 161 a2.toNatClampNeg 0 := ⟨_, rfl⟩
    rw [show ab_u i 161 a2.toNatClampNeg 0 = i4 from e5.symm]
    refine ab_iconst (v := 0) dX4_seeing_25 (by decide) ?_
    refine ab_istoren dX4_seeing_26 (Nat.le_of_ble_eq_true rfl) (L2 := [some (.ref 160), none, some (.int a2), some (.int 0)]) rfl ?_
    exact ((hm2t.2 c3).2 i4 e5)
theorem tMX4_seeing_27 {d : Nat} {Q : ab_Qt} {sc : Nat × (Nat → Int32)} {i : Nat → Nat → Int32} {l : Nat → Nat → Int64} {dd : Nat → Nat → Value} {x : Nat} {a2 : Int32} {a3 : Int32} 
    (h : (∃ m1, dd 160 0 = .ref m1 ∧ ab_isM m1 ∧ vp_in a2 7 ∧ (((i (m1 + 5 + 6 * a2.toNatClampNeg) 0) ≤ a3 → ab_Fr MX4_seeing (d + 1) Q 7 [some (.ref 160), none, some (.int (a2 + 1)), none] [] (0, 0) (i, l, dd, x) (ab_E0 sc)) ∧ (¬ (i (m1 + 5 + 6 * a2.toNatClampNeg) 0) ≤ a3 → (∃ (P5 : ab_S → Prop), ab_Sp MX4_addChoice d [.ref 160, .int a2, .int a3, .int a3] (i, l, dd, x) (ab_E0 sc) (none) P5 ∧ ∀ i8 l9 dd10 x11, P5 (i8, l9, dd10, x11) → ab_Fr MX4_seeing (d + 1) Q 27 [some (.ref 160), none, some (.int a2), some (.int (a3 + 1))] [] (0, 0) (i8, l9, dd10, x11) (ab_E0 sc)))))) :
    ab_Fr MX4_seeing (d + 1) Q 27 [some (.ref 160), none, some (.int a2), some (.int a3)] [] (0, 0) (i, l, dd, x) (ab_E0 sc) := by
  refine ab_iloadn dX4_seeing_27 rfl ?_
  refine ab_aloadn dX4_seeing_28 rfl ?_
  obtain ⟨m1, hm2d, hm2, hm2t⟩ := h
  refine ab_getf (v := .ref m1) dX4_seeing_29 fl_X4_9 kd_160 hm2d ?_
  refine ab_getf (v := .ref (m1 + 4)) dX4_seeing_32 fl_X4_47 (kM hm2) (fM_8 hm2) ?_
  refine ab_iloadn dX4_seeing_35 rfl ?_
  refine ab_aaload (a := (m1 + 5 + 6 * a2.toNatClampNeg)) dX4_seeing_36 (Or.inl rfl) (kM_4 hm2) hm2t.1 (fMv hm2 hm2t.1) ?_
  refine ab_getf (v := .int (i (m1 + 5 + 6 * a2.toNatClampNeg) 0)) dX4_seeing_37 fl_X4_51 (kV (isVof hm2 hm2t.1)) rfl ?_
  refine ab_icmp_ge (tgt := 56) dX4_seeing_40 (by decide) (fun c3 => ?_) (fun c3 => ?_)
  · refine ab_iinc (v := (a2 + 1)) dX4_seeing_56 rfl (by rfl) (Nat.le_of_ble_eq_true rfl) (L2 := [some (.ref 160), none, some (.int (a2 + 1)), some (.int a3)]) rfl ?_
    refine ab_goto (tgt := 7) dX4_seeing_59 (by decide) ?_
    refine ab_forget (i := 3) (L2 := [some (.ref 160), none, some (.int (a2 + 1)), none]) rfl ?_
    exact (hm2t.2.1 c3)
  · refine ab_aloadn dX4_seeing_43 rfl ?_
    refine ab_iloadn dX4_seeing_44 rfl ?_
    refine ab_iloadn dX4_seeing_45 rfl ?_
    refine ab_iloadn dX4_seeing_46 rfl ?_
    obtain ⟨P5, hs6, hk7⟩ := (hm2t.2.2 c3)
    refine ab_callV (vs := [.int a2, .int a3, .int a3]) (st := []) dX4_seeing_47 okMX4_addChoice wd_729 kd_160 rfl rfl rfl (Nat.le_of_ble_eq_true rfl) ⟨Nat.le_of_ble_eq_true rfl, Nat.le_of_ble_eq_true rfl⟩ hs6 ?_
    rintro v9 ⟨i8, l9, dd10, x11⟩ E9 - ⟨rfl, rfl, hp12⟩
    show ab_Fr MX4_seeing (d + 1) Q 50 [some (.ref 160), none, some (.int a2), some (.int a3)] [] (0, 0) (i8, l9, dd10, x11) (ab_E0 sc)
    refine ab_iinc (v := (a3 + 1)) dX4_seeing_50 rfl (by rfl) (Nat.le_of_ble_eq_true rfl) (L2 := [some (.ref 160), none, some (.int a2), some (.int (a3 + 1))]) rfl ?_
    refine ab_goto (tgt := 27) dX4_seeing_53 (by decide) ?_
    exact (hk7 i8 l9 dd10 x11 hp12)
theorem tMX4_sumUpBest_0 {d : Nat} {Q : ab_Qt} {sc : Nat × (Nat → Int32)} {i : Nat → Nat → Int32} {l : Nat → Nat → Int64} {dd : Nat → Nat → Value} {x : Nat} {a1 : Nat} {n_a1 : Nat} (k_a1 : (ab_E0 sc).1 a1 = .inr (1, n_a1))
    (h : (∃ (P2 : ab_S → Prop), ab_Sp MX11_empty d [.ref a1] (i, l, dd, x) (ab_E0 sc) (none) P2 ∧ ∀ i5 l6 dd7 x8, P2 (i5, l6, dd7, x8) → ∃ (r10 : Int32) (P11 : ab_S → Prop), ab_Sp MX4_first d [.ref 160] (i5, l6, dd7, x8) (ab_E0 sc) (some (.int r10)) P11 ∧ ∀ i14 l15 dd16 x17, P11 (i14, l15, dd16, x17) → ab_Fr MX4_sumUpBest (d + 1) Q 11 [some (.ref 160), some (.ref a1), some (.int r10), some (.int 0)] [] (0, 0) (i14, l15, dd16, x17) (ab_E0 sc))) :
    ab_Fr MX4_sumUpBest (d + 1) Q 0 [some (.ref 160), some (.ref a1), none, none] [] (0, 0) (i, l, dd, x) (ab_E0 sc) := by
  refine ab_aloadn dX4_sumUpBest_0 rfl ?_
  obtain ⟨P2, hs3, hk4⟩ := h
  refine ab_callN (vs := [.ref a1]) (st := []) dX4_sumUpBest_1 okMX11_empty (List.mem_of_getElem? (i := 0) rfl) rfl rfl (Nat.le_of_ble_eq_true rfl) ⟨Nat.le_of_ble_eq_true rfl, Nat.le_of_ble_eq_true rfl⟩ hs3 ?_
  rintro v9 ⟨i5, l6, dd7, x8⟩ E9 - ⟨rfl, rfl, hp9⟩
  show ab_Fr MX4_sumUpBest (d + 1) Q 4 [some (.ref 160), some (.ref a1), none, none] [] (0, 0) (i5, l6, dd7, x8) (ab_E0 sc)
  refine ab_aloadn dX4_sumUpBest_4 rfl ?_
  obtain ⟨r10, P11, hs12, hk13⟩ := (hk4 i5 l6 dd7 x8 hp9)
  refine ab_callV (vs := []) (st := []) dX4_sumUpBest_5 okMX4_first wd_741 kd_160 rfl rfl rfl (Nat.le_of_ble_eq_true rfl) ⟨Nat.le_of_ble_eq_true rfl, Nat.le_of_ble_eq_true rfl⟩ hs12 ?_
  rintro v9 ⟨i14, l15, dd16, x17⟩ E9 - ⟨rfl, rfl, hp18⟩
  show ab_Fr MX4_sumUpBest (d + 1) Q 8 [some (.ref 160), some (.ref a1), none, none] [.int r10] (0, 0) (i14, l15, dd16, x17) (ab_E0 sc)
  refine ab_istoren dX4_sumUpBest_8 (Nat.le_of_ble_eq_true rfl) (L2 := [some (.ref 160), some (.ref a1), some (.int r10), none]) rfl ?_
  refine ab_iconst (v := 0) dX4_sumUpBest_9 (by decide) ?_
  refine ab_istoren dX4_sumUpBest_10 (Nat.le_of_ble_eq_true rfl) (L2 := [some (.ref 160), some (.ref a1), some (.int r10), some (.int 0)]) rfl ?_
  exact (hk13 i14 l15 dd16 x17 hp18)
theorem tMX4_sumUpBest_11 {d : Nat} {Q : ab_Qt} {sc : Nat × (Nat → Int32)} {i : Nat → Nat → Int32} {l : Nat → Nat → Int64} {dd : Nat → Nat → Value} {x : Nat} {a1 : Nat} {n_a1 : Nat} {a2 : Int32} {a3 : Int32} (k_a1 : (ab_E0 sc).1 a1 = .inr (1, n_a1))
    (h : ((a2 ≤ a3 → Q (some none) (i, l, dd, x) (ab_E0 sc)) ∧ (¬ a2 ≤ a3 → (∃ m2, dd 160 0 = .ref m2 ∧ ab_isM m2 ∧ ∃ (r4 : Int32) (P5 : ab_S → Prop), ab_Sp MX0_leastOf d [.ref (m2 + 2), .int (i m2 0), .ref 165, .int ((i m2 1) * 3)] (i, l, dd, x) (ab_E0 sc) (some (.int r4)) P5 ∧ ∀ i8 l9 dd10 x11, P5 (i8, l9, dd10, x11) → ∃ (P14 : ab_S → Prop), ab_Sp MX4_addRow d [.ref 160, .ref a1, .int r4] (i8, l9, dd10, x11) (ab_E0 sc) (none) P14 ∧ ∀ i17 l18 dd19 x20, P14 (i17, l18, dd19, x20) → ∃ (P23 : ab_S → Prop), ab_Sp MX4_step d [.ref 160] (i17, l18, dd19, x20) (ab_E0 sc) (none) P23 ∧ ∀ i26 l27 dd28 x29, P23 (i26, l27, dd28, x29) → ab_Fr MX4_sumUpBest (d + 1) Q 11 [some (.ref 160), some (.ref a1), some (.int a2), some (.int (a3 + 1))] [] (0, 0) (i26, l27, dd28, x29) (ab_E0 sc))))) :
    ab_Fr MX4_sumUpBest (d + 1) Q 11 [some (.ref 160), some (.ref a1), some (.int a2), some (.int a3)] [] (0, 0) (i, l, dd, x) (ab_E0 sc) := by
  refine ab_iloadn dX4_sumUpBest_11 rfl ?_
  refine ab_iloadn dX4_sumUpBest_12 rfl ?_
  refine ab_icmp_ge (tgt := 61) dX4_sumUpBest_13 (by decide) (fun c1 => ?_) (fun c1 => ?_)
  · exact ab_vret dX4_sumUpBest_61 rfl ⟨Nat.zero_le _, Nat.zero_le _⟩ (h.1 c1)
  · refine ab_aloadn dX4_sumUpBest_16 rfl ?_
    refine ab_aloadn dX4_sumUpBest_17 rfl ?_
    refine ab_aloadn dX4_sumUpBest_18 rfl ?_
    obtain ⟨m2, hm3d, hm3, hm3t⟩ := (h.2 c1)
    refine ab_getf (v := .ref m2) dX4_sumUpBest_19 fl_X4_9 kd_160 hm3d ?_
    refine ab_getf (v := .ref (m2 + 2)) dX4_sumUpBest_22 fl_X4_77 (kM hm3) (fM_7 hm3) ?_
    refine ab_aloadn dX4_sumUpBest_25 rfl ?_
    refine ab_getf (v := .ref m2) dX4_sumUpBest_26 fl_X4_9 kd_160 hm3d ?_
    refine ab_getf (v := .int (i m2 0)) dX4_sumUpBest_29 fl_X4_119 (kM hm3) rfl ?_
    refine ab_aloadn dX4_sumUpBest_32 rfl ?_
    refine ab_getf (v := .ref 165) dX4_sumUpBest_33 fl_X4_28 kd_160 ff_160_5 ?_
    refine ab_aloadn dX4_sumUpBest_36 rfl ?_
    refine ab_getf (v := .ref m2) dX4_sumUpBest_37 fl_X4_9 kd_160 hm3d ?_
    refine ab_getf (v := .int (i m2 1)) dX4_sumUpBest_40 fl_X4_41 (kM hm3) rfl ?_
    refine ab_iconst (v := 3) dX4_sumUpBest_43 (by decide) ?_
    refine ab_imul dX4_sumUpBest_44 ?_
    obtain ⟨r4, P5, hs6, hk7⟩ := hm3t
    refine ab_callV (vs := [.int (i m2 0), .ref 165, .int ((i m2 1) * 3)]) (st := [.ref a1, .ref 160]) dX4_sumUpBest_45 okMX0_leastOf wd_1197 (kLo (isM_2 hm3)) rfl rfl rfl (Nat.le_of_ble_eq_true rfl) ⟨Nat.le_of_ble_eq_true rfl, Nat.le_of_ble_eq_true rfl⟩ hs6 ?_
    rintro v9 ⟨i8, l9, dd10, x11⟩ E9 - ⟨rfl, rfl, hp12⟩
    show ab_Fr MX4_sumUpBest (d + 1) Q 48 [some (.ref 160), some (.ref a1), some (.int a2), some (.int a3)] [.int r4, .ref a1, .ref 160] (0, 0) (i8, l9, dd10, x11) (ab_E0 sc)
    obtain ⟨P14, hs15, hk16⟩ := (hk7 i8 l9 dd10 x11 hp12)
    refine ab_callV (vs := [.ref a1, .int r4]) (st := []) dX4_sumUpBest_48 okMX4_addRow wd_755 kd_160 rfl rfl rfl (Nat.le_of_ble_eq_true rfl) ⟨Nat.le_of_ble_eq_true rfl, Nat.le_of_ble_eq_true rfl⟩ hs15 ?_
    rintro v9 ⟨i17, l18, dd19, x20⟩ E9 - ⟨rfl, rfl, hp21⟩
    show ab_Fr MX4_sumUpBest (d + 1) Q 51 [some (.ref 160), some (.ref a1), some (.int a2), some (.int a3)] [] (0, 0) (i17, l18, dd19, x20) (ab_E0 sc)
    refine ab_aloadn dX4_sumUpBest_51 rfl ?_
    obtain ⟨P23, hs24, hk25⟩ := (hk16 i17 l18 dd19 x20 hp21)
    refine ab_callV (vs := []) (st := []) dX4_sumUpBest_52 okMX4_step wd_762 kd_160 rfl rfl rfl (Nat.le_of_ble_eq_true rfl) ⟨Nat.le_of_ble_eq_true rfl, Nat.le_of_ble_eq_true rfl⟩ hs24 ?_
    rintro v9 ⟨i26, l27, dd28, x29⟩ E9 - ⟨rfl, rfl, hp30⟩
    show ab_Fr MX4_sumUpBest (d + 1) Q 55 [some (.ref 160), some (.ref a1), some (.int a2), some (.int a3)] [] (0, 0) (i26, l27, dd28, x29) (ab_E0 sc)
    refine ab_iinc (v := (a3 + 1)) dX4_sumUpBest_55 rfl (by rfl) (Nat.le_of_ble_eq_true rfl) (L2 := [some (.ref 160), some (.ref a1), some (.int a2), some (.int (a3 + 1))]) rfl ?_
    refine ab_goto (tgt := 11) dX4_sumUpBest_58 (by decide) ?_
    exact (hk25 i26 l27 dd28 x29 hp30)
theorem tMX4_pin_0 {d : Nat} {Q : ab_Qt} {sc : Nat × (Nat → Int32)} {i : Nat → Nat → Int32} {l : Nat → Nat → Int64} {dd : Nat → Nat → Value} {x : Nat} {a1 : Int32} {a2 : Int32} {a3 : Int32} 
    (h : (vp_in a1 7 ∧ ∀ i1, i1 = ab_u i 161 a1.toNatClampNeg 0 → ∃ (P4 : ab_S → Prop), ab_Sp MX4_addChoice d [.ref 160, .int a1, .int a2, .int a3] (i1, l, dd, x) (ab_E0 sc) (none) P4 ∧ ∀ i7 l8 dd9 x10, P4 (i7, l8, dd9, x10) → Q (some none) (i7, l8, dd9, x10) (ab_E0 sc))) :
    ab_Fr MX4_pin (d + 1) Q 0 [some (.ref 160), some (.int a1), some (.int a2), some (.int a3)] [] (0, 0) (i, l, dd, x) (ab_E0 sc) := by
  refine ab_aloadn dX4_pin_0 rfl ?_
  refine ab_getf (v := .ref 161) dX4_pin_1 fl_X4_15 kd_160 ff_160_1 ?_
  refine ab_iloadn dX4_pin_4 rfl ?_
  refine ab_iconst (v := 0) dX4_pin_5 (by decide) ?_
  refine ab_iastore dX4_pin_6 kd_161 h.1 ?_
  obtain ⟨i1, e2⟩ : ∃ z, z = ab_u i 161 a1.toNatClampNeg 0 := ⟨_, rfl⟩
  rw [show ab_u i 161 a1.toNatClampNeg 0 = i1 from e2.symm]
  refine ab_aloadn dX4_pin_7 rfl ?_
  refine ab_iloadn dX4_pin_8 rfl ?_
  refine ab_iloadn dX4_pin_9 rfl ?_
  refine ab_iloadn dX4_pin_10 rfl ?_
  obtain ⟨P4, hs5, hk6⟩ := (h.2 i1 e2)
  refine ab_callV (vs := [.int a1, .int a2, .int a3]) (st := []) dX4_pin_11 okMX4_addChoice wd_729 kd_160 rfl rfl rfl (Nat.le_of_ble_eq_true rfl) ⟨Nat.le_of_ble_eq_true rfl, Nat.le_of_ble_eq_true rfl⟩ hs5 ?_
  rintro v9 ⟨i7, l8, dd9, x10⟩ E9 - ⟨rfl, rfl, hp11⟩
  show ab_Fr MX4_pin (d + 1) Q 14 [some (.ref 160), some (.int a1), some (.int a2), some (.int a3)] [] (0, 0) (i7, l8, dd9, x10) (ab_E0 sc)
  exact ab_vret dX4_pin_14 rfl ⟨Nat.zero_le _, Nat.zero_le _⟩ (hk6 i7 l8 dd9 x10 hp11)
