theorem tMX12_thrown_0 {d : Nat} {Q : ab_Qt} {sc : Nat × (Nat → Int32)} {i : Nat → Nat → Int32} {l : Nat → Nat → Int64} {dd : Nat → Nat → Value} {x : Nat}  
    (h : Q (some (some (.int (i 205 0)))) (i, l, dd, x) (ab_E0 sc)) :
    ab_Fr MX12_thrown (d + 1) Q 0 [some (.ref 205)] [] (0, 0) (i, l, dd, x) (ab_E0 sc) := by
  refine ab_aloadn dX12_thrown_0 rfl ?_
  refine ab_getf (v := .int (i 205 0)) dX12_thrown_1 fl_X12_149 kd_205 rfl ?_
  exact ab_iret dX12_thrown_4 rfl ⟨Nat.zero_le _, Nat.zero_le _⟩ h
theorem tMX12_feed_0 {d : Nat} {Q : ab_Qt} {sc : Nat × (Nat → Int32)} {i : Nat → Nat → Int32} {l : Nat → Nat → Int64} {dd : Nat → Nat → Value} {x : Nat} {a1 : Int32} {a2 : Int32} {a3 : Int32} {a4 : Int32} {a5 : Int32} 
    (h : (∀ i1, i1 = ab_u i 205 0 0 → ((((i1 205 2) + 20) ≤ 740 → (∃ (P5 : ab_S → Prop), ab_Sp MX12_come d [.ref 205, .int a1] (i1, l, dd, x) (ab_E0 sc) (none) P5 ∧ ∀ i8 l9 dd10 x11, P5 (i8, l9, dd10, x11) → ∃ (P14 : ab_S → Prop), ab_Sp MX12_come d [.ref 205, .int a2] (i8, l9, dd10, x11) (ab_E0 sc) (none) P14 ∧ ∀ i17 l18 dd19 x20, P14 (i17, l18, dd19, x20) → ∃ (P23 : ab_S → Prop), ab_Sp MX12_come d [.ref 205, .int a3] (i17, l18, dd19, x20) (ab_E0 sc) (none) P23 ∧ ∀ i26 l27 dd28 x29, P23 (i26, l27, dd28, x29) → ∃ (P32 : ab_S → Prop), ab_Sp MX12_come d [.ref 205, .int a4] (i26, l27, dd28, x29) (ab_E0 sc) (none) P32 ∧ ∀ i35 l36 dd37 x38, P32 (i35, l36, dd37, x38) → ∃ (P41 : ab_S → Prop), ab_Sp MX12_come d [.ref 205, .int a5] (i35, l36, dd37, x38) (ab_E0 sc) (none) P41 ∧ ∀ i44 l45 dd46 x47, P41 (i44, l45, dd46, x47) → Q (some (some (.int (i44 205 2)))) (i44, l45, dd46, x47) (ab_E0 sc))) ∧ (¬ ((i1 205 2) + 20) ≤ 740 → Q (some (some (.int (-1)))) (i1, l, dd, x) (ab_E0 sc))))) :
    ab_Fr MX12_feed (d + 1) Q 0 [some (.ref 205), some (.int a1), some (.int a2), some (.int a3), some (.int a4), some (.int a5)] [] (0, 0) (i, l, dd, x) (ab_E0 sc) := by
  refine ab_aloadn dX12_feed_0 rfl ?_
  refine ab_iconst (v := 0) dX12_feed_1 (by decide) ?_
  refine ab_putI dX12_feed_2 fl_X12_149 kd_205 rfl ?_
  obtain ⟨i1, e2⟩ : ∃ z, z = ab_u i 205 0 0 := ⟨_, rfl⟩
  show ab_Fr MX12_feed (d + 1) Q 5 [some (.ref 205), some (.int a1), some (.int a2), some (.int a3), some (.int a4), some (.int a5)] [] (0, 0) (ab_u i 205 0 0, l, dd, x) (ab_E0 sc)
  rw [show ab_u i 205 0 0 = i1 from e2.symm]
  refine ab_aloadn dX12_feed_5 rfl ?_
  refine ab_getf (v := .int (i1 205 2)) dX12_feed_6 fl_X12_153 kd_205 rfl ?_
  refine ab_bipush (v := 20) dX12_feed_9 (by decide) ?_
  refine ab_iadd dX12_feed_11 ?_
  refine ab_sipush (v := 740) dX12_feed_12 (by decide) ?_
  refine ab_icmp_le (tgt := 20) dX12_feed_15 (by decide) (fun c3 => ?_) (fun c3 => ?_)
  · refine ab_aloadn dX12_feed_20 rfl ?_
    refine ab_iloadn dX12_feed_21 rfl ?_
    obtain ⟨P5, hs6, hk7⟩ := ((h i1 e2).1 c3)
    refine ab_callV (vs := [.int a1]) (st := []) dX12_feed_22 okMX12_come wd_1407 kd_205 rfl rfl rfl (Nat.le_of_ble_eq_true rfl) ⟨Nat.le_of_ble_eq_true rfl, Nat.le_of_ble_eq_true rfl⟩ hs6 ?_
    rintro v9 ⟨i8, l9, dd10, x11⟩ E9 - ⟨rfl, rfl, hp12⟩
    show ab_Fr MX12_feed (d + 1) Q 25 [some (.ref 205), some (.int a1), some (.int a2), some (.int a3), some (.int a4), some (.int a5)] [] (0, 0) (i8, l9, dd10, x11) (ab_E0 sc)
    refine ab_aloadn dX12_feed_25 rfl ?_
    refine ab_iloadn dX12_feed_26 rfl ?_
    obtain ⟨P14, hs15, hk16⟩ := (hk7 i8 l9 dd10 x11 hp12)
    refine ab_callV (vs := [.int a2]) (st := []) dX12_feed_27 okMX12_come wd_1407 kd_205 rfl rfl rfl (Nat.le_of_ble_eq_true rfl) ⟨Nat.le_of_ble_eq_true rfl, Nat.le_of_ble_eq_true rfl⟩ hs15 ?_
    rintro v9 ⟨i17, l18, dd19, x20⟩ E9 - ⟨rfl, rfl, hp21⟩
    show ab_Fr MX12_feed (d + 1) Q 30 [some (.ref 205), some (.int a1), some (.int a2), some (.int a3), some (.int a4), some (.int a5)] [] (0, 0) (i17, l18, dd19, x20) (ab_E0 sc)
    refine ab_aloadn dX12_feed_30 rfl ?_
    refine ab_iloadn dX12_feed_31 rfl ?_
    obtain ⟨P23, hs24, hk25⟩ := (hk16 i17 l18 dd19 x20 hp21)
    refine ab_callV (vs := [.int a3]) (st := []) dX12_feed_32 okMX12_come wd_1407 kd_205 rfl rfl rfl (Nat.le_of_ble_eq_true rfl) ⟨Nat.le_of_ble_eq_true rfl, Nat.le_of_ble_eq_true rfl⟩ hs24 ?_
    rintro v9 ⟨i26, l27, dd28, x29⟩ E9 - ⟨rfl, rfl, hp30⟩
    show ab_Fr MX12_feed (d + 1) Q 35 [some (.ref 205), some (.int a1), some (.int a2), some (.int a3), some (.int a4), some (.int a5)] [] (0, 0) (i26, l27, dd28, x29) (ab_E0 sc)
    refine ab_aloadn dX12_feed_35 rfl ?_
    refine ab_iload dX12_feed_36 rfl ?_
    obtain ⟨P32, hs33, hk34⟩ := (hk25 i26 l27 dd28 x29 hp30)
    refine ab_callV (vs := [.int a4]) (st := []) dX12_feed_38 okMX12_come wd_1407 kd_205 rfl rfl rfl (Nat.le_of_ble_eq_true rfl) ⟨Nat.le_of_ble_eq_true rfl, Nat.le_of_ble_eq_true rfl⟩ hs33 ?_
    rintro v9 ⟨i35, l36, dd37, x38⟩ E9 - ⟨rfl, rfl, hp39⟩
    show ab_Fr MX12_feed (d + 1) Q 41 [some (.ref 205), some (.int a1), some (.int a2), some (.int a3), some (.int a4), some (.int a5)] [] (0, 0) (i35, l36, dd37, x38) (ab_E0 sc)
    refine ab_aloadn dX12_feed_41 rfl ?_
    refine ab_iload dX12_feed_42 rfl ?_
    obtain ⟨P41, hs42, hk43⟩ := (hk34 i35 l36 dd37 x38 hp39)
    refine ab_callV (vs := [.int a5]) (st := []) dX12_feed_44 okMX12_come wd_1407 kd_205 rfl rfl rfl (Nat.le_of_ble_eq_true rfl) ⟨Nat.le_of_ble_eq_true rfl, Nat.le_of_ble_eq_true rfl⟩ hs42 ?_
    rintro v9 ⟨i44, l45, dd46, x47⟩ E9 - ⟨rfl, rfl, hp48⟩
    show ab_Fr MX12_feed (d + 1) Q 47 [some (.ref 205), some (.int a1), some (.int a2), some (.int a3), some (.int a4), some (.int a5)] [] (0, 0) (i44, l45, dd46, x47) (ab_E0 sc)
    refine ab_aloadn dX12_feed_47 rfl ?_
    refine ab_getf (v := .int (i44 205 2)) dX12_feed_48 fl_X12_153 kd_205 rfl ?_
    exact ab_iret dX12_feed_51 rfl ⟨Nat.zero_le _, Nat.zero_le _⟩ (hk43 i44 l45 dd46 x47 hp48)
  · refine ab_iconst (v := (-1)) dX12_feed_18 (by decide) ?_
    exact ab_iret dX12_feed_19 rfl ⟨Nat.zero_le _, Nat.zero_le _⟩ ((h i1 e2).2 c3)
theorem tMX12_come_0 {d : Nat} {Q : ab_Qt} {sc : Nat × (Nat → Int32)} {i : Nat → Nat → Int32} {l : Nat → Nat → Int64} {dd : Nat → Nat → Value} {x : Nat} {a1 : Int32} 
    (h : ab_Fr MX12_come (d + 1) Q 3 [some (.ref 205), some (.int a1), some (.int 24)] [] (0, 0) (i, l, dd, x) (ab_E0 sc)) :
    ab_Fr MX12_come (d + 1) Q 0 [some (.ref 205), some (.int a1), none] [] (0, 0) (i, l, dd, x) (ab_E0 sc) := by
  refine ab_bipush (v := 24) dX12_come_0 (by decide) ?_
  refine ab_istoren dX12_come_2 (Nat.le_of_ble_eq_true rfl) (L2 := [some (.ref 205), some (.int a1), some (.int 24)]) rfl ?_
  exact h
theorem tMX12_come_3 {d : Nat} {Q : ab_Qt} {sc : Nat × (Nat → Int32)} {i : Nat → Nat → Int32} {l : Nat → Nat → Int64} {dd : Nat → Nat → Value} {x : Nat} {a1 : Int32} {a2 : Int32} 
    (h : ((a2 < 0 → Q (some none) (i, l, dd, x) (ab_E0 sc)) ∧ (¬ a2 < 0 → (vp_in (i 205 2) 740 ∧ ∀ i2, i2 = ab_u i 206 (i 205 2).toNatClampNeg ((ab_ushr a1 a2) &&& 255) → ∀ i4, i4 = ab_u i2 205 2 ((i2 205 2) + 1) → ab_Fr MX12_come (d + 1) Q 3 [some (.ref 205), some (.int a1), some (.int (a2 + (-8)))] [] (0, 0) (i4, l, dd, x) (ab_E0 sc))))) :
    ab_Fr MX12_come (d + 1) Q 3 [some (.ref 205), some (.int a1), some (.int a2)] [] (0, 0) (i, l, dd, x) (ab_E0 sc) := by
  refine ab_iloadn dX12_come_3 rfl ?_
  refine ab_if_lt (tgt := 39) dX12_come_4 (by decide) (fun c1 => ?_) (fun c1 => ?_)
  · exact ab_vret dX12_come_39 rfl ⟨Nat.zero_le _, Nat.zero_le _⟩ (h.1 c1)
  · refine ab_aloadn dX12_come_7 rfl ?_
    refine ab_getf (v := .ref 206) dX12_come_8 fl_X12_7 kd_205 ff_205_1 ?_
    refine ab_aloadn dX12_come_11 rfl ?_
    refine ab_getf (v := .int (i 205 2)) dX12_come_12 fl_X12_153 kd_205 rfl ?_
    refine ab_iloadn dX12_come_15 rfl ?_
    refine ab_iloadn dX12_come_16 rfl ?_
    refine ab_iushr (v := (ab_ushr a1 a2)) dX12_come_17 rfl ?_
    refine ab_sipush (v := 255) dX12_come_18 (by decide) ?_
    refine ab_iand dX12_come_21 ?_
    refine ab_iastore dX12_come_22 kd_206 (h.2 c1).1 ?_
    obtain ⟨i2, e3⟩ : ∃ z, z = ab_u i 206 (i 205 2).toNatClampNeg ((ab_ushr a1 a2) &&& 255) := ⟨_, rfl⟩
    rw [show ab_u i 206 (i 205 2).toNatClampNeg ((ab_ushr a1 a2) &&& 255) = i2 from e3.symm]
    refine ab_aloadn dX12_come_23 rfl ?_
    refine ab_dup dX12_come_24 rfl ?_
    refine ab_getf (v := .int (i2 205 2)) dX12_come_25 fl_X12_153 kd_205 rfl ?_
    refine ab_iconst (v := 1) dX12_come_28 (by decide) ?_
    refine ab_iadd dX12_come_29 ?_
    refine ab_putI dX12_come_30 fl_X12_153 kd_205 rfl ?_
    obtain ⟨i4, e5⟩ : ∃ z, z = ab_u i2 205 2 ((i2 205 2) + 1) := ⟨_, rfl⟩
    show ab_Fr MX12_come (d + 1) Q 33 [some (.ref 205), some (.int a1), some (.int a2)] [] (0, 0) (ab_u i2 205 2 ((i2 205 2) + 1), l, dd, x) (ab_E0 sc)
    rw [show ab_u i2 205 2 ((i2 205 2) + 1) = i4 from e5.symm]
    refine ab_iinc (v := (a2 + (-8))) dX12_come_33 rfl (by rfl) (Nat.le_of_ble_eq_true rfl) (L2 := [some (.ref 205), some (.int a1), some (.int (a2 + (-8)))]) rfl ?_
    refine ab_goto (tgt := 3) dX12_come_36 (by decide) ?_
    exact (((h.2 c1).2 i2 e3) i4 e5)
theorem tMX12_end_0 {d : Nat} {Q : ab_Qt} {sc : Nat × (Nat → Int32)} {i : Nat → Nat → Int32} {l : Nat → Nat → Int64} {dd : Nat → Nat → Value} {x : Nat} {a1 : Int32} 
    (h : (∀ i1, i1 = ab_u i 205 0 0 → ((a1 < 0 → Q (some (some (.int 0))) (i1, l, dd, x) (ab_E0 sc)) ∧ (¬ a1 < 0 → ((a1 ≤ (i1 205 2) → (∀ i5, i5 = ab_u i1 205 2 a1 → Q (some (some (.int 1))) (i5, l, dd, x) (ab_E0 sc))) ∧ (¬ a1 ≤ (i1 205 2) → Q (some (some (.int 0))) (i1, l, dd, x) (ab_E0 sc))))))) :
    ab_Fr MX12_end (d + 1) Q 0 [some (.ref 205), some (.int a1)] [] (0, 0) (i, l, dd, x) (ab_E0 sc) := by
  refine ab_aloadn dX12_end_0 rfl ?_
  refine ab_iconst (v := 0) dX12_end_1 (by decide) ?_
  refine ab_putI dX12_end_2 fl_X12_149 kd_205 rfl ?_
  obtain ⟨i1, e2⟩ : ∃ z, z = ab_u i 205 0 0 := ⟨_, rfl⟩
  show ab_Fr MX12_end (d + 1) Q 5 [some (.ref 205), some (.int a1)] [] (0, 0) (ab_u i 205 0 0, l, dd, x) (ab_E0 sc)
  rw [show ab_u i 205 0 0 = i1 from e2.symm]
  refine ab_iloadn dX12_end_5 rfl ?_
  refine ab_if_lt (tgt := 17) dX12_end_6 (by decide) (fun c3 => ?_) (fun c3 => ?_)
  · refine ab_iconst (v := 0) dX12_end_17 (by decide) ?_
    exact ab_zret dX12_end_18 rfl (by decide) ⟨Nat.zero_le _, Nat.zero_le _⟩ ((h i1 e2).1 c3)
  · refine ab_iloadn dX12_end_9 rfl ?_
    refine ab_aloadn dX12_end_10 rfl ?_
    refine ab_getf (v := .int (i1 205 2)) dX12_end_11 fl_X12_153 kd_205 rfl ?_
    refine ab_icmp_le (tgt := 19) dX12_end_14 (by decide) (fun c4 => ?_) (fun c4 => ?_)
    · refine ab_aloadn dX12_end_19 rfl ?_
      refine ab_iloadn dX12_end_20 rfl ?_
      refine ab_putI dX12_end_21 fl_X12_153 kd_205 rfl ?_
      obtain ⟨i5, e6⟩ : ∃ z, z = ab_u i1 205 2 a1 := ⟨_, rfl⟩
      show ab_Fr MX12_end (d + 1) Q 24 [some (.ref 205), some (.int a1)] [] (0, 0) (ab_u i1 205 2 a1, l, dd, x) (ab_E0 sc)
      rw [show ab_u i1 205 2 a1 = i5 from e6.symm]
      refine ab_iconst (v := 1) dX12_end_24 (by decide) ?_
      exact ab_zret dX12_end_25 rfl (by decide) ⟨Nat.zero_le _, Nat.zero_le _⟩ ((((h i1 e2).2 c3).1 c4) i5 e6)
    · refine ab_iconst (v := 0) dX12_end_17 (by decide) ?_
      exact ab_zret dX12_end_18 rfl (by decide) ⟨Nat.zero_le _, Nat.zero_le _⟩ (((h i1 e2).2 c3).2 c4)
theorem tMX12_matter_0 {d : Nat} {Q : ab_Qt} {sc : Nat × (Nat → Int32)} {i : Nat → Nat → Int32} {l : Nat → Nat → Int64} {dd : Nat → Nat → Value} {x : Nat}  
    (h : (∀ i1, i1 = ab_u i 205 0 0 → ∃ (r3 : Int32) (P4 : ab_S → Prop), ab_Sp MX12_take d [.ref 205] (i1, l, dd, x) (ab_E0 sc) (some (.int r3)) P4 ∧ ∀ i7 l8 dd9 x10, P4 (i7, l8, dd9, x10) → ∀ i12, i12 = ab_u i7 205 3 r3 → ∀ i14, i14 = ab_u i12 205 8 0 → ∀ i16, i16 = ab_u i14 205 27 0 → ∀ i18, i18 = ab_u i16 209 1 0 → ∀ i20, i20 = ab_u i18 210 1 0 → ∀ i22, i22 = ab_u i20 219 1 0 → ∀ i24, i24 = ab_u i22 222 1 (-1) → ab_Fr MX12_matter (d + 1) Q 53 [some (.ref 205), some (.int 0)] [] (0, 0) (i24, l8, dd9, x10) (ab_E0 sc))) :
    ab_Fr MX12_matter (d + 1) Q 0 [some (.ref 205), none] [] (0, 0) (i, l, dd, x) (ab_E0 sc) := by
  refine ab_aloadn dX12_matter_0 rfl ?_
  refine ab_iconst (v := 0) dX12_matter_1 (by decide) ?_
  refine ab_putI dX12_matter_2 fl_X12_149 kd_205 rfl ?_
  obtain ⟨i1, e2⟩ : ∃ z, z = ab_u i 205 0 0 := ⟨_, rfl⟩
  show ab_Fr MX12_matter (d + 1) Q 5 [some (.ref 205), none] [] (0, 0) (ab_u i 205 0 0, l, dd, x) (ab_E0 sc)
  rw [show ab_u i 205 0 0 = i1 from e2.symm]
  refine ab_aloadn dX12_matter_5 rfl ?_
  refine ab_aloadn dX12_matter_6 rfl ?_
  obtain ⟨r3, P4, hs5, hk6⟩ := (h i1 e2)
  refine ab_callV (vs := []) (st := [.ref 205]) dX12_matter_7 okMX12_take wd_1418 kd_205 rfl rfl rfl (Nat.le_of_ble_eq_true rfl) ⟨Nat.le_of_ble_eq_true rfl, Nat.le_of_ble_eq_true rfl⟩ hs5 ?_
  rintro v9 ⟨i7, l8, dd9, x10⟩ E9 - ⟨rfl, rfl, hp11⟩
  show ab_Fr MX12_matter (d + 1) Q 10 [some (.ref 205), none] [.int r3, .ref 205] (0, 0) (i7, l8, dd9, x10) (ab_E0 sc)
  refine ab_putI dX12_matter_10 fl_X12_160 kd_205 rfl ?_
  obtain ⟨i12, e13⟩ : ∃ z, z = ab_u i7 205 3 r3 := ⟨_, rfl⟩
  show ab_Fr MX12_matter (d + 1) Q 13 [some (.ref 205), none] [] (0, 0) (ab_u i7 205 3 r3, l8, dd9, x10) (ab_E0 sc)
  rw [show ab_u i7 205 3 r3 = i12 from e13.symm]
  refine ab_aloadn dX12_matter_13 rfl ?_
  refine ab_iconst (v := 0) dX12_matter_14 (by decide) ?_
  refine ab_putI dX12_matter_15 fl_X12_197 kd_205 rfl ?_
  obtain ⟨i14, e15⟩ : ∃ z, z = ab_u i12 205 8 0 := ⟨_, rfl⟩
  show ab_Fr MX12_matter (d + 1) Q 18 [some (.ref 205), none] [] (0, 0) (ab_u i12 205 8 0, l8, dd9, x10) (ab_E0 sc)
  rw [show ab_u i12 205 8 0 = i14 from e15.symm]
  refine ab_aloadn dX12_matter_18 rfl ?_
  refine ab_iconst (v := 0) dX12_matter_19 (by decide) ?_
  refine ab_putI dX12_matter_20 fl_X12_251 kd_205 rfl ?_
  obtain ⟨i16, e17⟩ : ∃ z, z = ab_u i14 205 27 0 := ⟨_, rfl⟩
  show ab_Fr MX12_matter (d + 1) Q 23 [some (.ref 205), none] [] (0, 0) (ab_u i14 205 27 0, l8, dd9, x10) (ab_E0 sc)
  rw [show ab_u i14 205 27 0 = i16 from e17.symm]
  refine ab_aloadn dX12_matter_23 rfl ?_
  refine ab_getf (v := .ref 209) dX12_matter_24 fl_X12_20 kd_205 ff_205_13 ?_
  refine ab_iconst (v := 1) dX12_matter_27 (by decide) ?_
  refine ab_iconst (v := 0) dX12_matter_28 (by decide) ?_
  refine ab_iastore dX12_matter_29 kd_209 (ab_vp (by decide)) ?_
  obtain ⟨i18, e19⟩ : ∃ z, z = ab_u i16 209 1 0 := ⟨_, rfl⟩
  show ab_Fr MX12_matter (d + 1) Q 30 [some (.ref 205), none] [] (0, 0) (ab_u i16 209 1 0, l8, dd9, x10) (ab_E0 sc)
  rw [show ab_u i16 209 1 0 = i18 from e19.symm]
  refine ab_aloadn dX12_matter_30 rfl ?_
  refine ab_getf (v := .ref 210) dX12_matter_31 fl_X12_23 kd_205 ff_205_14 ?_
  refine ab_iconst (v := 1) dX12_matter_34 (by decide) ?_
  refine ab_iconst (v := 0) dX12_matter_35 (by decide) ?_
  refine ab_iastore dX12_matter_36 kd_210 (ab_vp (by decide)) ?_
  obtain ⟨i20, e21⟩ : ∃ z, z = ab_u i18 210 1 0 := ⟨_, rfl⟩
  show ab_Fr MX12_matter (d + 1) Q 37 [some (.ref 205), none] [] (0, 0) (ab_u i18 210 1 0, l8, dd9, x10) (ab_E0 sc)
  rw [show ab_u i18 210 1 0 = i20 from e21.symm]
  refine ab_aloadn dX12_matter_37 rfl ?_
  refine ab_getf (v := .ref 219) dX12_matter_38 fl_X12_50 kd_205 ff_205_23 ?_
  refine ab_iconst (v := 1) dX12_matter_41 (by decide) ?_
  refine ab_iconst (v := 0) dX12_matter_42 (by decide) ?_
  refine ab_iastore dX12_matter_43 kd_219 (ab_vp (by decide)) ?_
  obtain ⟨i22, e23⟩ : ∃ z, z = ab_u i20 219 1 0 := ⟨_, rfl⟩
  show ab_Fr MX12_matter (d + 1) Q 44 [some (.ref 205), none] [] (0, 0) (ab_u i20 219 1 0, l8, dd9, x10) (ab_E0 sc)
  rw [show ab_u i20 219 1 0 = i22 from e23.symm]
  refine ab_aloadn dX12_matter_44 rfl ?_
  refine ab_getf (v := .ref 222) dX12_matter_45 fl_X12_59 kd_205 ff_205_26 ?_
  refine ab_iconst (v := 1) dX12_matter_48 (by decide) ?_
  refine ab_iconst (v := (-1)) dX12_matter_49 (by decide) ?_
  refine ab_iastore dX12_matter_50 kd_222 (ab_vp (by decide)) ?_
  obtain ⟨i24, e25⟩ : ∃ z, z = ab_u i22 222 1 (-1) := ⟨_, rfl⟩
  show ab_Fr MX12_matter (d + 1) Q 51 [some (.ref 205), none] [] (0, 0) (ab_u i22 222 1 (-1), l8, dd9, x10) (ab_E0 sc)
  rw [show ab_u i22 222 1 (-1) = i24 from e25.symm]
  refine ab_iconst (v := 0) dX12_matter_51 (by decide) ?_
  refine ab_istoren dX12_matter_52 (Nat.le_of_ble_eq_true rfl) (L2 := [some (.ref 205), some (.int 0)]) rfl ?_
  exact ((((((((hk6 i7 l8 dd9 x10 hp11) i12 e13) i14 e15) i16 e17) i18 e19) i20 e21) i22 e23) i24 e25)
theorem tMX12_matter_53 {d : Nat} {Q : ab_Qt} {sc : Nat × (Nat → Int32)} {i : Nat → Nat → Int32} {l : Nat → Nat → Int64} {dd : Nat → Nat → Value} {x : Nat} {a1 : Int32} 
    (h : ((9 ≤ a1 → (∀ i2, i2 = ab_u i 205 4 0 → ∃ (P5 : ab_S → Prop), ab_Sp MX12_go d [.ref 205] (i2, l, dd, x) (ab_E0 sc) (none) P5 ∧ ∀ i8 l9 dd10 x11, P5 (i8, l9, dd10, x11) → ab_Fr MX12_matter (d + 1) Q 85 [some (.ref 205), none] [] (0, 0) (i8, l9, dd10, x11) (ab_E0 sc))) ∧ (¬ 9 ≤ a1 → (vp_in (135 + a1) 144 ∧ ∀ i13, i13 = ab_u i 214 (135 + a1).toNatClampNeg (-1) → ab_Fr MX12_matter (d + 1) Q 53 [some (.ref 205), some (.int (a1 + 1))] [] (0, 0) (i13, l, dd, x) (ab_E0 sc))))) :
    ab_Fr MX12_matter (d + 1) Q 53 [some (.ref 205), some (.int a1)] [] (0, 0) (i, l, dd, x) (ab_E0 sc) := by
  refine ab_iloadn dX12_matter_53 rfl ?_
  refine ab_bipush (v := 9) dX12_matter_54 (by decide) ?_
  refine ab_icmp_ge (tgt := 76) dX12_matter_56 (by decide) (fun c1 => ?_) (fun c1 => ?_)
  · refine ab_aloadn dX12_matter_76 rfl ?_
    refine ab_iconst (v := 0) dX12_matter_77 (by decide) ?_
    refine ab_putI dX12_matter_78 fl_X12_163 kd_205 rfl ?_
    obtain ⟨i2, e3⟩ : ∃ z, z = ab_u i 205 4 0 := ⟨_, rfl⟩
    show ab_Fr MX12_matter (d + 1) Q 81 [some (.ref 205), some (.int a1)] [] (0, 0) (ab_u i 205 4 0, l, dd, x) (ab_E0 sc)
    rw [show ab_u i 205 4 0 = i2 from e3.symm]
    refine ab_aloadn dX12_matter_81 rfl ?_
    obtain ⟨P5, hs6, hk7⟩ := ((h.1 c1) i2 e3)
    refine ab_callV (vs := []) (st := []) dX12_matter_82 okMX12_go wd_1421 kd_205 rfl rfl rfl (Nat.le_of_ble_eq_true rfl) ⟨Nat.le_of_ble_eq_true rfl, Nat.le_of_ble_eq_true rfl⟩ hs6 ?_
    rintro v9 ⟨i8, l9, dd10, x11⟩ E9 - ⟨rfl, rfl, hp12⟩
    show ab_Fr MX12_matter (d + 1) Q 85 [some (.ref 205), some (.int a1)] [] (0, 0) (i8, l9, dd10, x11) (ab_E0 sc)
    refine ab_forget (i := 1) (L2 := [some (.ref 205), none]) rfl ?_
    exact (hk7 i8 l9 dd10 x11 hp12)
  · refine ab_aloadn dX12_matter_59 rfl ?_
    refine ab_getf (v := .ref 214) dX12_matter_60 fl_X12_35 kd_205 ff_205_18 ?_
    refine ab_sipush (v := 135) dX12_matter_63 (by decide) ?_
    refine ab_iloadn dX12_matter_66 rfl ?_
    refine ab_iadd dX12_matter_67 ?_
    refine ab_iconst (v := (-1)) dX12_matter_68 (by decide) ?_
    refine ab_iastore dX12_matter_69 kd_214 (h.2 c1).1 ?_
    obtain ⟨i13, e14⟩ : ∃ z, z = ab_u i 214 (135 + a1).toNatClampNeg (-1) := ⟨_, rfl⟩
    rw [show ab_u i 214 (135 + a1).toNatClampNeg (-1) = i13 from e14.symm]
    refine ab_iinc (v := (a1 + 1)) dX12_matter_70 rfl (by rfl) (Nat.le_of_ble_eq_true rfl) (L2 := [some (.ref 205), some (.int (a1 + 1))]) rfl ?_
    refine ab_goto (tgt := 53) dX12_matter_73 (by decide) ?_
    exact ((h.2 c1).2 i13 e14)
theorem tMX12_matter_85 {d : Nat} {Q : ab_Qt} {sc : Nat × (Nat → Int32)} {i : Nat → Nat → Int32} {l : Nat → Nat → Int64} {dd : Nat → Nat → Value} {x : Nat}  
    (h : (((i 205 6) = 0 → ((¬ (i 210 1) = 0 → (∃ (P4 : ab_S → Prop), ab_Sp MX12_keep d [.ref 205] (i, l, dd, x) (ab_E0 sc) (none) P4 ∧ ∀ i7 l8 dd9 x10, P4 (i7, l8, dd9, x10) → ∃ (P13 : ab_S → Prop), ab_Sp MX12_layRows d [.ref 205] (i7, l8, dd9, x10) (ab_E0 sc) (none) P13 ∧ ∀ i16 l17 dd18 x19, P13 (i16, l17, dd18, x19) → ∃ (P22 : ab_S → Prop), ab_Sp MX12_layVotes d [.ref 205] (i16, l17, dd18, x19) (ab_E0 sc) (none) P22 ∧ ∀ i25 l26 dd27 x28, P22 (i25, l26, dd27, x28) → Q (some (some (.int (i25 205 27)))) (i25, l26, dd27, x28) (ab_E0 sc))) ∧ ((i 210 1) = 0 → (∃ (r30 : Int32) (P31 : ab_S → Prop), ab_Sp MX12_bad d [.ref 205, .int 1] (i, l, dd, x) (ab_E0 sc) (some (.int r30)) P31 ∧ ∀ i34 l35 dd36 x37, P31 (i34, l35, dd36, x37) → Q (some (some (.int ((-1) - (i34 205 9))))) (i34, l35, dd36, x37) (ab_E0 sc))))) ∧ (¬ (i 205 6) = 0 → (∃ (r39 : Int32) (P40 : ab_S → Prop), ab_Sp MX12_readLine d [.ref 205] (i, l, dd, x) (ab_E0 sc) (some (.int r39)) P40 ∧ ∀ i43 l44 dd45 x46, P40 (i43, l44, dd45, x46) → ((¬ r39 = 0 → ab_Fr MX12_matter (d + 1) Q 85 [some (.ref 205), none] [] (0, 0) (i43, l44, dd45, x46) (ab_E0 sc)) ∧ (r39 = 0 → Q (some (some (.int ((-1) - (i43 205 9))))) (i43, l44, dd45, x46) (ab_E0 sc))))))) :
    ab_Fr MX12_matter (d + 1) Q 85 [some (.ref 205), none] [] (0, 0) (i, l, dd, x) (ab_E0 sc) := by
  refine ab_aloadn dX12_matter_85 rfl ?_
  refine ab_getf (v := .int (i 205 6)) dX12_matter_86 fl_X12_169 kd_205 rfl ?_
  refine ab_if_eq (tgt := 106) dX12_matter_89 (by decide) (fun c1 => ?_) (fun c1 => ?_)
  · refine ab_aloadn dX12_matter_106 rfl ?_
    refine ab_getf (v := .ref 210) dX12_matter_107 fl_X12_23 kd_205 ff_205_14 ?_
    refine ab_iconst (v := 1) dX12_matter_110 (by decide) ?_
    refine ab_iaload (v := (i 210 1)) dX12_matter_111 kd_210 (ab_vp (by decide)) rfl ?_
    refine ab_if_ne (tgt := 128) dX12_matter_112 (by decide) (fun c2 => ?_) (fun c2 => ?_)
    · refine ab_aloadn dX12_matter_128 rfl ?_
      obtain ⟨P4, hs5, hk6⟩ := ((h.1 c1).1 c2)
      refine ab_callV (vs := []) (st := []) dX12_matter_129 okMX12_keep wd_1510 kd_205 rfl rfl rfl (Nat.le_of_ble_eq_true rfl) ⟨Nat.le_of_ble_eq_true rfl, Nat.le_of_ble_eq_true rfl⟩ hs5 ?_
      rintro v9 ⟨i7, l8, dd9, x10⟩ E9 - ⟨rfl, rfl, hp11⟩
      show ab_Fr MX12_matter (d + 1) Q 132 [some (.ref 205), none] [] (0, 0) (i7, l8, dd9, x10) (ab_E0 sc)
      refine ab_aloadn dX12_matter_132 rfl ?_
      obtain ⟨P13, hs14, hk15⟩ := (hk6 i7 l8 dd9 x10 hp11)
      refine ab_callV (vs := []) (st := []) dX12_matter_133 okMX12_layRows wd_1513 kd_205 rfl rfl rfl (Nat.le_of_ble_eq_true rfl) ⟨Nat.le_of_ble_eq_true rfl, Nat.le_of_ble_eq_true rfl⟩ hs14 ?_
      rintro v9 ⟨i16, l17, dd18, x19⟩ E9 - ⟨rfl, rfl, hp20⟩
      show ab_Fr MX12_matter (d + 1) Q 136 [some (.ref 205), none] [] (0, 0) (i16, l17, dd18, x19) (ab_E0 sc)
      refine ab_aloadn dX12_matter_136 rfl ?_
      obtain ⟨P22, hs23, hk24⟩ := (hk15 i16 l17 dd18 x19 hp20)
      refine ab_callV (vs := []) (st := []) dX12_matter_137 okMX12_layVotes wd_1519 kd_205 rfl rfl rfl (Nat.le_of_ble_eq_true rfl) ⟨Nat.le_of_ble_eq_true rfl, Nat.le_of_ble_eq_true rfl⟩ hs23 ?_
      rintro v9 ⟨i25, l26, dd27, x28⟩ E9 - ⟨rfl, rfl, hp29⟩
      show ab_Fr MX12_matter (d + 1) Q 140 [some (.ref 205), none] [] (0, 0) (i25, l26, dd27, x28) (ab_E0 sc)
      refine ab_aloadn dX12_matter_140 rfl ?_
      refine ab_getf (v := .int (i25 205 27)) dX12_matter_141 fl_X12_251 kd_205 rfl ?_
      exact ab_iret dX12_matter_144 rfl ⟨Nat.zero_le _, Nat.zero_le _⟩ (hk24 i25 l26 dd27 x28 hp29)
    · refine ab_aloadn dX12_matter_115 rfl ?_
      refine ab_iconst (v := 1) dX12_matter_116 (by decide) ?_
      obtain ⟨r30, P31, hs32, hk33⟩ := ((h.1 c1).2 c2)
      refine ab_callV (vs := [.int 1]) (st := []) dX12_matter_117 okMX12_bad wd_1450 kd_205 rfl rfl rfl (Nat.le_of_ble_eq_true rfl) ⟨Nat.le_of_ble_eq_true rfl, Nat.le_of_ble_eq_true rfl⟩ hs32 ?_
      rintro v9 ⟨i34, l35, dd36, x37⟩ E9 - ⟨rfl, rfl, hp38⟩
      show ab_Fr MX12_matter (d + 1) Q 120 [some (.ref 205), none] [.int r30] (0, 0) (i34, l35, dd36, x37) (ab_E0 sc)
      refine ab_pop dX12_matter_120 rfl ?_
      refine ab_iconst (v := (-1)) dX12_matter_121 (by decide) ?_
      refine ab_aloadn dX12_matter_122 rfl ?_
      refine ab_getf (v := .int (i34 205 9)) dX12_matter_123 fl_X12_200 kd_205 rfl ?_
      refine ab_isub dX12_matter_126 ?_
      exact ab_iret dX12_matter_127 rfl ⟨Nat.zero_le _, Nat.zero_le _⟩ (hk33 i34 l35 dd36 x37 hp38)
  · refine ab_aloadn dX12_matter_92 rfl ?_
    obtain ⟨r39, P40, hs41, hk42⟩ := (h.2 c1)
    refine ab_callV (vs := []) (st := []) dX12_matter_93 okMX12_readLine wd_1435 kd_205 rfl rfl rfl (Nat.le_of_ble_eq_true rfl) ⟨Nat.le_of_ble_eq_true rfl, Nat.le_of_ble_eq_true rfl⟩ hs41 ?_
    rintro v9 ⟨i43, l44, dd45, x46⟩ E9 - ⟨rfl, rfl, hp47⟩
    show ab_Fr MX12_matter (d + 1) Q 96 [some (.ref 205), none] [.int r39] (0, 0) (i43, l44, dd45, x46) (ab_E0 sc)
    refine ab_if_ne (tgt := 85) dX12_matter_96 (by decide) (fun c48 => ?_) (fun c48 => ?_)
    · exact ((hk42 i43 l44 dd45 x46 hp47).1 c48)
    · refine ab_iconst (v := (-1)) dX12_matter_99 (by decide) ?_
      refine ab_aloadn dX12_matter_100 rfl ?_
      refine ab_getf (v := .int (i43 205 9)) dX12_matter_101 fl_X12_200 kd_205 rfl ?_
      refine ab_isub dX12_matter_104 ?_
      exact ab_iret dX12_matter_105 rfl ⟨Nat.zero_le _, Nat.zero_le _⟩ ((hk42 i43 l44 dd45 x46 hp47).2 c48)
theorem tMX12_take_0 {d : Nat} {Q : ab_Qt} {sc : Nat × (Nat → Int32)} {i : Nat → Nat → Int32} {l : Nat → Nat → Int64} {dd : Nat → Nat → Value} {x : Nat}  
    (h : (∀ i1, i1 = ab_u i 205 2 0 → Q (some (some (.int (i 205 2)))) (i1, l, dd, x) (ab_E0 sc))) :
    ab_Fr MX12_take (d + 1) Q 0 [some (.ref 205), none] [] (0, 0) (i, l, dd, x) (ab_E0 sc) := by
  refine ab_aloadn dX12_take_0 rfl ?_
  refine ab_getf (v := .int (i 205 2)) dX12_take_1 fl_X12_153 kd_205 rfl ?_
  refine ab_istoren dX12_take_4 (Nat.le_of_ble_eq_true rfl) (L2 := [some (.ref 205), some (.int (i 205 2))]) rfl ?_
  refine ab_aloadn dX12_take_5 rfl ?_
  refine ab_iconst (v := 0) dX12_take_6 (by decide) ?_
  refine ab_putI dX12_take_7 fl_X12_153 kd_205 rfl ?_
  obtain ⟨i1, e2⟩ : ∃ z, z = ab_u i 205 2 0 := ⟨_, rfl⟩
  show ab_Fr MX12_take (d + 1) Q 10 [some (.ref 205), some (.int (i 205 2))] [] (0, 0) (ab_u i 205 2 0, l, dd, x) (ab_E0 sc)
  rw [show ab_u i 205 2 0 = i1 from e2.symm]
  refine ab_iloadn dX12_take_10 rfl ?_
  exact ab_iret dX12_take_11 rfl ⟨Nat.zero_le _, Nat.zero_le _⟩ (h i1 e2)
theorem tMX12_go_0 {d : Nat} {Q : ab_Qt} {sc : Nat × (Nat → Int32)} {i : Nat → Nat → Int32} {l : Nat → Nat → Int64} {dd : Nat → Nat → Value} {x : Nat}  
    (h : (((i 205 3) ≤ (i 205 4) → ab_Fr MX12_go (d + 1) Q 52 [some (.ref 205), none, none, none, none] [] (0, 0) (i, l, dd, x) (ab_E0 sc)) ∧ (¬ (i 205 3) ≤ (i 205 4) → (vp_in (i 205 4) 740 ∧ (((i 206 (i 205 4).toNatClampNeg) = 32 → (∀ i3, i3 = ab_u i 205 4 ((i 205 4) + 1) → ab_Fr MX12_go (d + 1) Q 0 [some (.ref 205), none, none, none, none] [] (0, 0) (i3, l, dd, x) (ab_E0 sc))) ∧ (¬ (i 206 (i 205 4).toNatClampNeg) = 32 → (vp_in (i 205 4) 740 ∧ ((¬ (i 206 (i 205 4).toNatClampNeg) = 10 → ab_Fr MX12_go (d + 1) Q 52 [some (.ref 205), none, none, none, none] [] (0, 0) (i, l, dd, x) (ab_E0 sc)) ∧ ((i 206 (i 205 4).toNatClampNeg) = 10 → (∀ i6, i6 = ab_u i 205 4 ((i 205 4) + 1) → ab_Fr MX12_go (d + 1) Q 0 [some (.ref 205), none, none, none, none] [] (0, 0) (i6, l, dd, x) (ab_E0 sc))))))))))) :
    ab_Fr MX12_go (d + 1) Q 0 [some (.ref 205), none, none, none, none] [] (0, 0) (i, l, dd, x) (ab_E0 sc) := by
  refine ab_aloadn dX12_go_0 rfl ?_
  refine ab_getf (v := .int (i 205 4)) dX12_go_1 fl_X12_163 kd_205 rfl ?_
  refine ab_aloadn dX12_go_4 rfl ?_
  refine ab_getf (v := .int (i 205 3)) dX12_go_5 fl_X12_160 kd_205 rfl ?_
  refine ab_icmp_ge (tgt := 52) dX12_go_8 (by decide) (fun c1 => ?_) (fun c1 => ?_)
  · exact (h.1 c1)
  · refine ab_aloadn dX12_go_11 rfl ?_
    refine ab_getf (v := .ref 206) dX12_go_12 fl_X12_7 kd_205 ff_205_1 ?_
    refine ab_aloadn dX12_go_15 rfl ?_
    refine ab_getf (v := .int (i 205 4)) dX12_go_16 fl_X12_163 kd_205 rfl ?_
    refine ab_iaload (v := (i 206 (i 205 4).toNatClampNeg)) dX12_go_19 kd_206 (h.2 c1).1 rfl ?_
    refine ab_bipush (v := 32) dX12_go_20 (by decide) ?_
    refine ab_icmp_eq (tgt := 39) dX12_go_22 (by decide) (fun c2 => ?_) (fun c2 => ?_)
    · refine ab_aloadn dX12_go_39 rfl ?_
      refine ab_dup dX12_go_40 rfl ?_
      refine ab_getf (v := .int (i 205 4)) dX12_go_41 fl_X12_163 kd_205 rfl ?_
      refine ab_iconst (v := 1) dX12_go_44 (by decide) ?_
      refine ab_iadd dX12_go_45 ?_
      refine ab_putI dX12_go_46 fl_X12_163 kd_205 rfl ?_
      obtain ⟨i3, e4⟩ : ∃ z, z = ab_u i 205 4 ((i 205 4) + 1) := ⟨_, rfl⟩
      show ab_Fr MX12_go (d + 1) Q 49 [some (.ref 205), none, none, none, none] [] (0, 0) (ab_u i 205 4 ((i 205 4) + 1), l, dd, x) (ab_E0 sc)
      rw [show ab_u i 205 4 ((i 205 4) + 1) = i3 from e4.symm]
      refine ab_goto (tgt := 0) dX12_go_49 (by decide) ?_
      exact (((h.2 c1).2.1 c2) i3 e4)
    · refine ab_aloadn dX12_go_25 rfl ?_
      refine ab_getf (v := .ref 206) dX12_go_26 fl_X12_7 kd_205 ff_205_1 ?_
      refine ab_aloadn dX12_go_29 rfl ?_
      refine ab_getf (v := .int (i 205 4)) dX12_go_30 fl_X12_163 kd_205 rfl ?_
      refine ab_iaload (v := (i 206 (i 205 4).toNatClampNeg)) dX12_go_33 kd_206 ((h.2 c1).2.2 c2).1 rfl ?_
      refine ab_bipush (v := 10) dX12_go_34 (by decide) ?_
      refine ab_icmp_ne (tgt := 52) dX12_go_36 (by decide) (fun c5 => ?_) (fun c5 => ?_)
      · exact (((h.2 c1).2.2 c2).2.1 c5)
      · refine ab_aloadn dX12_go_39 rfl ?_
        refine ab_dup dX12_go_40 rfl ?_
        refine ab_getf (v := .int (i 205 4)) dX12_go_41 fl_X12_163 kd_205 rfl ?_
        refine ab_iconst (v := 1) dX12_go_44 (by decide) ?_
        refine ab_iadd dX12_go_45 ?_
        refine ab_putI dX12_go_46 fl_X12_163 kd_205 rfl ?_
        obtain ⟨i6, e7⟩ : ∃ z, z = ab_u i 205 4 ((i 205 4) + 1) := ⟨_, rfl⟩
        show ab_Fr MX12_go (d + 1) Q 49 [some (.ref 205), none, none, none, none] [] (0, 0) (ab_u i 205 4 ((i 205 4) + 1), l, dd, x) (ab_E0 sc)
        rw [show ab_u i 205 4 ((i 205 4) + 1) = i6 from e7.symm]
        refine ab_goto (tgt := 0) dX12_go_49 (by decide) ?_
        exact ((((h.2 c1).2.2 c2).2.2 c5) i6 e7)
theorem tMX12_go_52 {d : Nat} {Q : ab_Qt} {sc : Nat × (Nat → Int32)} {i : Nat → Nat → Int32} {l : Nat → Nat → Int64} {dd : Nat → Nat → Value} {x : Nat}  
    (h : (∀ i1, i1 = ab_u i 205 5 (i 205 4) → (((i1 205 3) ≤ 700 → ab_Fr MX12_go (d + 1) Q 93 [some (.ref 205), none, none, none, none] [] (0, 0) (i1, l, dd, x) (ab_E0 sc)) ∧ (¬ (i1 205 3) ≤ 700 → (((i1 205 5) < 700 → ab_Fr MX12_go (d + 1) Q 93 [some (.ref 205), none, none, none, none] [] (0, 0) (i1, l, dd, x) (ab_E0 sc)) ∧ (¬ (i1 205 5) < 700 → (∀ i5, i5 = ab_u i1 205 5 700 → ∀ i7, i7 = ab_u i5 205 6 1 → Q (some none) (i7, l, dd, x) (ab_E0 sc)))))))) :
    ab_Fr MX12_go (d + 1) Q 52 [some (.ref 205), none, none, none, none] [] (0, 0) (i, l, dd, x) (ab_E0 sc) := by
  refine ab_aloadn dX12_go_52 rfl ?_
  refine ab_aloadn dX12_go_53 rfl ?_
  refine ab_getf (v := .int (i 205 4)) dX12_go_54 fl_X12_163 kd_205 rfl ?_
  refine ab_putI dX12_go_57 fl_X12_166 kd_205 rfl ?_
  obtain ⟨i1, e2⟩ : ∃ z, z = ab_u i 205 5 (i 205 4) := ⟨_, rfl⟩
  show ab_Fr MX12_go (d + 1) Q 60 [some (.ref 205), none, none, none, none] [] (0, 0) (ab_u i 205 5 (i 205 4), l, dd, x) (ab_E0 sc)
  rw [show ab_u i 205 5 (i 205 4) = i1 from e2.symm]
  refine ab_aloadn dX12_go_60 rfl ?_
  refine ab_getf (v := .int (i1 205 3)) dX12_go_61 fl_X12_160 kd_205 rfl ?_
  refine ab_sipush (v := 700) dX12_go_64 (by decide) ?_
  refine ab_icmp_le (tgt := 93) dX12_go_67 (by decide) (fun c3 => ?_) (fun c3 => ?_)
  · exact ((h i1 e2).1 c3)
  · refine ab_aloadn dX12_go_70 rfl ?_
    refine ab_getf (v := .int (i1 205 5)) dX12_go_71 fl_X12_166 kd_205 rfl ?_
    refine ab_sipush (v := 700) dX12_go_74 (by decide) ?_
    refine ab_icmp_lt (tgt := 93) dX12_go_77 (by decide) (fun c4 => ?_) (fun c4 => ?_)
    · exact (((h i1 e2).2 c3).1 c4)
    · refine ab_aloadn dX12_go_80 rfl ?_
      refine ab_sipush (v := 700) dX12_go_81 (by decide) ?_
      refine ab_putI dX12_go_84 fl_X12_166 kd_205 rfl ?_
      obtain ⟨i5, e6⟩ : ∃ z, z = ab_u i1 205 5 700 := ⟨_, rfl⟩
      show ab_Fr MX12_go (d + 1) Q 87 [some (.ref 205), none, none, none, none] [] (0, 0) (ab_u i1 205 5 700, l, dd, x) (ab_E0 sc)
      rw [show ab_u i1 205 5 700 = i5 from e6.symm]
      refine ab_aloadn dX12_go_87 rfl ?_
      refine ab_iconst (v := 1) dX12_go_88 (by decide) ?_
      refine ab_putI dX12_go_89 fl_X12_169 kd_205 rfl ?_
      obtain ⟨i7, e8⟩ : ∃ z, z = ab_u i5 205 6 1 := ⟨_, rfl⟩
      show ab_Fr MX12_go (d + 1) Q 92 [some (.ref 205), none, none, none, none] [] (0, 0) (ab_u i5 205 6 1, l, dd, x) (ab_E0 sc)
      rw [show ab_u i5 205 6 1 = i7 from e8.symm]
      exact ab_vret dX12_go_92 rfl ⟨Nat.zero_le _, Nat.zero_le _⟩ (((((h i1 e2).2 c3).2 c4) i5 e6) i7 e8)
theorem tMX12_go_93 {d : Nat} {Q : ab_Qt} {sc : Nat × (Nat → Int32)} {i : Nat → Nat → Int32} {l : Nat → Nat → Int64} {dd : Nat → Nat → Value} {x : Nat}  
    (h : (((i 205 4) < (i 205 3) → (vp_in (i 205 4) 740 ∧ ∃ (r2 : Int32) (P3 : ab_S → Prop), ab_Sp MX12_isLetter d [.int (i 206 (i 205 4).toNatClampNeg)] (i, l, dd, x) (ab_E0 sc) (some (.int r2)) P3 ∧ ∀ i6 l7 dd8 x9, P3 (i6, l7, dd8, x9) → ((¬ r2 = 0 → ab_Fr MX12_go (d + 1) Q 160 [some (.ref 205), some (.int (i 206 (i 205 4).toNatClampNeg)), none, none, none] [] (0, 0) (i6, l7, dd8, x9) (ab_E0 sc)) ∧ (r2 = 0 → (∃ (r12 : Int32) (P13 : ab_S → Prop), ab_Sp MX12_isDigit d [.int (i 206 (i 205 4).toNatClampNeg)] (i6, l7, dd8, x9) (ab_E0 sc) (some (.int r12)) P13 ∧ ∀ i16 l17 dd18 x19, P13 (i16, l17, dd18, x19) → ((¬ r12 = 0 → ab_Fr MX12_go (d + 1) Q 160 [some (.ref 205), some (.int (i 206 (i 205 4).toNatClampNeg)), none, none, none] [] (0, 0) (i16, l17, dd18, x19) (ab_E0 sc)) ∧ (r12 = 0 → ((¬ (i 206 (i 205 4).toNatClampNeg) = 59 → ab_Fr MX12_go (d + 1) Q 146 [some (.ref 205), none, none, none, none] [.int 1, .ref 205] (0, 0) (i16, l17, dd18, x19) (ab_E0 sc)) ∧ ((i 206 (i 205 4).toNatClampNeg) = 59 → ab_Fr MX12_go (d + 1) Q 146 [some (.ref 205), none, none, none, none] [.int 4, .ref 205] (0, 0) (i16, l17, dd18, x19) (ab_E0 sc)))))))))) ∧ (¬ (i 205 4) < (i 205 3) → (∀ i23, i23 = ab_u i 205 6 0 → Q (some none) (i23, l, dd, x) (ab_E0 sc))))) :
    ab_Fr MX12_go (d + 1) Q 93 [some (.ref 205), none, none, none, none] [] (0, 0) (i, l, dd, x) (ab_E0 sc) := by
  refine ab_aloadn dX12_go_93 rfl ?_
  refine ab_getf (v := .int (i 205 4)) dX12_go_94 fl_X12_163 kd_205 rfl ?_
  refine ab_aloadn dX12_go_97 rfl ?_
  refine ab_getf (v := .int (i 205 3)) dX12_go_98 fl_X12_160 kd_205 rfl ?_
  refine ab_icmp_lt (tgt := 110) dX12_go_101 (by decide) (fun c1 => ?_) (fun c1 => ?_)
  · refine ab_aloadn dX12_go_110 rfl ?_
    refine ab_getf (v := .ref 206) dX12_go_111 fl_X12_7 kd_205 ff_205_1 ?_
    refine ab_aloadn dX12_go_114 rfl ?_
    refine ab_getf (v := .int (i 205 4)) dX12_go_115 fl_X12_163 kd_205 rfl ?_
    refine ab_iaload (v := (i 206 (i 205 4).toNatClampNeg)) dX12_go_118 kd_206 (h.1 c1).1 rfl ?_
    refine ab_istoren dX12_go_119 (Nat.le_of_ble_eq_true rfl) (L2 := [some (.ref 205), some (.int (i 206 (i 205 4).toNatClampNeg)), none, none, none]) rfl ?_
    refine ab_iloadn dX12_go_120 rfl ?_
    obtain ⟨r2, P3, hs4, hk5⟩ := (h.1 c1).2
    refine ab_callS (vs := [.int (i 206 (i 205 4).toNatClampNeg)]) (st := []) dX12_go_121 okMX12_isLetter wd_1424 rfl rfl (Nat.le_of_ble_eq_true rfl) ⟨Nat.le_of_ble_eq_true rfl, Nat.le_of_ble_eq_true rfl⟩ hs4 ?_
    rintro v9 ⟨i6, l7, dd8, x9⟩ E9 - ⟨rfl, rfl, hp10⟩
    show ab_Fr MX12_go (d + 1) Q 124 [some (.ref 205), some (.int (i 206 (i 205 4).toNatClampNeg)), none, none, none] [.int r2] (0, 0) (i6, l7, dd8, x9) (ab_E0 sc)
    refine ab_if_ne (tgt := 160) dX12_go_124 (by decide) (fun c11 => ?_) (fun c11 => ?_)
    · exact ((hk5 i6 l7 dd8 x9 hp10).1 c11)
    · refine ab_iloadn dX12_go_127 rfl ?_
      obtain ⟨r12, P13, hs14, hk15⟩ := ((hk5 i6 l7 dd8 x9 hp10).2 c11)
      refine ab_callS (vs := [.int (i 206 (i 205 4).toNatClampNeg)]) (st := []) dX12_go_128 okMX12_isDigit wd_1427 rfl rfl (Nat.le_of_ble_eq_true rfl) ⟨Nat.le_of_ble_eq_true rfl, Nat.le_of_ble_eq_true rfl⟩ hs14 ?_
      rintro v9 ⟨i16, l17, dd18, x19⟩ E9 - ⟨rfl, rfl, hp20⟩
      show ab_Fr MX12_go (d + 1) Q 131 [some (.ref 205), some (.int (i 206 (i 205 4).toNatClampNeg)), none, none, none] [.int r12] (0, 0) (i16, l17, dd18, x19) (ab_E0 sc)
      refine ab_if_ne (tgt := 160) dX12_go_131 (by decide) (fun c21 => ?_) (fun c21 => ?_)
      · exact ((hk15 i16 l17 dd18 x19 hp20).1 c21)
      · refine ab_aloadn dX12_go_134 rfl ?_
        refine ab_iloadn dX12_go_135 rfl ?_
        refine ab_bipush (v := 59) dX12_go_136 (by decide) ?_
        refine ab_icmp_ne (tgt := 145) dX12_go_138 (by decide) (fun c22 => ?_) (fun c22 => ?_)
        · refine ab_iconst (v := 1) dX12_go_145 (by decide) ?_
          refine ab_forget (i := 1) (L2 := [some (.ref 205), none, none, none, none]) rfl ?_
          exact (((hk15 i16 l17 dd18 x19 hp20).2 c21).1 c22)
        · refine ab_iconst (v := 4) dX12_go_141 (by decide) ?_
          refine ab_goto (tgt := 146) dX12_go_142 (by decide) ?_
          refine ab_forget (i := 1) (L2 := [some (.ref 205), none, none, none, none]) rfl ?_
          exact (((hk15 i16 l17 dd18 x19 hp20).2 c21).2 c22)
  · refine ab_aloadn dX12_go_104 rfl ?_
    refine ab_iconst (v := 0) dX12_go_105 (by decide) ?_
    refine ab_putI dX12_go_106 fl_X12_169 kd_205 rfl ?_
    obtain ⟨i23, e24⟩ : ∃ z, z = ab_u i 205 6 0 := ⟨_, rfl⟩
    show ab_Fr MX12_go (d + 1) Q 109 [some (.ref 205), none, none, none, none] [] (0, 0) (ab_u i 205 6 0, l, dd, x) (ab_E0 sc)
    rw [show ab_u i 205 6 0 = i23 from e24.symm]
    exact ab_vret dX12_go_109 rfl ⟨Nat.zero_le _, Nat.zero_le _⟩ ((h.2 c1) i23 e24)
theorem tMX12_go_146 {d : Nat} {Q : ab_Qt} {sc : Nat × (Nat → Int32)} {i : Nat → Nat → Int32} {l : Nat → Nat → Int64} {dd : Nat → Nat → Value} {x : Nat} {s1 : Int32} 
    (h : (∀ i1, i1 = ab_u i 205 6 s1 → ∀ i3, i3 = ab_u i1 205 4 ((i1 205 4) + 1) → Q (some none) (i3, l, dd, x) (ab_E0 sc))) :
    ab_Fr MX12_go (d + 1) Q 146 [some (.ref 205), none, none, none, none] [.int s1, .ref 205] (0, 0) (i, l, dd, x) (ab_E0 sc) := by
  refine ab_putI dX12_go_146 fl_X12_169 kd_205 rfl ?_
  obtain ⟨i1, e2⟩ : ∃ z, z = ab_u i 205 6 s1 := ⟨_, rfl⟩
  show ab_Fr MX12_go (d + 1) Q 149 [some (.ref 205), none, none, none, none] [] (0, 0) (ab_u i 205 6 s1, l, dd, x) (ab_E0 sc)
  rw [show ab_u i 205 6 s1 = i1 from e2.symm]
  refine ab_aloadn dX12_go_149 rfl ?_
  refine ab_dup dX12_go_150 rfl ?_
  refine ab_getf (v := .int (i1 205 4)) dX12_go_151 fl_X12_163 kd_205 rfl ?_
  refine ab_iconst (v := 1) dX12_go_154 (by decide) ?_
  refine ab_iadd dX12_go_155 ?_
  refine ab_putI dX12_go_156 fl_X12_163 kd_205 rfl ?_
  obtain ⟨i3, e4⟩ : ∃ z, z = ab_u i1 205 4 ((i1 205 4) + 1) := ⟨_, rfl⟩
  show ab_Fr MX12_go (d + 1) Q 159 [some (.ref 205), none, none, none, none] [] (0, 0) (ab_u i1 205 4 ((i1 205 4) + 1), l, dd, x) (ab_E0 sc)
  rw [show ab_u i1 205 4 ((i1 205 4) + 1) = i3 from e4.symm]
  exact ab_vret dX12_go_159 rfl ⟨Nat.zero_le _, Nat.zero_le _⟩ ((h i1 e2) i3 e4)
theorem tMX12_go_160 {d : Nat} {Q : ab_Qt} {sc : Nat × (Nat → Int32)} {i : Nat → Nat → Int32} {l : Nat → Nat → Int64} {dd : Nat → Nat → Value} {x : Nat} {a1 : Int32} 
    (h : (∃ (r1 : Int32) (P2 : ab_S → Prop), ab_Sp MX12_isLetter d [.int a1] (i, l, dd, x) (ab_E0 sc) (some (.int r1)) P2 ∧ ∀ i5 l6 dd7 x8, P2 (i5, l6, dd7, x8) → ∀ l10, l10 = ab_u l6 205 10 0 → ∀ i12, i12 = ab_u i5 205 7 0 → ab_Fr MX12_go (d + 1) Q 177 [some (.ref 205), none, some (.int r1), some (.int 1), none] [] (0, 0) (i12, l10, dd7, x8) (ab_E0 sc))) :
    ab_Fr MX12_go (d + 1) Q 160 [some (.ref 205), some (.int a1), none, none, none] [] (0, 0) (i, l, dd, x) (ab_E0 sc) := by
  refine ab_iloadn dX12_go_160 rfl ?_
  obtain ⟨r1, P2, hs3, hk4⟩ := h
  refine ab_callS (vs := [.int a1]) (st := []) dX12_go_161 okMX12_isLetter wd_1424 rfl rfl (Nat.le_of_ble_eq_true rfl) ⟨Nat.le_of_ble_eq_true rfl, Nat.le_of_ble_eq_true rfl⟩ hs3 ?_
  rintro v9 ⟨i5, l6, dd7, x8⟩ E9 - ⟨rfl, rfl, hp9⟩
  show ab_Fr MX12_go (d + 1) Q 164 [some (.ref 205), some (.int a1), none, none, none] [.int r1] (0, 0) (i5, l6, dd7, x8) (ab_E0 sc)
  refine ab_istoren dX12_go_164 (Nat.le_of_ble_eq_true rfl) (L2 := [some (.ref 205), some (.int a1), some (.int r1), none, none]) rfl ?_
  refine ab_iconst (v := 1) dX12_go_165 (by decide) ?_
  refine ab_istoren dX12_go_166 (Nat.le_of_ble_eq_true rfl) (L2 := [some (.ref 205), some (.int a1), some (.int r1), some (.int 1), none]) rfl ?_
  refine ab_aloadn dX12_go_167 rfl ?_
  refine ab_lconst (v := 0) dX12_go_168 (by decide) ?_
  refine ab_putL dX12_go_169 fl_X12_179 kd_205 rfl ?_
  obtain ⟨l10, e11⟩ : ∃ z, z = ab_u l6 205 10 0 := ⟨_, rfl⟩
  show ab_Fr MX12_go (d + 1) Q 172 [some (.ref 205), some (.int a1), some (.int r1), some (.int 1), none] [] (0, 0) (i5, ab_u l6 205 10 0, dd7, x8) (ab_E0 sc)
  rw [show ab_u l6 205 10 0 = l10 from e11.symm]
  refine ab_aloadn dX12_go_172 rfl ?_
  refine ab_iconst (v := 0) dX12_go_173 (by decide) ?_
  refine ab_putI dX12_go_174 fl_X12_182 kd_205 rfl ?_
  obtain ⟨i12, e13⟩ : ∃ z, z = ab_u i5 205 7 0 := ⟨_, rfl⟩
  show ab_Fr MX12_go (d + 1) Q 177 [some (.ref 205), some (.int a1), some (.int r1), some (.int 1), none] [] (0, 0) (ab_u i5 205 7 0, l10, dd7, x8) (ab_E0 sc)
  rw [show ab_u i5 205 7 0 = i12 from e13.symm]
  refine ab_forget (i := 1) (L2 := [some (.ref 205), none, some (.int r1), some (.int 1), none]) rfl ?_
  exact (((hk4 i5 l6 dd7 x8 hp9) l10 e11) i12 e13)
theorem tMX12_go_177 {d : Nat} {Q : ab_Qt} {sc : Nat × (Nat → Int32)} {i : Nat → Nat → Int32} {l : Nat → Nat → Int64} {dd : Nat → Nat → Value} {x : Nat} {a2 : Int32} {a3 : Int32} 
    (h : (∃ (r1 : Int32) (P2 : ab_S → Prop), ab_Sp MX12_byteAt d [.ref 205, .int (i 205 4)] (i, l, dd, x) (ab_E0 sc) (some (.int r1)) P2 ∧ ∀ i5 l6 dd7 x8, P2 (i5, l6, dd7, x8) → ∃ (r10 : Int32) (P11 : ab_S → Prop), ab_Sp MX12_isLetter d [.int r1] (i5, l6, dd7, x8) (ab_E0 sc) (some (.int r10)) P11 ∧ ∀ i14 l15 dd16 x17, P11 (i14, l15, dd16, x17) → ((¬ r10 = 0 → ab_Fr MX12_go (d + 1) Q 205 [some (.ref 205), none, some (.int a2), some (.int a3), none] [] (0, 0) (i14, l15, dd16, x17) (ab_E0 sc)) ∧ (r10 = 0 → (∃ (r20 : Int32) (P21 : ab_S → Prop), ab_Sp MX12_byteAt d [.ref 205, .int (i14 205 4)] (i14, l15, dd16, x17) (ab_E0 sc) (some (.int r20)) P21 ∧ ∀ i24 l25 dd26 x27, P21 (i24, l25, dd26, x27) → ∃ (r29 : Int32) (P30 : ab_S → Prop), ab_Sp MX12_isDigit d [.int r20] (i24, l25, dd26, x27) (ab_E0 sc) (some (.int r29)) P30 ∧ ∀ i33 l34 dd35 x36, P30 (i33, l34, dd35, x36) → ((r29 = 0 → ((a3 = 0 → (∀ i40, i40 = ab_u i33 205 6 1 → Q (some none) (i40, l34, dd35, x36) (ab_E0 sc))) ∧ (¬ a3 = 0 → ((a2 = 0 → ab_Fr MX12_go (d + 1) Q 336 [none, none, some (.int a2), none, none] [.int 2, .int ((i33 205 4) - (i33 205 5)), .ref 205] (0, 0) (i33, l34, dd35, x36) (ab_E0 sc)) ∧ (¬ a2 = 0 → ab_Fr MX12_go (d + 1) Q 336 [none, none, some (.int a2), none, none] [.int 6, .int ((i33 205 4) - (i33 205 5)), .ref 205] (0, 0) (i33, l34, dd35, x36) (ab_E0 sc)))))) ∧ (¬ r29 = 0 → ab_Fr MX12_go (d + 1) Q 205 [some (.ref 205), none, some (.int a2), some (.int a3), none] [] (0, 0) (i33, l34, dd35, x36) (ab_E0 sc)))))))) :
    ab_Fr MX12_go (d + 1) Q 177 [some (.ref 205), none, some (.int a2), some (.int a3), none] [] (0, 0) (i, l, dd, x) (ab_E0 sc) := by
  refine ab_aloadn dX12_go_177 rfl ?_
  refine ab_aloadn dX12_go_178 rfl ?_
  refine ab_getf (v := .int (i 205 4)) dX12_go_179 fl_X12_163 kd_205 rfl ?_
  obtain ⟨r1, P2, hs3, hk4⟩ := h
  refine ab_callV (vs := [.int (i 205 4)]) (st := []) dX12_go_182 okMX12_byteAt wd_1430 kd_205 rfl rfl rfl (Nat.le_of_ble_eq_true rfl) ⟨Nat.le_of_ble_eq_true rfl, Nat.le_of_ble_eq_true rfl⟩ hs3 ?_
  rintro v9 ⟨i5, l6, dd7, x8⟩ E9 - ⟨rfl, rfl, hp9⟩
  show ab_Fr MX12_go (d + 1) Q 185 [some (.ref 205), none, some (.int a2), some (.int a3), none] [.int r1] (0, 0) (i5, l6, dd7, x8) (ab_E0 sc)
  obtain ⟨r10, P11, hs12, hk13⟩ := (hk4 i5 l6 dd7 x8 hp9)
  refine ab_callS (vs := [.int r1]) (st := []) dX12_go_185 okMX12_isLetter wd_1424 rfl rfl (Nat.le_of_ble_eq_true rfl) ⟨Nat.le_of_ble_eq_true rfl, Nat.le_of_ble_eq_true rfl⟩ hs12 ?_
  rintro v9 ⟨i14, l15, dd16, x17⟩ E9 - ⟨rfl, rfl, hp18⟩
  show ab_Fr MX12_go (d + 1) Q 188 [some (.ref 205), none, some (.int a2), some (.int a3), none] [.int r10] (0, 0) (i14, l15, dd16, x17) (ab_E0 sc)
  refine ab_if_ne (tgt := 205) dX12_go_188 (by decide) (fun c19 => ?_) (fun c19 => ?_)
  · exact ((hk13 i14 l15 dd16 x17 hp18).1 c19)
  · refine ab_aloadn dX12_go_191 rfl ?_
    refine ab_aloadn dX12_go_192 rfl ?_
    refine ab_getf (v := .int (i14 205 4)) dX12_go_193 fl_X12_163 kd_205 rfl ?_
    obtain ⟨r20, P21, hs22, hk23⟩ := ((hk13 i14 l15 dd16 x17 hp18).2 c19)
    refine ab_callV (vs := [.int (i14 205 4)]) (st := []) dX12_go_196 okMX12_byteAt wd_1430 kd_205 rfl rfl rfl (Nat.le_of_ble_eq_true rfl) ⟨Nat.le_of_ble_eq_true rfl, Nat.le_of_ble_eq_true rfl⟩ hs22 ?_
    rintro v9 ⟨i24, l25, dd26, x27⟩ E9 - ⟨rfl, rfl, hp28⟩
    show ab_Fr MX12_go (d + 1) Q 199 [some (.ref 205), none, some (.int a2), some (.int a3), none] [.int r20] (0, 0) (i24, l25, dd26, x27) (ab_E0 sc)
    obtain ⟨r29, P30, hs31, hk32⟩ := (hk23 i24 l25 dd26 x27 hp28)
    refine ab_callS (vs := [.int r20]) (st := []) dX12_go_199 okMX12_isDigit wd_1427 rfl rfl (Nat.le_of_ble_eq_true rfl) ⟨Nat.le_of_ble_eq_true rfl, Nat.le_of_ble_eq_true rfl⟩ hs31 ?_
    rintro v9 ⟨i33, l34, dd35, x36⟩ E9 - ⟨rfl, rfl, hp37⟩
    show ab_Fr MX12_go (d + 1) Q 202 [some (.ref 205), none, some (.int a2), some (.int a3), none] [.int r29] (0, 0) (i33, l34, dd35, x36) (ab_E0 sc)
    refine ab_if_eq (tgt := 312) dX12_go_202 (by decide) (fun c38 => ?_) (fun c38 => ?_)
    · refine ab_aloadn dX12_go_312 rfl ?_
      refine ab_iloadn dX12_go_313 rfl ?_
      refine ab_if_eq (tgt := 339) dX12_go_314 (by decide) (fun c39 => ?_) (fun c39 => ?_)
      · refine ab_iconst (v := 1) dX12_go_339 (by decide) ?_
        refine ab_goto (tgt := 352) dX12_go_340 (by decide) ?_
        refine ab_putI dX12_go_352 fl_X12_169 kd_205 rfl ?_
        obtain ⟨i40, e41⟩ : ∃ z, z = ab_u i33 205 6 1 := ⟨_, rfl⟩
        show ab_Fr MX12_go (d + 1) Q 355 [some (.ref 205), none, some (.int a2), some (.int a3), none] [] (0, 0) (ab_u i33 205 6 1, l34, dd35, x36) (ab_E0 sc)
        rw [show ab_u i33 205 6 1 = i40 from e41.symm]
        exact ab_vret dX12_go_355 rfl ⟨Nat.zero_le _, Nat.zero_le _⟩ ((((hk32 i33 l34 dd35 x36 hp37).1 c38).1 c39) i40 e41)
      · refine ab_aloadn dX12_go_317 rfl ?_
        refine ab_getf (v := .int (i33 205 4)) dX12_go_318 fl_X12_163 kd_205 rfl ?_
        refine ab_aloadn dX12_go_321 rfl ?_
        refine ab_getf (v := .int (i33 205 5)) dX12_go_322 fl_X12_166 kd_205 rfl ?_
        refine ab_isub dX12_go_325 ?_
        refine ab_iloadn dX12_go_326 rfl ?_
        refine ab_if_eq (tgt := 335) dX12_go_327 (by decide) (fun c42 => ?_) (fun c42 => ?_)
        · refine ab_iconst (v := 2) dX12_go_335 (by decide) ?_
          refine ab_forget (i := 0) (L2 := [none, none, some (.int a2), some (.int a3), none]) rfl ?_
          refine ab_forget (i := 3) (L2 := [none, none, some (.int a2), none, none]) rfl ?_
          exact ((((hk32 i33 l34 dd35 x36 hp37).1 c38).2 c39).1 c42)
        · refine ab_bipush (v := 6) dX12_go_330 (by decide) ?_
          refine ab_goto (tgt := 336) dX12_go_332 (by decide) ?_
          refine ab_forget (i := 0) (L2 := [none, none, some (.int a2), some (.int a3), none]) rfl ?_
          refine ab_forget (i := 3) (L2 := [none, none, some (.int a2), none, none]) rfl ?_
          exact ((((hk32 i33 l34 dd35 x36 hp37).1 c38).2 c39).2 c42)
    · exact ((hk32 i33 l34 dd35 x36 hp37).2 c38)
theorem tMX12_go_205 {d : Nat} {Q : ab_Qt} {sc : Nat × (Nat → Int32)} {i : Nat → Nat → Int32} {l : Nat → Nat → Int64} {dd : Nat → Nat → Value} {x : Nat} {a2 : Int32} {a3 : Int32} 
    (h : (vp_in (i 205 4) 740 ∧ ((a3 = 0 → ab_Fr MX12_go (d + 1) Q 233 [some (.ref 205), none, some (.int a2), none, some (.int (i 206 (i 205 4).toNatClampNeg))] [] (0, 0) (i, l, dd, x) (ab_E0 sc)) ∧ (¬ a3 = 0 → (∃ (r2 : Int32) (P3 : ab_S → Prop), ab_Sp MX12_isLetter d [.int (i 206 (i 205 4).toNatClampNeg)] (i, l, dd, x) (ab_E0 sc) (some (.int r2)) P3 ∧ ∀ i6 l7 dd8 x9, P3 (i6, l7, dd8, x9) → ((¬ r2 = a2 → ab_Fr MX12_go (d + 1) Q 233 [some (.ref 205), none, some (.int a2), none, some (.int (i 206 (i 205 4).toNatClampNeg))] [] (0, 0) (i6, l7, dd8, x9) (ab_E0 sc)) ∧ (r2 = a2 → ab_Fr MX12_go (d + 1) Q 234 [some (.ref 205), none, some (.int a2), none, some (.int (i 206 (i 205 4).toNatClampNeg))] [.int 1] (0, 0) (i6, l7, dd8, x9) (ab_E0 sc)))))))) :
    ab_Fr MX12_go (d + 1) Q 205 [some (.ref 205), none, some (.int a2), some (.int a3), none] [] (0, 0) (i, l, dd, x) (ab_E0 sc) := by
  refine ab_aloadn dX12_go_205 rfl ?_
  refine ab_getf (v := .ref 206) dX12_go_206 fl_X12_7 kd_205 ff_205_1 ?_
  refine ab_aloadn dX12_go_209 rfl ?_
  refine ab_getf (v := .int (i 205 4)) dX12_go_210 fl_X12_163 kd_205 rfl ?_
  refine ab_iaload (v := (i 206 (i 205 4).toNatClampNeg)) dX12_go_213 kd_206 h.1 rfl ?_
  refine ab_istore dX12_go_214 (Nat.le_of_ble_eq_true rfl) (L2 := [some (.ref 205), none, some (.int a2), some (.int a3), some (.int (i 206 (i 205 4).toNatClampNeg))]) rfl ?_
  refine ab_iloadn dX12_go_216 rfl ?_
  refine ab_if_eq (tgt := 233) dX12_go_217 (by decide) (fun c1 => ?_) (fun c1 => ?_)
  · refine ab_forget (i := 3) (L2 := [some (.ref 205), none, some (.int a2), none, some (.int (i 206 (i 205 4).toNatClampNeg))]) rfl ?_
    exact (h.2.1 c1)
  · refine ab_iload dX12_go_220 rfl ?_
    obtain ⟨r2, P3, hs4, hk5⟩ := (h.2.2 c1)
    refine ab_callS (vs := [.int (i 206 (i 205 4).toNatClampNeg)]) (st := []) dX12_go_222 okMX12_isLetter wd_1424 rfl rfl (Nat.le_of_ble_eq_true rfl) ⟨Nat.le_of_ble_eq_true rfl, Nat.le_of_ble_eq_true rfl⟩ hs4 ?_
    rintro v9 ⟨i6, l7, dd8, x9⟩ E9 - ⟨rfl, rfl, hp10⟩
    show ab_Fr MX12_go (d + 1) Q 225 [some (.ref 205), none, some (.int a2), some (.int a3), some (.int (i 206 (i 205 4).toNatClampNeg))] [.int r2] (0, 0) (i6, l7, dd8, x9) (ab_E0 sc)
    refine ab_iloadn dX12_go_225 rfl ?_
    refine ab_icmp_ne (tgt := 233) dX12_go_226 (by decide) (fun c11 => ?_) (fun c11 => ?_)
    · refine ab_forget (i := 3) (L2 := [some (.ref 205), none, some (.int a2), none, some (.int (i 206 (i 205 4).toNatClampNeg))]) rfl ?_
      exact ((hk5 i6 l7 dd8 x9 hp10).1 c11)
    · refine ab_iconst (v := 1) dX12_go_229 (by decide) ?_
      refine ab_goto (tgt := 234) dX12_go_230 (by decide) ?_
      refine ab_forget (i := 3) (L2 := [some (.ref 205), none, some (.int a2), none, some (.int (i 206 (i 205 4).toNatClampNeg))]) rfl ?_
      exact ((hk5 i6 l7 dd8 x9 hp10).2 c11)
theorem tMX12_go_233 {d : Nat} {Q : ab_Qt} {sc : Nat × (Nat → Int32)} {i : Nat → Nat → Int32} {l : Nat → Nat → Int64} {dd : Nat → Nat → Value} {x : Nat} {a2 : Int32} {a4 : Int32} 
    (h : ab_Fr MX12_go (d + 1) Q 234 [some (.ref 205), none, some (.int a2), none, some (.int a4)] [.int 0] (0, 0) (i, l, dd, x) (ab_E0 sc)) :
    ab_Fr MX12_go (d + 1) Q 233 [some (.ref 205), none, some (.int a2), none, some (.int a4)] [] (0, 0) (i, l, dd, x) (ab_E0 sc) := by
  refine ab_iconst (v := 0) dX12_go_233 (by decide) ?_
  exact h
theorem tMX12_go_234 {d : Nat} {Q : ab_Qt} {sc : Nat × (Nat → Int32)} {i : Nat → Nat → Int32} {l : Nat → Nat → Int64} {dd : Nat → Nat → Value} {x : Nat} {a2 : Int32} {a4 : Int32} {s0 : Int32} 
    (h : ((6 ≤ ((i 205 4) - (i 205 5)) → ab_Fr MX12_go (d + 1) Q 269 [some (.ref 205), none, some (.int a2), some (.int s0), some (.int a4)] [] (0, 0) (i, l, dd, x) (ab_E0 sc)) ∧ (¬ 6 ≤ ((i 205 4) - (i 205 5)) → (∀ l2, l2 = ab_u l 205 10 (((27 * (l 205 10)) + a4.toInt64) - 96) → ab_Fr MX12_go (d + 1) Q 269 [some (.ref 205), none, some (.int a2), some (.int s0), some (.int a4)] [] (0, 0) (i, l2, dd, x) (ab_E0 sc))))) :
    ab_Fr MX12_go (d + 1) Q 234 [some (.ref 205), none, some (.int a2), none, some (.int a4)] [.int s0] (0, 0) (i, l, dd, x) (ab_E0 sc) := by
  refine ab_istoren dX12_go_234 (Nat.le_of_ble_eq_true rfl) (L2 := [some (.ref 205), none, some (.int a2), some (.int s0), some (.int a4)]) rfl ?_
  refine ab_aloadn dX12_go_235 rfl ?_
  refine ab_getf (v := .int (i 205 4)) dX12_go_236 fl_X12_163 kd_205 rfl ?_
  refine ab_aloadn dX12_go_239 rfl ?_
  refine ab_getf (v := .int (i 205 5)) dX12_go_240 fl_X12_166 kd_205 rfl ?_
  refine ab_isub dX12_go_243 ?_
  refine ab_bipush (v := 6) dX12_go_244 (by decide) ?_
  refine ab_icmp_ge (tgt := 269) dX12_go_246 (by decide) (fun c1 => ?_) (fun c1 => ?_)
  · exact (h.1 c1)
  · refine ab_aloadn dX12_go_249 rfl ?_
    refine ab_ldc2 dX12_go_250 wd_1433 ?_
    refine ab_aloadn dX12_go_253 rfl ?_
    refine ab_getf (v := .long (l 205 10)) dX12_go_254 fl_X12_179 kd_205 rfl ?_
    refine ab_lmul dX12_go_257 ?_
    refine ab_iload dX12_go_258 rfl ?_
    refine ab_i2l dX12_go_260 rfl ?_
    refine ab_ladd dX12_go_261 ?_
    refine ab_ldc2 dX12_go_262 wd_1434 ?_
    refine ab_lsub dX12_go_265 ?_
    refine ab_putL dX12_go_266 fl_X12_179 kd_205 rfl ?_
    obtain ⟨l2, e3⟩ : ∃ z, z = ab_u l 205 10 (((27 * (l 205 10)) + a4.toInt64) - 96) := ⟨_, rfl⟩
    show ab_Fr MX12_go (d + 1) Q 269 [some (.ref 205), none, some (.int a2), some (.int s0), some (.int a4)] [] (0, 0) (i, ab_u l 205 10 (((27 * (l 205 10)) + a4.toInt64) - 96), dd, x) (ab_E0 sc)
    rw [show ab_u l 205 10 (((27 * (l 205 10)) + a4.toInt64) - 96) = l2 from e3.symm]
    exact ((h.2 c1) l2 e3)
theorem tMX12_go_269 {d : Nat} {Q : ab_Qt} {sc : Nat × (Nat → Int32)} {i : Nat → Nat → Int32} {l : Nat → Nat → Int64} {dd : Nat → Nat → Value} {x : Nat} {a2 : Int32} {a3 : Int32} {a4 : Int32} 
    (h : ((2 ≤ ((i 205 4) - (i 205 5)) → (∀ i2, i2 = ab_u i 205 4 ((i 205 4) + 1) → ab_Fr MX12_go (d + 1) Q 177 [some (.ref 205), none, some (.int a2), some (.int a3), none] [] (0, 0) (i2, l, dd, x) (ab_E0 sc))) ∧ (¬ 2 ≤ ((i 205 4) - (i 205 5)) → (∀ i4, i4 = ab_u i 205 7 (((10 * (i 205 7)) + a4) - 48) → ∀ i6, i6 = ab_u i4 205 4 ((i4 205 4) + 1) → ab_Fr MX12_go (d + 1) Q 177 [some (.ref 205), none, some (.int a2), some (.int a3), none] [] (0, 0) (i6, l, dd, x) (ab_E0 sc))))) :
    ab_Fr MX12_go (d + 1) Q 269 [some (.ref 205), none, some (.int a2), some (.int a3), some (.int a4)] [] (0, 0) (i, l, dd, x) (ab_E0 sc) := by
  refine ab_aloadn dX12_go_269 rfl ?_
  refine ab_getf (v := .int (i 205 4)) dX12_go_270 fl_X12_163 kd_205 rfl ?_
  refine ab_aloadn dX12_go_273 rfl ?_
  refine ab_getf (v := .int (i 205 5)) dX12_go_274 fl_X12_166 kd_205 rfl ?_
  refine ab_isub dX12_go_277 ?_
  refine ab_iconst (v := 2) dX12_go_278 (by decide) ?_
  refine ab_icmp_ge (tgt := 299) dX12_go_279 (by decide) (fun c1 => ?_) (fun c1 => ?_)
  · refine ab_aloadn dX12_go_299 rfl ?_
    refine ab_dup dX12_go_300 rfl ?_
    refine ab_getf (v := .int (i 205 4)) dX12_go_301 fl_X12_163 kd_205 rfl ?_
    refine ab_iconst (v := 1) dX12_go_304 (by decide) ?_
    refine ab_iadd dX12_go_305 ?_
    refine ab_putI dX12_go_306 fl_X12_163 kd_205 rfl ?_
    obtain ⟨i2, e3⟩ : ∃ z, z = ab_u i 205 4 ((i 205 4) + 1) := ⟨_, rfl⟩
    show ab_Fr MX12_go (d + 1) Q 309 [some (.ref 205), none, some (.int a2), some (.int a3), some (.int a4)] [] (0, 0) (ab_u i 205 4 ((i 205 4) + 1), l, dd, x) (ab_E0 sc)
    rw [show ab_u i 205 4 ((i 205 4) + 1) = i2 from e3.symm]
    refine ab_goto (tgt := 177) dX12_go_309 (by decide) ?_
    refine ab_forget (i := 4) (L2 := [some (.ref 205), none, some (.int a2), some (.int a3), none]) rfl ?_
    exact ((h.1 c1) i2 e3)
  · refine ab_aloadn dX12_go_282 rfl ?_
    refine ab_bipush (v := 10) dX12_go_283 (by decide) ?_
    refine ab_aloadn dX12_go_285 rfl ?_
    refine ab_getf (v := .int (i 205 7)) dX12_go_286 fl_X12_182 kd_205 rfl ?_
    refine ab_imul dX12_go_289 ?_
    refine ab_iload dX12_go_290 rfl ?_
    refine ab_iadd dX12_go_292 ?_
    refine ab_bipush (v := 48) dX12_go_293 (by decide) ?_
    refine ab_isub dX12_go_295 ?_
    refine ab_putI dX12_go_296 fl_X12_182 kd_205 rfl ?_
    obtain ⟨i4, e5⟩ : ∃ z, z = ab_u i 205 7 (((10 * (i 205 7)) + a4) - 48) := ⟨_, rfl⟩
    show ab_Fr MX12_go (d + 1) Q 299 [some (.ref 205), none, some (.int a2), some (.int a3), some (.int a4)] [] (0, 0) (ab_u i 205 7 (((10 * (i 205 7)) + a4) - 48), l, dd, x) (ab_E0 sc)
    rw [show ab_u i 205 7 (((10 * (i 205 7)) + a4) - 48) = i4 from e5.symm]
    refine ab_aloadn dX12_go_299 rfl ?_
    refine ab_dup dX12_go_300 rfl ?_
    refine ab_getf (v := .int (i4 205 4)) dX12_go_301 fl_X12_163 kd_205 rfl ?_
    refine ab_iconst (v := 1) dX12_go_304 (by decide) ?_
    refine ab_iadd dX12_go_305 ?_
    refine ab_putI dX12_go_306 fl_X12_163 kd_205 rfl ?_
    obtain ⟨i6, e7⟩ : ∃ z, z = ab_u i4 205 4 ((i4 205 4) + 1) := ⟨_, rfl⟩
    show ab_Fr MX12_go (d + 1) Q 309 [some (.ref 205), none, some (.int a2), some (.int a3), some (.int a4)] [] (0, 0) (ab_u i4 205 4 ((i4 205 4) + 1), l, dd, x) (ab_E0 sc)
    rw [show ab_u i4 205 4 ((i4 205 4) + 1) = i6 from e7.symm]
    refine ab_goto (tgt := 177) dX12_go_309 (by decide) ?_
    refine ab_forget (i := 4) (L2 := [some (.ref 205), none, some (.int a2), some (.int a3), none]) rfl ?_
    exact (((h.2 c1) i4 e5) i6 e7)
theorem tMX12_go_336 {d : Nat} {Q : ab_Qt} {sc : Nat × (Nat → Int32)} {i : Nat → Nat → Int32} {l : Nat → Nat → Int64} {dd : Nat → Nat → Value} {x : Nat} {a2 : Int32} {s1 : Int32} {s2 : Int32} 
    (h : ((s1 ≤ s2 → ((a2 = 0 → (∀ i3, i3 = ab_u i 205 6 3 → Q (some none) (i3, l, dd, x) (ab_E0 sc))) ∧ (¬ a2 = 0 → (∀ i5, i5 = ab_u i 205 6 2 → Q (some none) (i5, l, dd, x) (ab_E0 sc))))) ∧ (¬ s1 ≤ s2 → (∀ i7, i7 = ab_u i 205 6 1 → Q (some none) (i7, l, dd, x) (ab_E0 sc))))) :
    ab_Fr MX12_go (d + 1) Q 336 [none, none, some (.int a2), none, none] [.int s2, .int s1, .ref 205] (0, 0) (i, l, dd, x) (ab_E0 sc) := by
  refine ab_icmp_le (tgt := 343) dX12_go_336 (by decide) (fun c1 => ?_) (fun c1 => ?_)
  · refine ab_iloadn dX12_go_343 rfl ?_
    refine ab_if_eq (tgt := 351) dX12_go_344 (by decide) (fun c2 => ?_) (fun c2 => ?_)
    · refine ab_iconst (v := 3) dX12_go_351 (by decide) ?_
      refine ab_putI dX12_go_352 fl_X12_169 kd_205 rfl ?_
      obtain ⟨i3, e4⟩ : ∃ z, z = ab_u i 205 6 3 := ⟨_, rfl⟩
      show ab_Fr MX12_go (d + 1) Q 355 [none, none, some (.int a2), none, none] [] (0, 0) (ab_u i 205 6 3, l, dd, x) (ab_E0 sc)
      rw [show ab_u i 205 6 3 = i3 from e4.symm]
      exact ab_vret dX12_go_355 rfl ⟨Nat.zero_le _, Nat.zero_le _⟩ (((h.1 c1).1 c2) i3 e4)
    · refine ab_iconst (v := 2) dX12_go_347 (by decide) ?_
      refine ab_goto (tgt := 352) dX12_go_348 (by decide) ?_
      refine ab_putI dX12_go_352 fl_X12_169 kd_205 rfl ?_
      obtain ⟨i5, e6⟩ : ∃ z, z = ab_u i 205 6 2 := ⟨_, rfl⟩
      show ab_Fr MX12_go (d + 1) Q 355 [none, none, some (.int a2), none, none] [] (0, 0) (ab_u i 205 6 2, l, dd, x) (ab_E0 sc)
      rw [show ab_u i 205 6 2 = i5 from e6.symm]
      exact ab_vret dX12_go_355 rfl ⟨Nat.zero_le _, Nat.zero_le _⟩ (((h.1 c1).2 c2) i5 e6)
  · refine ab_iconst (v := 1) dX12_go_339 (by decide) ?_
    refine ab_goto (tgt := 352) dX12_go_340 (by decide) ?_
    refine ab_putI dX12_go_352 fl_X12_169 kd_205 rfl ?_
    obtain ⟨i7, e8⟩ : ∃ z, z = ab_u i 205 6 1 := ⟨_, rfl⟩
    show ab_Fr MX12_go (d + 1) Q 355 [none, none, some (.int a2), none, none] [] (0, 0) (ab_u i 205 6 1, l, dd, x) (ab_E0 sc)
    rw [show ab_u i 205 6 1 = i7 from e8.symm]
    exact ab_vret dX12_go_355 rfl ⟨Nat.zero_le _, Nat.zero_le _⟩ ((h.2 c1) i7 e8)
theorem tMX12_isLetter_0 {d : Nat} {Q : ab_Qt} {sc : Nat × (Nat → Int32)} {i : Nat → Nat → Int32} {l : Nat → Nat → Int64} {dd : Nat → Nat → Value} {x : Nat} {a0 : Int32} 
    (h : ((a0 < 97 → Q (some (some (.int 0))) (i, l, dd, x) (ab_E0 sc)) ∧ (¬ a0 < 97 → ((122 < a0 → Q (some (some (.int 0))) (i, l, dd, x) (ab_E0 sc)) ∧ (¬ 122 < a0 → Q (some (some (.int 1))) (i, l, dd, x) (ab_E0 sc)))))) :
    ab_Fr MX12_isLetter (d + 1) Q 0 [some (.int a0)] [] (0, 0) (i, l, dd, x) (ab_E0 sc) := by
  refine ab_iloadn dX12_isLetter_0 rfl ?_
  refine ab_bipush (v := 97) dX12_isLetter_1 (by decide) ?_
  refine ab_icmp_lt (tgt := 16) dX12_isLetter_3 (by decide) (fun c1 => ?_) (fun c1 => ?_)
  · refine ab_iconst (v := 0) dX12_isLetter_16 (by decide) ?_
    exact ab_zret dX12_isLetter_17 rfl (by decide) ⟨Nat.zero_le _, Nat.zero_le _⟩ (h.1 c1)
  · refine ab_iloadn dX12_isLetter_6 rfl ?_
    refine ab_bipush (v := 122) dX12_isLetter_7 (by decide) ?_
    refine ab_icmp_gt (tgt := 16) dX12_isLetter_9 (by decide) (fun c2 => ?_) (fun c2 => ?_)
    · refine ab_iconst (v := 0) dX12_isLetter_16 (by decide) ?_
      exact ab_zret dX12_isLetter_17 rfl (by decide) ⟨Nat.zero_le _, Nat.zero_le _⟩ ((h.2 c1).1 c2)
    · refine ab_iconst (v := 1) dX12_isLetter_12 (by decide) ?_
      refine ab_goto (tgt := 17) dX12_isLetter_13 (by decide) ?_
      exact ab_zret dX12_isLetter_17 rfl (by decide) ⟨Nat.zero_le _, Nat.zero_le _⟩ ((h.2 c1).2 c2)
theorem tMX12_isDigit_0 {d : Nat} {Q : ab_Qt} {sc : Nat × (Nat → Int32)} {i : Nat → Nat → Int32} {l : Nat → Nat → Int64} {dd : Nat → Nat → Value} {x : Nat} {a0 : Int32} 
    (h : ((a0 < 48 → Q (some (some (.int 0))) (i, l, dd, x) (ab_E0 sc)) ∧ (¬ a0 < 48 → ((57 < a0 → Q (some (some (.int 0))) (i, l, dd, x) (ab_E0 sc)) ∧ (¬ 57 < a0 → Q (some (some (.int 1))) (i, l, dd, x) (ab_E0 sc)))))) :
    ab_Fr MX12_isDigit (d + 1) Q 0 [some (.int a0)] [] (0, 0) (i, l, dd, x) (ab_E0 sc) := by
  refine ab_iloadn dX12_isDigit_0 rfl ?_
  refine ab_bipush (v := 48) dX12_isDigit_1 (by decide) ?_
  refine ab_icmp_lt (tgt := 16) dX12_isDigit_3 (by decide) (fun c1 => ?_) (fun c1 => ?_)
  · refine ab_iconst (v := 0) dX12_isDigit_16 (by decide) ?_
    exact ab_zret dX12_isDigit_17 rfl (by decide) ⟨Nat.zero_le _, Nat.zero_le _⟩ (h.1 c1)
  · refine ab_iloadn dX12_isDigit_6 rfl ?_
    refine ab_bipush (v := 57) dX12_isDigit_7 (by decide) ?_
    refine ab_icmp_gt (tgt := 16) dX12_isDigit_9 (by decide) (fun c2 => ?_) (fun c2 => ?_)
    · refine ab_iconst (v := 0) dX12_isDigit_16 (by decide) ?_
      exact ab_zret dX12_isDigit_17 rfl (by decide) ⟨Nat.zero_le _, Nat.zero_le _⟩ ((h.2 c1).1 c2)
    · refine ab_iconst (v := 1) dX12_isDigit_12 (by decide) ?_
      refine ab_goto (tgt := 17) dX12_isDigit_13 (by decide) ?_
      exact ab_zret dX12_isDigit_17 rfl (by decide) ⟨Nat.zero_le _, Nat.zero_le _⟩ ((h.2 c1).2 c2)
theorem tMX12_byteAt_0 {d : Nat} {Q : ab_Qt} {sc : Nat × (Nat → Int32)} {i : Nat → Nat → Int32} {l : Nat → Nat → Int64} {dd : Nat → Nat → Value} {x : Nat} {a1 : Int32} 
    (h : (((i 205 3) ≤ a1 → Q (some (some (.int 0))) (i, l, dd, x) (ab_E0 sc)) ∧ (¬ (i 205 3) ≤ a1 → (vp_in a1 740 ∧ Q (some (some (.int (i 206 a1.toNatClampNeg)))) (i, l, dd, x) (ab_E0 sc))))) :
    ab_Fr MX12_byteAt (d + 1) Q 0 [some (.ref 205), some (.int a1)] [] (0, 0) (i, l, dd, x) (ab_E0 sc) := by
  refine ab_iloadn dX12_byteAt_0 rfl ?_
  refine ab_aloadn dX12_byteAt_1 rfl ?_
  refine ab_getf (v := .int (i 205 3)) dX12_byteAt_2 fl_X12_160 kd_205 rfl ?_
  refine ab_icmp_ge (tgt := 17) dX12_byteAt_5 (by decide) (fun c1 => ?_) (fun c1 => ?_)
  · refine ab_iconst (v := 0) dX12_byteAt_17 (by decide) ?_
    exact ab_iret dX12_byteAt_18 rfl ⟨Nat.zero_le _, Nat.zero_le _⟩ (h.1 c1)
  · refine ab_aloadn dX12_byteAt_8 rfl ?_
    refine ab_getf (v := .ref 206) dX12_byteAt_9 fl_X12_7 kd_205 ff_205_1 ?_
    refine ab_iloadn dX12_byteAt_12 rfl ?_
    refine ab_iaload (v := (i 206 a1.toNatClampNeg)) dX12_byteAt_13 kd_206 (h.2 c1).1 rfl ?_
    refine ab_goto (tgt := 18) dX12_byteAt_14 (by decide) ?_
    exact ab_iret dX12_byteAt_18 rfl ⟨Nat.zero_le _, Nat.zero_le _⟩ (h.2 c1).2
theorem tMX12_readLine_0 {d : Nat} {Q : ab_Qt} {sc : Nat × (Nat → Int32)} {i : Nat → Nat → Int32} {l : Nat → Nat → Int64} {dd : Nat → Nat → Value} {x : Nat}  
    (h : (∃ (r1 : Int32) (P2 : ab_S → Prop), ab_Sp MX12_lineAtHand d [.ref 205] (i, l, dd, x) (ab_E0 sc) (some (.int r1)) P2 ∧ ∀ i5 l6 dd7 x8, P2 (i5, l6, dd7, x8) → ((¬ r1 = (-1) → ((r1 ≤ 0 → ab_Fr MX12_readLine (d + 1) Q 46 [some (.ref 205), some (.int r1), none, none] [] (0, 0) (i5, l6, dd7, x8) (ab_E0 sc)) ∧ (¬ r1 ≤ 0 → ((¬ (i5 205 27) = (i5 209 1) → ab_Fr MX12_readLine (d + 1) Q 46 [some (.ref 205), some (.int r1), none, none] [] (0, 0) (i5, l6, dd7, x8) (ab_E0 sc)) ∧ ((i5 205 27) = (i5 209 1) → (∃ (r13 : Int32) (P14 : ab_S → Prop), ab_Sp MX12_areTruths d [.ref 205] (i5, l6, dd7, x8) (ab_E0 sc) (some (.int r13)) P14 ∧ ∀ i17 l18 dd19 x20, P14 (i17, l18, dd19, x20) → ((¬ r13 = 0 → ab_Fr MX12_readLine (d + 1) Q 46 [some (.ref 205), some (.int r1), none, none] [] (0, 0) (i17, l18, dd19, x20) (ab_E0 sc)) ∧ (r13 = 0 → (∃ (r23 : Int32) (P24 : ab_S → Prop), ab_Sp MX12_bad d [.ref 205, .int 4] (i17, l18, dd19, x20) (ab_E0 sc) (some (.int r23)) P24 ∧ ∀ i27 l28 dd29 x30, P24 (i27, l28, dd29, x30) → (r23 = 0 ∨ r23 = 1) ∧ Q (some (some (.int r23))) (i27, l28, dd29, x30) (ab_E0 sc)))))))))) ∧ (r1 = (-1) → (∃ (r32 : Int32) (P33 : ab_S → Prop), ab_Sp MX12_bad d [.ref 205, .int 1] (i5, l6, dd7, x8) (ab_E0 sc) (some (.int r32)) P33 ∧ ∀ i36 l37 dd38 x39, P33 (i36, l37, dd38, x39) → (r32 = 0 ∨ r32 = 1) ∧ Q (some (some (.int r32))) (i36, l37, dd38, x39) (ab_E0 sc)))))) :
    ab_Fr MX12_readLine (d + 1) Q 0 [some (.ref 205), none, none, none] [] (0, 0) (i, l, dd, x) (ab_E0 sc) := by
  refine ab_aloadn dX12_readLine_0 rfl ?_
  obtain ⟨r1, P2, hs3, hk4⟩ := h
  refine ab_callV (vs := []) (st := []) dX12_readLine_1 okMX12_lineAtHand wd_1438 kd_205 rfl rfl rfl (Nat.le_of_ble_eq_true rfl) ⟨Nat.le_of_ble_eq_true rfl, Nat.le_of_ble_eq_true rfl⟩ hs3 ?_
  rintro v9 ⟨i5, l6, dd7, x8⟩ E9 - ⟨rfl, rfl, hp9⟩
  show ab_Fr MX12_readLine (d + 1) Q 4 [some (.ref 205), none, none, none] [.int r1] (0, 0) (i5, l6, dd7, x8) (ab_E0 sc)
  refine ab_istoren dX12_readLine_4 (Nat.le_of_ble_eq_true rfl) (L2 := [some (.ref 205), some (.int r1), none, none]) rfl ?_
  refine ab_iloadn dX12_readLine_5 rfl ?_
  refine ab_iconst (v := (-1)) dX12_readLine_6 (by decide) ?_
  refine ab_icmp_ne (tgt := 16) dX12_readLine_7 (by decide) (fun c10 => ?_) (fun c10 => ?_)
  · refine ab_iloadn dX12_readLine_16 rfl ?_
    refine ab_if_le (tgt := 46) dX12_readLine_17 (by decide) (fun c11 => ?_) (fun c11 => ?_)
    · exact (((hk4 i5 l6 dd7 x8 hp9).1 c10).1 c11)
    · refine ab_aloadn dX12_readLine_20 rfl ?_
      refine ab_getf (v := .int (i5 205 27)) dX12_readLine_21 fl_X12_251 kd_205 rfl ?_
      refine ab_aloadn dX12_readLine_24 rfl ?_
      refine ab_getf (v := .ref 209) dX12_readLine_25 fl_X12_20 kd_205 ff_205_13 ?_
      refine ab_iconst (v := 1) dX12_readLine_28 (by decide) ?_
      refine ab_iaload (v := (i5 209 1)) dX12_readLine_29 kd_209 (ab_vp (by decide)) rfl ?_
      refine ab_icmp_ne (tgt := 46) dX12_readLine_30 (by decide) (fun c12 => ?_) (fun c12 => ?_)
      · exact ((((hk4 i5 l6 dd7 x8 hp9).1 c10).2 c11).1 c12)
      · refine ab_aloadn dX12_readLine_33 rfl ?_
        obtain ⟨r13, P14, hs15, hk16⟩ := ((((hk4 i5 l6 dd7 x8 hp9).1 c10).2 c11).2 c12)
        refine ab_callV (vs := []) (st := []) dX12_readLine_34 okMX12_areTruths wd_1453 kd_205 rfl rfl rfl (Nat.le_of_ble_eq_true rfl) ⟨Nat.le_of_ble_eq_true rfl, Nat.le_of_ble_eq_true rfl⟩ hs15 ?_
        rintro v9 ⟨i17, l18, dd19, x20⟩ E9 - ⟨rfl, rfl, hp21⟩
        show ab_Fr MX12_readLine (d + 1) Q 37 [some (.ref 205), some (.int r1), none, none] [.int r13] (0, 0) (i17, l18, dd19, x20) (ab_E0 sc)
        refine ab_if_ne (tgt := 46) dX12_readLine_37 (by decide) (fun c22 => ?_) (fun c22 => ?_)
        · exact ((hk16 i17 l18 dd19 x20 hp21).1 c22)
        · refine ab_aloadn dX12_readLine_40 rfl ?_
          refine ab_iconst (v := 4) dX12_readLine_41 (by decide) ?_
          obtain ⟨r23, P24, hs25, hk26⟩ := ((hk16 i17 l18 dd19 x20 hp21).2 c22)
          refine ab_callV (vs := [.int 4]) (st := []) dX12_readLine_42 okMX12_bad wd_1450 kd_205 rfl rfl rfl (Nat.le_of_ble_eq_true rfl) ⟨Nat.le_of_ble_eq_true rfl, Nat.le_of_ble_eq_true rfl⟩ hs25 ?_
          rintro v9 ⟨i27, l28, dd29, x30⟩ E9 - ⟨rfl, rfl, hp31⟩
          show ab_Fr MX12_readLine (d + 1) Q 45 [some (.ref 205), some (.int r1), none, none] [.int r23] (0, 0) (i27, l28, dd29, x30) (ab_E0 sc)
          exact ab_zret dX12_readLine_45 rfl (hk26 i27 l28 dd29 x30 hp31).1 ⟨Nat.zero_le _, Nat.zero_le _⟩ (hk26 i27 l28 dd29 x30 hp31).2
  · refine ab_aloadn dX12_readLine_10 rfl ?_
    refine ab_iconst (v := 1) dX12_readLine_11 (by decide) ?_
    obtain ⟨r32, P33, hs34, hk35⟩ := ((hk4 i5 l6 dd7 x8 hp9).2 c10)
    refine ab_callV (vs := [.int 1]) (st := []) dX12_readLine_12 okMX12_bad wd_1450 kd_205 rfl rfl rfl (Nat.le_of_ble_eq_true rfl) ⟨Nat.le_of_ble_eq_true rfl, Nat.le_of_ble_eq_true rfl⟩ hs34 ?_
    rintro v9 ⟨i36, l37, dd38, x39⟩ E9 - ⟨rfl, rfl, hp40⟩
    show ab_Fr MX12_readLine (d + 1) Q 15 [some (.ref 205), some (.int r1), none, none] [.int r32] (0, 0) (i36, l37, dd38, x39) (ab_E0 sc)
    exact ab_zret dX12_readLine_15 rfl (hk35 i36 l37 dd38 x39 hp40).1 ⟨Nat.zero_le _, Nat.zero_le _⟩ (hk35 i36 l37 dd38 x39 hp40).2
theorem tMX12_readLine_46 {d : Nat} {Q : ab_Qt} {sc : Nat × (Nat → Int32)} {i : Nat → Nat → Int32} {l : Nat → Nat → Int64} {dd : Nat → Nat → Value} {x : Nat} {a1 : Int32} 
    (h : ((a1.toInt < 0 ∨ 4 < a1.toInt → (∃ (r2 : Int32) (P3 : ab_S → Prop), ab_Sp MX12_readRule d [.ref 205] (i, l, dd, x) (ab_E0 sc) (some (.int r2)) P3 ∧ ∀ i6 l7 dd8 x9, P3 (i6, l7, dd8, x9) → ab_Fr MX12_readLine (d + 1) Q 163 [some (.ref 205), none, some (.int r2), none] [] (0, 0) (i6, l7, dd8, x9) (ab_E0 sc))) ∧ (a1.toInt = 0 → (∃ (r11 : Int32) (P12 : ab_S → Prop), ab_Sp MX12_readTruthLine d [.ref 205] (i, l, dd, x) (ab_E0 sc) (some (.int r11)) P12 ∧ ∀ i15 l16 dd17 x18, P12 (i15, l16, dd17, x18) → ab_Fr MX12_readLine (d + 1) Q 163 [some (.ref 205), none, some (.int r11), none] [] (0, 0) (i15, l16, dd17, x18) (ab_E0 sc))) ∧ (a1.toInt = 1 → (∃ (r20 : Int32) (P21 : ab_S → Prop), ab_Sp MX12_readVoterLine d [.ref 205] (i, l, dd, x) (ab_E0 sc) (some (.int r20)) P21 ∧ ∀ i24 l25 dd26 x27, P21 (i24, l25, dd26, x27) → ab_Fr MX12_readLine (d + 1) Q 163 [some (.ref 205), none, some (.int r20), none] [] (0, 0) (i24, l25, dd26, x27) (ab_E0 sc))) ∧ (a1.toInt = 2 → (∃ (r29 : Int32) (P30 : ab_S → Prop), ab_Sp MX12_readLoss d [.ref 205] (i, l, dd, x) (ab_E0 sc) (some (.int r29)) P30 ∧ ∀ i33 l34 dd35 x36, P30 (i33, l34, dd35, x36) → ab_Fr MX12_readLine (d + 1) Q 163 [some (.ref 205), none, some (.int r29), none] [] (0, 0) (i33, l34, dd35, x36) (ab_E0 sc))) ∧ (a1.toInt = 3 → (∃ (r38 : Int32) (P39 : ab_S → Prop), ab_Sp MX12_readWay d [.ref 205] (i, l, dd, x) (ab_E0 sc) (some (.int r38)) P39 ∧ ∀ i42 l43 dd44 x45, P39 (i42, l43, dd44, x45) → ab_Fr MX12_readLine (d + 1) Q 163 [some (.ref 205), none, some (.int r38), none] [] (0, 0) (i42, l43, dd44, x45) (ab_E0 sc))) ∧ (a1.toInt = 4 → (∃ (P48 : ab_S → Prop), ab_Sp MX12_go d [.ref 205] (i, l, dd, x) (ab_E0 sc) (none) P48 ∧ ∀ i51 l52 dd53 x54, P48 (i51, l52, dd53, x54) → ∃ (r56 : Int32) (P57 : ab_S → Prop), ab_Sp MX12_readVoter d [.ref 205] (i51, l52, dd53, x54) (ab_E0 sc) (some (.int r56)) P57 ∧ ∀ i60 l61 dd62 x63, P57 (i60, l61, dd62, x63) → ((r56 = 0 → ab_Fr MX12_readLine (d + 1) Q 138 [some (.ref 205), none, some (.int r56), some (.int (i60 205 28))] [] (0, 0) (i60, l61, dd62, x63) (ab_E0 sc)) ∧ (¬ r56 = 0 → (∃ (r66 : Int32) (P67 : ab_S → Prop), ab_Sp MX12_readNumber d [.ref 205, .int 0, .int 9] (i60, l61, dd62, x63) (ab_E0 sc) (some (.int r66)) P67 ∧ ∀ i70 l71 dd72 x73, P67 (i70, l71, dd72, x73) → ab_Fr MX12_readLine (d + 1) Q 138 [some (.ref 205), none, some (.int r66), some (.int (i60 205 28))] [] (0, 0) (i70, l71, dd72, x73) (ab_E0 sc)))))))) :
    ab_Fr MX12_readLine (d + 1) Q 46 [some (.ref 205), some (.int a1), none, none] [] (0, 0) (i, l, dd, x) (ab_E0 sc) := by
  refine ab_iloadn dX12_readLine_46 rfl ?_
  rcases ab_tabsplit a1 0 5 with c1 | ⟨q, hq, c1⟩
  · refine ab_tabOut (tgt := 158) dX12_readLine_47 (by simpa using c1) (by decide) ?_
    refine ab_aloadn dX12_readLine_158 rfl ?_
    obtain ⟨r2, P3, hs4, hk5⟩ := (h.1 c1)
    refine ab_callV (vs := []) (st := []) dX12_readLine_159 okMX12_readRule wd_1507 kd_205 rfl rfl rfl (Nat.le_of_ble_eq_true rfl) ⟨Nat.le_of_ble_eq_true rfl, Nat.le_of_ble_eq_true rfl⟩ hs4 ?_
    rintro v9 ⟨i6, l7, dd8, x9⟩ E9 - ⟨rfl, rfl, hp10⟩
    show ab_Fr MX12_readLine (d + 1) Q 162 [some (.ref 205), some (.int a1), none, none] [.int r2] (0, 0) (i6, l7, dd8, x9) (ab_E0 sc)
    refine ab_istoren dX12_readLine_162 (Nat.le_of_ble_eq_true rfl) (L2 := [some (.ref 205), some (.int a1), some (.int r2), none]) rfl ?_
    refine ab_forget (i := 1) (L2 := [some (.ref 205), none, some (.int r2), none]) rfl ?_
    exact (hk5 i6 l7 dd8 x9 hp10)
  · match q, hq with
    | 0, _ =>
        have c1 : a1.toInt = 0 := by simpa using c1
        refine ab_tabIn (tgt := 80) dX12_readLine_47 (by rw [c1]; decide) (by rw [c1]; decide) (off := 33) (by rw [c1]; rfl) (by decide) ?_
        refine ab_aloadn dX12_readLine_80 rfl ?_
        obtain ⟨r11, P12, hs13, hk14⟩ := (h.2.1 c1)
        refine ab_callV (vs := []) (st := []) dX12_readLine_81 okMX12_readTruthLine wd_1456 kd_205 rfl rfl rfl (Nat.le_of_ble_eq_true rfl) ⟨Nat.le_of_ble_eq_true rfl, Nat.le_of_ble_eq_true rfl⟩ hs13 ?_
        rintro v9 ⟨i15, l16, dd17, x18⟩ E9 - ⟨rfl, rfl, hp19⟩
        show ab_Fr MX12_readLine (d + 1) Q 84 [some (.ref 205), some (.int a1), none, none] [.int r11] (0, 0) (i15, l16, dd17, x18) (ab_E0 sc)
        refine ab_istoren dX12_readLine_84 (Nat.le_of_ble_eq_true rfl) (L2 := [some (.ref 205), some (.int a1), some (.int r11), none]) rfl ?_
        refine ab_goto (tgt := 163) dX12_readLine_85 (by decide) ?_
        refine ab_forget (i := 1) (L2 := [some (.ref 205), none, some (.int r11), none]) rfl ?_
        exact (hk14 i15 l16 dd17 x18 hp19)
    | 1, _ =>
        have c1 : a1.toInt = 1 := by simpa using c1
        refine ab_tabIn (tgt := 88) dX12_readLine_47 (by rw [c1]; decide) (by rw [c1]; decide) (off := 41) (by rw [c1]; rfl) (by decide) ?_
        refine ab_aloadn dX12_readLine_88 rfl ?_
        obtain ⟨r20, P21, hs22, hk23⟩ := (h.2.2.1 c1)
        refine ab_callV (vs := []) (st := []) dX12_readLine_89 okMX12_readVoterLine wd_1489 kd_205 rfl rfl rfl (Nat.le_of_ble_eq_true rfl) ⟨Nat.le_of_ble_eq_true rfl, Nat.le_of_ble_eq_true rfl⟩ hs22 ?_
        rintro v9 ⟨i24, l25, dd26, x27⟩ E9 - ⟨rfl, rfl, hp28⟩
        show ab_Fr MX12_readLine (d + 1) Q 92 [some (.ref 205), some (.int a1), none, none] [.int r20] (0, 0) (i24, l25, dd26, x27) (ab_E0 sc)
        refine ab_istoren dX12_readLine_92 (Nat.le_of_ble_eq_true rfl) (L2 := [some (.ref 205), some (.int a1), some (.int r20), none]) rfl ?_
        refine ab_goto (tgt := 163) dX12_readLine_93 (by decide) ?_
        refine ab_forget (i := 1) (L2 := [some (.ref 205), none, some (.int r20), none]) rfl ?_
        exact (hk23 i24 l25 dd26 x27 hp28)
    | 2, _ =>
        have c1 : a1.toInt = 2 := by simpa using c1
        refine ab_tabIn (tgt := 96) dX12_readLine_47 (by rw [c1]; decide) (by rw [c1]; decide) (off := 49) (by rw [c1]; rfl) (by decide) ?_
        refine ab_aloadn dX12_readLine_96 rfl ?_
        obtain ⟨r29, P30, hs31, hk32⟩ := (h.2.2.2.1 c1)
        refine ab_callV (vs := []) (st := []) dX12_readLine_97 okMX12_readLoss wd_1495 kd_205 rfl rfl rfl (Nat.le_of_ble_eq_true rfl) ⟨Nat.le_of_ble_eq_true rfl, Nat.le_of_ble_eq_true rfl⟩ hs31 ?_
        rintro v9 ⟨i33, l34, dd35, x36⟩ E9 - ⟨rfl, rfl, hp37⟩
        show ab_Fr MX12_readLine (d + 1) Q 100 [some (.ref 205), some (.int a1), none, none] [.int r29] (0, 0) (i33, l34, dd35, x36) (ab_E0 sc)
        refine ab_istoren dX12_readLine_100 (Nat.le_of_ble_eq_true rfl) (L2 := [some (.ref 205), some (.int a1), some (.int r29), none]) rfl ?_
        refine ab_goto (tgt := 163) dX12_readLine_101 (by decide) ?_
        refine ab_forget (i := 1) (L2 := [some (.ref 205), none, some (.int r29), none]) rfl ?_
        exact (hk32 i33 l34 dd35 x36 hp37)
    | 3, _ =>
        have c1 : a1.toInt = 3 := by simpa using c1
        refine ab_tabIn (tgt := 104) dX12_readLine_47 (by rw [c1]; decide) (by rw [c1]; decide) (off := 57) (by rw [c1]; rfl) (by decide) ?_
        refine ab_aloadn dX12_readLine_104 rfl ?_
        obtain ⟨r38, P39, hs40, hk41⟩ := (h.2.2.2.2.1 c1)
        refine ab_callV (vs := []) (st := []) dX12_readLine_105 okMX12_readWay wd_1501 kd_205 rfl rfl rfl (Nat.le_of_ble_eq_true rfl) ⟨Nat.le_of_ble_eq_true rfl, Nat.le_of_ble_eq_true rfl⟩ hs40 ?_
        rintro v9 ⟨i42, l43, dd44, x45⟩ E9 - ⟨rfl, rfl, hp46⟩
        show ab_Fr MX12_readLine (d + 1) Q 108 [some (.ref 205), some (.int a1), none, none] [.int r38] (0, 0) (i42, l43, dd44, x45) (ab_E0 sc)
        refine ab_istoren dX12_readLine_108 (Nat.le_of_ble_eq_true rfl) (L2 := [some (.ref 205), some (.int a1), some (.int r38), none]) rfl ?_
        refine ab_goto (tgt := 163) dX12_readLine_109 (by decide) ?_
        refine ab_forget (i := 1) (L2 := [some (.ref 205), none, some (.int r38), none]) rfl ?_
        exact (hk41 i42 l43 dd44 x45 hp46)
    | 4, _ =>
        have c1 : a1.toInt = 4 := by simpa using c1
        refine ab_tabIn (tgt := 112) dX12_readLine_47 (by rw [c1]; decide) (by rw [c1]; decide) (off := 65) (by rw [c1]; rfl) (by decide) ?_
        refine ab_aloadn dX12_readLine_112 rfl ?_
        obtain ⟨P48, hs49, hk50⟩ := (h.2.2.2.2.2 c1)
        refine ab_callV (vs := []) (st := []) dX12_readLine_113 okMX12_go wd_1421 kd_205 rfl rfl rfl (Nat.le_of_ble_eq_true rfl) ⟨Nat.le_of_ble_eq_true rfl, Nat.le_of_ble_eq_true rfl⟩ hs49 ?_
        rintro v9 ⟨i51, l52, dd53, x54⟩ E9 - ⟨rfl, rfl, hp55⟩
        show ab_Fr MX12_readLine (d + 1) Q 116 [some (.ref 205), some (.int a1), none, none] [] (0, 0) (i51, l52, dd53, x54) (ab_E0 sc)
        refine ab_aloadn dX12_readLine_116 rfl ?_
        obtain ⟨r56, P57, hs58, hk59⟩ := (hk50 i51 l52 dd53 x54 hp55)
        refine ab_callV (vs := []) (st := []) dX12_readLine_117 okMX12_readVoter wd_1504 kd_205 rfl rfl rfl (Nat.le_of_ble_eq_true rfl) ⟨Nat.le_of_ble_eq_true rfl, Nat.le_of_ble_eq_true rfl⟩ hs58 ?_
        rintro v9 ⟨i60, l61, dd62, x63⟩ E9 - ⟨rfl, rfl, hp64⟩
        show ab_Fr MX12_readLine (d + 1) Q 120 [some (.ref 205), some (.int a1), none, none] [.int r56] (0, 0) (i60, l61, dd62, x63) (ab_E0 sc)
        refine ab_istoren dX12_readLine_120 (Nat.le_of_ble_eq_true rfl) (L2 := [some (.ref 205), some (.int a1), some (.int r56), none]) rfl ?_
        refine ab_aloadn dX12_readLine_121 rfl ?_
        refine ab_getf (v := .int (i60 205 28)) dX12_readLine_122 fl_X12_238 kd_205 rfl ?_
        refine ab_istoren dX12_readLine_125 (Nat.le_of_ble_eq_true rfl) (L2 := [some (.ref 205), some (.int a1), some (.int r56), some (.int (i60 205 28))]) rfl ?_
        refine ab_iloadn dX12_readLine_126 rfl ?_
        refine ab_if_eq (tgt := 138) dX12_readLine_127 (by decide) (fun c65 => ?_) (fun c65 => ?_)
        · refine ab_forget (i := 1) (L2 := [some (.ref 205), none, some (.int r56), some (.int (i60 205 28))]) rfl ?_
          exact ((hk59 i60 l61 dd62 x63 hp64).1 c65)
        · refine ab_aloadn dX12_readLine_130 rfl ?_
          refine ab_iconst (v := 0) dX12_readLine_131 (by decide) ?_
          refine ab_bipush (v := 9) dX12_readLine_132 (by decide) ?_
          obtain ⟨r66, P67, hs68, hk69⟩ := ((hk59 i60 l61 dd62 x63 hp64).2 c65)
          refine ab_callV (vs := [.int 0, .int 9]) (st := []) dX12_readLine_134 okMX12_readNumber wd_1483 kd_205 rfl rfl rfl (Nat.le_of_ble_eq_true rfl) ⟨Nat.le_of_ble_eq_true rfl, Nat.le_of_ble_eq_true rfl⟩ hs68 ?_
          rintro v9 ⟨i70, l71, dd72, x73⟩ E9 - ⟨rfl, rfl, hp74⟩
          show ab_Fr MX12_readLine (d + 1) Q 137 [some (.ref 205), some (.int a1), some (.int r56), some (.int (i60 205 28))] [.int r66] (0, 0) (i70, l71, dd72, x73) (ab_E0 sc)
          refine ab_istoren dX12_readLine_137 (Nat.le_of_ble_eq_true rfl) (L2 := [some (.ref 205), some (.int a1), some (.int r66), some (.int (i60 205 28))]) rfl ?_
          refine ab_forget (i := 1) (L2 := [some (.ref 205), none, some (.int r66), some (.int (i60 205 28))]) rfl ?_
          exact (hk69 i70 l71 dd72 x73 hp74)
    | n + 5, hq => exact absurd hq (by omega)
theorem tMX12_readLine_138 {d : Nat} {Q : ab_Qt} {sc : Nat × (Nat → Int32)} {i : Nat → Nat → Int32} {l : Nat → Nat → Int64} {dd : Nat → Nat → Value} {x : Nat} {a2 : Int32} {a3 : Int32} 
    (h : ((a2 = 0 → ab_Fr MX12_readLine (d + 1) Q 163 [some (.ref 205), none, some (.int a2), none] [] (0, 0) (i, l, dd, x) (ab_E0 sc)) ∧ (¬ a2 = 0 → (vp_in (7 + a3) 14 ∧ ∀ i2, i2 = ab_u i 218 (7 + a3).toNatClampNeg (i 205 28) → ab_Fr MX12_readLine (d + 1) Q 163 [some (.ref 205), none, some (.int a2), none] [] (0, 0) (i2, l, dd, x) (ab_E0 sc))))) :
    ab_Fr MX12_readLine (d + 1) Q 138 [some (.ref 205), none, some (.int a2), some (.int a3)] [] (0, 0) (i, l, dd, x) (ab_E0 sc) := by
  refine ab_iloadn dX12_readLine_138 rfl ?_
  refine ab_if_eq (tgt := 163) dX12_readLine_139 (by decide) (fun c1 => ?_) (fun c1 => ?_)
  · refine ab_forget (i := 3) (L2 := [some (.ref 205), none, some (.int a2), none]) rfl ?_
    exact (h.1 c1)
  · refine ab_aloadn dX12_readLine_142 rfl ?_
    refine ab_getf (v := .ref 218) dX12_readLine_143 fl_X12_47 kd_205 ff_205_22 ?_
    refine ab_bipush (v := 7) dX12_readLine_146 (by decide) ?_
    refine ab_iloadn dX12_readLine_148 rfl ?_
    refine ab_iadd dX12_readLine_149 ?_
    refine ab_aloadn dX12_readLine_150 rfl ?_
    refine ab_getf (v := .int (i 205 28)) dX12_readLine_151 fl_X12_238 kd_205 rfl ?_
    refine ab_iastore dX12_readLine_154 kd_218 (h.2 c1).1 ?_
    obtain ⟨i2, e3⟩ : ∃ z, z = ab_u i 218 (7 + a3).toNatClampNeg (i 205 28) := ⟨_, rfl⟩
    rw [show ab_u i 218 (7 + a3).toNatClampNeg (i 205 28) = i2 from e3.symm]
    refine ab_goto (tgt := 163) dX12_readLine_155 (by decide) ?_
    refine ab_forget (i := 3) (L2 := [some (.ref 205), none, some (.int a2), none]) rfl ?_
    exact ((h.2 c1).2 i2 e3)
theorem tMX12_readLine_163 {d : Nat} {Q : ab_Qt} {sc : Nat × (Nat → Int32)} {i : Nat → Nat → Int32} {l : Nat → Nat → Int64} {dd : Nat → Nat → Value} {x : Nat} {a2 : Int32} 
    (h : ((¬ a2 = 0 → (((i 205 6) = 4 → (∀ i3, i3 = ab_u i 205 27 ((i 205 27) + 1) → ∃ (P6 : ab_S → Prop), ab_Sp MX12_go d [.ref 205] (i3, l, dd, x) (ab_E0 sc) (none) P6 ∧ ∀ i9 l10 dd11 x12, P6 (i9, l10, dd11, x12) → Q (some (some (.int 1))) (i9, l10, dd11, x12) (ab_E0 sc))) ∧ (¬ (i 205 6) = 4 → (∃ (r14 : Int32) (P15 : ab_S → Prop), ab_Sp MX12_bad d [.ref 205, .int 1] (i, l, dd, x) (ab_E0 sc) (some (.int r14)) P15 ∧ ∀ i18 l19 dd20 x21, P15 (i18, l19, dd20, x21) → (r14 = 0 ∨ r14 = 1) ∧ Q (some (some (.int r14))) (i18, l19, dd20, x21) (ab_E0 sc))))) ∧ (a2 = 0 → Q (some (some (.int 0))) (i, l, dd, x) (ab_E0 sc)))) :
    ab_Fr MX12_readLine (d + 1) Q 163 [some (.ref 205), none, some (.int a2), none] [] (0, 0) (i, l, dd, x) (ab_E0 sc) := by
  refine ab_iloadn dX12_readLine_163 rfl ?_
  refine ab_if_ne (tgt := 169) dX12_readLine_164 (by decide) (fun c1 => ?_) (fun c1 => ?_)
  · refine ab_aloadn dX12_readLine_169 rfl ?_
    refine ab_getf (v := .int (i 205 6)) dX12_readLine_170 fl_X12_169 kd_205 rfl ?_
    refine ab_iconst (v := 4) dX12_readLine_173 (by decide) ?_
    refine ab_icmp_eq (tgt := 183) dX12_readLine_174 (by decide) (fun c2 => ?_) (fun c2 => ?_)
    · refine ab_aloadn dX12_readLine_183 rfl ?_
      refine ab_dup dX12_readLine_184 rfl ?_
      refine ab_getf (v := .int (i 205 27)) dX12_readLine_185 fl_X12_251 kd_205 rfl ?_
      refine ab_iconst (v := 1) dX12_readLine_188 (by decide) ?_
      refine ab_iadd dX12_readLine_189 ?_
      refine ab_putI dX12_readLine_190 fl_X12_251 kd_205 rfl ?_
      obtain ⟨i3, e4⟩ : ∃ z, z = ab_u i 205 27 ((i 205 27) + 1) := ⟨_, rfl⟩
      show ab_Fr MX12_readLine (d + 1) Q 193 [some (.ref 205), none, some (.int a2), none] [] (0, 0) (ab_u i 205 27 ((i 205 27) + 1), l, dd, x) (ab_E0 sc)
      rw [show ab_u i 205 27 ((i 205 27) + 1) = i3 from e4.symm]
      refine ab_aloadn dX12_readLine_193 rfl ?_
      obtain ⟨P6, hs7, hk8⟩ := (((h.1 c1).1 c2) i3 e4)
      refine ab_callV (vs := []) (st := []) dX12_readLine_194 okMX12_go wd_1421 kd_205 rfl rfl rfl (Nat.le_of_ble_eq_true rfl) ⟨Nat.le_of_ble_eq_true rfl, Nat.le_of_ble_eq_true rfl⟩ hs7 ?_
      rintro v9 ⟨i9, l10, dd11, x12⟩ E9 - ⟨rfl, rfl, hp13⟩
      show ab_Fr MX12_readLine (d + 1) Q 197 [some (.ref 205), none, some (.int a2), none] [] (0, 0) (i9, l10, dd11, x12) (ab_E0 sc)
      refine ab_iconst (v := 1) dX12_readLine_197 (by decide) ?_
      exact ab_zret dX12_readLine_198 rfl (by decide) ⟨Nat.zero_le _, Nat.zero_le _⟩ (hk8 i9 l10 dd11 x12 hp13)
    · refine ab_aloadn dX12_readLine_177 rfl ?_
      refine ab_iconst (v := 1) dX12_readLine_178 (by decide) ?_
      obtain ⟨r14, P15, hs16, hk17⟩ := ((h.1 c1).2 c2)
      refine ab_callV (vs := [.int 1]) (st := []) dX12_readLine_179 okMX12_bad wd_1450 kd_205 rfl rfl rfl (Nat.le_of_ble_eq_true rfl) ⟨Nat.le_of_ble_eq_true rfl, Nat.le_of_ble_eq_true rfl⟩ hs16 ?_
      rintro v9 ⟨i18, l19, dd20, x21⟩ E9 - ⟨rfl, rfl, hp22⟩
      show ab_Fr MX12_readLine (d + 1) Q 182 [some (.ref 205), none, some (.int a2), none] [.int r14] (0, 0) (i18, l19, dd20, x21) (ab_E0 sc)
      exact ab_zret dX12_readLine_182 rfl (hk17 i18 l19 dd20 x21 hp22).1 ⟨Nat.zero_le _, Nat.zero_le _⟩ (hk17 i18 l19 dd20 x21 hp22).2
  · refine ab_iconst (v := 0) dX12_readLine_167 (by decide) ?_
    exact ab_zret dX12_readLine_168 rfl (by decide) ⟨Nat.zero_le _, Nat.zero_le _⟩ (h.2 c1)
theorem tMX12_lineAtHand_0 {d : Nat} {Q : ab_Qt} {sc : Nat × (Nat → Int32)} {i : Nat → Nat → Int32} {l : Nat → Nat → Int64} {dd : Nat → Nat → Value} {x : Nat}  
    (h : (∃ (r1 : Int64) (P2 : ab_S → Prop), ab_Sp MX12_spelt d [.int 116, .int 114, .int 117, .int 116, .int 104] (i, l, dd, x) (ab_E0 sc) (some (.long r1)) P2 ∧ ∀ i5 l6 dd7 x8, P2 (i5, l6, dd7, x8) → ∃ (r10 : Int32) (P11 : ab_S → Prop), ab_Sp MX12_isKey d [.ref 205, .long r1] (i5, l6, dd7, x8) (ab_E0 sc) (some (.int r10)) P11 ∧ ∀ i14 l15 dd16 x17, P11 (i14, l15, dd16, x17) → ((r10 = 0 → (∃ (r20 : Int64) (P21 : ab_S → Prop), ab_Sp MX12_spelt d [.int 118, .int 111, .int 116, .int 101, .int 114] (i14, l15, dd16, x17) (ab_E0 sc) (some (.long r20)) P21 ∧ ∀ i24 l25 dd26 x27, P21 (i24, l25, dd26, x27) → ∃ (r29 : Int32) (P30 : ab_S → Prop), ab_Sp MX12_isKey d [.ref 205, .long r20] (i24, l25, dd26, x27) (ab_E0 sc) (some (.int r29)) P30 ∧ ∀ i33 l34 dd35 x36, P30 (i33, l34, dd35, x36) → ((r29 = 0 → (∃ (r39 : Int64) (P40 : ab_S → Prop), ab_Sp MX12_spelt d [.int 108, .int 111, .int 115, .int 115, .int 0] (i33, l34, dd35, x36) (ab_E0 sc) (some (.long r39)) P40 ∧ ∀ i43 l44 dd45 x46, P40 (i43, l44, dd45, x46) → ∃ (r48 : Int32) (P49 : ab_S → Prop), ab_Sp MX12_isKey d [.ref 205, .long r39] (i43, l44, dd45, x46) (ab_E0 sc) (some (.int r48)) P49 ∧ ∀ i52 l53 dd54 x55, P49 (i52, l53, dd54, x55) → ((r48 = 0 → (∃ (r58 : Int64) (P59 : ab_S → Prop), ab_Sp MX12_spelt d [.int 119, .int 97, .int 121, .int 0, .int 0] (i52, l53, dd54, x55) (ab_E0 sc) (some (.long r58)) P59 ∧ ∀ i62 l63 dd64 x65, P59 (i62, l63, dd64, x65) → ∃ (r67 : Int32) (P68 : ab_S → Prop), ab_Sp MX12_isKey d [.ref 205, .long r58] (i62, l63, dd64, x65) (ab_E0 sc) (some (.int r67)) P68 ∧ ∀ i71 l72 dd73 x74, P68 (i71, l72, dd73, x74) → ((r67 = 0 → (∃ (r77 : Int64) (P78 : ab_S → Prop), ab_Sp MX12_six d [.int 119, .int 101, .int 105, .int 103, .int 104, .int 116] (i71, l72, dd73, x74) (ab_E0 sc) (some (.long r77)) P78 ∧ ∀ i81 l82 dd83 x84, P78 (i81, l82, dd83, x84) → ∃ (r86 : Int32) (P87 : ab_S → Prop), ab_Sp MX12_isKey d [.ref 205, .long r77] (i81, l82, dd83, x84) (ab_E0 sc) (some (.int r86)) P87 ∧ ∀ i90 l91 dd92 x93, P87 (i90, l91, dd92, x93) → ((r86 = 0 → (∃ (r96 : Int64) (P97 : ab_S → Prop), ab_Sp MX12_spelt d [.int 114, .int 117, .int 108, .int 101, .int 0] (i90, l91, dd92, x93) (ab_E0 sc) (some (.long r96)) P97 ∧ ∀ i100 l101 dd102 x103, P97 (i100, l101, dd102, x103) → ∃ (r105 : Int32) (P106 : ab_S → Prop), ab_Sp MX12_isKey d [.ref 205, .long r96] (i100, l101, dd102, x103) (ab_E0 sc) (some (.int r105)) P106 ∧ ∀ i109 l110 dd111 x112, P106 (i109, l110, dd111, x112) → ((r105 = 0 → Q (some (some (.int (-1)))) (i109, l110, dd111, x112) (ab_E0 sc)) ∧ (¬ r105 = 0 → Q (some (some (.int 5))) (i109, l110, dd111, x112) (ab_E0 sc))))) ∧ (¬ r86 = 0 → Q (some (some (.int 4))) (i90, l91, dd92, x93) (ab_E0 sc))))) ∧ (¬ r67 = 0 → Q (some (some (.int 3))) (i71, l72, dd73, x74) (ab_E0 sc))))) ∧ (¬ r48 = 0 → Q (some (some (.int 2))) (i52, l53, dd54, x55) (ab_E0 sc))))) ∧ (¬ r29 = 0 → Q (some (some (.int 1))) (i33, l34, dd35, x36) (ab_E0 sc))))) ∧ (¬ r10 = 0 → Q (some (some (.int 0))) (i14, l15, dd16, x17) (ab_E0 sc))))) :
    ab_Fr MX12_lineAtHand (d + 1) Q 0 [some (.ref 205)] [] (0, 0) (i, l, dd, x) (ab_E0 sc) := by
  refine ab_aloadn dX12_lineAtHand_0 rfl ?_
  refine ab_bipush (v := 116) dX12_lineAtHand_1 (by decide) ?_
  refine ab_bipush (v := 114) dX12_lineAtHand_3 (by decide) ?_
  refine ab_bipush (v := 117) dX12_lineAtHand_5 (by decide) ?_
  refine ab_bipush (v := 116) dX12_lineAtHand_7 (by decide) ?_
  refine ab_bipush (v := 104) dX12_lineAtHand_9 (by decide) ?_
  obtain ⟨r1, P2, hs3, hk4⟩ := h
  refine ab_callS (vs := [.int 116, .int 114, .int 117, .int 116, .int 104]) (st := [.ref 205]) dX12_lineAtHand_11 okMX12_spelt wd_1441 rfl rfl (Nat.le_of_ble_eq_true rfl) ⟨Nat.le_of_ble_eq_true rfl, Nat.le_of_ble_eq_true rfl⟩ hs3 ?_
  rintro v9 ⟨i5, l6, dd7, x8⟩ E9 - ⟨rfl, rfl, hp9⟩
  show ab_Fr MX12_lineAtHand (d + 1) Q 14 [some (.ref 205)] [.long r1, .ref 205] (0, 0) (i5, l6, dd7, x8) (ab_E0 sc)
  obtain ⟨r10, P11, hs12, hk13⟩ := (hk4 i5 l6 dd7 x8 hp9)
  refine ab_callV (vs := [.long r1]) (st := []) dX12_lineAtHand_14 okMX12_isKey wd_1444 kd_205 rfl rfl rfl (Nat.le_of_ble_eq_true rfl) ⟨Nat.le_of_ble_eq_true rfl, Nat.le_of_ble_eq_true rfl⟩ hs12 ?_
  rintro v9 ⟨i14, l15, dd16, x17⟩ E9 - ⟨rfl, rfl, hp18⟩
  show ab_Fr MX12_lineAtHand (d + 1) Q 17 [some (.ref 205)] [.int r10] (0, 0) (i14, l15, dd16, x17) (ab_E0 sc)
  refine ab_if_eq (tgt := 22) dX12_lineAtHand_17 (by decide) (fun c19 => ?_) (fun c19 => ?_)
  · refine ab_aloadn dX12_lineAtHand_22 rfl ?_
    refine ab_bipush (v := 118) dX12_lineAtHand_23 (by decide) ?_
    refine ab_bipush (v := 111) dX12_lineAtHand_25 (by decide) ?_
    refine ab_bipush (v := 116) dX12_lineAtHand_27 (by decide) ?_
    refine ab_bipush (v := 101) dX12_lineAtHand_29 (by decide) ?_
    refine ab_bipush (v := 114) dX12_lineAtHand_31 (by decide) ?_
    obtain ⟨r20, P21, hs22, hk23⟩ := ((hk13 i14 l15 dd16 x17 hp18).1 c19)
    refine ab_callS (vs := [.int 118, .int 111, .int 116, .int 101, .int 114]) (st := [.ref 205]) dX12_lineAtHand_33 okMX12_spelt wd_1441 rfl rfl (Nat.le_of_ble_eq_true rfl) ⟨Nat.le_of_ble_eq_true rfl, Nat.le_of_ble_eq_true rfl⟩ hs22 ?_
    rintro v9 ⟨i24, l25, dd26, x27⟩ E9 - ⟨rfl, rfl, hp28⟩
    show ab_Fr MX12_lineAtHand (d + 1) Q 36 [some (.ref 205)] [.long r20, .ref 205] (0, 0) (i24, l25, dd26, x27) (ab_E0 sc)
    obtain ⟨r29, P30, hs31, hk32⟩ := (hk23 i24 l25 dd26 x27 hp28)
    refine ab_callV (vs := [.long r20]) (st := []) dX12_lineAtHand_36 okMX12_isKey wd_1444 kd_205 rfl rfl rfl (Nat.le_of_ble_eq_true rfl) ⟨Nat.le_of_ble_eq_true rfl, Nat.le_of_ble_eq_true rfl⟩ hs31 ?_
    rintro v9 ⟨i33, l34, dd35, x36⟩ E9 - ⟨rfl, rfl, hp37⟩
    show ab_Fr MX12_lineAtHand (d + 1) Q 39 [some (.ref 205)] [.int r29] (0, 0) (i33, l34, dd35, x36) (ab_E0 sc)
    refine ab_if_eq (tgt := 44) dX12_lineAtHand_39 (by decide) (fun c38 => ?_) (fun c38 => ?_)
    · refine ab_aloadn dX12_lineAtHand_44 rfl ?_
      refine ab_bipush (v := 108) dX12_lineAtHand_45 (by decide) ?_
      refine ab_bipush (v := 111) dX12_lineAtHand_47 (by decide) ?_
      refine ab_bipush (v := 115) dX12_lineAtHand_49 (by decide) ?_
      refine ab_bipush (v := 115) dX12_lineAtHand_51 (by decide) ?_
      refine ab_iconst (v := 0) dX12_lineAtHand_53 (by decide) ?_
      obtain ⟨r39, P40, hs41, hk42⟩ := ((hk32 i33 l34 dd35 x36 hp37).1 c38)
      refine ab_callS (vs := [.int 108, .int 111, .int 115, .int 115, .int 0]) (st := [.ref 205]) dX12_lineAtHand_54 okMX12_spelt wd_1441 rfl rfl (Nat.le_of_ble_eq_true rfl) ⟨Nat.le_of_ble_eq_true rfl, Nat.le_of_ble_eq_true rfl⟩ hs41 ?_
      rintro v9 ⟨i43, l44, dd45, x46⟩ E9 - ⟨rfl, rfl, hp47⟩
      show ab_Fr MX12_lineAtHand (d + 1) Q 57 [some (.ref 205)] [.long r39, .ref 205] (0, 0) (i43, l44, dd45, x46) (ab_E0 sc)
      obtain ⟨r48, P49, hs50, hk51⟩ := (hk42 i43 l44 dd45 x46 hp47)
      refine ab_callV (vs := [.long r39]) (st := []) dX12_lineAtHand_57 okMX12_isKey wd_1444 kd_205 rfl rfl rfl (Nat.le_of_ble_eq_true rfl) ⟨Nat.le_of_ble_eq_true rfl, Nat.le_of_ble_eq_true rfl⟩ hs50 ?_
      rintro v9 ⟨i52, l53, dd54, x55⟩ E9 - ⟨rfl, rfl, hp56⟩
      show ab_Fr MX12_lineAtHand (d + 1) Q 60 [some (.ref 205)] [.int r48] (0, 0) (i52, l53, dd54, x55) (ab_E0 sc)
      refine ab_if_eq (tgt := 65) dX12_lineAtHand_60 (by decide) (fun c57 => ?_) (fun c57 => ?_)
      · refine ab_aloadn dX12_lineAtHand_65 rfl ?_
        refine ab_bipush (v := 119) dX12_lineAtHand_66 (by decide) ?_
        refine ab_bipush (v := 97) dX12_lineAtHand_68 (by decide) ?_
        refine ab_bipush (v := 121) dX12_lineAtHand_70 (by decide) ?_
        refine ab_iconst (v := 0) dX12_lineAtHand_72 (by decide) ?_
        refine ab_iconst (v := 0) dX12_lineAtHand_73 (by decide) ?_
        obtain ⟨r58, P59, hs60, hk61⟩ := ((hk51 i52 l53 dd54 x55 hp56).1 c57)
        refine ab_callS (vs := [.int 119, .int 97, .int 121, .int 0, .int 0]) (st := [.ref 205]) dX12_lineAtHand_74 okMX12_spelt wd_1441 rfl rfl (Nat.le_of_ble_eq_true rfl) ⟨Nat.le_of_ble_eq_true rfl, Nat.le_of_ble_eq_true rfl⟩ hs60 ?_
        rintro v9 ⟨i62, l63, dd64, x65⟩ E9 - ⟨rfl, rfl, hp66⟩
        show ab_Fr MX12_lineAtHand (d + 1) Q 77 [some (.ref 205)] [.long r58, .ref 205] (0, 0) (i62, l63, dd64, x65) (ab_E0 sc)
        obtain ⟨r67, P68, hs69, hk70⟩ := (hk61 i62 l63 dd64 x65 hp66)
        refine ab_callV (vs := [.long r58]) (st := []) dX12_lineAtHand_77 okMX12_isKey wd_1444 kd_205 rfl rfl rfl (Nat.le_of_ble_eq_true rfl) ⟨Nat.le_of_ble_eq_true rfl, Nat.le_of_ble_eq_true rfl⟩ hs69 ?_
        rintro v9 ⟨i71, l72, dd73, x74⟩ E9 - ⟨rfl, rfl, hp75⟩
        show ab_Fr MX12_lineAtHand (d + 1) Q 80 [some (.ref 205)] [.int r67] (0, 0) (i71, l72, dd73, x74) (ab_E0 sc)
        refine ab_if_eq (tgt := 85) dX12_lineAtHand_80 (by decide) (fun c76 => ?_) (fun c76 => ?_)
        · refine ab_aloadn dX12_lineAtHand_85 rfl ?_
          refine ab_bipush (v := 119) dX12_lineAtHand_86 (by decide) ?_
          refine ab_bipush (v := 101) dX12_lineAtHand_88 (by decide) ?_
          refine ab_bipush (v := 105) dX12_lineAtHand_90 (by decide) ?_
          refine ab_bipush (v := 103) dX12_lineAtHand_92 (by decide) ?_
          refine ab_bipush (v := 104) dX12_lineAtHand_94 (by decide) ?_
          refine ab_bipush (v := 116) dX12_lineAtHand_96 (by decide) ?_
          obtain ⟨r77, P78, hs79, hk80⟩ := ((hk70 i71 l72 dd73 x74 hp75).1 c76)
          refine ab_callS (vs := [.int 119, .int 101, .int 105, .int 103, .int 104, .int 116]) (st := [.ref 205]) dX12_lineAtHand_98 okMX12_six wd_1447 rfl rfl (Nat.le_of_ble_eq_true rfl) ⟨Nat.le_of_ble_eq_true rfl, Nat.le_of_ble_eq_true rfl⟩ hs79 ?_
          rintro v9 ⟨i81, l82, dd83, x84⟩ E9 - ⟨rfl, rfl, hp85⟩
          show ab_Fr MX12_lineAtHand (d + 1) Q 101 [some (.ref 205)] [.long r77, .ref 205] (0, 0) (i81, l82, dd83, x84) (ab_E0 sc)
          obtain ⟨r86, P87, hs88, hk89⟩ := (hk80 i81 l82 dd83 x84 hp85)
          refine ab_callV (vs := [.long r77]) (st := []) dX12_lineAtHand_101 okMX12_isKey wd_1444 kd_205 rfl rfl rfl (Nat.le_of_ble_eq_true rfl) ⟨Nat.le_of_ble_eq_true rfl, Nat.le_of_ble_eq_true rfl⟩ hs88 ?_
          rintro v9 ⟨i90, l91, dd92, x93⟩ E9 - ⟨rfl, rfl, hp94⟩
          show ab_Fr MX12_lineAtHand (d + 1) Q 104 [some (.ref 205)] [.int r86] (0, 0) (i90, l91, dd92, x93) (ab_E0 sc)
          refine ab_if_eq (tgt := 109) dX12_lineAtHand_104 (by decide) (fun c95 => ?_) (fun c95 => ?_)
          · refine ab_aloadn dX12_lineAtHand_109 rfl ?_
            refine ab_bipush (v := 114) dX12_lineAtHand_110 (by decide) ?_
            refine ab_bipush (v := 117) dX12_lineAtHand_112 (by decide) ?_
            refine ab_bipush (v := 108) dX12_lineAtHand_114 (by decide) ?_
            refine ab_bipush (v := 101) dX12_lineAtHand_116 (by decide) ?_
            refine ab_iconst (v := 0) dX12_lineAtHand_118 (by decide) ?_
            obtain ⟨r96, P97, hs98, hk99⟩ := ((hk89 i90 l91 dd92 x93 hp94).1 c95)
            refine ab_callS (vs := [.int 114, .int 117, .int 108, .int 101, .int 0]) (st := [.ref 205]) dX12_lineAtHand_119 okMX12_spelt wd_1441 rfl rfl (Nat.le_of_ble_eq_true rfl) ⟨Nat.le_of_ble_eq_true rfl, Nat.le_of_ble_eq_true rfl⟩ hs98 ?_
            rintro v9 ⟨i100, l101, dd102, x103⟩ E9 - ⟨rfl, rfl, hp104⟩
            show ab_Fr MX12_lineAtHand (d + 1) Q 122 [some (.ref 205)] [.long r96, .ref 205] (0, 0) (i100, l101, dd102, x103) (ab_E0 sc)
            obtain ⟨r105, P106, hs107, hk108⟩ := (hk99 i100 l101 dd102 x103 hp104)
            refine ab_callV (vs := [.long r96]) (st := []) dX12_lineAtHand_122 okMX12_isKey wd_1444 kd_205 rfl rfl rfl (Nat.le_of_ble_eq_true rfl) ⟨Nat.le_of_ble_eq_true rfl, Nat.le_of_ble_eq_true rfl⟩ hs107 ?_
            rintro v9 ⟨i109, l110, dd111, x112⟩ E9 - ⟨rfl, rfl, hp113⟩
            show ab_Fr MX12_lineAtHand (d + 1) Q 125 [some (.ref 205)] [.int r105] (0, 0) (i109, l110, dd111, x112) (ab_E0 sc)
            refine ab_if_eq (tgt := 132) dX12_lineAtHand_125 (by decide) (fun c114 => ?_) (fun c114 => ?_)
            · refine ab_iconst (v := (-1)) dX12_lineAtHand_132 (by decide) ?_
              exact ab_iret dX12_lineAtHand_133 rfl ⟨Nat.zero_le _, Nat.zero_le _⟩ ((hk108 i109 l110 dd111 x112 hp113).1 c114)
            · refine ab_iconst (v := 5) dX12_lineAtHand_128 (by decide) ?_
              refine ab_goto (tgt := 133) dX12_lineAtHand_129 (by decide) ?_
              exact ab_iret dX12_lineAtHand_133 rfl ⟨Nat.zero_le _, Nat.zero_le _⟩ ((hk108 i109 l110 dd111 x112 hp113).2 c114)
          · refine ab_iconst (v := 4) dX12_lineAtHand_107 (by decide) ?_
            exact ab_iret dX12_lineAtHand_108 rfl ⟨Nat.zero_le _, Nat.zero_le _⟩ ((hk89 i90 l91 dd92 x93 hp94).2 c95)
        · refine ab_iconst (v := 3) dX12_lineAtHand_83 (by decide) ?_
          exact ab_iret dX12_lineAtHand_84 rfl ⟨Nat.zero_le _, Nat.zero_le _⟩ ((hk70 i71 l72 dd73 x74 hp75).2 c76)
      · refine ab_iconst (v := 2) dX12_lineAtHand_63 (by decide) ?_
        exact ab_iret dX12_lineAtHand_64 rfl ⟨Nat.zero_le _, Nat.zero_le _⟩ ((hk51 i52 l53 dd54 x55 hp56).2 c57)
    · refine ab_iconst (v := 1) dX12_lineAtHand_42 (by decide) ?_
      exact ab_iret dX12_lineAtHand_43 rfl ⟨Nat.zero_le _, Nat.zero_le _⟩ ((hk32 i33 l34 dd35 x36 hp37).2 c38)
  · refine ab_iconst (v := 0) dX12_lineAtHand_20 (by decide) ?_
    exact ab_iret dX12_lineAtHand_21 rfl ⟨Nat.zero_le _, Nat.zero_le _⟩ ((hk13 i14 l15 dd16 x17 hp18).2 c19)
theorem tMX12_spelt_0 {d : Nat} {Q : ab_Qt} {sc : Nat × (Nat → Int32)} {i : Nat → Nat → Int32} {l : Nat → Nat → Int64} {dd : Nat → Nat → Value} {x : Nat} {a0 : Int32} {a1 : Int32} {a2 : Int32} {a3 : Int32} {a4 : Int32} 
    (h : ((a3 ≤ 0 → ab_Fr MX12_spelt (d + 1) Q 49 [none, none, none, none, some (.int a4), some (.long (((27 * (((27 * (a0.toInt64 - 96)) + a1.toInt64) - 96)) + a2.toInt64) - 96)), none] [] (0, 0) (i, l, dd, x) (ab_E0 sc)) ∧ (¬ a3 ≤ 0 → ab_Fr MX12_spelt (d + 1) Q 49 [none, none, none, none, some (.int a4), some (.long (((27 * (((27 * (((27 * (a0.toInt64 - 96)) + a1.toInt64) - 96)) + a2.toInt64) - 96)) + a3.toInt64) - 96)), none] [] (0, 0) (i, l, dd, x) (ab_E0 sc)))) :
    ab_Fr MX12_spelt (d + 1) Q 0 [some (.int a0), some (.int a1), some (.int a2), some (.int a3), some (.int a4), none, none] [] (0, 0) (i, l, dd, x) (ab_E0 sc) := by
  refine ab_ldc2 dX12_spelt_0 wd_1433 ?_
  refine ab_ldc2 dX12_spelt_3 wd_1433 ?_
  refine ab_iloadn dX12_spelt_6 rfl ?_
  refine ab_i2l dX12_spelt_7 rfl ?_
  refine ab_ldc2 dX12_spelt_8 wd_1434 ?_
  refine ab_lsub dX12_spelt_11 ?_
  refine ab_lmul dX12_spelt_12 ?_
  refine ab_iloadn dX12_spelt_13 rfl ?_
  refine ab_i2l dX12_spelt_14 rfl ?_
  refine ab_ladd dX12_spelt_15 ?_
  refine ab_ldc2 dX12_spelt_16 wd_1434 ?_
  refine ab_lsub dX12_spelt_19 ?_
  refine ab_lmul dX12_spelt_20 ?_
  refine ab_iloadn dX12_spelt_21 rfl ?_
  refine ab_i2l dX12_spelt_22 rfl ?_
  refine ab_ladd dX12_spelt_23 ?_
  refine ab_ldc2 dX12_spelt_24 wd_1434 ?_
  refine ab_lsub dX12_spelt_27 ?_
  refine ab_lstore dX12_spelt_28 (Nat.le_of_ble_eq_true rfl) (L2 := [some (.int a0), some (.int a1), some (.int a2), some (.int a3), some (.int a4), some (.long (((27 * (((27 * (a0.toInt64 - 96)) + a1.toInt64) - 96)) + a2.toInt64) - 96)), none]) rfl ?_
  refine ab_iloadn dX12_spelt_30 rfl ?_
  refine ab_if_le (tgt := 49) dX12_spelt_31 (by decide) (fun c1 => ?_) (fun c1 => ?_)
  · refine ab_forget (i := 0) (L2 := [none, some (.int a1), some (.int a2), some (.int a3), some (.int a4), some (.long (((27 * (((27 * (a0.toInt64 - 96)) + a1.toInt64) - 96)) + a2.toInt64) - 96)), none]) rfl ?_
    refine ab_forget (i := 1) (L2 := [none, none, some (.int a2), some (.int a3), some (.int a4), some (.long (((27 * (((27 * (a0.toInt64 - 96)) + a1.toInt64) - 96)) + a2.toInt64) - 96)), none]) rfl ?_
    refine ab_forget (i := 2) (L2 := [none, none, none, some (.int a3), some (.int a4), some (.long (((27 * (((27 * (a0.toInt64 - 96)) + a1.toInt64) - 96)) + a2.toInt64) - 96)), none]) rfl ?_
    refine ab_forget (i := 3) (L2 := [none, none, none, none, some (.int a4), some (.long (((27 * (((27 * (a0.toInt64 - 96)) + a1.toInt64) - 96)) + a2.toInt64) - 96)), none]) rfl ?_
    exact (h.1 c1)
  · refine ab_ldc2 dX12_spelt_34 wd_1433 ?_
    refine ab_lload dX12_spelt_37 rfl ?_
    refine ab_lmul dX12_spelt_39 ?_
    refine ab_iloadn dX12_spelt_40 rfl ?_
    refine ab_i2l dX12_spelt_41 rfl ?_
    refine ab_ladd dX12_spelt_42 ?_
    refine ab_ldc2 dX12_spelt_43 wd_1434 ?_
    refine ab_lsub dX12_spelt_46 ?_
    refine ab_lstore dX12_spelt_47 (Nat.le_of_ble_eq_true rfl) (L2 := [some (.int a0), some (.int a1), some (.int a2), some (.int a3), some (.int a4), some (.long (((27 * (((27 * (((27 * (a0.toInt64 - 96)) + a1.toInt64) - 96)) + a2.toInt64) - 96)) + a3.toInt64) - 96)), none]) rfl ?_
    refine ab_forget (i := 0) (L2 := [none, some (.int a1), some (.int a2), some (.int a3), some (.int a4), some (.long (((27 * (((27 * (((27 * (a0.toInt64 - 96)) + a1.toInt64) - 96)) + a2.toInt64) - 96)) + a3.toInt64) - 96)), none]) rfl ?_
    refine ab_forget (i := 1) (L2 := [none, none, some (.int a2), some (.int a3), some (.int a4), some (.long (((27 * (((27 * (((27 * (a0.toInt64 - 96)) + a1.toInt64) - 96)) + a2.toInt64) - 96)) + a3.toInt64) - 96)), none]) rfl ?_
    refine ab_forget (i := 2) (L2 := [none, none, none, some (.int a3), some (.int a4), some (.long (((27 * (((27 * (((27 * (a0.toInt64 - 96)) + a1.toInt64) - 96)) + a2.toInt64) - 96)) + a3.toInt64) - 96)), none]) rfl ?_
    refine ab_forget (i := 3) (L2 := [none, none, none, none, some (.int a4), some (.long (((27 * (((27 * (((27 * (a0.toInt64 - 96)) + a1.toInt64) - 96)) + a2.toInt64) - 96)) + a3.toInt64) - 96)), none]) rfl ?_
    exact (h.2 c1)
theorem tMX12_spelt_49 {d : Nat} {Q : ab_Qt} {sc : Nat × (Nat → Int32)} {i : Nat → Nat → Int32} {l : Nat → Nat → Int64} {dd : Nat → Nat → Value} {x : Nat} {a4 : Int32} {a5 : Int64} 
    (h : ((a4 ≤ 0 → Q (some (some (.long a5))) (i, l, dd, x) (ab_E0 sc)) ∧ (¬ a4 ≤ 0 → Q (some (some (.long (((27 * a5) + a4.toInt64) - 96)))) (i, l, dd, x) (ab_E0 sc)))) :
    ab_Fr MX12_spelt (d + 1) Q 49 [none, none, none, none, some (.int a4), some (.long a5), none] [] (0, 0) (i, l, dd, x) (ab_E0 sc) := by
  refine ab_iload dX12_spelt_49 rfl ?_
  refine ab_if_le (tgt := 71) dX12_spelt_51 (by decide) (fun c1 => ?_) (fun c1 => ?_)
  · refine ab_lload dX12_spelt_71 rfl ?_
    exact ab_lret dX12_spelt_73 rfl ⟨Nat.zero_le _, Nat.zero_le _⟩ (h.1 c1)
  · refine ab_ldc2 dX12_spelt_54 wd_1433 ?_
    refine ab_lload dX12_spelt_57 rfl ?_
    refine ab_lmul dX12_spelt_59 ?_
    refine ab_iload dX12_spelt_60 rfl ?_
    refine ab_i2l dX12_spelt_62 rfl ?_
    refine ab_ladd dX12_spelt_63 ?_
    refine ab_ldc2 dX12_spelt_64 wd_1434 ?_
    refine ab_lsub dX12_spelt_67 ?_
    refine ab_goto (tgt := 73) dX12_spelt_68 (by decide) ?_
    exact ab_lret dX12_spelt_73 rfl ⟨Nat.zero_le _, Nat.zero_le _⟩ (h.2 c1)
theorem tMX12_isKey_0 {d : Nat} {Q : ab_Qt} {sc : Nat × (Nat → Int32)} {i : Nat → Nat → Int32} {l : Nat → Nat → Int64} {dd : Nat → Nat → Value} {x : Nat} {a1 : Int64} 
    (h : ((¬ (i 205 6) = 2 → Q (some (some (.int 0))) (i, l, dd, x) (ab_E0 sc)) ∧ ((i 205 6) = 2 → ((¬ (l 205 10) = a1 → Q (some (some (.int 0))) (i, l, dd, x) (ab_E0 sc)) ∧ ((l 205 10) = a1 → Q (some (some (.int 1))) (i, l, dd, x) (ab_E0 sc)))))) :
    ab_Fr MX12_isKey (d + 1) Q 0 [some (.ref 205), some (.long a1), none] [] (0, 0) (i, l, dd, x) (ab_E0 sc) := by
  refine ab_aloadn dX12_isKey_0 rfl ?_
  refine ab_getf (v := .int (i 205 6)) dX12_isKey_1 fl_X12_169 kd_205 rfl ?_
  refine ab_iconst (v := 2) dX12_isKey_4 (by decide) ?_
  refine ab_icmp_ne (tgt := 21) dX12_isKey_5 (by decide) (fun c1 => ?_) (fun c1 => ?_)
  · refine ab_iconst (v := 0) dX12_isKey_21 (by decide) ?_
    exact ab_zret dX12_isKey_22 rfl (by decide) ⟨Nat.zero_le _, Nat.zero_le _⟩ (h.1 c1)
  · refine ab_aloadn dX12_isKey_8 rfl ?_
    refine ab_getf (v := .long (l 205 10)) dX12_isKey_9 fl_X12_179 kd_205 rfl ?_
    refine ab_lloadn dX12_isKey_12 rfl ?_
    refine ab_lcne (tgt := 21) dX12_isKey_13 dX12_isKey_14 (by decide) (fun c2 => ?_) (fun c2 => ?_)
    · refine ab_iconst (v := 0) dX12_isKey_21 (by decide) ?_
      exact ab_zret dX12_isKey_22 rfl (by decide) ⟨Nat.zero_le _, Nat.zero_le _⟩ ((h.2 c1).1 c2)
    · refine ab_iconst (v := 1) dX12_isKey_17 (by decide) ?_
      refine ab_goto (tgt := 22) dX12_isKey_18 (by decide) ?_
      exact ab_zret dX12_isKey_22 rfl (by decide) ⟨Nat.zero_le _, Nat.zero_le _⟩ ((h.2 c1).2 c2)
theorem tMX12_six_0 {d : Nat} {Q : ab_Qt} {sc : Nat × (Nat → Int32)} {i : Nat → Nat → Int32} {l : Nat → Nat → Int64} {dd : Nat → Nat → Value} {x : Nat} {a0 : Int32} {a1 : Int32} {a2 : Int32} {a3 : Int32} {a4 : Int32} {a5 : Int32} 
    (h : (∃ (r1 : Int64) (P2 : ab_S → Prop), ab_Sp MX12_spelt d [.int a0, .int a1, .int a2, .int a3, .int a4] (i, l, dd, x) (ab_E0 sc) (some (.long r1)) P2 ∧ ∀ i5 l6 dd7 x8, P2 (i5, l6, dd7, x8) → Q (some (some (.long (((27 * r1) + a5.toInt64) - 96)))) (i5, l6, dd7, x8) (ab_E0 sc))) :
    ab_Fr MX12_six (d + 1) Q 0 [some (.int a0), some (.int a1), some (.int a2), some (.int a3), some (.int a4), some (.int a5)] [] (0, 0) (i, l, dd, x) (ab_E0 sc) := by
  refine ab_ldc2 dX12_six_0 wd_1433 ?_
  refine ab_iloadn dX12_six_3 rfl ?_
  refine ab_iloadn dX12_six_4 rfl ?_
  refine ab_iloadn dX12_six_5 rfl ?_
  refine ab_iloadn dX12_six_6 rfl ?_
  refine ab_iload dX12_six_7 rfl ?_
  obtain ⟨r1, P2, hs3, hk4⟩ := h
  refine ab_callS (vs := [.int a0, .int a1, .int a2, .int a3, .int a4]) (st := [.long 27]) dX12_six_9 okMX12_spelt wd_1441 rfl rfl (Nat.le_of_ble_eq_true rfl) ⟨Nat.le_of_ble_eq_true rfl, Nat.le_of_ble_eq_true rfl⟩ hs3 ?_
  rintro v9 ⟨i5, l6, dd7, x8⟩ E9 - ⟨rfl, rfl, hp9⟩
  show ab_Fr MX12_six (d + 1) Q 12 [some (.int a0), some (.int a1), some (.int a2), some (.int a3), some (.int a4), some (.int a5)] [.long r1, .long 27] (0, 0) (i5, l6, dd7, x8) (ab_E0 sc)
  refine ab_lmul dX12_six_12 ?_
  refine ab_iload dX12_six_13 rfl ?_
  refine ab_i2l dX12_six_15 rfl ?_
  refine ab_ladd dX12_six_16 ?_
  refine ab_ldc2 dX12_six_17 wd_1434 ?_
  refine ab_lsub dX12_six_20 ?_
  exact ab_lret dX12_six_21 rfl ⟨Nat.zero_le _, Nat.zero_le _⟩ (hk4 i5 l6 dd7 x8 hp9)
theorem tMX12_bad_0 {d : Nat} {Q : ab_Qt} {sc : Nat × (Nat → Int32)} {i : Nat → Nat → Int32} {l : Nat → Nat → Int64} {dd : Nat → Nat → Value} {x : Nat} {a1 : Int32} 
    (h : ((¬ (i 205 6) = 1 → (∀ i2, i2 = ab_u i 205 8 a1 → ∀ i4, i4 = ab_u i2 205 9 (i2 205 5) → Q (some (some (.int 0))) (i4, l, dd, x) (ab_E0 sc))) ∧ ((i 205 6) = 1 → (∀ i6, i6 = ab_u i 205 8 1 → ∀ i8, i8 = ab_u i6 205 9 (i6 205 5) → Q (some (some (.int 0))) (i8, l, dd, x) (ab_E0 sc))))) :
    ab_Fr MX12_bad (d + 1) Q 0 [some (.ref 205), some (.int a1)] [] (0, 0) (i, l, dd, x) (ab_E0 sc) := by
  refine ab_aloadn dX12_bad_0 rfl ?_
  refine ab_aloadn dX12_bad_1 rfl ?_
  refine ab_getf (v := .int (i 205 6)) dX12_bad_2 fl_X12_169 kd_205 rfl ?_
  refine ab_iconst (v := 1) dX12_bad_5 (by decide) ?_
  refine ab_icmp_ne (tgt := 13) dX12_bad_6 (by decide) (fun c1 => ?_) (fun c1 => ?_)
  · refine ab_iloadn dX12_bad_13 rfl ?_
    refine ab_putI dX12_bad_14 fl_X12_197 kd_205 rfl ?_
    obtain ⟨i2, e3⟩ : ∃ z, z = ab_u i 205 8 a1 := ⟨_, rfl⟩
    show ab_Fr MX12_bad (d + 1) Q 17 [some (.ref 205), some (.int a1)] [] (0, 0) (ab_u i 205 8 a1, l, dd, x) (ab_E0 sc)
    rw [show ab_u i 205 8 a1 = i2 from e3.symm]
    refine ab_aloadn dX12_bad_17 rfl ?_
    refine ab_aloadn dX12_bad_18 rfl ?_
    refine ab_getf (v := .int (i2 205 5)) dX12_bad_19 fl_X12_166 kd_205 rfl ?_
    refine ab_putI dX12_bad_22 fl_X12_200 kd_205 rfl ?_
    obtain ⟨i4, e5⟩ : ∃ z, z = ab_u i2 205 9 (i2 205 5) := ⟨_, rfl⟩
    show ab_Fr MX12_bad (d + 1) Q 25 [some (.ref 205), some (.int a1)] [] (0, 0) (ab_u i2 205 9 (i2 205 5), l, dd, x) (ab_E0 sc)
    rw [show ab_u i2 205 9 (i2 205 5) = i4 from e5.symm]
    refine ab_iconst (v := 0) dX12_bad_25 (by decide) ?_
    exact ab_zret dX12_bad_26 rfl (by decide) ⟨Nat.zero_le _, Nat.zero_le _⟩ (((h.1 c1) i2 e3) i4 e5)
  · refine ab_iconst (v := 1) dX12_bad_9 (by decide) ?_
    refine ab_goto (tgt := 14) dX12_bad_10 (by decide) ?_
    refine ab_putI dX12_bad_14 fl_X12_197 kd_205 rfl ?_
    obtain ⟨i6, e7⟩ : ∃ z, z = ab_u i 205 8 1 := ⟨_, rfl⟩
    show ab_Fr MX12_bad (d + 1) Q 17 [some (.ref 205), some (.int a1)] [] (0, 0) (ab_u i 205 8 1, l, dd, x) (ab_E0 sc)
    rw [show ab_u i 205 8 1 = i6 from e7.symm]
    refine ab_aloadn dX12_bad_17 rfl ?_
    refine ab_aloadn dX12_bad_18 rfl ?_
    refine ab_getf (v := .int (i6 205 5)) dX12_bad_19 fl_X12_166 kd_205 rfl ?_
    refine ab_putI dX12_bad_22 fl_X12_200 kd_205 rfl ?_
    obtain ⟨i8, e9⟩ : ∃ z, z = ab_u i6 205 9 (i6 205 5) := ⟨_, rfl⟩
    show ab_Fr MX12_bad (d + 1) Q 25 [some (.ref 205), some (.int a1)] [] (0, 0) (ab_u i6 205 9 (i6 205 5), l, dd, x) (ab_E0 sc)
    rw [show ab_u i6 205 9 (i6 205 5) = i8 from e9.symm]
    refine ab_iconst (v := 0) dX12_bad_25 (by decide) ?_
    exact ab_zret dX12_bad_26 rfl (by decide) ⟨Nat.zero_le _, Nat.zero_le _⟩ (((h.2 c1) i6 e7) i8 e9)
theorem tMX12_areTruths_0 {d : Nat} {Q : ab_Qt} {sc : Nat × (Nat → Int32)} {i : Nat → Nat → Int32} {l : Nat → Nat → Int64} {dd : Nat → Nat → Value} {x : Nat}  
    (h : ab_Fr MX12_areTruths (d + 1) Q 4 [some (.ref 205), some (.int 0), some (.int 0)] [] (0, 0) (i, l, dd, x) (ab_E0 sc)) :
    ab_Fr MX12_areTruths (d + 1) Q 0 [some (.ref 205), none, none] [] (0, 0) (i, l, dd, x) (ab_E0 sc) := by
  refine ab_iconst (v := 0) dX12_areTruths_0 (by decide) ?_
  refine ab_istoren dX12_areTruths_1 (Nat.le_of_ble_eq_true rfl) (L2 := [some (.ref 205), some (.int 0), none]) rfl ?_
  refine ab_iconst (v := 0) dX12_areTruths_2 (by decide) ?_
  refine ab_istoren dX12_areTruths_3 (Nat.le_of_ble_eq_true rfl) (L2 := [some (.ref 205), some (.int 0), some (.int 0)]) rfl ?_
  exact h
theorem tMX12_areTruths_4 {d : Nat} {Q : ab_Qt} {sc : Nat × (Nat → Int32)} {i : Nat → Nat → Int32} {l : Nat → Nat → Int64} {dd : Nat → Nat → Value} {x : Nat} {a1 : Int32} {a2 : Int32} 
    (h : (((i 209 1) ≤ a2 → (((i 209 1) ≤ 1 → Q (some (some (.int 0))) (i, l, dd, x) (ab_E0 sc)) ∧ (¬ (i 209 1) ≤ 1 → ((¬ a1 = 20 → Q (some (some (.int 0))) (i, l, dd, x) (ab_E0 sc)) ∧ (a1 = 20 → Q (some (some (.int 1))) (i, l, dd, x) (ab_E0 sc)))))) ∧ (¬ (i 209 1) ≤ a2 → (vp_in (3 + a2) 6 ∧ ab_Fr MX12_areTruths (d + 1) Q 4 [some (.ref 205), some (.int (a1 + (i 211 (3 + a2).toNatClampNeg))), some (.int (a2 + 1))] [] (0, 0) (i, l, dd, x) (ab_E0 sc))))) :
    ab_Fr MX12_areTruths (d + 1) Q 4 [some (.ref 205), some (.int a1), some (.int a2)] [] (0, 0) (i, l, dd, x) (ab_E0 sc) := by
  refine ab_iloadn dX12_areTruths_4 rfl ?_
  refine ab_aloadn dX12_areTruths_5 rfl ?_
  refine ab_getf (v := .ref 209) dX12_areTruths_6 fl_X12_20 kd_205 ff_205_13 ?_
  refine ab_iconst (v := 1) dX12_areTruths_9 (by decide) ?_
  refine ab_iaload (v := (i 209 1)) dX12_areTruths_10 kd_209 (ab_vp (by decide)) rfl ?_
  refine ab_icmp_ge (tgt := 31) dX12_areTruths_11 (by decide) (fun c1 => ?_) (fun c1 => ?_)
  · refine ab_aloadn dX12_areTruths_31 rfl ?_
    refine ab_getf (v := .ref 209) dX12_areTruths_32 fl_X12_20 kd_205 ff_205_13 ?_
    refine ab_iconst (v := 1) dX12_areTruths_35 (by decide) ?_
    refine ab_iaload (v := (i 209 1)) dX12_areTruths_36 kd_209 (ab_vp (by decide)) rfl ?_
    refine ab_iconst (v := 1) dX12_areTruths_37 (by decide) ?_
    refine ab_icmp_le (tgt := 51) dX12_areTruths_38 (by decide) (fun c2 => ?_) (fun c2 => ?_)
    · refine ab_iconst (v := 0) dX12_areTruths_51 (by decide) ?_
      exact ab_zret dX12_areTruths_52 rfl (by decide) ⟨Nat.zero_le _, Nat.zero_le _⟩ ((h.1 c1).1 c2)
    · refine ab_iloadn dX12_areTruths_41 rfl ?_
      refine ab_bipush (v := 20) dX12_areTruths_42 (by decide) ?_
      refine ab_icmp_ne (tgt := 51) dX12_areTruths_44 (by decide) (fun c3 => ?_) (fun c3 => ?_)
      · refine ab_iconst (v := 0) dX12_areTruths_51 (by decide) ?_
        exact ab_zret dX12_areTruths_52 rfl (by decide) ⟨Nat.zero_le _, Nat.zero_le _⟩ (((h.1 c1).2 c2).1 c3)
      · refine ab_iconst (v := 1) dX12_areTruths_47 (by decide) ?_
        refine ab_goto (tgt := 52) dX12_areTruths_48 (by decide) ?_
        exact ab_zret dX12_areTruths_52 rfl (by decide) ⟨Nat.zero_le _, Nat.zero_le _⟩ (((h.1 c1).2 c2).2 c3)
  · refine ab_iloadn dX12_areTruths_14 rfl ?_
    refine ab_aloadn dX12_areTruths_15 rfl ?_
    refine ab_getf (v := .ref 211) dX12_areTruths_16 fl_X12_26 kd_205 ff_205_15 ?_
    refine ab_iconst (v := 3) dX12_areTruths_19 (by decide) ?_
    refine ab_iloadn dX12_areTruths_20 rfl ?_
    refine ab_iadd dX12_areTruths_21 ?_
    refine ab_iaload (v := (i 211 (3 + a2).toNatClampNeg)) dX12_areTruths_22 kd_211 (h.2 c1).1 rfl ?_
    refine ab_iadd dX12_areTruths_23 ?_
    refine ab_istoren dX12_areTruths_24 (Nat.le_of_ble_eq_true rfl) (L2 := [some (.ref 205), some (.int (a1 + (i 211 (3 + a2).toNatClampNeg))), some (.int a2)]) rfl ?_
    refine ab_iinc (v := (a2 + 1)) dX12_areTruths_25 rfl (by rfl) (Nat.le_of_ble_eq_true rfl) (L2 := [some (.ref 205), some (.int (a1 + (i 211 (3 + a2).toNatClampNeg))), some (.int (a2 + 1))]) rfl ?_
    refine ab_goto (tgt := 4) dX12_areTruths_28 (by decide) ?_
    exact (h.2 c1).2
theorem tMX12_readTruthLine_0 {d : Nat} {Q : ab_Qt} {sc : Nat × (Nat → Int32)} {i : Nat → Nat → Int32} {l : Nat → Nat → Int64} {dd : Nat → Nat → Value} {x : Nat}  
    (h : (((i 209 1) = 3 → ab_Fr MX12_readTruthLine (d + 1) Q 23 [some (.ref 205)] [] (0, 0) (i, l, dd, x) (ab_E0 sc)) ∧ (¬ (i 209 1) = 3 → (((i 205 27) ≤ (i 209 1) → (∃ (P4 : ab_S → Prop), ab_Sp MX12_go d [.ref 205] (i, l, dd, x) (ab_E0 sc) (none) P4 ∧ ∀ i7 l8 dd9 x10, P4 (i7, l8, dd9, x10) → ∃ (r12 : Int32) (P13 : ab_S → Prop), ab_Sp MX12_readNew d [.ref 205] (i7, l8, dd9, x10) (ab_E0 sc) (some (.int r12)) P13 ∧ ∀ i16 l17 dd18 x19, P13 (i16, l17, dd18, x19) → ((¬ r12 = 0 → (vp_in (3 + (i16 209 1)) 6 ∧ ∀ l22, l22 = ab_u l17 207 (3 + (i16 209 1)).toNatClampNeg (l17 205 10) → ∃ (P25 : ab_S → Prop), ab_Sp MX12_go d [.ref 205] (i16, l22, dd18, x19) (ab_E0 sc) (none) P25 ∧ ∀ i28 l29 dd30 x31, P25 (i28, l29, dd30, x31) → ∃ (r33 : Int32) (P34 : ab_S → Prop), ab_Sp MX12_readNumber d [.ref 205, .int 1, .int 19] (i28, l29, dd30, x31) (ab_E0 sc) (some (.int r33)) P34 ∧ ∀ i37 l38 dd39 x40, P34 (i37, l38, dd39, x40) → ((¬ r33 = 0 → (vp_in (3 + (i37 209 1)) 6 ∧ ∀ i43, i43 = ab_u i37 211 (3 + (i37 209 1)).toNatClampNeg (i37 205 28) → ∀ i45, i45 = ab_u i43 209 1 ((i43 209 1) + 1) → Q (some (some (.int 1))) (i45, l38, dd39, x40) (ab_E0 sc))) ∧ (r33 = 0 → Q (some (some (.int 0))) (i37, l38, dd39, x40) (ab_E0 sc))))) ∧ (r12 = 0 → Q (some (some (.int 0))) (i16, l17, dd18, x19) (ab_E0 sc))))) ∧ (¬ (i 205 27) ≤ (i 209 1) → ab_Fr MX12_readTruthLine (d + 1) Q 23 [some (.ref 205)] [] (0, 0) (i, l, dd, x) (ab_E0 sc)))))) :
    ab_Fr MX12_readTruthLine (d + 1) Q 0 [some (.ref 205)] [] (0, 0) (i, l, dd, x) (ab_E0 sc) := by
  refine ab_aloadn dX12_readTruthLine_0 rfl ?_
  refine ab_getf (v := .ref 209) dX12_readTruthLine_1 fl_X12_20 kd_205 ff_205_13 ?_
  refine ab_iconst (v := 1) dX12_readTruthLine_4 (by decide) ?_
  refine ab_iaload (v := (i 209 1)) dX12_readTruthLine_5 kd_209 (ab_vp (by decide)) rfl ?_
  refine ab_iconst (v := 3) dX12_readTruthLine_6 (by decide) ?_
  refine ab_icmp_eq (tgt := 23) dX12_readTruthLine_7 (by decide) (fun c1 => ?_) (fun c1 => ?_)
  · exact (h.1 c1)
  · refine ab_aloadn dX12_readTruthLine_10 rfl ?_
    refine ab_getf (v := .int (i 205 27)) dX12_readTruthLine_11 fl_X12_251 kd_205 rfl ?_
    refine ab_aloadn dX12_readTruthLine_14 rfl ?_
    refine ab_getf (v := .ref 209) dX12_readTruthLine_15 fl_X12_20 kd_205 ff_205_13 ?_
    refine ab_iconst (v := 1) dX12_readTruthLine_18 (by decide) ?_
    refine ab_iaload (v := (i 209 1)) dX12_readTruthLine_19 kd_209 (ab_vp (by decide)) rfl ?_
    refine ab_icmp_le (tgt := 29) dX12_readTruthLine_20 (by decide) (fun c2 => ?_) (fun c2 => ?_)
    · refine ab_aloadn dX12_readTruthLine_29 rfl ?_
      obtain ⟨P4, hs5, hk6⟩ := ((h.2 c1).1 c2)
      refine ab_callV (vs := []) (st := []) dX12_readTruthLine_30 okMX12_go wd_1421 kd_205 rfl rfl rfl (Nat.le_of_ble_eq_true rfl) ⟨Nat.le_of_ble_eq_true rfl, Nat.le_of_ble_eq_true rfl⟩ hs5 ?_
      rintro v9 ⟨i7, l8, dd9, x10⟩ E9 - ⟨rfl, rfl, hp11⟩
      show ab_Fr MX12_readTruthLine (d + 1) Q 33 [some (.ref 205)] [] (0, 0) (i7, l8, dd9, x10) (ab_E0 sc)
      refine ab_aloadn dX12_readTruthLine_33 rfl ?_
      obtain ⟨r12, P13, hs14, hk15⟩ := (hk6 i7 l8 dd9 x10 hp11)
      refine ab_callV (vs := []) (st := []) dX12_readTruthLine_34 okMX12_readNew wd_1459 kd_205 rfl rfl rfl (Nat.le_of_ble_eq_true rfl) ⟨Nat.le_of_ble_eq_true rfl, Nat.le_of_ble_eq_true rfl⟩ hs14 ?_
      rintro v9 ⟨i16, l17, dd18, x19⟩ E9 - ⟨rfl, rfl, hp20⟩
      show ab_Fr MX12_readTruthLine (d + 1) Q 37 [some (.ref 205)] [.int r12] (0, 0) (i16, l17, dd18, x19) (ab_E0 sc)
      refine ab_if_ne (tgt := 42) dX12_readTruthLine_37 (by decide) (fun c21 => ?_) (fun c21 => ?_)
      · refine ab_aloadn dX12_readTruthLine_42 rfl ?_
        refine ab_getf (v := .ref 207) dX12_readTruthLine_43 fl_X12_13 kd_205 ff_205_11 ?_
        refine ab_iconst (v := 3) dX12_readTruthLine_46 (by decide) ?_
        refine ab_aloadn dX12_readTruthLine_47 rfl ?_
        refine ab_getf (v := .ref 209) dX12_readTruthLine_48 fl_X12_20 kd_205 ff_205_13 ?_
        refine ab_iconst (v := 1) dX12_readTruthLine_51 (by decide) ?_
        refine ab_iaload (v := (i16 209 1)) dX12_readTruthLine_52 kd_209 (ab_vp (by decide)) rfl ?_
        refine ab_iadd dX12_readTruthLine_53 ?_
        refine ab_aloadn dX12_readTruthLine_54 rfl ?_
        refine ab_getf (v := .long (l17 205 10)) dX12_readTruthLine_55 fl_X12_179 kd_205 rfl ?_
        refine ab_lastore dX12_readTruthLine_58 kd_207 ((hk15 i16 l17 dd18 x19 hp20).1 c21).1 ?_
        obtain ⟨l22, e23⟩ : ∃ z, z = ab_u l17 207 (3 + (i16 209 1)).toNatClampNeg (l17 205 10) := ⟨_, rfl⟩
        rw [show ab_u l17 207 (3 + (i16 209 1)).toNatClampNeg (l17 205 10) = l22 from e23.symm]
        refine ab_aloadn dX12_readTruthLine_59 rfl ?_
        obtain ⟨P25, hs26, hk27⟩ := (((hk15 i16 l17 dd18 x19 hp20).1 c21).2 l22 e23)
        refine ab_callV (vs := []) (st := []) dX12_readTruthLine_60 okMX12_go wd_1421 kd_205 rfl rfl rfl (Nat.le_of_ble_eq_true rfl) ⟨Nat.le_of_ble_eq_true rfl, Nat.le_of_ble_eq_true rfl⟩ hs26 ?_
        rintro v9 ⟨i28, l29, dd30, x31⟩ E9 - ⟨rfl, rfl, hp32⟩
        show ab_Fr MX12_readTruthLine (d + 1) Q 63 [some (.ref 205)] [] (0, 0) (i28, l29, dd30, x31) (ab_E0 sc)
        refine ab_aloadn dX12_readTruthLine_63 rfl ?_
        refine ab_iconst (v := 1) dX12_readTruthLine_64 (by decide) ?_
        refine ab_bipush (v := 19) dX12_readTruthLine_65 (by decide) ?_
        obtain ⟨r33, P34, hs35, hk36⟩ := (hk27 i28 l29 dd30 x31 hp32)
        refine ab_callV (vs := [.int 1, .int 19]) (st := []) dX12_readTruthLine_67 okMX12_readNumber wd_1483 kd_205 rfl rfl rfl (Nat.le_of_ble_eq_true rfl) ⟨Nat.le_of_ble_eq_true rfl, Nat.le_of_ble_eq_true rfl⟩ hs35 ?_
        rintro v9 ⟨i37, l38, dd39, x40⟩ E9 - ⟨rfl, rfl, hp41⟩
        show ab_Fr MX12_readTruthLine (d + 1) Q 70 [some (.ref 205)] [.int r33] (0, 0) (i37, l38, dd39, x40) (ab_E0 sc)
        refine ab_if_ne (tgt := 75) dX12_readTruthLine_70 (by decide) (fun c42 => ?_) (fun c42 => ?_)
        · refine ab_aloadn dX12_readTruthLine_75 rfl ?_
          refine ab_getf (v := .ref 211) dX12_readTruthLine_76 fl_X12_26 kd_205 ff_205_15 ?_
          refine ab_iconst (v := 3) dX12_readTruthLine_79 (by decide) ?_
          refine ab_aloadn dX12_readTruthLine_80 rfl ?_
          refine ab_getf (v := .ref 209) dX12_readTruthLine_81 fl_X12_20 kd_205 ff_205_13 ?_
          refine ab_iconst (v := 1) dX12_readTruthLine_84 (by decide) ?_
          refine ab_iaload (v := (i37 209 1)) dX12_readTruthLine_85 kd_209 (ab_vp (by decide)) rfl ?_
          refine ab_iadd dX12_readTruthLine_86 ?_
          refine ab_aloadn dX12_readTruthLine_87 rfl ?_
          refine ab_getf (v := .int (i37 205 28)) dX12_readTruthLine_88 fl_X12_238 kd_205 rfl ?_
          refine ab_iastore dX12_readTruthLine_91 kd_211 ((hk36 i37 l38 dd39 x40 hp41).1 c42).1 ?_
          obtain ⟨i43, e44⟩ : ∃ z, z = ab_u i37 211 (3 + (i37 209 1)).toNatClampNeg (i37 205 28) := ⟨_, rfl⟩
          rw [show ab_u i37 211 (3 + (i37 209 1)).toNatClampNeg (i37 205 28) = i43 from e44.symm]
          refine ab_aloadn dX12_readTruthLine_92 rfl ?_
          refine ab_getf (v := .ref 209) dX12_readTruthLine_93 fl_X12_20 kd_205 ff_205_13 ?_
          refine ab_iconst (v := 1) dX12_readTruthLine_96 (by decide) ?_
          refine ab_dup2 dX12_readTruthLine_97 rfl rfl ?_
          refine ab_iaload (v := (i43 209 1)) dX12_readTruthLine_98 kd_209 (ab_vp (by decide)) rfl ?_
          refine ab_iconst (v := 1) dX12_readTruthLine_99 (by decide) ?_
          refine ab_iadd dX12_readTruthLine_100 ?_
          refine ab_iastore dX12_readTruthLine_101 kd_209 (ab_vp (by decide)) ?_
          obtain ⟨i45, e46⟩ : ∃ z, z = ab_u i43 209 1 ((i43 209 1) + 1) := ⟨_, rfl⟩
          show ab_Fr MX12_readTruthLine (d + 1) Q 102 [some (.ref 205)] [] (0, 0) (ab_u i43 209 1 ((i43 209 1) + 1), l38, dd39, x40) (ab_E0 sc)
          rw [show ab_u i43 209 1 ((i43 209 1) + 1) = i45 from e46.symm]
          refine ab_iconst (v := 1) dX12_readTruthLine_102 (by decide) ?_
          exact ab_zret dX12_readTruthLine_103 rfl (by decide) ⟨Nat.zero_le _, Nat.zero_le _⟩ ((((hk36 i37 l38 dd39 x40 hp41).1 c42).2 i43 e44) i45 e46)
        · refine ab_iconst (v := 0) dX12_readTruthLine_73 (by decide) ?_
          exact ab_zret dX12_readTruthLine_74 rfl (by decide) ⟨Nat.zero_le _, Nat.zero_le _⟩ ((hk36 i37 l38 dd39 x40 hp41).2 c42)
      · refine ab_iconst (v := 0) dX12_readTruthLine_40 (by decide) ?_
        exact ab_zret dX12_readTruthLine_41 rfl (by decide) ⟨Nat.zero_le _, Nat.zero_le _⟩ ((hk15 i16 l17 dd18 x19 hp20).2 c21)
    · exact ((h.2 c1).2 c2)
theorem tMX12_readTruthLine_23 {d : Nat} {Q : ab_Qt} {sc : Nat × (Nat → Int32)} {i : Nat → Nat → Int32} {l : Nat → Nat → Int64} {dd : Nat → Nat → Value} {x : Nat}  
    (h : (∃ (r1 : Int32) (P2 : ab_S → Prop), ab_Sp MX12_bad d [.ref 205, .int 4] (i, l, dd, x) (ab_E0 sc) (some (.int r1)) P2 ∧ ∀ i5 l6 dd7 x8, P2 (i5, l6, dd7, x8) → (r1 = 0 ∨ r1 = 1) ∧ Q (some (some (.int r1))) (i5, l6, dd7, x8) (ab_E0 sc))) :
    ab_Fr MX12_readTruthLine (d + 1) Q 23 [some (.ref 205)] [] (0, 0) (i, l, dd, x) (ab_E0 sc) := by
  refine ab_aloadn dX12_readTruthLine_23 rfl ?_
  refine ab_iconst (v := 4) dX12_readTruthLine_24 (by decide) ?_
  obtain ⟨r1, P2, hs3, hk4⟩ := h
  refine ab_callV (vs := [.int 4]) (st := []) dX12_readTruthLine_25 okMX12_bad wd_1450 kd_205 rfl rfl rfl (Nat.le_of_ble_eq_true rfl) ⟨Nat.le_of_ble_eq_true rfl, Nat.le_of_ble_eq_true rfl⟩ hs3 ?_
  rintro v9 ⟨i5, l6, dd7, x8⟩ E9 - ⟨rfl, rfl, hp9⟩
  show ab_Fr MX12_readTruthLine (d + 1) Q 28 [some (.ref 205)] [.int r1] (0, 0) (i5, l6, dd7, x8) (ab_E0 sc)
  exact ab_zret dX12_readTruthLine_28 rfl (hk4 i5 l6 dd7 x8 hp9).1 ⟨Nat.zero_le _, Nat.zero_le _⟩ (hk4 i5 l6 dd7 x8 hp9).2
theorem tMX12_readNew_0 {d : Nat} {Q : ab_Qt} {sc : Nat × (Nat → Int32)} {i : Nat → Nat → Int32} {l : Nat → Nat → Int64} {dd : Nat → Nat → Value} {x : Nat}  
    (h : (∃ (r1 : Int32) (P2 : ab_S → Prop), ab_Sp MX12_isName d [.ref 205] (i, l, dd, x) (ab_E0 sc) (some (.int r1)) P2 ∧ ∀ i5 l6 dd7 x8, P2 (i5, l6, dd7, x8) → ((¬ r1 = 0 → (∃ (r11 : Int32) (P12 : ab_S → Prop), ab_Sp MX12_findTruth d [.ref 205] (i5, l6, dd7, x8) (ab_E0 sc) (some (.int r11)) P12 ∧ ∀ i15 l16 dd17 x18, P12 (i15, l16, dd17, x18) → ((¬ r11 = (-1) → ab_Fr MX12_readNew (d + 1) Q 29 [some (.ref 205)] [] (0, 0) (i15, l16, dd17, x18) (ab_E0 sc)) ∧ (r11 = (-1) → (∃ (r21 : Int32) (P22 : ab_S → Prop), ab_Sp MX12_findVoter d [.ref 205] (i15, l16, dd17, x18) (ab_E0 sc) (some (.int r21)) P22 ∧ ∀ i25 l26 dd27 x28, P22 (i25, l26, dd27, x28) → ((r21 = (-1) → Q (some (some (.int 1))) (i25, l26, dd27, x28) (ab_E0 sc)) ∧ (¬ r21 = (-1) → ab_Fr MX12_readNew (d + 1) Q 29 [some (.ref 205)] [] (0, 0) (i25, l26, dd27, x28) (ab_E0 sc)))))))) ∧ (r1 = 0 → (∃ (r31 : Int32) (P32 : ab_S → Prop), ab_Sp MX12_bad d [.ref 205, .int 1] (i5, l6, dd7, x8) (ab_E0 sc) (some (.int r31)) P32 ∧ ∀ i35 l36 dd37 x38, P32 (i35, l36, dd37, x38) → (r31 = 0 ∨ r31 = 1) ∧ Q (some (some (.int r31))) (i35, l36, dd37, x38) (ab_E0 sc)))))) :
    ab_Fr MX12_readNew (d + 1) Q 0 [some (.ref 205)] [] (0, 0) (i, l, dd, x) (ab_E0 sc) := by
  refine ab_aloadn dX12_readNew_0 rfl ?_
  obtain ⟨r1, P2, hs3, hk4⟩ := h
  refine ab_callV (vs := []) (st := []) dX12_readNew_1 okMX12_isName wd_1462 kd_205 rfl rfl rfl (Nat.le_of_ble_eq_true rfl) ⟨Nat.le_of_ble_eq_true rfl, Nat.le_of_ble_eq_true rfl⟩ hs3 ?_
  rintro v9 ⟨i5, l6, dd7, x8⟩ E9 - ⟨rfl, rfl, hp9⟩
  show ab_Fr MX12_readNew (d + 1) Q 4 [some (.ref 205)] [.int r1] (0, 0) (i5, l6, dd7, x8) (ab_E0 sc)
  refine ab_if_ne (tgt := 13) dX12_readNew_4 (by decide) (fun c10 => ?_) (fun c10 => ?_)
  · refine ab_aloadn dX12_readNew_13 rfl ?_
    obtain ⟨r11, P12, hs13, hk14⟩ := ((hk4 i5 l6 dd7 x8 hp9).1 c10)
    refine ab_callV (vs := []) (st := []) dX12_readNew_14 okMX12_findTruth wd_1477 kd_205 rfl rfl rfl (Nat.le_of_ble_eq_true rfl) ⟨Nat.le_of_ble_eq_true rfl, Nat.le_of_ble_eq_true rfl⟩ hs13 ?_
    rintro v9 ⟨i15, l16, dd17, x18⟩ E9 - ⟨rfl, rfl, hp19⟩
    show ab_Fr MX12_readNew (d + 1) Q 17 [some (.ref 205)] [.int r11] (0, 0) (i15, l16, dd17, x18) (ab_E0 sc)
    refine ab_iconst (v := (-1)) dX12_readNew_17 (by decide) ?_
    refine ab_icmp_ne (tgt := 29) dX12_readNew_18 (by decide) (fun c20 => ?_) (fun c20 => ?_)
    · exact ((hk14 i15 l16 dd17 x18 hp19).1 c20)
    · refine ab_aloadn dX12_readNew_21 rfl ?_
      obtain ⟨r21, P22, hs23, hk24⟩ := ((hk14 i15 l16 dd17 x18 hp19).2 c20)
      refine ab_callV (vs := []) (st := []) dX12_readNew_22 okMX12_findVoter wd_1480 kd_205 rfl rfl rfl (Nat.le_of_ble_eq_true rfl) ⟨Nat.le_of_ble_eq_true rfl, Nat.le_of_ble_eq_true rfl⟩ hs23 ?_
      rintro v9 ⟨i25, l26, dd27, x28⟩ E9 - ⟨rfl, rfl, hp29⟩
      show ab_Fr MX12_readNew (d + 1) Q 25 [some (.ref 205)] [.int r21] (0, 0) (i25, l26, dd27, x28) (ab_E0 sc)
      refine ab_iconst (v := (-1)) dX12_readNew_25 (by decide) ?_
      refine ab_icmp_eq (tgt := 37) dX12_readNew_26 (by decide) (fun c30 => ?_) (fun c30 => ?_)
      · refine ab_iconst (v := 1) dX12_readNew_37 (by decide) ?_
        refine ab_goto (tgt := 42) dX12_readNew_38 (by decide) ?_
        exact ab_zret dX12_readNew_42 rfl (by decide) ⟨Nat.zero_le _, Nat.zero_le _⟩ ((hk24 i25 l26 dd27 x28 hp29).1 c30)
      · exact ((hk24 i25 l26 dd27 x28 hp29).2 c30)
  · refine ab_aloadn dX12_readNew_7 rfl ?_
    refine ab_iconst (v := 1) dX12_readNew_8 (by decide) ?_
    obtain ⟨r31, P32, hs33, hk34⟩ := ((hk4 i5 l6 dd7 x8 hp9).2 c10)
    refine ab_callV (vs := [.int 1]) (st := []) dX12_readNew_9 okMX12_bad wd_1450 kd_205 rfl rfl rfl (Nat.le_of_ble_eq_true rfl) ⟨Nat.le_of_ble_eq_true rfl, Nat.le_of_ble_eq_true rfl⟩ hs33 ?_
    rintro v9 ⟨i35, l36, dd37, x38⟩ E9 - ⟨rfl, rfl, hp39⟩
    show ab_Fr MX12_readNew (d + 1) Q 12 [some (.ref 205)] [.int r31] (0, 0) (i35, l36, dd37, x38) (ab_E0 sc)
    exact ab_zret dX12_readNew_12 rfl (hk34 i35 l36 dd37 x38 hp39).1 ⟨Nat.zero_le _, Nat.zero_le _⟩ (hk34 i35 l36 dd37 x38 hp39).2
theorem tMX12_readNew_29 {d : Nat} {Q : ab_Qt} {sc : Nat × (Nat → Int32)} {i : Nat → Nat → Int32} {l : Nat → Nat → Int64} {dd : Nat → Nat → Value} {x : Nat}  
    (h : (∃ (r1 : Int32) (P2 : ab_S → Prop), ab_Sp MX12_bad d [.ref 205, .int 3] (i, l, dd, x) (ab_E0 sc) (some (.int r1)) P2 ∧ ∀ i5 l6 dd7 x8, P2 (i5, l6, dd7, x8) → ((r1 = 0 → Q (some (some (.int 0))) (i5, l6, dd7, x8) (ab_E0 sc)) ∧ (¬ r1 = 0 → Q (some (some (.int 1))) (i5, l6, dd7, x8) (ab_E0 sc))))) :
    ab_Fr MX12_readNew (d + 1) Q 29 [some (.ref 205)] [] (0, 0) (i, l, dd, x) (ab_E0 sc) := by
  refine ab_aloadn dX12_readNew_29 rfl ?_
  refine ab_iconst (v := 3) dX12_readNew_30 (by decide) ?_
  obtain ⟨r1, P2, hs3, hk4⟩ := h
  refine ab_callV (vs := [.int 3]) (st := []) dX12_readNew_31 okMX12_bad wd_1450 kd_205 rfl rfl rfl (Nat.le_of_ble_eq_true rfl) ⟨Nat.le_of_ble_eq_true rfl, Nat.le_of_ble_eq_true rfl⟩ hs3 ?_
  rintro v9 ⟨i5, l6, dd7, x8⟩ E9 - ⟨rfl, rfl, hp9⟩
  show ab_Fr MX12_readNew (d + 1) Q 34 [some (.ref 205)] [.int r1] (0, 0) (i5, l6, dd7, x8) (ab_E0 sc)
  refine ab_if_eq (tgt := 41) dX12_readNew_34 (by decide) (fun c10 => ?_) (fun c10 => ?_)
  · refine ab_iconst (v := 0) dX12_readNew_41 (by decide) ?_
    exact ab_zret dX12_readNew_42 rfl (by decide) ⟨Nat.zero_le _, Nat.zero_le _⟩ ((hk4 i5 l6 dd7 x8 hp9).1 c10)
  · refine ab_iconst (v := 1) dX12_readNew_37 (by decide) ?_
    refine ab_goto (tgt := 42) dX12_readNew_38 (by decide) ?_
    exact ab_zret dX12_readNew_42 rfl (by decide) ⟨Nat.zero_le _, Nat.zero_le _⟩ ((hk4 i5 l6 dd7 x8 hp9).2 c10)
theorem tMX12_isName_0 {d : Nat} {Q : ab_Qt} {sc : Nat × (Nat → Int32)} {i : Nat → Nat → Int32} {l : Nat → Nat → Int64} {dd : Nat → Nat → Value} {x : Nat}  
    (h : ((¬ (i 205 6) = 2 → Q (some (some (.int 0))) (i, l, dd, x) (ab_E0 sc)) ∧ ((i 205 6) = 2 → (∃ (r2 : Int32) (P3 : ab_S → Prop), ab_Sp MX12_lineAtHand d [.ref 205] (i, l, dd, x) (ab_E0 sc) (some (.int r2)) P3 ∧ ∀ i6 l7 dd8 x9, P3 (i6, l7, dd8, x9) → ((¬ r2 = (-1) → Q (some (some (.int 0))) (i6, l7, dd8, x9) (ab_E0 sc)) ∧ (r2 = (-1) → (∃ (r12 : Int32) (P13 : ab_S → Prop), ab_Sp MX12_wayAtHand d [.ref 205] (i6, l7, dd8, x9) (ab_E0 sc) (some (.int r12)) P13 ∧ ∀ i16 l17 dd18 x19, P13 (i16, l17, dd18, x19) → ((r12 = (-1) → (∃ (r22 : Int64) (P23 : ab_S → Prop), ab_Sp MX12_spelt d [.int 115, .int 101, .int 101, .int 115, .int 0] (i16, l17, dd18, x19) (ab_E0 sc) (some (.long r22)) P23 ∧ ∀ i26 l27 dd28 x29, P23 (i26, l27, dd28, x29) → ∃ (r31 : Int32) (P32 : ab_S → Prop), ab_Sp MX12_isKey d [.ref 205, .long r22] (i26, l27, dd28, x29) (ab_E0 sc) (some (.int r31)) P32 ∧ ∀ i35 l36 dd37 x38, P32 (i35, l36, dd37, x38) → ((¬ r31 = 0 → Q (some (some (.int 0))) (i35, l36, dd37, x38) (ab_E0 sc)) ∧ (r31 = 0 → (∃ (r41 : Int64) (P42 : ab_S → Prop), ab_Sp MX12_none d [] (i35, l36, dd37, x38) (ab_E0 sc) (some (.long r41)) P42 ∧ ∀ i45 l46 dd47 x48, P42 (i45, l46, dd47, x48) → ∃ (r50 : Int32) (P51 : ab_S → Prop), ab_Sp MX12_isKey d [.ref 205, .long r41] (i45, l46, dd47, x48) (ab_E0 sc) (some (.int r50)) P51 ∧ ∀ i54 l55 dd56 x57, P51 (i54, l55, dd56, x57) → ((¬ r50 = 0 → Q (some (some (.int 0))) (i54, l55, dd56, x57) (ab_E0 sc)) ∧ (r50 = 0 → (∃ (r60 : Int64) (P61 : ab_S → Prop), ab_Sp MX12_chair d [] (i54, l55, dd56, x57) (ab_E0 sc) (some (.long r60)) P61 ∧ ∀ i64 l65 dd66 x67, P61 (i64, l65, dd66, x67) → ∃ (r69 : Int32) (P70 : ab_S → Prop), ab_Sp MX12_isKey d [.ref 205, .long r60] (i64, l65, dd66, x67) (ab_E0 sc) (some (.int r69)) P70 ∧ ∀ i73 l74 dd75 x76, P70 (i73, l74, dd75, x76) → ((¬ r69 = 0 → Q (some (some (.int 0))) (i73, l74, dd75, x76) (ab_E0 sc)) ∧ (r69 = 0 → (∃ (r79 : Int64) (P80 : ab_S → Prop), ab_Sp MX12_other d [] (i73, l74, dd75, x76) (ab_E0 sc) (some (.long r79)) P80 ∧ ∀ i83 l84 dd85 x86, P80 (i83, l84, dd85, x86) → ∃ (r88 : Int32) (P89 : ab_S → Prop), ab_Sp MX12_isKey d [.ref 205, .long r79] (i83, l84, dd85, x86) (ab_E0 sc) (some (.int r88)) P89 ∧ ∀ i92 l93 dd94 x95, P89 (i92, l93, dd94, x95) → ((r88 = 0 → (∃ (r98 : Int64) (P99 : ab_S → Prop), ab_Sp MX12_spelt d [.int 109, .int 111, .int 115, .int 116, .int 0] (i92, l93, dd94, x95) (ab_E0 sc) (some (.long r98)) P99 ∧ ∀ i102 l103 dd104 x105, P99 (i102, l103, dd104, x105) → ∃ (r107 : Int32) (P108 : ab_S → Prop), ab_Sp MX12_isKey d [.ref 205, .long r98] (i102, l103, dd104, x105) (ab_E0 sc) (some (.int r107)) P108 ∧ ∀ i111 l112 dd113 x114, P108 (i111, l112, dd113, x114) → ((¬ r107 = 0 → Q (some (some (.int 0))) (i111, l112, dd113, x114) (ab_E0 sc)) ∧ (r107 = 0 → (∃ (r117 : Int64) (P118 : ab_S → Prop), ab_Sp MX12_spelt d [.int 110, .int 101, .int 101, .int 100, .int 0] (i111, l112, dd113, x114) (ab_E0 sc) (some (.long r117)) P118 ∧ ∀ i121 l122 dd123 x124, P118 (i121, l122, dd123, x124) → ∃ (r126 : Int32) (P127 : ab_S → Prop), ab_Sp MX12_isKey d [.ref 205, .long r117] (i121, l122, dd123, x124) (ab_E0 sc) (some (.int r126)) P127 ∧ ∀ i130 l131 dd132 x133, P127 (i130, l131, dd132, x133) → ((¬ r126 = 0 → Q (some (some (.int 0))) (i130, l131, dd132, x133) (ab_E0 sc)) ∧ (r126 = 0 → Q (some (some (.int 1))) (i130, l131, dd132, x133) (ab_E0 sc)))))))) ∧ (¬ r88 = 0 → Q (some (some (.int 0))) (i92, l93, dd94, x95) (ab_E0 sc)))))))))))))) ∧ (¬ r12 = (-1) → Q (some (some (.int 0))) (i16, l17, dd18, x19) (ab_E0 sc)))))))))) :
    ab_Fr MX12_isName (d + 1) Q 0 [some (.ref 205)] [] (0, 0) (i, l, dd, x) (ab_E0 sc) := by
  refine ab_aloadn dX12_isName_0 rfl ?_
  refine ab_getf (v := .int (i 205 6)) dX12_isName_1 fl_X12_169 kd_205 rfl ?_
  refine ab_iconst (v := 2) dX12_isName_4 (by decide) ?_
  refine ab_icmp_ne (tgt := 24) dX12_isName_5 (by decide) (fun c1 => ?_) (fun c1 => ?_)
  · refine ab_iconst (v := 0) dX12_isName_24 (by decide) ?_
    exact ab_zret dX12_isName_25 rfl (by decide) ⟨Nat.zero_le _, Nat.zero_le _⟩ (h.1 c1)
  · refine ab_aloadn dX12_isName_8 rfl ?_
    obtain ⟨r2, P3, hs4, hk5⟩ := (h.2 c1)
    refine ab_callV (vs := []) (st := []) dX12_isName_9 okMX12_lineAtHand wd_1438 kd_205 rfl rfl rfl (Nat.le_of_ble_eq_true rfl) ⟨Nat.le_of_ble_eq_true rfl, Nat.le_of_ble_eq_true rfl⟩ hs4 ?_
    rintro v9 ⟨i6, l7, dd8, x9⟩ E9 - ⟨rfl, rfl, hp10⟩
    show ab_Fr MX12_isName (d + 1) Q 12 [some (.ref 205)] [.int r2] (0, 0) (i6, l7, dd8, x9) (ab_E0 sc)
    refine ab_iconst (v := (-1)) dX12_isName_12 (by decide) ?_
    refine ab_icmp_ne (tgt := 24) dX12_isName_13 (by decide) (fun c11 => ?_) (fun c11 => ?_)
    · refine ab_iconst (v := 0) dX12_isName_24 (by decide) ?_
      exact ab_zret dX12_isName_25 rfl (by decide) ⟨Nat.zero_le _, Nat.zero_le _⟩ ((hk5 i6 l7 dd8 x9 hp10).1 c11)
    · refine ab_aloadn dX12_isName_16 rfl ?_
      obtain ⟨r12, P13, hs14, hk15⟩ := ((hk5 i6 l7 dd8 x9 hp10).2 c11)
      refine ab_callV (vs := []) (st := []) dX12_isName_17 okMX12_wayAtHand wd_1465 kd_205 rfl rfl rfl (Nat.le_of_ble_eq_true rfl) ⟨Nat.le_of_ble_eq_true rfl, Nat.le_of_ble_eq_true rfl⟩ hs14 ?_
      rintro v9 ⟨i16, l17, dd18, x19⟩ E9 - ⟨rfl, rfl, hp20⟩
      show ab_Fr MX12_isName (d + 1) Q 20 [some (.ref 205)] [.int r12] (0, 0) (i16, l17, dd18, x19) (ab_E0 sc)
      refine ab_iconst (v := (-1)) dX12_isName_20 (by decide) ?_
      refine ab_icmp_eq (tgt := 26) dX12_isName_21 (by decide) (fun c21 => ?_) (fun c21 => ?_)
      · refine ab_aloadn dX12_isName_26 rfl ?_
        refine ab_bipush (v := 115) dX12_isName_27 (by decide) ?_
        refine ab_bipush (v := 101) dX12_isName_29 (by decide) ?_
        refine ab_bipush (v := 101) dX12_isName_31 (by decide) ?_
        refine ab_bipush (v := 115) dX12_isName_33 (by decide) ?_
        refine ab_iconst (v := 0) dX12_isName_35 (by decide) ?_
        obtain ⟨r22, P23, hs24, hk25⟩ := ((hk15 i16 l17 dd18 x19 hp20).1 c21)
        refine ab_callS (vs := [.int 115, .int 101, .int 101, .int 115, .int 0]) (st := [.ref 205]) dX12_isName_36 okMX12_spelt wd_1441 rfl rfl (Nat.le_of_ble_eq_true rfl) ⟨Nat.le_of_ble_eq_true rfl, Nat.le_of_ble_eq_true rfl⟩ hs24 ?_
        rintro v9 ⟨i26, l27, dd28, x29⟩ E9 - ⟨rfl, rfl, hp30⟩
        show ab_Fr MX12_isName (d + 1) Q 39 [some (.ref 205)] [.long r22, .ref 205] (0, 0) (i26, l27, dd28, x29) (ab_E0 sc)
        obtain ⟨r31, P32, hs33, hk34⟩ := (hk25 i26 l27 dd28 x29 hp30)
        refine ab_callV (vs := [.long r22]) (st := []) dX12_isName_39 okMX12_isKey wd_1444 kd_205 rfl rfl rfl (Nat.le_of_ble_eq_true rfl) ⟨Nat.le_of_ble_eq_true rfl, Nat.le_of_ble_eq_true rfl⟩ hs33 ?_
        rintro v9 ⟨i35, l36, dd37, x38⟩ E9 - ⟨rfl, rfl, hp39⟩
        show ab_Fr MX12_isName (d + 1) Q 42 [some (.ref 205)] [.int r31] (0, 0) (i35, l36, dd37, x38) (ab_E0 sc)
        refine ab_if_ne (tgt := 75) dX12_isName_42 (by decide) (fun c40 => ?_) (fun c40 => ?_)
        · refine ab_iconst (v := 0) dX12_isName_75 (by decide) ?_
          exact ab_zret dX12_isName_76 rfl (by decide) ⟨Nat.zero_le _, Nat.zero_le _⟩ ((hk34 i35 l36 dd37 x38 hp39).1 c40)
        · refine ab_aloadn dX12_isName_45 rfl ?_
          obtain ⟨r41, P42, hs43, hk44⟩ := ((hk34 i35 l36 dd37 x38 hp39).2 c40)
          refine ab_callS (vs := []) (st := [.ref 205]) dX12_isName_46 okMX12_none wd_1468 rfl rfl (Nat.le_of_ble_eq_true rfl) ⟨Nat.le_of_ble_eq_true rfl, Nat.le_of_ble_eq_true rfl⟩ hs43 ?_
          rintro v9 ⟨i45, l46, dd47, x48⟩ E9 - ⟨rfl, rfl, hp49⟩
          show ab_Fr MX12_isName (d + 1) Q 49 [some (.ref 205)] [.long r41, .ref 205] (0, 0) (i45, l46, dd47, x48) (ab_E0 sc)
          obtain ⟨r50, P51, hs52, hk53⟩ := (hk44 i45 l46 dd47 x48 hp49)
          refine ab_callV (vs := [.long r41]) (st := []) dX12_isName_49 okMX12_isKey wd_1444 kd_205 rfl rfl rfl (Nat.le_of_ble_eq_true rfl) ⟨Nat.le_of_ble_eq_true rfl, Nat.le_of_ble_eq_true rfl⟩ hs52 ?_
          rintro v9 ⟨i54, l55, dd56, x57⟩ E9 - ⟨rfl, rfl, hp58⟩
          show ab_Fr MX12_isName (d + 1) Q 52 [some (.ref 205)] [.int r50] (0, 0) (i54, l55, dd56, x57) (ab_E0 sc)
          refine ab_if_ne (tgt := 75) dX12_isName_52 (by decide) (fun c59 => ?_) (fun c59 => ?_)
          · refine ab_iconst (v := 0) dX12_isName_75 (by decide) ?_
            exact ab_zret dX12_isName_76 rfl (by decide) ⟨Nat.zero_le _, Nat.zero_le _⟩ ((hk53 i54 l55 dd56 x57 hp58).1 c59)
          · refine ab_aloadn dX12_isName_55 rfl ?_
            obtain ⟨r60, P61, hs62, hk63⟩ := ((hk53 i54 l55 dd56 x57 hp58).2 c59)
            refine ab_callS (vs := []) (st := [.ref 205]) dX12_isName_56 okMX12_chair wd_1471 rfl rfl (Nat.le_of_ble_eq_true rfl) ⟨Nat.le_of_ble_eq_true rfl, Nat.le_of_ble_eq_true rfl⟩ hs62 ?_
            rintro v9 ⟨i64, l65, dd66, x67⟩ E9 - ⟨rfl, rfl, hp68⟩
            show ab_Fr MX12_isName (d + 1) Q 59 [some (.ref 205)] [.long r60, .ref 205] (0, 0) (i64, l65, dd66, x67) (ab_E0 sc)
            obtain ⟨r69, P70, hs71, hk72⟩ := (hk63 i64 l65 dd66 x67 hp68)
            refine ab_callV (vs := [.long r60]) (st := []) dX12_isName_59 okMX12_isKey wd_1444 kd_205 rfl rfl rfl (Nat.le_of_ble_eq_true rfl) ⟨Nat.le_of_ble_eq_true rfl, Nat.le_of_ble_eq_true rfl⟩ hs71 ?_
            rintro v9 ⟨i73, l74, dd75, x76⟩ E9 - ⟨rfl, rfl, hp77⟩
            show ab_Fr MX12_isName (d + 1) Q 62 [some (.ref 205)] [.int r69] (0, 0) (i73, l74, dd75, x76) (ab_E0 sc)
            refine ab_if_ne (tgt := 75) dX12_isName_62 (by decide) (fun c78 => ?_) (fun c78 => ?_)
            · refine ab_iconst (v := 0) dX12_isName_75 (by decide) ?_
              exact ab_zret dX12_isName_76 rfl (by decide) ⟨Nat.zero_le _, Nat.zero_le _⟩ ((hk72 i73 l74 dd75 x76 hp77).1 c78)
            · refine ab_aloadn dX12_isName_65 rfl ?_
              obtain ⟨r79, P80, hs81, hk82⟩ := ((hk72 i73 l74 dd75 x76 hp77).2 c78)
              refine ab_callS (vs := []) (st := [.ref 205]) dX12_isName_66 okMX12_other wd_1474 rfl rfl (Nat.le_of_ble_eq_true rfl) ⟨Nat.le_of_ble_eq_true rfl, Nat.le_of_ble_eq_true rfl⟩ hs81 ?_
              rintro v9 ⟨i83, l84, dd85, x86⟩ E9 - ⟨rfl, rfl, hp87⟩
              show ab_Fr MX12_isName (d + 1) Q 69 [some (.ref 205)] [.long r79, .ref 205] (0, 0) (i83, l84, dd85, x86) (ab_E0 sc)
              obtain ⟨r88, P89, hs90, hk91⟩ := (hk82 i83 l84 dd85 x86 hp87)
              refine ab_callV (vs := [.long r79]) (st := []) dX12_isName_69 okMX12_isKey wd_1444 kd_205 rfl rfl rfl (Nat.le_of_ble_eq_true rfl) ⟨Nat.le_of_ble_eq_true rfl, Nat.le_of_ble_eq_true rfl⟩ hs90 ?_
              rintro v9 ⟨i92, l93, dd94, x95⟩ E9 - ⟨rfl, rfl, hp96⟩
              show ab_Fr MX12_isName (d + 1) Q 72 [some (.ref 205)] [.int r88] (0, 0) (i92, l93, dd94, x95) (ab_E0 sc)
              refine ab_if_eq (tgt := 77) dX12_isName_72 (by decide) (fun c97 => ?_) (fun c97 => ?_)
              · refine ab_aloadn dX12_isName_77 rfl ?_
                refine ab_bipush (v := 109) dX12_isName_78 (by decide) ?_
                refine ab_bipush (v := 111) dX12_isName_80 (by decide) ?_
                refine ab_bipush (v := 115) dX12_isName_82 (by decide) ?_
                refine ab_bipush (v := 116) dX12_isName_84 (by decide) ?_
                refine ab_iconst (v := 0) dX12_isName_86 (by decide) ?_
                obtain ⟨r98, P99, hs100, hk101⟩ := ((hk91 i92 l93 dd94 x95 hp96).1 c97)
                refine ab_callS (vs := [.int 109, .int 111, .int 115, .int 116, .int 0]) (st := [.ref 205]) dX12_isName_87 okMX12_spelt wd_1441 rfl rfl (Nat.le_of_ble_eq_true rfl) ⟨Nat.le_of_ble_eq_true rfl, Nat.le_of_ble_eq_true rfl⟩ hs100 ?_
                rintro v9 ⟨i102, l103, dd104, x105⟩ E9 - ⟨rfl, rfl, hp106⟩
                show ab_Fr MX12_isName (d + 1) Q 90 [some (.ref 205)] [.long r98, .ref 205] (0, 0) (i102, l103, dd104, x105) (ab_E0 sc)
                obtain ⟨r107, P108, hs109, hk110⟩ := (hk101 i102 l103 dd104 x105 hp106)
                refine ab_callV (vs := [.long r98]) (st := []) dX12_isName_90 okMX12_isKey wd_1444 kd_205 rfl rfl rfl (Nat.le_of_ble_eq_true rfl) ⟨Nat.le_of_ble_eq_true rfl, Nat.le_of_ble_eq_true rfl⟩ hs109 ?_
                rintro v9 ⟨i111, l112, dd113, x114⟩ E9 - ⟨rfl, rfl, hp115⟩
                show ab_Fr MX12_isName (d + 1) Q 93 [some (.ref 205)] [.int r107] (0, 0) (i111, l112, dd113, x114) (ab_E0 sc)
                refine ab_if_ne (tgt := 119) dX12_isName_93 (by decide) (fun c116 => ?_) (fun c116 => ?_)
                · refine ab_iconst (v := 0) dX12_isName_119 (by decide) ?_
                  exact ab_zret dX12_isName_120 rfl (by decide) ⟨Nat.zero_le _, Nat.zero_le _⟩ ((hk110 i111 l112 dd113 x114 hp115).1 c116)
                · refine ab_aloadn dX12_isName_96 rfl ?_
                  refine ab_bipush (v := 110) dX12_isName_97 (by decide) ?_
                  refine ab_bipush (v := 101) dX12_isName_99 (by decide) ?_
                  refine ab_bipush (v := 101) dX12_isName_101 (by decide) ?_
                  refine ab_bipush (v := 100) dX12_isName_103 (by decide) ?_
                  refine ab_iconst (v := 0) dX12_isName_105 (by decide) ?_
                  obtain ⟨r117, P118, hs119, hk120⟩ := ((hk110 i111 l112 dd113 x114 hp115).2 c116)
                  refine ab_callS (vs := [.int 110, .int 101, .int 101, .int 100, .int 0]) (st := [.ref 205]) dX12_isName_106 okMX12_spelt wd_1441 rfl rfl (Nat.le_of_ble_eq_true rfl) ⟨Nat.le_of_ble_eq_true rfl, Nat.le_of_ble_eq_true rfl⟩ hs119 ?_
                  rintro v9 ⟨i121, l122, dd123, x124⟩ E9 - ⟨rfl, rfl, hp125⟩
                  show ab_Fr MX12_isName (d + 1) Q 109 [some (.ref 205)] [.long r117, .ref 205] (0, 0) (i121, l122, dd123, x124) (ab_E0 sc)
                  obtain ⟨r126, P127, hs128, hk129⟩ := (hk120 i121 l122 dd123 x124 hp125)
                  refine ab_callV (vs := [.long r117]) (st := []) dX12_isName_109 okMX12_isKey wd_1444 kd_205 rfl rfl rfl (Nat.le_of_ble_eq_true rfl) ⟨Nat.le_of_ble_eq_true rfl, Nat.le_of_ble_eq_true rfl⟩ hs128 ?_
                  rintro v9 ⟨i130, l131, dd132, x133⟩ E9 - ⟨rfl, rfl, hp134⟩
                  show ab_Fr MX12_isName (d + 1) Q 112 [some (.ref 205)] [.int r126] (0, 0) (i130, l131, dd132, x133) (ab_E0 sc)
                  refine ab_if_ne (tgt := 119) dX12_isName_112 (by decide) (fun c135 => ?_) (fun c135 => ?_)
                  · refine ab_iconst (v := 0) dX12_isName_119 (by decide) ?_
                    exact ab_zret dX12_isName_120 rfl (by decide) ⟨Nat.zero_le _, Nat.zero_le _⟩ ((hk129 i130 l131 dd132 x133 hp134).1 c135)
                  · refine ab_iconst (v := 1) dX12_isName_115 (by decide) ?_
                    refine ab_goto (tgt := 120) dX12_isName_116 (by decide) ?_
                    exact ab_zret dX12_isName_120 rfl (by decide) ⟨Nat.zero_le _, Nat.zero_le _⟩ ((hk129 i130 l131 dd132 x133 hp134).2 c135)
              · refine ab_iconst (v := 0) dX12_isName_75 (by decide) ?_
                exact ab_zret dX12_isName_76 rfl (by decide) ⟨Nat.zero_le _, Nat.zero_le _⟩ ((hk91 i92 l93 dd94 x95 hp96).2 c97)
      · refine ab_iconst (v := 0) dX12_isName_24 (by decide) ?_
        exact ab_zret dX12_isName_25 rfl (by decide) ⟨Nat.zero_le _, Nat.zero_le _⟩ ((hk15 i16 l17 dd18 x19 hp20).2 c21)
theorem tMX12_wayAtHand_0 {d : Nat} {Q : ab_Qt} {sc : Nat × (Nat → Int32)} {i : Nat → Nat → Int32} {l : Nat → Nat → Int64} {dd : Nat → Nat → Value} {x : Nat}  
    (h : (∃ (r1 : Int64) (P2 : ab_S → Prop), ab_Sp MX12_six d [.int 104, .int 111, .int 110, .int 101, .int 115, .int 116] (i, l, dd, x) (ab_E0 sc) (some (.long r1)) P2 ∧ ∀ i5 l6 dd7 x8, P2 (i5, l6, dd7, x8) → ∃ (r10 : Int32) (P11 : ab_S → Prop), ab_Sp MX12_isKey d [.ref 205, .long r1] (i5, l6, dd7, x8) (ab_E0 sc) (some (.int r10)) P11 ∧ ∀ i14 l15 dd16 x17, P11 (i14, l15, dd16, x17) → ((r10 = 0 → (∃ (r20 : Int64) (P21 : ab_S → Prop), ab_Sp MX12_spelt d [.int 112, .int 108, .int 97, .int 105, .int 110] (i14, l15, dd16, x17) (ab_E0 sc) (some (.long r20)) P21 ∧ ∀ i24 l25 dd26 x27, P21 (i24, l25, dd26, x27) → ∃ (r29 : Int32) (P30 : ab_S → Prop), ab_Sp MX12_isKey d [.ref 205, .long r20] (i24, l25, dd26, x27) (ab_E0 sc) (some (.int r29)) P30 ∧ ∀ i33 l34 dd35 x36, P30 (i33, l34, dd35, x36) → ((r29 = 0 → (∃ (r39 : Int64) (P40 : ab_S → Prop), ab_Sp MX12_spelt d [.int 115, .int 104, .int 121, .int 0, .int 0] (i33, l34, dd35, x36) (ab_E0 sc) (some (.long r39)) P40 ∧ ∀ i43 l44 dd45 x46, P40 (i43, l44, dd45, x46) → ∃ (r48 : Int32) (P49 : ab_S → Prop), ab_Sp MX12_isKey d [.ref 205, .long r39] (i43, l44, dd45, x46) (ab_E0 sc) (some (.int r48)) P49 ∧ ∀ i52 l53 dd54 x55, P49 (i52, l53, dd54, x55) → ((r48 = 0 → (∃ (r58 : Int64) (P59 : ab_S → Prop), ab_Sp MX12_spelt d [.int 115, .int 101, .int 116, .int 0, .int 0] (i52, l53, dd54, x55) (ab_E0 sc) (some (.long r58)) P59 ∧ ∀ i62 l63 dd64 x65, P59 (i62, l63, dd64, x65) → ∃ (r67 : Int32) (P68 : ab_S → Prop), ab_Sp MX12_isKey d [.ref 205, .long r58] (i62, l63, dd64, x65) (ab_E0 sc) (some (.int r67)) P68 ∧ ∀ i71 l72 dd73 x74, P68 (i71, l72, dd73, x74) → ((r67 = 0 → Q (some (some (.int (-1)))) (i71, l72, dd73, x74) (ab_E0 sc)) ∧ (¬ r67 = 0 → Q (some (some (.int 3))) (i71, l72, dd73, x74) (ab_E0 sc))))) ∧ (¬ r48 = 0 → Q (some (some (.int 2))) (i52, l53, dd54, x55) (ab_E0 sc))))) ∧ (¬ r29 = 0 → Q (some (some (.int 1))) (i33, l34, dd35, x36) (ab_E0 sc))))) ∧ (¬ r10 = 0 → Q (some (some (.int 0))) (i14, l15, dd16, x17) (ab_E0 sc))))) :
    ab_Fr MX12_wayAtHand (d + 1) Q 0 [some (.ref 205)] [] (0, 0) (i, l, dd, x) (ab_E0 sc) := by
  refine ab_aloadn dX12_wayAtHand_0 rfl ?_
  refine ab_bipush (v := 104) dX12_wayAtHand_1 (by decide) ?_
  refine ab_bipush (v := 111) dX12_wayAtHand_3 (by decide) ?_
  refine ab_bipush (v := 110) dX12_wayAtHand_5 (by decide) ?_
  refine ab_bipush (v := 101) dX12_wayAtHand_7 (by decide) ?_
  refine ab_bipush (v := 115) dX12_wayAtHand_9 (by decide) ?_
  refine ab_bipush (v := 116) dX12_wayAtHand_11 (by decide) ?_
  obtain ⟨r1, P2, hs3, hk4⟩ := h
  refine ab_callS (vs := [.int 104, .int 111, .int 110, .int 101, .int 115, .int 116]) (st := [.ref 205]) dX12_wayAtHand_13 okMX12_six wd_1447 rfl rfl (Nat.le_of_ble_eq_true rfl) ⟨Nat.le_of_ble_eq_true rfl, Nat.le_of_ble_eq_true rfl⟩ hs3 ?_
  rintro v9 ⟨i5, l6, dd7, x8⟩ E9 - ⟨rfl, rfl, hp9⟩
  show ab_Fr MX12_wayAtHand (d + 1) Q 16 [some (.ref 205)] [.long r1, .ref 205] (0, 0) (i5, l6, dd7, x8) (ab_E0 sc)
  obtain ⟨r10, P11, hs12, hk13⟩ := (hk4 i5 l6 dd7 x8 hp9)
  refine ab_callV (vs := [.long r1]) (st := []) dX12_wayAtHand_16 okMX12_isKey wd_1444 kd_205 rfl rfl rfl (Nat.le_of_ble_eq_true rfl) ⟨Nat.le_of_ble_eq_true rfl, Nat.le_of_ble_eq_true rfl⟩ hs12 ?_
  rintro v9 ⟨i14, l15, dd16, x17⟩ E9 - ⟨rfl, rfl, hp18⟩
  show ab_Fr MX12_wayAtHand (d + 1) Q 19 [some (.ref 205)] [.int r10] (0, 0) (i14, l15, dd16, x17) (ab_E0 sc)
  refine ab_if_eq (tgt := 24) dX12_wayAtHand_19 (by decide) (fun c19 => ?_) (fun c19 => ?_)
  · refine ab_aloadn dX12_wayAtHand_24 rfl ?_
    refine ab_bipush (v := 112) dX12_wayAtHand_25 (by decide) ?_
    refine ab_bipush (v := 108) dX12_wayAtHand_27 (by decide) ?_
    refine ab_bipush (v := 97) dX12_wayAtHand_29 (by decide) ?_
    refine ab_bipush (v := 105) dX12_wayAtHand_31 (by decide) ?_
    refine ab_bipush (v := 110) dX12_wayAtHand_33 (by decide) ?_
    obtain ⟨r20, P21, hs22, hk23⟩ := ((hk13 i14 l15 dd16 x17 hp18).1 c19)
    refine ab_callS (vs := [.int 112, .int 108, .int 97, .int 105, .int 110]) (st := [.ref 205]) dX12_wayAtHand_35 okMX12_spelt wd_1441 rfl rfl (Nat.le_of_ble_eq_true rfl) ⟨Nat.le_of_ble_eq_true rfl, Nat.le_of_ble_eq_true rfl⟩ hs22 ?_
    rintro v9 ⟨i24, l25, dd26, x27⟩ E9 - ⟨rfl, rfl, hp28⟩
    show ab_Fr MX12_wayAtHand (d + 1) Q 38 [some (.ref 205)] [.long r20, .ref 205] (0, 0) (i24, l25, dd26, x27) (ab_E0 sc)
    obtain ⟨r29, P30, hs31, hk32⟩ := (hk23 i24 l25 dd26 x27 hp28)
    refine ab_callV (vs := [.long r20]) (st := []) dX12_wayAtHand_38 okMX12_isKey wd_1444 kd_205 rfl rfl rfl (Nat.le_of_ble_eq_true rfl) ⟨Nat.le_of_ble_eq_true rfl, Nat.le_of_ble_eq_true rfl⟩ hs31 ?_
    rintro v9 ⟨i33, l34, dd35, x36⟩ E9 - ⟨rfl, rfl, hp37⟩
    show ab_Fr MX12_wayAtHand (d + 1) Q 41 [some (.ref 205)] [.int r29] (0, 0) (i33, l34, dd35, x36) (ab_E0 sc)
    refine ab_if_eq (tgt := 46) dX12_wayAtHand_41 (by decide) (fun c38 => ?_) (fun c38 => ?_)
    · refine ab_aloadn dX12_wayAtHand_46 rfl ?_
      refine ab_bipush (v := 115) dX12_wayAtHand_47 (by decide) ?_
      refine ab_bipush (v := 104) dX12_wayAtHand_49 (by decide) ?_
      refine ab_bipush (v := 121) dX12_wayAtHand_51 (by decide) ?_
      refine ab_iconst (v := 0) dX12_wayAtHand_53 (by decide) ?_
      refine ab_iconst (v := 0) dX12_wayAtHand_54 (by decide) ?_
      obtain ⟨r39, P40, hs41, hk42⟩ := ((hk32 i33 l34 dd35 x36 hp37).1 c38)
      refine ab_callS (vs := [.int 115, .int 104, .int 121, .int 0, .int 0]) (st := [.ref 205]) dX12_wayAtHand_55 okMX12_spelt wd_1441 rfl rfl (Nat.le_of_ble_eq_true rfl) ⟨Nat.le_of_ble_eq_true rfl, Nat.le_of_ble_eq_true rfl⟩ hs41 ?_
      rintro v9 ⟨i43, l44, dd45, x46⟩ E9 - ⟨rfl, rfl, hp47⟩
      show ab_Fr MX12_wayAtHand (d + 1) Q 58 [some (.ref 205)] [.long r39, .ref 205] (0, 0) (i43, l44, dd45, x46) (ab_E0 sc)
      obtain ⟨r48, P49, hs50, hk51⟩ := (hk42 i43 l44 dd45 x46 hp47)
      refine ab_callV (vs := [.long r39]) (st := []) dX12_wayAtHand_58 okMX12_isKey wd_1444 kd_205 rfl rfl rfl (Nat.le_of_ble_eq_true rfl) ⟨Nat.le_of_ble_eq_true rfl, Nat.le_of_ble_eq_true rfl⟩ hs50 ?_
      rintro v9 ⟨i52, l53, dd54, x55⟩ E9 - ⟨rfl, rfl, hp56⟩
      show ab_Fr MX12_wayAtHand (d + 1) Q 61 [some (.ref 205)] [.int r48] (0, 0) (i52, l53, dd54, x55) (ab_E0 sc)
      refine ab_if_eq (tgt := 66) dX12_wayAtHand_61 (by decide) (fun c57 => ?_) (fun c57 => ?_)
      · refine ab_aloadn dX12_wayAtHand_66 rfl ?_
        refine ab_bipush (v := 115) dX12_wayAtHand_67 (by decide) ?_
        refine ab_bipush (v := 101) dX12_wayAtHand_69 (by decide) ?_
        refine ab_bipush (v := 116) dX12_wayAtHand_71 (by decide) ?_
        refine ab_iconst (v := 0) dX12_wayAtHand_73 (by decide) ?_
        refine ab_iconst (v := 0) dX12_wayAtHand_74 (by decide) ?_
        obtain ⟨r58, P59, hs60, hk61⟩ := ((hk51 i52 l53 dd54 x55 hp56).1 c57)
        refine ab_callS (vs := [.int 115, .int 101, .int 116, .int 0, .int 0]) (st := [.ref 205]) dX12_wayAtHand_75 okMX12_spelt wd_1441 rfl rfl (Nat.le_of_ble_eq_true rfl) ⟨Nat.le_of_ble_eq_true rfl, Nat.le_of_ble_eq_true rfl⟩ hs60 ?_
        rintro v9 ⟨i62, l63, dd64, x65⟩ E9 - ⟨rfl, rfl, hp66⟩
        show ab_Fr MX12_wayAtHand (d + 1) Q 78 [some (.ref 205)] [.long r58, .ref 205] (0, 0) (i62, l63, dd64, x65) (ab_E0 sc)
        obtain ⟨r67, P68, hs69, hk70⟩ := (hk61 i62 l63 dd64 x65 hp66)
        refine ab_callV (vs := [.long r58]) (st := []) dX12_wayAtHand_78 okMX12_isKey wd_1444 kd_205 rfl rfl rfl (Nat.le_of_ble_eq_true rfl) ⟨Nat.le_of_ble_eq_true rfl, Nat.le_of_ble_eq_true rfl⟩ hs69 ?_
        rintro v9 ⟨i71, l72, dd73, x74⟩ E9 - ⟨rfl, rfl, hp75⟩
        show ab_Fr MX12_wayAtHand (d + 1) Q 81 [some (.ref 205)] [.int r67] (0, 0) (i71, l72, dd73, x74) (ab_E0 sc)
        refine ab_if_eq (tgt := 88) dX12_wayAtHand_81 (by decide) (fun c76 => ?_) (fun c76 => ?_)
        · refine ab_iconst (v := (-1)) dX12_wayAtHand_88 (by decide) ?_
          exact ab_iret dX12_wayAtHand_89 rfl ⟨Nat.zero_le _, Nat.zero_le _⟩ ((hk70 i71 l72 dd73 x74 hp75).1 c76)
        · refine ab_iconst (v := 3) dX12_wayAtHand_84 (by decide) ?_
          refine ab_goto (tgt := 89) dX12_wayAtHand_85 (by decide) ?_
          exact ab_iret dX12_wayAtHand_89 rfl ⟨Nat.zero_le _, Nat.zero_le _⟩ ((hk70 i71 l72 dd73 x74 hp75).2 c76)
      · refine ab_iconst (v := 2) dX12_wayAtHand_64 (by decide) ?_
        exact ab_iret dX12_wayAtHand_65 rfl ⟨Nat.zero_le _, Nat.zero_le _⟩ ((hk51 i52 l53 dd54 x55 hp56).2 c57)
    · refine ab_iconst (v := 1) dX12_wayAtHand_44 (by decide) ?_
      exact ab_iret dX12_wayAtHand_45 rfl ⟨Nat.zero_le _, Nat.zero_le _⟩ ((hk32 i33 l34 dd35 x36 hp37).2 c38)
  · refine ab_iconst (v := 0) dX12_wayAtHand_22 (by decide) ?_
    exact ab_iret dX12_wayAtHand_23 rfl ⟨Nat.zero_le _, Nat.zero_le _⟩ ((hk13 i14 l15 dd16 x17 hp18).2 c19)
theorem tMX12_none_0 {d : Nat} {Q : ab_Qt} {sc : Nat × (Nat → Int32)} {i : Nat → Nat → Int32} {l : Nat → Nat → Int64} {dd : Nat → Nat → Value} {x : Nat}  
    (h : (∃ (r1 : Int64) (P2 : ab_S → Prop), ab_Sp MX12_spelt d [.int 110, .int 111, .int 110, .int 101, .int 0] (i, l, dd, x) (ab_E0 sc) (some (.long r1)) P2 ∧ ∀ i5 l6 dd7 x8, P2 (i5, l6, dd7, x8) → Q (some (some (.long r1))) (i5, l6, dd7, x8) (ab_E0 sc))) :
    ab_Fr MX12_none (d + 1) Q 0 [] [] (0, 0) (i, l, dd, x) (ab_E0 sc) := by
  refine ab_bipush (v := 110) dX12_none_0 (by decide) ?_
  refine ab_bipush (v := 111) dX12_none_2 (by decide) ?_
  refine ab_bipush (v := 110) dX12_none_4 (by decide) ?_
  refine ab_bipush (v := 101) dX12_none_6 (by decide) ?_
  refine ab_iconst (v := 0) dX12_none_8 (by decide) ?_
  obtain ⟨r1, P2, hs3, hk4⟩ := h
  refine ab_callS (vs := [.int 110, .int 111, .int 110, .int 101, .int 0]) (st := []) dX12_none_9 okMX12_spelt wd_1441 rfl rfl (Nat.le_of_ble_eq_true rfl) ⟨Nat.le_of_ble_eq_true rfl, Nat.le_of_ble_eq_true rfl⟩ hs3 ?_
  rintro v9 ⟨i5, l6, dd7, x8⟩ E9 - ⟨rfl, rfl, hp9⟩
  show ab_Fr MX12_none (d + 1) Q 12 [] [.long r1] (0, 0) (i5, l6, dd7, x8) (ab_E0 sc)
  exact ab_lret dX12_none_12 rfl ⟨Nat.zero_le _, Nat.zero_le _⟩ (hk4 i5 l6 dd7 x8 hp9)
theorem tMX12_chair_0 {d : Nat} {Q : ab_Qt} {sc : Nat × (Nat → Int32)} {i : Nat → Nat → Int32} {l : Nat → Nat → Int64} {dd : Nat → Nat → Value} {x : Nat}  
    (h : (∃ (r1 : Int64) (P2 : ab_S → Prop), ab_Sp MX12_spelt d [.int 99, .int 104, .int 97, .int 105, .int 114] (i, l, dd, x) (ab_E0 sc) (some (.long r1)) P2 ∧ ∀ i5 l6 dd7 x8, P2 (i5, l6, dd7, x8) → Q (some (some (.long r1))) (i5, l6, dd7, x8) (ab_E0 sc))) :
    ab_Fr MX12_chair (d + 1) Q 0 [] [] (0, 0) (i, l, dd, x) (ab_E0 sc) := by
  refine ab_bipush (v := 99) dX12_chair_0 (by decide) ?_
  refine ab_bipush (v := 104) dX12_chair_2 (by decide) ?_
  refine ab_bipush (v := 97) dX12_chair_4 (by decide) ?_
  refine ab_bipush (v := 105) dX12_chair_6 (by decide) ?_
  refine ab_bipush (v := 114) dX12_chair_8 (by decide) ?_
  obtain ⟨r1, P2, hs3, hk4⟩ := h
  refine ab_callS (vs := [.int 99, .int 104, .int 97, .int 105, .int 114]) (st := []) dX12_chair_10 okMX12_spelt wd_1441 rfl rfl (Nat.le_of_ble_eq_true rfl) ⟨Nat.le_of_ble_eq_true rfl, Nat.le_of_ble_eq_true rfl⟩ hs3 ?_
  rintro v9 ⟨i5, l6, dd7, x8⟩ E9 - ⟨rfl, rfl, hp9⟩
  show ab_Fr MX12_chair (d + 1) Q 13 [] [.long r1] (0, 0) (i5, l6, dd7, x8) (ab_E0 sc)
  exact ab_lret dX12_chair_13 rfl ⟨Nat.zero_le _, Nat.zero_le _⟩ (hk4 i5 l6 dd7 x8 hp9)
theorem tMX12_other_0 {d : Nat} {Q : ab_Qt} {sc : Nat × (Nat → Int32)} {i : Nat → Nat → Int32} {l : Nat → Nat → Int64} {dd : Nat → Nat → Value} {x : Nat}  
    (h : (∃ (r1 : Int64) (P2 : ab_S → Prop), ab_Sp MX12_spelt d [.int 101, .int 108, .int 115, .int 101, .int 0] (i, l, dd, x) (ab_E0 sc) (some (.long r1)) P2 ∧ ∀ i5 l6 dd7 x8, P2 (i5, l6, dd7, x8) → Q (some (some (.long r1))) (i5, l6, dd7, x8) (ab_E0 sc))) :
    ab_Fr MX12_other (d + 1) Q 0 [] [] (0, 0) (i, l, dd, x) (ab_E0 sc) := by
  refine ab_bipush (v := 101) dX12_other_0 (by decide) ?_
  refine ab_bipush (v := 108) dX12_other_2 (by decide) ?_
  refine ab_bipush (v := 115) dX12_other_4 (by decide) ?_
  refine ab_bipush (v := 101) dX12_other_6 (by decide) ?_
  refine ab_iconst (v := 0) dX12_other_8 (by decide) ?_
  obtain ⟨r1, P2, hs3, hk4⟩ := h
  refine ab_callS (vs := [.int 101, .int 108, .int 115, .int 101, .int 0]) (st := []) dX12_other_9 okMX12_spelt wd_1441 rfl rfl (Nat.le_of_ble_eq_true rfl) ⟨Nat.le_of_ble_eq_true rfl, Nat.le_of_ble_eq_true rfl⟩ hs3 ?_
  rintro v9 ⟨i5, l6, dd7, x8⟩ E9 - ⟨rfl, rfl, hp9⟩
  show ab_Fr MX12_other (d + 1) Q 12 [] [.long r1] (0, 0) (i5, l6, dd7, x8) (ab_E0 sc)
  exact ab_lret dX12_other_12 rfl ⟨Nat.zero_le _, Nat.zero_le _⟩ (hk4 i5 l6 dd7 x8 hp9)
theorem tMX12_findTruth_0 {d : Nat} {Q : ab_Qt} {sc : Nat × (Nat → Int32)} {i : Nat → Nat → Int32} {l : Nat → Nat → Int64} {dd : Nat → Nat → Value} {x : Nat}  
    (h : ab_Fr MX12_findTruth (d + 1) Q 2 [some (.ref 205), some (.int 0)] [] (0, 0) (i, l, dd, x) (ab_E0 sc)) :
    ab_Fr MX12_findTruth (d + 1) Q 0 [some (.ref 205), none] [] (0, 0) (i, l, dd, x) (ab_E0 sc) := by
  refine ab_iconst (v := 0) dX12_findTruth_0 (by decide) ?_
  refine ab_istoren dX12_findTruth_1 (Nat.le_of_ble_eq_true rfl) (L2 := [some (.ref 205), some (.int 0)]) rfl ?_
  exact h
theorem tMX12_findTruth_2 {d : Nat} {Q : ab_Qt} {sc : Nat × (Nat → Int32)} {i : Nat → Nat → Int32} {l : Nat → Nat → Int64} {dd : Nat → Nat → Value} {x : Nat} {a1 : Int32} 
    (h : (((i 209 1) ≤ a1 → Q (some (some (.int (-1)))) (i, l, dd, x) (ab_E0 sc)) ∧ (¬ (i 209 1) ≤ a1 → (vp_in (3 + a1) 6 ∧ ((¬ (l 207 (3 + a1).toNatClampNeg) = (l 205 10) → ab_Fr MX12_findTruth (d + 1) Q 2 [some (.ref 205), some (.int (a1 + 1))] [] (0, 0) (i, l, dd, x) (ab_E0 sc)) ∧ ((l 207 (3 + a1).toNatClampNeg) = (l 205 10) → Q (some (some (.int a1))) (i, l, dd, x) (ab_E0 sc))))))) :
    ab_Fr MX12_findTruth (d + 1) Q 2 [some (.ref 205), some (.int a1)] [] (0, 0) (i, l, dd, x) (ab_E0 sc) := by
  refine ab_iloadn dX12_findTruth_2 rfl ?_
  refine ab_aloadn dX12_findTruth_3 rfl ?_
  refine ab_getf (v := .ref 209) dX12_findTruth_4 fl_X12_20 kd_205 ff_205_13 ?_
  refine ab_iconst (v := 1) dX12_findTruth_7 (by decide) ?_
  refine ab_iaload (v := (i 209 1)) dX12_findTruth_8 kd_209 (ab_vp (by decide)) rfl ?_
  refine ab_icmp_ge (tgt := 36) dX12_findTruth_9 (by decide) (fun c1 => ?_) (fun c1 => ?_)
  · refine ab_iconst (v := (-1)) dX12_findTruth_36 (by decide) ?_
    exact ab_iret dX12_findTruth_37 rfl ⟨Nat.zero_le _, Nat.zero_le _⟩ (h.1 c1)
  · refine ab_aloadn dX12_findTruth_12 rfl ?_
    refine ab_getf (v := .ref 207) dX12_findTruth_13 fl_X12_13 kd_205 ff_205_11 ?_
    refine ab_iconst (v := 3) dX12_findTruth_16 (by decide) ?_
    refine ab_iloadn dX12_findTruth_17 rfl ?_
    refine ab_iadd dX12_findTruth_18 ?_
    refine ab_laload (v := (l 207 (3 + a1).toNatClampNeg)) dX12_findTruth_19 kd_207 (h.2 c1).1 rfl ?_
    refine ab_aloadn dX12_findTruth_20 rfl ?_
    refine ab_getf (v := .long (l 205 10)) dX12_findTruth_21 fl_X12_179 kd_205 rfl ?_
    refine ab_lcne (tgt := 30) dX12_findTruth_24 dX12_findTruth_25 (by decide) (fun c2 => ?_) (fun c2 => ?_)
    · refine ab_iinc (v := (a1 + 1)) dX12_findTruth_30 rfl (by rfl) (Nat.le_of_ble_eq_true rfl) (L2 := [some (.ref 205), some (.int (a1 + 1))]) rfl ?_
      refine ab_goto (tgt := 2) dX12_findTruth_33 (by decide) ?_
      exact ((h.2 c1).2.1 c2)
    · refine ab_iloadn dX12_findTruth_28 rfl ?_
      exact ab_iret dX12_findTruth_29 rfl ⟨Nat.zero_le _, Nat.zero_le _⟩ ((h.2 c1).2.2 c2)
theorem tMX12_findVoter_0 {d : Nat} {Q : ab_Qt} {sc : Nat × (Nat → Int32)} {i : Nat → Nat → Int32} {l : Nat → Nat → Int64} {dd : Nat → Nat → Value} {x : Nat}  
    (h : ab_Fr MX12_findVoter (d + 1) Q 2 [some (.ref 205), some (.int 0)] [] (0, 0) (i, l, dd, x) (ab_E0 sc)) :
    ab_Fr MX12_findVoter (d + 1) Q 0 [some (.ref 205), none] [] (0, 0) (i, l, dd, x) (ab_E0 sc) := by
  refine ab_iconst (v := 0) dX12_findVoter_0 (by decide) ?_
  refine ab_istoren dX12_findVoter_1 (Nat.le_of_ble_eq_true rfl) (L2 := [some (.ref 205), some (.int 0)]) rfl ?_
  exact h
theorem tMX12_findVoter_2 {d : Nat} {Q : ab_Qt} {sc : Nat × (Nat → Int32)} {i : Nat → Nat → Int32} {l : Nat → Nat → Int64} {dd : Nat → Nat → Value} {x : Nat} {a1 : Int32} 
    (h : (((i 210 1) ≤ a1 → Q (some (some (.int (-1)))) (i, l, dd, x) (ab_E0 sc)) ∧ (¬ (i 210 1) ≤ a1 → (vp_in (7 + a1) 14 ∧ ((¬ (l 208 (7 + a1).toNatClampNeg) = (l 205 10) → ab_Fr MX12_findVoter (d + 1) Q 2 [some (.ref 205), some (.int (a1 + 1))] [] (0, 0) (i, l, dd, x) (ab_E0 sc)) ∧ ((l 208 (7 + a1).toNatClampNeg) = (l 205 10) → Q (some (some (.int a1))) (i, l, dd, x) (ab_E0 sc))))))) :
    ab_Fr MX12_findVoter (d + 1) Q 2 [some (.ref 205), some (.int a1)] [] (0, 0) (i, l, dd, x) (ab_E0 sc) := by
  refine ab_iloadn dX12_findVoter_2 rfl ?_
  refine ab_aloadn dX12_findVoter_3 rfl ?_
  refine ab_getf (v := .ref 210) dX12_findVoter_4 fl_X12_23 kd_205 ff_205_14 ?_
  refine ab_iconst (v := 1) dX12_findVoter_7 (by decide) ?_
  refine ab_iaload (v := (i 210 1)) dX12_findVoter_8 kd_210 (ab_vp (by decide)) rfl ?_
  refine ab_icmp_ge (tgt := 37) dX12_findVoter_9 (by decide) (fun c1 => ?_) (fun c1 => ?_)
  · refine ab_iconst (v := (-1)) dX12_findVoter_37 (by decide) ?_
    exact ab_iret dX12_findVoter_38 rfl ⟨Nat.zero_le _, Nat.zero_le _⟩ (h.1 c1)
  · refine ab_aloadn dX12_findVoter_12 rfl ?_
    refine ab_getf (v := .ref 208) dX12_findVoter_13 fl_X12_17 kd_205 ff_205_12 ?_
    refine ab_bipush (v := 7) dX12_findVoter_16 (by decide) ?_
    refine ab_iloadn dX12_findVoter_18 rfl ?_
    refine ab_iadd dX12_findVoter_19 ?_
    refine ab_laload (v := (l 208 (7 + a1).toNatClampNeg)) dX12_findVoter_20 kd_208 (h.2 c1).1 rfl ?_
    refine ab_aloadn dX12_findVoter_21 rfl ?_
    refine ab_getf (v := .long (l 205 10)) dX12_findVoter_22 fl_X12_179 kd_205 rfl ?_
    refine ab_lcne (tgt := 31) dX12_findVoter_25 dX12_findVoter_26 (by decide) (fun c2 => ?_) (fun c2 => ?_)
    · refine ab_iinc (v := (a1 + 1)) dX12_findVoter_31 rfl (by rfl) (Nat.le_of_ble_eq_true rfl) (L2 := [some (.ref 205), some (.int (a1 + 1))]) rfl ?_
      refine ab_goto (tgt := 2) dX12_findVoter_34 (by decide) ?_
      exact ((h.2 c1).2.1 c2)
    · refine ab_iloadn dX12_findVoter_29 rfl ?_
      exact ab_iret dX12_findVoter_30 rfl ⟨Nat.zero_le _, Nat.zero_le _⟩ ((h.2 c1).2.2 c2)
theorem tMX12_readNumber_0 {d : Nat} {Q : ab_Qt} {sc : Nat × (Nat → Int32)} {i : Nat → Nat → Int32} {l : Nat → Nat → Int64} {dd : Nat → Nat → Value} {x : Nat} {a1 : Int32} {a2 : Int32} 
    (h : (((i 205 6) = 3 → (∃ (r2 : Int32) (P3 : ab_S → Prop), ab_Sp MX12_isIn d [.int (i 205 7), .int a1, .int a2] (i, l, dd, x) (ab_E0 sc) (some (.int r2)) P3 ∧ ∀ i6 l7 dd8 x9, P3 (i6, l7, dd8, x9) → ((¬ r2 = 0 → (∀ i12, i12 = ab_u i6 205 28 (i6 205 7) → ∃ (P15 : ab_S → Prop), ab_Sp MX12_go d [.ref 205] (i12, l7, dd8, x9) (ab_E0 sc) (none) P15 ∧ ∀ i18 l19 dd20 x21, P15 (i18, l19, dd20, x21) → Q (some (some (.int 1))) (i18, l19, dd20, x21) (ab_E0 sc))) ∧ (r2 = 0 → (∃ (r23 : Int32) (P24 : ab_S → Prop), ab_Sp MX12_bad d [.ref 205, .int 2] (i6, l7, dd8, x9) (ab_E0 sc) (some (.int r23)) P24 ∧ ∀ i27 l28 dd29 x30, P24 (i27, l28, dd29, x30) → (r23 = 0 ∨ r23 = 1) ∧ Q (some (some (.int r23))) (i27, l28, dd29, x30) (ab_E0 sc)))))) ∧ (¬ (i 205 6) = 3 → (∃ (r32 : Int32) (P33 : ab_S → Prop), ab_Sp MX12_bad d [.ref 205, .int 1] (i, l, dd, x) (ab_E0 sc) (some (.int r32)) P33 ∧ ∀ i36 l37 dd38 x39, P33 (i36, l37, dd38, x39) → (r32 = 0 ∨ r32 = 1) ∧ Q (some (some (.int r32))) (i36, l37, dd38, x39) (ab_E0 sc))))) :
    ab_Fr MX12_readNumber (d + 1) Q 0 [some (.ref 205), some (.int a1), some (.int a2)] [] (0, 0) (i, l, dd, x) (ab_E0 sc) := by
  refine ab_aloadn dX12_readNumber_0 rfl ?_
  refine ab_getf (v := .int (i 205 6)) dX12_readNumber_1 fl_X12_169 kd_205 rfl ?_
  refine ab_iconst (v := 3) dX12_readNumber_4 (by decide) ?_
  refine ab_icmp_eq (tgt := 14) dX12_readNumber_5 (by decide) (fun c1 => ?_) (fun c1 => ?_)
  · refine ab_aloadn dX12_readNumber_14 rfl ?_
    refine ab_getf (v := .int (i 205 7)) dX12_readNumber_15 fl_X12_182 kd_205 rfl ?_
    refine ab_iloadn dX12_readNumber_18 rfl ?_
    refine ab_iloadn dX12_readNumber_19 rfl ?_
    obtain ⟨r2, P3, hs4, hk5⟩ := (h.1 c1)
    refine ab_callS (vs := [.int (i 205 7), .int a1, .int a2]) (st := []) dX12_readNumber_20 okMX12_isIn wd_1486 rfl rfl (Nat.le_of_ble_eq_true rfl) ⟨Nat.le_of_ble_eq_true rfl, Nat.le_of_ble_eq_true rfl⟩ hs4 ?_
    rintro v9 ⟨i6, l7, dd8, x9⟩ E9 - ⟨rfl, rfl, hp10⟩
    show ab_Fr MX12_readNumber (d + 1) Q 23 [some (.ref 205), some (.int a1), some (.int a2)] [.int r2] (0, 0) (i6, l7, dd8, x9) (ab_E0 sc)
    refine ab_if_ne (tgt := 32) dX12_readNumber_23 (by decide) (fun c11 => ?_) (fun c11 => ?_)
    · refine ab_aloadn dX12_readNumber_32 rfl ?_
      refine ab_aloadn dX12_readNumber_33 rfl ?_
      refine ab_getf (v := .int (i6 205 7)) dX12_readNumber_34 fl_X12_182 kd_205 rfl ?_
      refine ab_putI dX12_readNumber_37 fl_X12_238 kd_205 rfl ?_
      obtain ⟨i12, e13⟩ : ∃ z, z = ab_u i6 205 28 (i6 205 7) := ⟨_, rfl⟩
      show ab_Fr MX12_readNumber (d + 1) Q 40 [some (.ref 205), some (.int a1), some (.int a2)] [] (0, 0) (ab_u i6 205 28 (i6 205 7), l7, dd8, x9) (ab_E0 sc)
      rw [show ab_u i6 205 28 (i6 205 7) = i12 from e13.symm]
      refine ab_aloadn dX12_readNumber_40 rfl ?_
      obtain ⟨P15, hs16, hk17⟩ := (((hk5 i6 l7 dd8 x9 hp10).1 c11) i12 e13)
      refine ab_callV (vs := []) (st := []) dX12_readNumber_41 okMX12_go wd_1421 kd_205 rfl rfl rfl (Nat.le_of_ble_eq_true rfl) ⟨Nat.le_of_ble_eq_true rfl, Nat.le_of_ble_eq_true rfl⟩ hs16 ?_
      rintro v9 ⟨i18, l19, dd20, x21⟩ E9 - ⟨rfl, rfl, hp22⟩
      show ab_Fr MX12_readNumber (d + 1) Q 44 [some (.ref 205), some (.int a1), some (.int a2)] [] (0, 0) (i18, l19, dd20, x21) (ab_E0 sc)
      refine ab_iconst (v := 1) dX12_readNumber_44 (by decide) ?_
      exact ab_zret dX12_readNumber_45 rfl (by decide) ⟨Nat.zero_le _, Nat.zero_le _⟩ (hk17 i18 l19 dd20 x21 hp22)
    · refine ab_aloadn dX12_readNumber_26 rfl ?_
      refine ab_iconst (v := 2) dX12_readNumber_27 (by decide) ?_
      obtain ⟨r23, P24, hs25, hk26⟩ := ((hk5 i6 l7 dd8 x9 hp10).2 c11)
      refine ab_callV (vs := [.int 2]) (st := []) dX12_readNumber_28 okMX12_bad wd_1450 kd_205 rfl rfl rfl (Nat.le_of_ble_eq_true rfl) ⟨Nat.le_of_ble_eq_true rfl, Nat.le_of_ble_eq_true rfl⟩ hs25 ?_
      rintro v9 ⟨i27, l28, dd29, x30⟩ E9 - ⟨rfl, rfl, hp31⟩
      show ab_Fr MX12_readNumber (d + 1) Q 31 [some (.ref 205), some (.int a1), some (.int a2)] [.int r23] (0, 0) (i27, l28, dd29, x30) (ab_E0 sc)
      exact ab_zret dX12_readNumber_31 rfl (hk26 i27 l28 dd29 x30 hp31).1 ⟨Nat.zero_le _, Nat.zero_le _⟩ (hk26 i27 l28 dd29 x30 hp31).2
  · refine ab_aloadn dX12_readNumber_8 rfl ?_
    refine ab_iconst (v := 1) dX12_readNumber_9 (by decide) ?_
    obtain ⟨r32, P33, hs34, hk35⟩ := (h.2 c1)
    refine ab_callV (vs := [.int 1]) (st := []) dX12_readNumber_10 okMX12_bad wd_1450 kd_205 rfl rfl rfl (Nat.le_of_ble_eq_true rfl) ⟨Nat.le_of_ble_eq_true rfl, Nat.le_of_ble_eq_true rfl⟩ hs34 ?_
    rintro v9 ⟨i36, l37, dd38, x39⟩ E9 - ⟨rfl, rfl, hp40⟩
    show ab_Fr MX12_readNumber (d + 1) Q 13 [some (.ref 205), some (.int a1), some (.int a2)] [.int r32] (0, 0) (i36, l37, dd38, x39) (ab_E0 sc)
    exact ab_zret dX12_readNumber_13 rfl (hk35 i36 l37 dd38 x39 hp40).1 ⟨Nat.zero_le _, Nat.zero_le _⟩ (hk35 i36 l37 dd38 x39 hp40).2
theorem tMX12_isIn_0 {d : Nat} {Q : ab_Qt} {sc : Nat × (Nat → Int32)} {i : Nat → Nat → Int32} {l : Nat → Nat → Int64} {dd : Nat → Nat → Value} {x : Nat} {a0 : Int32} {a1 : Int32} {a2 : Int32} 
    (h : ((a0 < a1 → Q (some (some (.int 0))) (i, l, dd, x) (ab_E0 sc)) ∧ (¬ a0 < a1 → ((a2 < a0 → Q (some (some (.int 0))) (i, l, dd, x) (ab_E0 sc)) ∧ (¬ a2 < a0 → Q (some (some (.int 1))) (i, l, dd, x) (ab_E0 sc)))))) :
    ab_Fr MX12_isIn (d + 1) Q 0 [some (.int a0), some (.int a1), some (.int a2)] [] (0, 0) (i, l, dd, x) (ab_E0 sc) := by
  refine ab_iloadn dX12_isIn_0 rfl ?_
  refine ab_iloadn dX12_isIn_1 rfl ?_
  refine ab_icmp_lt (tgt := 14) dX12_isIn_2 (by decide) (fun c1 => ?_) (fun c1 => ?_)
  · refine ab_iconst (v := 0) dX12_isIn_14 (by decide) ?_
    exact ab_zret dX12_isIn_15 rfl (by decide) ⟨Nat.zero_le _, Nat.zero_le _⟩ (h.1 c1)
  · refine ab_iloadn dX12_isIn_5 rfl ?_
    refine ab_iloadn dX12_isIn_6 rfl ?_
    refine ab_icmp_gt (tgt := 14) dX12_isIn_7 (by decide) (fun c2 => ?_) (fun c2 => ?_)
    · refine ab_iconst (v := 0) dX12_isIn_14 (by decide) ?_
      exact ab_zret dX12_isIn_15 rfl (by decide) ⟨Nat.zero_le _, Nat.zero_le _⟩ ((h.2 c1).1 c2)
    · refine ab_iconst (v := 1) dX12_isIn_10 (by decide) ?_
      refine ab_goto (tgt := 15) dX12_isIn_11 (by decide) ?_
      exact ab_zret dX12_isIn_15 rfl (by decide) ⟨Nat.zero_le _, Nat.zero_le _⟩ ((h.2 c1).2 c2)
theorem tMX12_readVoterLine_0 {d : Nat} {Q : ab_Qt} {sc : Nat × (Nat → Int32)} {i : Nat → Nat → Int32} {l : Nat → Nat → Int64} {dd : Nat → Nat → Value} {x : Nat}  
    (h : ((¬ (i 210 1) = 7 → (∃ (P3 : ab_S → Prop), ab_Sp MX12_go d [.ref 205] (i, l, dd, x) (ab_E0 sc) (none) P3 ∧ ∀ i6 l7 dd8 x9, P3 (i6, l7, dd8, x9) → ∃ (r11 : Int32) (P12 : ab_S → Prop), ab_Sp MX12_readNew d [.ref 205] (i6, l7, dd8, x9) (ab_E0 sc) (some (.int r11)) P12 ∧ ∀ i15 l16 dd17 x18, P12 (i15, l16, dd17, x18) → ((¬ r11 = 0 → (vp_in (7 + (i 210 1)) 14 ∧ ∀ l21, l21 = ab_u l16 208 (7 + (i 210 1)).toNatClampNeg (l16 205 10) → ∃ (P24 : ab_S → Prop), ab_Sp MX12_go d [.ref 205] (i15, l21, dd17, x18) (ab_E0 sc) (none) P24 ∧ ∀ i27 l28 dd29 x30, P24 (i27, l28, dd29, x30) → ∃ (r32 : Int64) (P33 : ab_S → Prop), ab_Sp MX12_spelt d [.int 115, .int 101, .int 101, .int 115, .int 0] (i27, l28, dd29, x30) (ab_E0 sc) (some (.long r32)) P33 ∧ ∀ i36 l37 dd38 x39, P33 (i36, l37, dd38, x39) → ∃ (r41 : Int32) (P42 : ab_S → Prop), ab_Sp MX12_readKey d [.ref 205, .long r32] (i36, l37, dd38, x39) (ab_E0 sc) (some (.int r41)) P42 ∧ ∀ i45 l46 dd47 x48, P42 (i45, l46, dd47, x48) → ((r41 = 0 → Q (some (some (.int 0))) (i45, l46, dd47, x48) (ab_E0 sc)) ∧ (¬ r41 = 0 → (∃ (r51 : Int32) (P52 : ab_S → Prop), ab_Sp MX12_readNumber d [.ref 205, .int 2, .int 3] (i45, l46, dd47, x48) (ab_E0 sc) (some (.int r51)) P52 ∧ ∀ i55 l56 dd57 x58, P52 (i55, l56, dd57, x58) → ((¬ r51 = 0 → (vp_in (7 + (i 210 1)) 14 ∧ ∀ i61, i61 = ab_u i55 212 (7 + (i 210 1)).toNatClampNeg (i55 205 28) → ab_Fr MX12_readVoterLine (d + 1) Q 94 [some (.ref 205), some (.int (i 210 1)), some (.int 0), none, none] [] (0, 0) (i61, l56, dd57, x58) (ab_E0 sc))) ∧ (r51 = 0 → Q (some (some (.int 0))) (i55, l56, dd57, x58) (ab_E0 sc)))))))) ∧ (r11 = 0 → Q (some (some (.int 0))) (i15, l16, dd17, x18) (ab_E0 sc))))) ∧ ((i 210 1) = 7 → (∃ (r63 : Int32) (P64 : ab_S → Prop), ab_Sp MX12_bad d [.ref 205, .int 4] (i, l, dd, x) (ab_E0 sc) (some (.int r63)) P64 ∧ ∀ i67 l68 dd69 x70, P64 (i67, l68, dd69, x70) → (r63 = 0 ∨ r63 = 1) ∧ Q (some (some (.int r63))) (i67, l68, dd69, x70) (ab_E0 sc))))) :
    ab_Fr MX12_readVoterLine (d + 1) Q 0 [some (.ref 205), none, none, none, none] [] (0, 0) (i, l, dd, x) (ab_E0 sc) := by
  refine ab_aloadn dX12_readVoterLine_0 rfl ?_
  refine ab_getf (v := .ref 210) dX12_readVoterLine_1 fl_X12_23 kd_205 ff_205_14 ?_
  refine ab_iconst (v := 1) dX12_readVoterLine_4 (by decide) ?_
  refine ab_iaload (v := (i 210 1)) dX12_readVoterLine_5 kd_210 (ab_vp (by decide)) rfl ?_
  refine ab_istoren dX12_readVoterLine_6 (Nat.le_of_ble_eq_true rfl) (L2 := [some (.ref 205), some (.int (i 210 1)), none, none, none]) rfl ?_
  refine ab_iloadn dX12_readVoterLine_7 rfl ?_
  refine ab_bipush (v := 7) dX12_readVoterLine_8 (by decide) ?_
  refine ab_icmp_ne (tgt := 19) dX12_readVoterLine_10 (by decide) (fun c1 => ?_) (fun c1 => ?_)
  · refine ab_aloadn dX12_readVoterLine_19 rfl ?_
    obtain ⟨P3, hs4, hk5⟩ := (h.1 c1)
    refine ab_callV (vs := []) (st := []) dX12_readVoterLine_20 okMX12_go wd_1421 kd_205 rfl rfl rfl (Nat.le_of_ble_eq_true rfl) ⟨Nat.le_of_ble_eq_true rfl, Nat.le_of_ble_eq_true rfl⟩ hs4 ?_
    rintro v9 ⟨i6, l7, dd8, x9⟩ E9 - ⟨rfl, rfl, hp10⟩
    show ab_Fr MX12_readVoterLine (d + 1) Q 23 [some (.ref 205), some (.int (i 210 1)), none, none, none] [] (0, 0) (i6, l7, dd8, x9) (ab_E0 sc)
    refine ab_aloadn dX12_readVoterLine_23 rfl ?_
    obtain ⟨r11, P12, hs13, hk14⟩ := (hk5 i6 l7 dd8 x9 hp10)
    refine ab_callV (vs := []) (st := []) dX12_readVoterLine_24 okMX12_readNew wd_1459 kd_205 rfl rfl rfl (Nat.le_of_ble_eq_true rfl) ⟨Nat.le_of_ble_eq_true rfl, Nat.le_of_ble_eq_true rfl⟩ hs13 ?_
    rintro v9 ⟨i15, l16, dd17, x18⟩ E9 - ⟨rfl, rfl, hp19⟩
    show ab_Fr MX12_readVoterLine (d + 1) Q 27 [some (.ref 205), some (.int (i 210 1)), none, none, none] [.int r11] (0, 0) (i15, l16, dd17, x18) (ab_E0 sc)
    refine ab_if_ne (tgt := 32) dX12_readVoterLine_27 (by decide) (fun c20 => ?_) (fun c20 => ?_)
    · refine ab_aloadn dX12_readVoterLine_32 rfl ?_
      refine ab_getf (v := .ref 208) dX12_readVoterLine_33 fl_X12_17 kd_205 ff_205_12 ?_
      refine ab_bipush (v := 7) dX12_readVoterLine_36 (by decide) ?_
      refine ab_iloadn dX12_readVoterLine_38 rfl ?_
      refine ab_iadd dX12_readVoterLine_39 ?_
      refine ab_aloadn dX12_readVoterLine_40 rfl ?_
      refine ab_getf (v := .long (l16 205 10)) dX12_readVoterLine_41 fl_X12_179 kd_205 rfl ?_
      refine ab_lastore dX12_readVoterLine_44 kd_208 ((hk14 i15 l16 dd17 x18 hp19).1 c20).1 ?_
      obtain ⟨l21, e22⟩ : ∃ z, z = ab_u l16 208 (7 + (i 210 1)).toNatClampNeg (l16 205 10) := ⟨_, rfl⟩
      rw [show ab_u l16 208 (7 + (i 210 1)).toNatClampNeg (l16 205 10) = l21 from e22.symm]
      refine ab_aloadn dX12_readVoterLine_45 rfl ?_
      obtain ⟨P24, hs25, hk26⟩ := (((hk14 i15 l16 dd17 x18 hp19).1 c20).2 l21 e22)
      refine ab_callV (vs := []) (st := []) dX12_readVoterLine_46 okMX12_go wd_1421 kd_205 rfl rfl rfl (Nat.le_of_ble_eq_true rfl) ⟨Nat.le_of_ble_eq_true rfl, Nat.le_of_ble_eq_true rfl⟩ hs25 ?_
      rintro v9 ⟨i27, l28, dd29, x30⟩ E9 - ⟨rfl, rfl, hp31⟩
      show ab_Fr MX12_readVoterLine (d + 1) Q 49 [some (.ref 205), some (.int (i 210 1)), none, none, none] [] (0, 0) (i27, l28, dd29, x30) (ab_E0 sc)
      refine ab_aloadn dX12_readVoterLine_49 rfl ?_
      refine ab_bipush (v := 115) dX12_readVoterLine_50 (by decide) ?_
      refine ab_bipush (v := 101) dX12_readVoterLine_52 (by decide) ?_
      refine ab_bipush (v := 101) dX12_readVoterLine_54 (by decide) ?_
      refine ab_bipush (v := 115) dX12_readVoterLine_56 (by decide) ?_
      refine ab_iconst (v := 0) dX12_readVoterLine_58 (by decide) ?_
      obtain ⟨r32, P33, hs34, hk35⟩ := (hk26 i27 l28 dd29 x30 hp31)
      refine ab_callS (vs := [.int 115, .int 101, .int 101, .int 115, .int 0]) (st := [.ref 205]) dX12_readVoterLine_59 okMX12_spelt wd_1441 rfl rfl (Nat.le_of_ble_eq_true rfl) ⟨Nat.le_of_ble_eq_true rfl, Nat.le_of_ble_eq_true rfl⟩ hs34 ?_
      rintro v9 ⟨i36, l37, dd38, x39⟩ E9 - ⟨rfl, rfl, hp40⟩
      show ab_Fr MX12_readVoterLine (d + 1) Q 62 [some (.ref 205), some (.int (i 210 1)), none, none, none] [.long r32, .ref 205] (0, 0) (i36, l37, dd38, x39) (ab_E0 sc)
      obtain ⟨r41, P42, hs43, hk44⟩ := (hk35 i36 l37 dd38 x39 hp40)
      refine ab_callV (vs := [.long r32]) (st := []) dX12_readVoterLine_62 okMX12_readKey wd_1492 kd_205 rfl rfl rfl (Nat.le_of_ble_eq_true rfl) ⟨Nat.le_of_ble_eq_true rfl, Nat.le_of_ble_eq_true rfl⟩ hs43 ?_
      rintro v9 ⟨i45, l46, dd47, x48⟩ E9 - ⟨rfl, rfl, hp49⟩
      show ab_Fr MX12_readVoterLine (d + 1) Q 65 [some (.ref 205), some (.int (i 210 1)), none, none, none] [.int r41] (0, 0) (i45, l46, dd47, x48) (ab_E0 sc)
      refine ab_if_eq (tgt := 77) dX12_readVoterLine_65 (by decide) (fun c50 => ?_) (fun c50 => ?_)
      · refine ab_iconst (v := 0) dX12_readVoterLine_77 (by decide) ?_
        exact ab_zret dX12_readVoterLine_78 rfl (by decide) ⟨Nat.zero_le _, Nat.zero_le _⟩ ((hk44 i45 l46 dd47 x48 hp49).1 c50)
      · refine ab_aloadn dX12_readVoterLine_68 rfl ?_
        refine ab_iconst (v := 2) dX12_readVoterLine_69 (by decide) ?_
        refine ab_iconst (v := 3) dX12_readVoterLine_70 (by decide) ?_
        obtain ⟨r51, P52, hs53, hk54⟩ := ((hk44 i45 l46 dd47 x48 hp49).2 c50)
        refine ab_callV (vs := [.int 2, .int 3]) (st := []) dX12_readVoterLine_71 okMX12_readNumber wd_1483 kd_205 rfl rfl rfl (Nat.le_of_ble_eq_true rfl) ⟨Nat.le_of_ble_eq_true rfl, Nat.le_of_ble_eq_true rfl⟩ hs53 ?_
        rintro v9 ⟨i55, l56, dd57, x58⟩ E9 - ⟨rfl, rfl, hp59⟩
        show ab_Fr MX12_readVoterLine (d + 1) Q 74 [some (.ref 205), some (.int (i 210 1)), none, none, none] [.int r51] (0, 0) (i55, l56, dd57, x58) (ab_E0 sc)
        refine ab_if_ne (tgt := 79) dX12_readVoterLine_74 (by decide) (fun c60 => ?_) (fun c60 => ?_)
        · refine ab_aloadn dX12_readVoterLine_79 rfl ?_
          refine ab_getf (v := .ref 212) dX12_readVoterLine_80 fl_X12_29 kd_205 ff_205_16 ?_
          refine ab_bipush (v := 7) dX12_readVoterLine_83 (by decide) ?_
          refine ab_iloadn dX12_readVoterLine_85 rfl ?_
          refine ab_iadd dX12_readVoterLine_86 ?_
          refine ab_aloadn dX12_readVoterLine_87 rfl ?_
          refine ab_getf (v := .int (i55 205 28)) dX12_readVoterLine_88 fl_X12_238 kd_205 rfl ?_
          refine ab_iastore dX12_readVoterLine_91 kd_212 ((hk54 i55 l56 dd57 x58 hp59).1 c60).1 ?_
          obtain ⟨i61, e62⟩ : ∃ z, z = ab_u i55 212 (7 + (i 210 1)).toNatClampNeg (i55 205 28) := ⟨_, rfl⟩
          rw [show ab_u i55 212 (7 + (i 210 1)).toNatClampNeg (i55 205 28) = i61 from e62.symm]
          refine ab_iconst (v := 0) dX12_readVoterLine_92 (by decide) ?_
          refine ab_istoren dX12_readVoterLine_93 (Nat.le_of_ble_eq_true rfl) (L2 := [some (.ref 205), some (.int (i 210 1)), some (.int 0), none, none]) rfl ?_
          exact (((hk54 i55 l56 dd57 x58 hp59).1 c60).2 i61 e62)
        · refine ab_iconst (v := 0) dX12_readVoterLine_77 (by decide) ?_
          exact ab_zret dX12_readVoterLine_78 rfl (by decide) ⟨Nat.zero_le _, Nat.zero_le _⟩ ((hk54 i55 l56 dd57 x58 hp59).2 c60)
    · refine ab_iconst (v := 0) dX12_readVoterLine_30 (by decide) ?_
      exact ab_zret dX12_readVoterLine_31 rfl (by decide) ⟨Nat.zero_le _, Nat.zero_le _⟩ ((hk14 i15 l16 dd17 x18 hp19).2 c20)
  · refine ab_aloadn dX12_readVoterLine_13 rfl ?_
    refine ab_iconst (v := 4) dX12_readVoterLine_14 (by decide) ?_
    obtain ⟨r63, P64, hs65, hk66⟩ := (h.2 c1)
    refine ab_callV (vs := [.int 4]) (st := []) dX12_readVoterLine_15 okMX12_bad wd_1450 kd_205 rfl rfl rfl (Nat.le_of_ble_eq_true rfl) ⟨Nat.le_of_ble_eq_true rfl, Nat.le_of_ble_eq_true rfl⟩ hs65 ?_
    rintro v9 ⟨i67, l68, dd69, x70⟩ E9 - ⟨rfl, rfl, hp71⟩
    show ab_Fr MX12_readVoterLine (d + 1) Q 18 [some (.ref 205), some (.int (i 210 1)), none, none, none] [.int r63] (0, 0) (i67, l68, dd69, x70) (ab_E0 sc)
    exact ab_zret dX12_readVoterLine_18 rfl (hk66 i67 l68 dd69 x70 hp71).1 ⟨Nat.zero_le _, Nat.zero_le _⟩ (hk66 i67 l68 dd69 x70 hp71).2
theorem tMX12_readVoterLine_94 {d : Nat} {Q : ab_Qt} {sc : Nat × (Nat → Int32)} {i : Nat → Nat → Int32} {l : Nat → Nat → Int64} {dd : Nat → Nat → Value} {x : Nat} {a1 : Int32} {a2 : Int32} 
    (h : (((i 209 1) ≤ a2 → (vp_in (7 + a1) 14 ∧ ∀ i2, i2 = ab_u i 215 (7 + a1).toNatClampNeg 0 → vp_in (7 + a1) 14 ∧ ∀ i4, i4 = ab_u i2 218 (7 + a1).toNatClampNeg 1 → ab_Fr MX12_readVoterLine (d + 1) Q 242 [some (.ref 205), some (.int a1), some (.int 0), none, none] [] (0, 0) (i4, l, dd, x) (ab_E0 sc))) ∧ (¬ (i 209 1) ≤ a2 → ab_Fr MX12_readVoterLine (d + 1) Q 109 [some (.ref 205), some (.int a1), some (.int a2), some (.int 0), some (.int 0)] [] (0, 0) (i, l, dd, x) (ab_E0 sc)))) :
    ab_Fr MX12_readVoterLine (d + 1) Q 94 [some (.ref 205), some (.int a1), some (.int a2), none, none] [] (0, 0) (i, l, dd, x) (ab_E0 sc) := by
  refine ab_iloadn dX12_readVoterLine_94 rfl ?_
  refine ab_aloadn dX12_readVoterLine_95 rfl ?_
  refine ab_getf (v := .ref 209) dX12_readVoterLine_96 fl_X12_20 kd_205 ff_205_13 ?_
  refine ab_iconst (v := 1) dX12_readVoterLine_99 (by decide) ?_
  refine ab_iaload (v := (i 209 1)) dX12_readVoterLine_100 kd_209 (ab_vp (by decide)) rfl ?_
  refine ab_icmp_ge (tgt := 220) dX12_readVoterLine_101 (by decide) (fun c1 => ?_) (fun c1 => ?_)
  · refine ab_aloadn dX12_readVoterLine_220 rfl ?_
    refine ab_getf (v := .ref 215) dX12_readVoterLine_221 fl_X12_38 kd_205 ff_205_19 ?_
    refine ab_bipush (v := 7) dX12_readVoterLine_224 (by decide) ?_
    refine ab_iloadn dX12_readVoterLine_226 rfl ?_
    refine ab_iadd dX12_readVoterLine_227 ?_
    refine ab_iconst (v := 0) dX12_readVoterLine_228 (by decide) ?_
    refine ab_iastore dX12_readVoterLine_229 kd_215 (h.1 c1).1 ?_
    obtain ⟨i2, e3⟩ : ∃ z, z = ab_u i 215 (7 + a1).toNatClampNeg 0 := ⟨_, rfl⟩
    rw [show ab_u i 215 (7 + a1).toNatClampNeg 0 = i2 from e3.symm]
    refine ab_aloadn dX12_readVoterLine_230 rfl ?_
    refine ab_getf (v := .ref 218) dX12_readVoterLine_231 fl_X12_47 kd_205 ff_205_22 ?_
    refine ab_bipush (v := 7) dX12_readVoterLine_234 (by decide) ?_
    refine ab_iloadn dX12_readVoterLine_236 rfl ?_
    refine ab_iadd dX12_readVoterLine_237 ?_
    refine ab_iconst (v := 1) dX12_readVoterLine_238 (by decide) ?_
    refine ab_iastore dX12_readVoterLine_239 kd_218 ((h.1 c1).2 i2 e3).1 ?_
    obtain ⟨i4, e5⟩ : ∃ z, z = ab_u i2 218 (7 + a1).toNatClampNeg 1 := ⟨_, rfl⟩
    rw [show ab_u i2 218 (7 + a1).toNatClampNeg 1 = i4 from e5.symm]
    refine ab_iconst (v := 0) dX12_readVoterLine_240 (by decide) ?_
    refine ab_istoren dX12_readVoterLine_241 (Nat.le_of_ble_eq_true rfl) (L2 := [some (.ref 205), some (.int a1), some (.int 0), none, none]) rfl ?_
    exact (((h.1 c1).2 i2 e3).2 i4 e5)
  · refine ab_iconst (v := 0) dX12_readVoterLine_104 (by decide) ?_
    refine ab_istoren dX12_readVoterLine_105 (Nat.le_of_ble_eq_true rfl) (L2 := [some (.ref 205), some (.int a1), some (.int a2), some (.int 0), none]) rfl ?_
    refine ab_iconst (v := 0) dX12_readVoterLine_106 (by decide) ?_
    refine ab_istore dX12_readVoterLine_107 (Nat.le_of_ble_eq_true rfl) (L2 := [some (.ref 205), some (.int a1), some (.int a2), some (.int 0), some (.int 0)]) rfl ?_
    exact (h.2 c1)
theorem tMX12_readVoterLine_109 {d : Nat} {Q : ab_Qt} {sc : Nat × (Nat → Int32)} {i : Nat → Nat → Int32} {l : Nat → Nat → Int64} {dd : Nat → Nat → Value} {x : Nat} {a1 : Int32} {a2 : Int32} {a3 : Int32} {a4 : Int32} 
    (h : (vp_in (7 + a1) 14 ∧ (((i 212 (7 + a1).toNatClampNeg) ≤ a4 → ab_Fr MX12_readVoterLine (d + 1) Q 94 [some (.ref 205), some (.int a1), some (.int (a2 + 1)), none, none] [] (0, 0) (i, l, dd, x) (ab_E0 sc)) ∧ (¬ (i 212 (7 + a1).toNatClampNeg) ≤ a4 → (((i 205 6) = 3 → ((20 < (i 205 7) → ab_Fr MX12_readVoterLine (d + 1) Q 175 [some (.ref 205), none, none, none, none] [] (0, 0) (i, l, dd, x) (ab_E0 sc)) ∧ (¬ 20 < (i 205 7) → (vp_in (7 + a1) 14 ∧ ((¬ a4 = ((i 212 (7 + a1).toNatClampNeg) - 1) → ab_Fr MX12_readVoterLine (d + 1) Q 181 [some (.ref 205), some (.int a1), some (.int a2), some (.int (a3 + (i 205 7))), some (.int a4)] [] (0, 0) (i, l, dd, x) (ab_E0 sc)) ∧ (a4 = ((i 212 (7 + a1).toNatClampNeg) - 1) → (((a3 + (i 205 7)) = 20 → ab_Fr MX12_readVoterLine (d + 1) Q 181 [some (.ref 205), some (.int a1), some (.int a2), some (.int (a3 + (i 205 7))), some (.int a4)] [] (0, 0) (i, l, dd, x) (ab_E0 sc)) ∧ (¬ (a3 + (i 205 7)) = 20 → ab_Fr MX12_readVoterLine (d + 1) Q 175 [some (.ref 205), none, none, none, none] [] (0, 0) (i, l, dd, x) (ab_E0 sc))))))))) ∧ (¬ (i 205 6) = 3 → (∃ (r6 : Int32) (P7 : ab_S → Prop), ab_Sp MX12_bad d [.ref 205, .int 1] (i, l, dd, x) (ab_E0 sc) (some (.int r6)) P7 ∧ ∀ i10 l11 dd12 x13, P7 (i10, l11, dd12, x13) → (r6 = 0 ∨ r6 = 1) ∧ Q (some (some (.int r6))) (i10, l11, dd12, x13) (ab_E0 sc)))))))) :
    ab_Fr MX12_readVoterLine (d + 1) Q 109 [some (.ref 205), some (.int a1), some (.int a2), some (.int a3), some (.int a4)] [] (0, 0) (i, l, dd, x) (ab_E0 sc) := by
  refine ab_iload dX12_readVoterLine_109 rfl ?_
  refine ab_aloadn dX12_readVoterLine_111 rfl ?_
  refine ab_getf (v := .ref 212) dX12_readVoterLine_112 fl_X12_29 kd_205 ff_205_16 ?_
  refine ab_bipush (v := 7) dX12_readVoterLine_115 (by decide) ?_
  refine ab_iloadn dX12_readVoterLine_117 rfl ?_
  refine ab_iadd dX12_readVoterLine_118 ?_
  refine ab_iaload (v := (i 212 (7 + a1).toNatClampNeg)) dX12_readVoterLine_119 kd_212 h.1 rfl ?_
  refine ab_icmp_ge (tgt := 214) dX12_readVoterLine_120 (by decide) (fun c1 => ?_) (fun c1 => ?_)
  · refine ab_iinc (v := (a2 + 1)) dX12_readVoterLine_214 rfl (by rfl) (Nat.le_of_ble_eq_true rfl) (L2 := [some (.ref 205), some (.int a1), some (.int (a2 + 1)), some (.int a3), some (.int a4)]) rfl ?_
    refine ab_goto (tgt := 94) dX12_readVoterLine_217 (by decide) ?_
    refine ab_forget (i := 3) (L2 := [some (.ref 205), some (.int a1), some (.int (a2 + 1)), none, some (.int a4)]) rfl ?_
    refine ab_forget (i := 4) (L2 := [some (.ref 205), some (.int a1), some (.int (a2 + 1)), none, none]) rfl ?_
    exact (h.2.1 c1)
  · refine ab_aloadn dX12_readVoterLine_123 rfl ?_
    refine ab_getf (v := .int (i 205 6)) dX12_readVoterLine_124 fl_X12_169 kd_205 rfl ?_
    refine ab_iconst (v := 3) dX12_readVoterLine_127 (by decide) ?_
    refine ab_icmp_eq (tgt := 137) dX12_readVoterLine_128 (by decide) (fun c2 => ?_) (fun c2 => ?_)
    · refine ab_iloadn dX12_readVoterLine_137 rfl ?_
      refine ab_aloadn dX12_readVoterLine_138 rfl ?_
      refine ab_getf (v := .int (i 205 7)) dX12_readVoterLine_139 fl_X12_182 kd_205 rfl ?_
      refine ab_iadd dX12_readVoterLine_142 ?_
      refine ab_istoren dX12_readVoterLine_143 (Nat.le_of_ble_eq_true rfl) (L2 := [some (.ref 205), some (.int a1), some (.int a2), some (.int (a3 + (i 205 7))), some (.int a4)]) rfl ?_
      refine ab_aloadn dX12_readVoterLine_144 rfl ?_
      refine ab_getf (v := .int (i 205 7)) dX12_readVoterLine_145 fl_X12_182 kd_205 rfl ?_
      refine ab_bipush (v := 20) dX12_readVoterLine_148 (by decide) ?_
      refine ab_icmp_gt (tgt := 175) dX12_readVoterLine_150 (by decide) (fun c3 => ?_) (fun c3 => ?_)
      · refine ab_forget (i := 1) (L2 := [some (.ref 205), none, some (.int a2), some (.int (a3 + (i 205 7))), some (.int a4)]) rfl ?_
        refine ab_forget (i := 2) (L2 := [some (.ref 205), none, none, some (.int (a3 + (i 205 7))), some (.int a4)]) rfl ?_
        refine ab_forget (i := 3) (L2 := [some (.ref 205), none, none, none, some (.int a4)]) rfl ?_
        refine ab_forget (i := 4) (L2 := [some (.ref 205), none, none, none, none]) rfl ?_
        exact (((h.2.2 c1).1 c2).1 c3)
      · refine ab_iload dX12_readVoterLine_153 rfl ?_
        refine ab_aloadn dX12_readVoterLine_155 rfl ?_
        refine ab_getf (v := .ref 212) dX12_readVoterLine_156 fl_X12_29 kd_205 ff_205_16 ?_
        refine ab_bipush (v := 7) dX12_readVoterLine_159 (by decide) ?_
        refine ab_iloadn dX12_readVoterLine_161 rfl ?_
        refine ab_iadd dX12_readVoterLine_162 ?_
        refine ab_iaload (v := (i 212 (7 + a1).toNatClampNeg)) dX12_readVoterLine_163 kd_212 (((h.2.2 c1).1 c2).2 c3).1 rfl ?_
        refine ab_iconst (v := 1) dX12_readVoterLine_164 (by decide) ?_
        refine ab_isub dX12_readVoterLine_165 ?_
        refine ab_icmp_ne (tgt := 181) dX12_readVoterLine_166 (by decide) (fun c4 => ?_) (fun c4 => ?_)
        · exact ((((h.2.2 c1).1 c2).2 c3).2.1 c4)
        · refine ab_iloadn dX12_readVoterLine_169 rfl ?_
          refine ab_bipush (v := 20) dX12_readVoterLine_170 (by decide) ?_
          refine ab_icmp_eq (tgt := 181) dX12_readVoterLine_172 (by decide) (fun c5 => ?_) (fun c5 => ?_)
          · exact (((((h.2.2 c1).1 c2).2 c3).2.2 c4).1 c5)
          · refine ab_forget (i := 1) (L2 := [some (.ref 205), none, some (.int a2), some (.int (a3 + (i 205 7))), some (.int a4)]) rfl ?_
            refine ab_forget (i := 2) (L2 := [some (.ref 205), none, none, some (.int (a3 + (i 205 7))), some (.int a4)]) rfl ?_
            refine ab_forget (i := 3) (L2 := [some (.ref 205), none, none, none, some (.int a4)]) rfl ?_
            refine ab_forget (i := 4) (L2 := [some (.ref 205), none, none, none, none]) rfl ?_
            exact (((((h.2.2 c1).1 c2).2 c3).2.2 c4).2 c5)
    · refine ab_aloadn dX12_readVoterLine_131 rfl ?_
      refine ab_iconst (v := 1) dX12_readVoterLine_132 (by decide) ?_
      obtain ⟨r6, P7, hs8, hk9⟩ := ((h.2.2 c1).2 c2)
      refine ab_callV (vs := [.int 1]) (st := []) dX12_readVoterLine_133 okMX12_bad wd_1450 kd_205 rfl rfl rfl (Nat.le_of_ble_eq_true rfl) ⟨Nat.le_of_ble_eq_true rfl, Nat.le_of_ble_eq_true rfl⟩ hs8 ?_
      rintro v9 ⟨i10, l11, dd12, x13⟩ E9 - ⟨rfl, rfl, hp14⟩
      show ab_Fr MX12_readVoterLine (d + 1) Q 136 [some (.ref 205), some (.int a1), some (.int a2), some (.int a3), some (.int a4)] [.int r6] (0, 0) (i10, l11, dd12, x13) (ab_E0 sc)
      exact ab_zret dX12_readVoterLine_136 rfl (hk9 i10 l11 dd12 x13 hp14).1 ⟨Nat.zero_le _, Nat.zero_le _⟩ (hk9 i10 l11 dd12 x13 hp14).2
theorem tMX12_readVoterLine_175 {d : Nat} {Q : ab_Qt} {sc : Nat × (Nat → Int32)} {i : Nat → Nat → Int32} {l : Nat → Nat → Int64} {dd : Nat → Nat → Value} {x : Nat}  
    (h : (∃ (r1 : Int32) (P2 : ab_S → Prop), ab_Sp MX12_bad d [.ref 205, .int 2] (i, l, dd, x) (ab_E0 sc) (some (.int r1)) P2 ∧ ∀ i5 l6 dd7 x8, P2 (i5, l6, dd7, x8) → (r1 = 0 ∨ r1 = 1) ∧ Q (some (some (.int r1))) (i5, l6, dd7, x8) (ab_E0 sc))) :
    ab_Fr MX12_readVoterLine (d + 1) Q 175 [some (.ref 205), none, none, none, none] [] (0, 0) (i, l, dd, x) (ab_E0 sc) := by
  refine ab_aloadn dX12_readVoterLine_175 rfl ?_
  refine ab_iconst (v := 2) dX12_readVoterLine_176 (by decide) ?_
  obtain ⟨r1, P2, hs3, hk4⟩ := h
  refine ab_callV (vs := [.int 2]) (st := []) dX12_readVoterLine_177 okMX12_bad wd_1450 kd_205 rfl rfl rfl (Nat.le_of_ble_eq_true rfl) ⟨Nat.le_of_ble_eq_true rfl, Nat.le_of_ble_eq_true rfl⟩ hs3 ?_
  rintro v9 ⟨i5, l6, dd7, x8⟩ E9 - ⟨rfl, rfl, hp9⟩
  show ab_Fr MX12_readVoterLine (d + 1) Q 180 [some (.ref 205), none, none, none, none] [.int r1] (0, 0) (i5, l6, dd7, x8) (ab_E0 sc)
  exact ab_zret dX12_readVoterLine_180 rfl (hk4 i5 l6 dd7 x8 hp9).1 ⟨Nat.zero_le _, Nat.zero_le _⟩ (hk4 i5 l6 dd7 x8 hp9).2
theorem tMX12_readVoterLine_181 {d : Nat} {Q : ab_Qt} {sc : Nat × (Nat → Int32)} {i : Nat → Nat → Int32} {l : Nat → Nat → Int64} {dd : Nat → Nat → Value} {x : Nat} {a1 : Int32} {a2 : Int32} {a3 : Int32} {a4 : Int32} 
    (h : (vp_in (((63 + (9 * a1)) + (3 * a4)) + a2) 126 ∧ ∀ i1, i1 = ab_u i 213 (((63 + (9 * a1)) + (3 * a4)) + a2).toNatClampNeg (i 205 7) → ∃ (P4 : ab_S → Prop), ab_Sp MX12_go d [.ref 205] (i1, l, dd, x) (ab_E0 sc) (none) P4 ∧ ∀ i7 l8 dd9 x10, P4 (i7, l8, dd9, x10) → ab_Fr MX12_readVoterLine (d + 1) Q 109 [some (.ref 205), some (.int a1), some (.int a2), some (.int a3), some (.int (a4 + 1))] [] (0, 0) (i7, l8, dd9, x10) (ab_E0 sc))) :
    ab_Fr MX12_readVoterLine (d + 1) Q 181 [some (.ref 205), some (.int a1), some (.int a2), some (.int a3), some (.int a4)] [] (0, 0) (i, l, dd, x) (ab_E0 sc) := by
  refine ab_aloadn dX12_readVoterLine_181 rfl ?_
  refine ab_getf (v := .ref 213) dX12_readVoterLine_182 fl_X12_32 kd_205 ff_205_17 ?_
  refine ab_bipush (v := 63) dX12_readVoterLine_185 (by decide) ?_
  refine ab_bipush (v := 9) dX12_readVoterLine_187 (by decide) ?_
  refine ab_iloadn dX12_readVoterLine_189 rfl ?_
  refine ab_imul dX12_readVoterLine_190 ?_
  refine ab_iadd dX12_readVoterLine_191 ?_
  refine ab_iconst (v := 3) dX12_readVoterLine_192 (by decide) ?_
  refine ab_iload dX12_readVoterLine_193 rfl ?_
  refine ab_imul dX12_readVoterLine_195 ?_
  refine ab_iadd dX12_readVoterLine_196 ?_
  refine ab_iloadn dX12_readVoterLine_197 rfl ?_
  refine ab_iadd dX12_readVoterLine_198 ?_
  refine ab_aloadn dX12_readVoterLine_199 rfl ?_
  refine ab_getf (v := .int (i 205 7)) dX12_readVoterLine_200 fl_X12_182 kd_205 rfl ?_
  refine ab_iastore dX12_readVoterLine_203 kd_213 h.1 ?_
  obtain ⟨i1, e2⟩ : ∃ z, z = ab_u i 213 (((63 + (9 * a1)) + (3 * a4)) + a2).toNatClampNeg (i 205 7) := ⟨_, rfl⟩
  rw [show ab_u i 213 (((63 + (9 * a1)) + (3 * a4)) + a2).toNatClampNeg (i 205 7) = i1 from e2.symm]
  refine ab_aloadn dX12_readVoterLine_204 rfl ?_
  obtain ⟨P4, hs5, hk6⟩ := (h.2 i1 e2)
  refine ab_callV (vs := []) (st := []) dX12_readVoterLine_205 okMX12_go wd_1421 kd_205 rfl rfl rfl (Nat.le_of_ble_eq_true rfl) ⟨Nat.le_of_ble_eq_true rfl, Nat.le_of_ble_eq_true rfl⟩ hs5 ?_
  rintro v9 ⟨i7, l8, dd9, x10⟩ E9 - ⟨rfl, rfl, hp11⟩
  show ab_Fr MX12_readVoterLine (d + 1) Q 208 [some (.ref 205), some (.int a1), some (.int a2), some (.int a3), some (.int a4)] [] (0, 0) (i7, l8, dd9, x10) (ab_E0 sc)
  refine ab_iinc (v := (a4 + 1)) dX12_readVoterLine_208 rfl (by rfl) (Nat.le_of_ble_eq_true rfl) (L2 := [some (.ref 205), some (.int a1), some (.int a2), some (.int a3), some (.int (a4 + 1))]) rfl ?_
  refine ab_goto (tgt := 109) dX12_readVoterLine_211 (by decide) ?_
  exact (hk6 i7 l8 dd9 x10 hp11)
theorem tMX12_readVoterLine_242 {d : Nat} {Q : ab_Qt} {sc : Nat × (Nat → Int32)} {i : Nat → Nat → Int32} {l : Nat → Nat → Int64} {dd : Nat → Nat → Value} {x : Nat} {a1 : Int32} {a2 : Int32} 
    (h : ((9 ≤ a2 → (∀ i2, i2 = ab_u i 210 1 ((i 210 1) + 1) → Q (some (some (.int 1))) (i2, l, dd, x) (ab_E0 sc))) ∧ (¬ 9 ≤ a2 → (vp_in ((72 + (9 * a1)) + a2) 144 ∧ ∀ i4, i4 = ab_u i 214 ((72 + (9 * a1)) + a2).toNatClampNeg (-1) → ab_Fr MX12_readVoterLine (d + 1) Q 242 [some (.ref 205), some (.int a1), some (.int (a2 + 1)), none, none] [] (0, 0) (i4, l, dd, x) (ab_E0 sc))))) :
    ab_Fr MX12_readVoterLine (d + 1) Q 242 [some (.ref 205), some (.int a1), some (.int a2), none, none] [] (0, 0) (i, l, dd, x) (ab_E0 sc) := by
  refine ab_iloadn dX12_readVoterLine_242 rfl ?_
  refine ab_bipush (v := 9) dX12_readVoterLine_243 (by decide) ?_
  refine ab_icmp_ge (tgt := 269) dX12_readVoterLine_245 (by decide) (fun c1 => ?_) (fun c1 => ?_)
  · refine ab_aloadn dX12_readVoterLine_269 rfl ?_
    refine ab_getf (v := .ref 210) dX12_readVoterLine_270 fl_X12_23 kd_205 ff_205_14 ?_
    refine ab_iconst (v := 1) dX12_readVoterLine_273 (by decide) ?_
    refine ab_dup2 dX12_readVoterLine_274 rfl rfl ?_
    refine ab_iaload (v := (i 210 1)) dX12_readVoterLine_275 kd_210 (ab_vp (by decide)) rfl ?_
    refine ab_iconst (v := 1) dX12_readVoterLine_276 (by decide) ?_
    refine ab_iadd dX12_readVoterLine_277 ?_
    refine ab_iastore dX12_readVoterLine_278 kd_210 (ab_vp (by decide)) ?_
    obtain ⟨i2, e3⟩ : ∃ z, z = ab_u i 210 1 ((i 210 1) + 1) := ⟨_, rfl⟩
    show ab_Fr MX12_readVoterLine (d + 1) Q 279 [some (.ref 205), some (.int a1), some (.int a2), none, none] [] (0, 0) (ab_u i 210 1 ((i 210 1) + 1), l, dd, x) (ab_E0 sc)
    rw [show ab_u i 210 1 ((i 210 1) + 1) = i2 from e3.symm]
    refine ab_iconst (v := 1) dX12_readVoterLine_279 (by decide) ?_
    exact ab_zret dX12_readVoterLine_280 rfl (by decide) ⟨Nat.zero_le _, Nat.zero_le _⟩ ((h.1 c1) i2 e3)
  · refine ab_aloadn dX12_readVoterLine_248 rfl ?_
    refine ab_getf (v := .ref 214) dX12_readVoterLine_249 fl_X12_35 kd_205 ff_205_18 ?_
    refine ab_bipush (v := 72) dX12_readVoterLine_252 (by decide) ?_
    refine ab_bipush (v := 9) dX12_readVoterLine_254 (by decide) ?_
    refine ab_iloadn dX12_readVoterLine_256 rfl ?_
    refine ab_imul dX12_readVoterLine_257 ?_
    refine ab_iadd dX12_readVoterLine_258 ?_
    refine ab_iloadn dX12_readVoterLine_259 rfl ?_
    refine ab_iadd dX12_readVoterLine_260 ?_
    refine ab_iconst (v := (-1)) dX12_readVoterLine_261 (by decide) ?_
    refine ab_iastore dX12_readVoterLine_262 kd_214 (h.2 c1).1 ?_
    obtain ⟨i4, e5⟩ : ∃ z, z = ab_u i 214 ((72 + (9 * a1)) + a2).toNatClampNeg (-1) := ⟨_, rfl⟩
    rw [show ab_u i 214 ((72 + (9 * a1)) + a2).toNatClampNeg (-1) = i4 from e5.symm]
    refine ab_iinc (v := (a2 + 1)) dX12_readVoterLine_263 rfl (by rfl) (Nat.le_of_ble_eq_true rfl) (L2 := [some (.ref 205), some (.int a1), some (.int (a2 + 1)), none, none]) rfl ?_
    refine ab_goto (tgt := 242) dX12_readVoterLine_266 (by decide) ?_
    exact ((h.2 c1).2 i4 e5)
theorem tMX12_readKey_0 {d : Nat} {Q : ab_Qt} {sc : Nat × (Nat → Int32)} {i : Nat → Nat → Int32} {l : Nat → Nat → Int64} {dd : Nat → Nat → Value} {x : Nat} {a1 : Int64} 
    (h : (∃ (r1 : Int32) (P2 : ab_S → Prop), ab_Sp MX12_isKey d [.ref 205, .long a1] (i, l, dd, x) (ab_E0 sc) (some (.int r1)) P2 ∧ ∀ i5 l6 dd7 x8, P2 (i5, l6, dd7, x8) → ((¬ r1 = 0 → (∃ (P12 : ab_S → Prop), ab_Sp MX12_go d [.ref 205] (i5, l6, dd7, x8) (ab_E0 sc) (none) P12 ∧ ∀ i15 l16 dd17 x18, P12 (i15, l16, dd17, x18) → Q (some (some (.int 1))) (i15, l16, dd17, x18) (ab_E0 sc))) ∧ (r1 = 0 → (∃ (r20 : Int32) (P21 : ab_S → Prop), ab_Sp MX12_bad d [.ref 205, .int 1] (i5, l6, dd7, x8) (ab_E0 sc) (some (.int r20)) P21 ∧ ∀ i24 l25 dd26 x27, P21 (i24, l25, dd26, x27) → (r20 = 0 ∨ r20 = 1) ∧ Q (some (some (.int r20))) (i24, l25, dd26, x27) (ab_E0 sc)))))) :
    ab_Fr MX12_readKey (d + 1) Q 0 [some (.ref 205), some (.long a1), none] [] (0, 0) (i, l, dd, x) (ab_E0 sc) := by
  refine ab_aloadn dX12_readKey_0 rfl ?_
  refine ab_lloadn dX12_readKey_1 rfl ?_
  obtain ⟨r1, P2, hs3, hk4⟩ := h
  refine ab_callV (vs := [.long a1]) (st := []) dX12_readKey_2 okMX12_isKey wd_1444 kd_205 rfl rfl rfl (Nat.le_of_ble_eq_true rfl) ⟨Nat.le_of_ble_eq_true rfl, Nat.le_of_ble_eq_true rfl⟩ hs3 ?_
  rintro v9 ⟨i5, l6, dd7, x8⟩ E9 - ⟨rfl, rfl, hp9⟩
  show ab_Fr MX12_readKey (d + 1) Q 5 [some (.ref 205), some (.long a1), none] [.int r1] (0, 0) (i5, l6, dd7, x8) (ab_E0 sc)
  refine ab_if_ne (tgt := 14) dX12_readKey_5 (by decide) (fun c10 => ?_) (fun c10 => ?_)
  · refine ab_aloadn dX12_readKey_14 rfl ?_
    obtain ⟨P12, hs13, hk14⟩ := ((hk4 i5 l6 dd7 x8 hp9).1 c10)
    refine ab_callV (vs := []) (st := []) dX12_readKey_15 okMX12_go wd_1421 kd_205 rfl rfl rfl (Nat.le_of_ble_eq_true rfl) ⟨Nat.le_of_ble_eq_true rfl, Nat.le_of_ble_eq_true rfl⟩ hs13 ?_
    rintro v9 ⟨i15, l16, dd17, x18⟩ E9 - ⟨rfl, rfl, hp19⟩
    show ab_Fr MX12_readKey (d + 1) Q 18 [some (.ref 205), some (.long a1), none] [] (0, 0) (i15, l16, dd17, x18) (ab_E0 sc)
    refine ab_iconst (v := 1) dX12_readKey_18 (by decide) ?_
    exact ab_zret dX12_readKey_19 rfl (by decide) ⟨Nat.zero_le _, Nat.zero_le _⟩ (hk14 i15 l16 dd17 x18 hp19)
  · refine ab_aloadn dX12_readKey_8 rfl ?_
    refine ab_iconst (v := 1) dX12_readKey_9 (by decide) ?_
    obtain ⟨r20, P21, hs22, hk23⟩ := ((hk4 i5 l6 dd7 x8 hp9).2 c10)
    refine ab_callV (vs := [.int 1]) (st := []) dX12_readKey_10 okMX12_bad wd_1450 kd_205 rfl rfl rfl (Nat.le_of_ble_eq_true rfl) ⟨Nat.le_of_ble_eq_true rfl, Nat.le_of_ble_eq_true rfl⟩ hs22 ?_
    rintro v9 ⟨i24, l25, dd26, x27⟩ E9 - ⟨rfl, rfl, hp28⟩
    show ab_Fr MX12_readKey (d + 1) Q 13 [some (.ref 205), some (.long a1), none] [.int r20] (0, 0) (i24, l25, dd26, x27) (ab_E0 sc)
    exact ab_zret dX12_readKey_13 rfl (hk23 i24 l25 dd26 x27 hp28).1 ⟨Nat.zero_le _, Nat.zero_le _⟩ (hk23 i24 l25 dd26 x27 hp28).2
theorem tMX12_readLoss_0 {d : Nat} {Q : ab_Qt} {sc : Nat × (Nat → Int32)} {i : Nat → Nat → Int32} {l : Nat → Nat → Int64} {dd : Nat → Nat → Value} {x : Nat}  
    (h : (∃ (P2 : ab_S → Prop), ab_Sp MX12_go d [.ref 205] (i, l, dd, x) (ab_E0 sc) (none) P2 ∧ ∀ i5 l6 dd7 x8, P2 (i5, l6, dd7, x8) → ∃ (r10 : Int32) (P11 : ab_S → Prop), ab_Sp MX12_isName d [.ref 205] (i5, l6, dd7, x8) (ab_E0 sc) (some (.int r10)) P11 ∧ ∀ i14 l15 dd16 x17, P11 (i14, l15, dd16, x17) → ((¬ r10 = 0 → (∃ (r20 : Int32) (P21 : ab_S → Prop), ab_Sp MX12_findVoter d [.ref 205] (i14, l15, dd16, x17) (ab_E0 sc) (some (.int r20)) P21 ∧ ∀ i24 l25 dd26 x27, P21 (i24, l25, dd26, x27) → ((r20 = (-1) → ab_Fr MX12_readLoss (d + 1) Q 37 [some (.ref 205), some (.int 7), none, none] [] (0, 0) (i24, l25, dd26, x27) (ab_E0 sc)) ∧ (¬ r20 = (-1) → (∃ (P31 : ab_S → Prop), ab_Sp MX12_go d [.ref 205] (i24, l25, dd26, x27) (ab_E0 sc) (none) P31 ∧ ∀ i34 l35 dd36 x37, P31 (i34, l35, dd36, x37) → ab_Fr MX12_readLoss (d + 1) Q 37 [some (.ref 205), some (.int r20), none, none] [] (0, 0) (i34, l35, dd36, x37) (ab_E0 sc)))))) ∧ (r10 = 0 → (∃ (r39 : Int32) (P40 : ab_S → Prop), ab_Sp MX12_bad d [.ref 205, .int 1] (i14, l15, dd16, x17) (ab_E0 sc) (some (.int r39)) P40 ∧ ∀ i43 l44 dd45 x46, P40 (i43, l44, dd45, x46) → (r39 = 0 ∨ r39 = 1) ∧ Q (some (some (.int r39))) (i43, l44, dd45, x46) (ab_E0 sc)))))) :
    ab_Fr MX12_readLoss (d + 1) Q 0 [some (.ref 205), none, none, none] [] (0, 0) (i, l, dd, x) (ab_E0 sc) := by
  refine ab_aloadn dX12_readLoss_0 rfl ?_
  obtain ⟨P2, hs3, hk4⟩ := h
  refine ab_callV (vs := []) (st := []) dX12_readLoss_1 okMX12_go wd_1421 kd_205 rfl rfl rfl (Nat.le_of_ble_eq_true rfl) ⟨Nat.le_of_ble_eq_true rfl, Nat.le_of_ble_eq_true rfl⟩ hs3 ?_
  rintro v9 ⟨i5, l6, dd7, x8⟩ E9 - ⟨rfl, rfl, hp9⟩
  show ab_Fr MX12_readLoss (d + 1) Q 4 [some (.ref 205), none, none, none] [] (0, 0) (i5, l6, dd7, x8) (ab_E0 sc)
  refine ab_aloadn dX12_readLoss_4 rfl ?_
  obtain ⟨r10, P11, hs12, hk13⟩ := (hk4 i5 l6 dd7 x8 hp9)
  refine ab_callV (vs := []) (st := []) dX12_readLoss_5 okMX12_isName wd_1462 kd_205 rfl rfl rfl (Nat.le_of_ble_eq_true rfl) ⟨Nat.le_of_ble_eq_true rfl, Nat.le_of_ble_eq_true rfl⟩ hs12 ?_
  rintro v9 ⟨i14, l15, dd16, x17⟩ E9 - ⟨rfl, rfl, hp18⟩
  show ab_Fr MX12_readLoss (d + 1) Q 8 [some (.ref 205), none, none, none] [.int r10] (0, 0) (i14, l15, dd16, x17) (ab_E0 sc)
  refine ab_if_ne (tgt := 17) dX12_readLoss_8 (by decide) (fun c19 => ?_) (fun c19 => ?_)
  · refine ab_aloadn dX12_readLoss_17 rfl ?_
    obtain ⟨r20, P21, hs22, hk23⟩ := ((hk13 i14 l15 dd16 x17 hp18).1 c19)
    refine ab_callV (vs := []) (st := []) dX12_readLoss_18 okMX12_findVoter wd_1480 kd_205 rfl rfl rfl (Nat.le_of_ble_eq_true rfl) ⟨Nat.le_of_ble_eq_true rfl, Nat.le_of_ble_eq_true rfl⟩ hs22 ?_
    rintro v9 ⟨i24, l25, dd26, x27⟩ E9 - ⟨rfl, rfl, hp28⟩
    show ab_Fr MX12_readLoss (d + 1) Q 21 [some (.ref 205), none, none, none] [.int r20] (0, 0) (i24, l25, dd26, x27) (ab_E0 sc)
    refine ab_istoren dX12_readLoss_21 (Nat.le_of_ble_eq_true rfl) (L2 := [some (.ref 205), some (.int r20), none, none]) rfl ?_
    refine ab_iloadn dX12_readLoss_22 rfl ?_
    refine ab_iconst (v := (-1)) dX12_readLoss_23 (by decide) ?_
    refine ab_icmp_eq (tgt := 34) dX12_readLoss_24 (by decide) (fun c29 => ?_) (fun c29 => ?_)
    · refine ab_bipush (v := 7) dX12_readLoss_34 (by decide) ?_
      refine ab_istoren dX12_readLoss_36 (Nat.le_of_ble_eq_true rfl) (L2 := [some (.ref 205), some (.int 7), none, none]) rfl ?_
      exact ((hk23 i24 l25 dd26 x27 hp28).1 c29)
    · refine ab_aloadn dX12_readLoss_27 rfl ?_
      obtain ⟨P31, hs32, hk33⟩ := ((hk23 i24 l25 dd26 x27 hp28).2 c29)
      refine ab_callV (vs := []) (st := []) dX12_readLoss_28 okMX12_go wd_1421 kd_205 rfl rfl rfl (Nat.le_of_ble_eq_true rfl) ⟨Nat.le_of_ble_eq_true rfl, Nat.le_of_ble_eq_true rfl⟩ hs32 ?_
      rintro v9 ⟨i34, l35, dd36, x37⟩ E9 - ⟨rfl, rfl, hp38⟩
      show ab_Fr MX12_readLoss (d + 1) Q 31 [some (.ref 205), some (.int r20), none, none] [] (0, 0) (i34, l35, dd36, x37) (ab_E0 sc)
      refine ab_goto (tgt := 37) dX12_readLoss_31 (by decide) ?_
      exact (hk33 i34 l35 dd36 x37 hp38)
  · refine ab_aloadn dX12_readLoss_11 rfl ?_
    refine ab_iconst (v := 1) dX12_readLoss_12 (by decide) ?_
    obtain ⟨r39, P40, hs41, hk42⟩ := ((hk13 i14 l15 dd16 x17 hp18).2 c19)
    refine ab_callV (vs := [.int 1]) (st := []) dX12_readLoss_13 okMX12_bad wd_1450 kd_205 rfl rfl rfl (Nat.le_of_ble_eq_true rfl) ⟨Nat.le_of_ble_eq_true rfl, Nat.le_of_ble_eq_true rfl⟩ hs41 ?_
    rintro v9 ⟨i43, l44, dd45, x46⟩ E9 - ⟨rfl, rfl, hp47⟩
    show ab_Fr MX12_readLoss (d + 1) Q 16 [some (.ref 205), none, none, none] [.int r39] (0, 0) (i43, l44, dd45, x46) (ab_E0 sc)
    exact ab_zret dX12_readLoss_16 rfl (hk42 i43 l44 dd45 x46 hp47).1 ⟨Nat.zero_le _, Nat.zero_le _⟩ (hk42 i43 l44 dd45 x46 hp47).2
theorem tMX12_readLoss_37 {d : Nat} {Q : ab_Qt} {sc : Nat × (Nat → Int32)} {i : Nat → Nat → Int32} {l : Nat → Nat → Int64} {dd : Nat → Nat → Value} {x : Nat} {a1 : Int32} 
    (h : (∃ (r1 : Int32) (P2 : ab_S → Prop), ab_Sp MX12_readTruth d [.ref 205] (i, l, dd, x) (ab_E0 sc) (some (.int r1)) P2 ∧ ∀ i5 l6 dd7 x8, P2 (i5, l6, dd7, x8) → ((¬ r1 = 0 → (∃ (r11 : Int32) (P12 : ab_S → Prop), ab_Sp MX12_readTruth d [.ref 205] (i5, l6, dd7, x8) (ab_E0 sc) (some (.int r11)) P12 ∧ ∀ i15 l16 dd17 x18, P12 (i15, l16, dd17, x18) → ((¬ r11 = 0 → (∃ (r21 : Int32) (P22 : ab_S → Prop), ab_Sp MX12_readNumber d [.ref 205, .int 0, .int 50] (i15, l16, dd17, x18) (ab_E0 sc) (some (.int r21)) P22 ∧ ∀ i25 l26 dd27 x28, P22 (i25, l26, dd27, x28) → ((¬ r21 = 0 → (vp_in (((72 + (9 * a1)) + (3 * (i5 205 28))) + (i15 205 28)) 144 ∧ ∀ i31, i31 = ab_u i25 214 (((72 + (9 * a1)) + (3 * (i5 205 28))) + (i15 205 28)).toNatClampNeg (i25 205 28) → Q (some (some (.int 1))) (i31, l26, dd27, x28) (ab_E0 sc))) ∧ (r21 = 0 → Q (some (some (.int 0))) (i25, l26, dd27, x28) (ab_E0 sc))))) ∧ (r11 = 0 → Q (some (some (.int 0))) (i15, l16, dd17, x18) (ab_E0 sc))))) ∧ (r1 = 0 → Q (some (some (.int 0))) (i5, l6, dd7, x8) (ab_E0 sc))))) :
    ab_Fr MX12_readLoss (d + 1) Q 37 [some (.ref 205), some (.int a1), none, none] [] (0, 0) (i, l, dd, x) (ab_E0 sc) := by
  refine ab_aloadn dX12_readLoss_37 rfl ?_
  obtain ⟨r1, P2, hs3, hk4⟩ := h
  refine ab_callV (vs := []) (st := []) dX12_readLoss_38 okMX12_readTruth wd_1498 kd_205 rfl rfl rfl (Nat.le_of_ble_eq_true rfl) ⟨Nat.le_of_ble_eq_true rfl, Nat.le_of_ble_eq_true rfl⟩ hs3 ?_
  rintro v9 ⟨i5, l6, dd7, x8⟩ E9 - ⟨rfl, rfl, hp9⟩
  show ab_Fr MX12_readLoss (d + 1) Q 41 [some (.ref 205), some (.int a1), none, none] [.int r1] (0, 0) (i5, l6, dd7, x8) (ab_E0 sc)
  refine ab_if_ne (tgt := 46) dX12_readLoss_41 (by decide) (fun c10 => ?_) (fun c10 => ?_)
  · refine ab_aloadn dX12_readLoss_46 rfl ?_
    refine ab_getf (v := .int (i5 205 28)) dX12_readLoss_47 fl_X12_238 kd_205 rfl ?_
    refine ab_istoren dX12_readLoss_50 (Nat.le_of_ble_eq_true rfl) (L2 := [some (.ref 205), some (.int a1), some (.int (i5 205 28)), none]) rfl ?_
    refine ab_aloadn dX12_readLoss_51 rfl ?_
    obtain ⟨r11, P12, hs13, hk14⟩ := ((hk4 i5 l6 dd7 x8 hp9).1 c10)
    refine ab_callV (vs := []) (st := []) dX12_readLoss_52 okMX12_readTruth wd_1498 kd_205 rfl rfl rfl (Nat.le_of_ble_eq_true rfl) ⟨Nat.le_of_ble_eq_true rfl, Nat.le_of_ble_eq_true rfl⟩ hs13 ?_
    rintro v9 ⟨i15, l16, dd17, x18⟩ E9 - ⟨rfl, rfl, hp19⟩
    show ab_Fr MX12_readLoss (d + 1) Q 55 [some (.ref 205), some (.int a1), some (.int (i5 205 28)), none] [.int r11] (0, 0) (i15, l16, dd17, x18) (ab_E0 sc)
    refine ab_if_ne (tgt := 60) dX12_readLoss_55 (by decide) (fun c20 => ?_) (fun c20 => ?_)
    · refine ab_aloadn dX12_readLoss_60 rfl ?_
      refine ab_getf (v := .int (i15 205 28)) dX12_readLoss_61 fl_X12_238 kd_205 rfl ?_
      refine ab_istoren dX12_readLoss_64 (Nat.le_of_ble_eq_true rfl) (L2 := [some (.ref 205), some (.int a1), some (.int (i5 205 28)), some (.int (i15 205 28))]) rfl ?_
      refine ab_aloadn dX12_readLoss_65 rfl ?_
      refine ab_iconst (v := 0) dX12_readLoss_66 (by decide) ?_
      refine ab_bipush (v := 50) dX12_readLoss_67 (by decide) ?_
      obtain ⟨r21, P22, hs23, hk24⟩ := ((hk14 i15 l16 dd17 x18 hp19).1 c20)
      refine ab_callV (vs := [.int 0, .int 50]) (st := []) dX12_readLoss_69 okMX12_readNumber wd_1483 kd_205 rfl rfl rfl (Nat.le_of_ble_eq_true rfl) ⟨Nat.le_of_ble_eq_true rfl, Nat.le_of_ble_eq_true rfl⟩ hs23 ?_
      rintro v9 ⟨i25, l26, dd27, x28⟩ E9 - ⟨rfl, rfl, hp29⟩
      show ab_Fr MX12_readLoss (d + 1) Q 72 [some (.ref 205), some (.int a1), some (.int (i5 205 28)), some (.int (i15 205 28))] [.int r21] (0, 0) (i25, l26, dd27, x28) (ab_E0 sc)
      refine ab_if_ne (tgt := 77) dX12_readLoss_72 (by decide) (fun c30 => ?_) (fun c30 => ?_)
      · refine ab_aloadn dX12_readLoss_77 rfl ?_
        refine ab_getf (v := .ref 214) dX12_readLoss_78 fl_X12_35 kd_205 ff_205_18 ?_
        refine ab_bipush (v := 72) dX12_readLoss_81 (by decide) ?_
        refine ab_bipush (v := 9) dX12_readLoss_83 (by decide) ?_
        refine ab_iloadn dX12_readLoss_85 rfl ?_
        refine ab_imul dX12_readLoss_86 ?_
        refine ab_iadd dX12_readLoss_87 ?_
        refine ab_iconst (v := 3) dX12_readLoss_88 (by decide) ?_
        refine ab_iloadn dX12_readLoss_89 rfl ?_
        refine ab_imul dX12_readLoss_90 ?_
        refine ab_iadd dX12_readLoss_91 ?_
        refine ab_iloadn dX12_readLoss_92 rfl ?_
        refine ab_iadd dX12_readLoss_93 ?_
        refine ab_aloadn dX12_readLoss_94 rfl ?_
        refine ab_getf (v := .int (i25 205 28)) dX12_readLoss_95 fl_X12_238 kd_205 rfl ?_
        refine ab_iastore dX12_readLoss_98 kd_214 ((hk24 i25 l26 dd27 x28 hp29).1 c30).1 ?_
        obtain ⟨i31, e32⟩ : ∃ z, z = ab_u i25 214 (((72 + (9 * a1)) + (3 * (i5 205 28))) + (i15 205 28)).toNatClampNeg (i25 205 28) := ⟨_, rfl⟩
        rw [show ab_u i25 214 (((72 + (9 * a1)) + (3 * (i5 205 28))) + (i15 205 28)).toNatClampNeg (i25 205 28) = i31 from e32.symm]
        refine ab_iconst (v := 1) dX12_readLoss_99 (by decide) ?_
        exact ab_zret dX12_readLoss_100 rfl (by decide) ⟨Nat.zero_le _, Nat.zero_le _⟩ (((hk24 i25 l26 dd27 x28 hp29).1 c30).2 i31 e32)
      · refine ab_iconst (v := 0) dX12_readLoss_75 (by decide) ?_
        exact ab_zret dX12_readLoss_76 rfl (by decide) ⟨Nat.zero_le _, Nat.zero_le _⟩ ((hk24 i25 l26 dd27 x28 hp29).2 c30)
    · refine ab_iconst (v := 0) dX12_readLoss_58 (by decide) ?_
      exact ab_zret dX12_readLoss_59 rfl (by decide) ⟨Nat.zero_le _, Nat.zero_le _⟩ ((hk14 i15 l16 dd17 x18 hp19).2 c20)
  · refine ab_iconst (v := 0) dX12_readLoss_44 (by decide) ?_
    exact ab_zret dX12_readLoss_45 rfl (by decide) ⟨Nat.zero_le _, Nat.zero_le _⟩ ((hk4 i5 l6 dd7 x8 hp9).2 c10)
theorem tMX12_readTruth_0 {d : Nat} {Q : ab_Qt} {sc : Nat × (Nat → Int32)} {i : Nat → Nat → Int32} {l : Nat → Nat → Int64} {dd : Nat → Nat → Value} {x : Nat}  
    (h : (∃ (r1 : Int32) (P2 : ab_S → Prop), ab_Sp MX12_isName d [.ref 205] (i, l, dd, x) (ab_E0 sc) (some (.int r1)) P2 ∧ ∀ i5 l6 dd7 x8, P2 (i5, l6, dd7, x8) → ((¬ r1 = 0 → (∃ (r11 : Int32) (P12 : ab_S → Prop), ab_Sp MX12_findTruth d [.ref 205] (i5, l6, dd7, x8) (ab_E0 sc) (some (.int r11)) P12 ∧ ∀ i15 l16 dd17 x18, P12 (i15, l16, dd17, x18) → ∀ i20, i20 = ab_u i15 205 28 r11 → ((¬ (i20 205 28) = (-1) → (∃ (P24 : ab_S → Prop), ab_Sp MX12_go d [.ref 205] (i20, l16, dd17, x18) (ab_E0 sc) (none) P24 ∧ ∀ i27 l28 dd29 x30, P24 (i27, l28, dd29, x30) → Q (some (some (.int 1))) (i27, l28, dd29, x30) (ab_E0 sc))) ∧ ((i20 205 28) = (-1) → (∃ (r32 : Int32) (P33 : ab_S → Prop), ab_Sp MX12_bad d [.ref 205, .int 3] (i20, l16, dd17, x18) (ab_E0 sc) (some (.int r32)) P33 ∧ ∀ i36 l37 dd38 x39, P33 (i36, l37, dd38, x39) → (r32 = 0 ∨ r32 = 1) ∧ Q (some (some (.int r32))) (i36, l37, dd38, x39) (ab_E0 sc)))))) ∧ (r1 = 0 → (∃ (r41 : Int32) (P42 : ab_S → Prop), ab_Sp MX12_bad d [.ref 205, .int 1] (i5, l6, dd7, x8) (ab_E0 sc) (some (.int r41)) P42 ∧ ∀ i45 l46 dd47 x48, P42 (i45, l46, dd47, x48) → (r41 = 0 ∨ r41 = 1) ∧ Q (some (some (.int r41))) (i45, l46, dd47, x48) (ab_E0 sc)))))) :
    ab_Fr MX12_readTruth (d + 1) Q 0 [some (.ref 205)] [] (0, 0) (i, l, dd, x) (ab_E0 sc) := by
  refine ab_aloadn dX12_readTruth_0 rfl ?_
  obtain ⟨r1, P2, hs3, hk4⟩ := h
  refine ab_callV (vs := []) (st := []) dX12_readTruth_1 okMX12_isName wd_1462 kd_205 rfl rfl rfl (Nat.le_of_ble_eq_true rfl) ⟨Nat.le_of_ble_eq_true rfl, Nat.le_of_ble_eq_true rfl⟩ hs3 ?_
  rintro v9 ⟨i5, l6, dd7, x8⟩ E9 - ⟨rfl, rfl, hp9⟩
  show ab_Fr MX12_readTruth (d + 1) Q 4 [some (.ref 205)] [.int r1] (0, 0) (i5, l6, dd7, x8) (ab_E0 sc)
  refine ab_if_ne (tgt := 13) dX12_readTruth_4 (by decide) (fun c10 => ?_) (fun c10 => ?_)
  · refine ab_aloadn dX12_readTruth_13 rfl ?_
    refine ab_aloadn dX12_readTruth_14 rfl ?_
    obtain ⟨r11, P12, hs13, hk14⟩ := ((hk4 i5 l6 dd7 x8 hp9).1 c10)
    refine ab_callV (vs := []) (st := [.ref 205]) dX12_readTruth_15 okMX12_findTruth wd_1477 kd_205 rfl rfl rfl (Nat.le_of_ble_eq_true rfl) ⟨Nat.le_of_ble_eq_true rfl, Nat.le_of_ble_eq_true rfl⟩ hs13 ?_
    rintro v9 ⟨i15, l16, dd17, x18⟩ E9 - ⟨rfl, rfl, hp19⟩
    show ab_Fr MX12_readTruth (d + 1) Q 18 [some (.ref 205)] [.int r11, .ref 205] (0, 0) (i15, l16, dd17, x18) (ab_E0 sc)
    refine ab_putI dX12_readTruth_18 fl_X12_238 kd_205 rfl ?_
    obtain ⟨i20, e21⟩ : ∃ z, z = ab_u i15 205 28 r11 := ⟨_, rfl⟩
    show ab_Fr MX12_readTruth (d + 1) Q 21 [some (.ref 205)] [] (0, 0) (ab_u i15 205 28 r11, l16, dd17, x18) (ab_E0 sc)
    rw [show ab_u i15 205 28 r11 = i20 from e21.symm]
    refine ab_aloadn dX12_readTruth_21 rfl ?_
    refine ab_getf (v := .int (i20 205 28)) dX12_readTruth_22 fl_X12_238 kd_205 rfl ?_
    refine ab_iconst (v := (-1)) dX12_readTruth_25 (by decide) ?_
    refine ab_icmp_ne (tgt := 35) dX12_readTruth_26 (by decide) (fun c22 => ?_) (fun c22 => ?_)
    · refine ab_aloadn dX12_readTruth_35 rfl ?_
      obtain ⟨P24, hs25, hk26⟩ := (((hk14 i15 l16 dd17 x18 hp19) i20 e21).1 c22)
      refine ab_callV (vs := []) (st := []) dX12_readTruth_36 okMX12_go wd_1421 kd_205 rfl rfl rfl (Nat.le_of_ble_eq_true rfl) ⟨Nat.le_of_ble_eq_true rfl, Nat.le_of_ble_eq_true rfl⟩ hs25 ?_
      rintro v9 ⟨i27, l28, dd29, x30⟩ E9 - ⟨rfl, rfl, hp31⟩
      show ab_Fr MX12_readTruth (d + 1) Q 39 [some (.ref 205)] [] (0, 0) (i27, l28, dd29, x30) (ab_E0 sc)
      refine ab_iconst (v := 1) dX12_readTruth_39 (by decide) ?_
      exact ab_zret dX12_readTruth_40 rfl (by decide) ⟨Nat.zero_le _, Nat.zero_le _⟩ (hk26 i27 l28 dd29 x30 hp31)
    · refine ab_aloadn dX12_readTruth_29 rfl ?_
      refine ab_iconst (v := 3) dX12_readTruth_30 (by decide) ?_
      obtain ⟨r32, P33, hs34, hk35⟩ := (((hk14 i15 l16 dd17 x18 hp19) i20 e21).2 c22)
      refine ab_callV (vs := [.int 3]) (st := []) dX12_readTruth_31 okMX12_bad wd_1450 kd_205 rfl rfl rfl (Nat.le_of_ble_eq_true rfl) ⟨Nat.le_of_ble_eq_true rfl, Nat.le_of_ble_eq_true rfl⟩ hs34 ?_
      rintro v9 ⟨i36, l37, dd38, x39⟩ E9 - ⟨rfl, rfl, hp40⟩
      show ab_Fr MX12_readTruth (d + 1) Q 34 [some (.ref 205)] [.int r32] (0, 0) (i36, l37, dd38, x39) (ab_E0 sc)
      exact ab_zret dX12_readTruth_34 rfl (hk35 i36 l37 dd38 x39 hp40).1 ⟨Nat.zero_le _, Nat.zero_le _⟩ (hk35 i36 l37 dd38 x39 hp40).2
  · refine ab_aloadn dX12_readTruth_7 rfl ?_
    refine ab_iconst (v := 1) dX12_readTruth_8 (by decide) ?_
    obtain ⟨r41, P42, hs43, hk44⟩ := ((hk4 i5 l6 dd7 x8 hp9).2 c10)
    refine ab_callV (vs := [.int 1]) (st := []) dX12_readTruth_9 okMX12_bad wd_1450 kd_205 rfl rfl rfl (Nat.le_of_ble_eq_true rfl) ⟨Nat.le_of_ble_eq_true rfl, Nat.le_of_ble_eq_true rfl⟩ hs43 ?_
    rintro v9 ⟨i45, l46, dd47, x48⟩ E9 - ⟨rfl, rfl, hp49⟩
    show ab_Fr MX12_readTruth (d + 1) Q 12 [some (.ref 205)] [.int r41] (0, 0) (i45, l46, dd47, x48) (ab_E0 sc)
    exact ab_zret dX12_readTruth_12 rfl (hk44 i45 l46 dd47 x48 hp49).1 ⟨Nat.zero_le _, Nat.zero_le _⟩ (hk44 i45 l46 dd47 x48 hp49).2
theorem tMX12_readWay_0 {d : Nat} {Q : ab_Qt} {sc : Nat × (Nat → Int32)} {i : Nat → Nat → Int32} {l : Nat → Nat → Int64} {dd : Nat → Nat → Value} {x : Nat}  
    (h : (∃ (P2 : ab_S → Prop), ab_Sp MX12_go d [.ref 205] (i, l, dd, x) (ab_E0 sc) (none) P2 ∧ ∀ i5 l6 dd7 x8, P2 (i5, l6, dd7, x8) → ∃ (r10 : Int32) (P11 : ab_S → Prop), ab_Sp MX12_readVoter d [.ref 205] (i5, l6, dd7, x8) (ab_E0 sc) (some (.int r10)) P11 ∧ ∀ i14 l15 dd16 x17, P11 (i14, l15, dd16, x17) → ((¬ r10 = 0 → (∃ (r20 : Int32) (P21 : ab_S → Prop), ab_Sp MX12_wayAtHand d [.ref 205] (i14, l15, dd16, x17) (ab_E0 sc) (some (.int r20)) P21 ∧ ∀ i24 l25 dd26 x27, P21 (i24, l25, dd26, x27) → ((¬ r20 = (-1) → (∃ (P31 : ab_S → Prop), ab_Sp MX12_go d [.ref 205] (i24, l25, dd26, x27) (ab_E0 sc) (none) P31 ∧ ∀ i34 l35 dd36 x37, P31 (i34, l35, dd36, x37) → ((¬ r20 = 2 → ab_Fr MX12_readWay (d + 1) Q 58 [some (.ref 205), some (.int (7 + (i14 205 28))), some (.int r20), none] [] (0, 0) (i34, l35, dd36, x37) (ab_E0 sc)) ∧ (r20 = 2 → (∃ (r40 : Int32) (P41 : ab_S → Prop), ab_Sp MX12_readNumber d [.ref 205, .int 1, .int 20] (i34, l35, dd36, x37) (ab_E0 sc) (some (.int r40)) P41 ∧ ∀ i44 l45 dd46 x47, P41 (i44, l45, dd46, x47) → ((¬ r40 = 0 → ab_Fr MX12_readWay (d + 1) Q 58 [some (.ref 205), some (.int (7 + (i14 205 28))), some (.int r20), none] [] (0, 0) (i44, l45, dd46, x47) (ab_E0 sc)) ∧ (r40 = 0 → Q (some (some (.int 0))) (i44, l45, dd46, x47) (ab_E0 sc)))))))) ∧ (r20 = (-1) → (∃ (r50 : Int32) (P51 : ab_S → Prop), ab_Sp MX12_bad d [.ref 205, .int 1] (i24, l25, dd26, x27) (ab_E0 sc) (some (.int r50)) P51 ∧ ∀ i54 l55 dd56 x57, P51 (i54, l55, dd56, x57) → (r50 = 0 ∨ r50 = 1) ∧ Q (some (some (.int r50))) (i54, l55, dd56, x57) (ab_E0 sc)))))) ∧ (r10 = 0 → Q (some (some (.int 0))) (i14, l15, dd16, x17) (ab_E0 sc))))) :
    ab_Fr MX12_readWay (d + 1) Q 0 [some (.ref 205), none, none, none] [] (0, 0) (i, l, dd, x) (ab_E0 sc) := by
  refine ab_aloadn dX12_readWay_0 rfl ?_
  obtain ⟨P2, hs3, hk4⟩ := h
  refine ab_callV (vs := []) (st := []) dX12_readWay_1 okMX12_go wd_1421 kd_205 rfl rfl rfl (Nat.le_of_ble_eq_true rfl) ⟨Nat.le_of_ble_eq_true rfl, Nat.le_of_ble_eq_true rfl⟩ hs3 ?_
  rintro v9 ⟨i5, l6, dd7, x8⟩ E9 - ⟨rfl, rfl, hp9⟩
  show ab_Fr MX12_readWay (d + 1) Q 4 [some (.ref 205), none, none, none] [] (0, 0) (i5, l6, dd7, x8) (ab_E0 sc)
  refine ab_aloadn dX12_readWay_4 rfl ?_
  obtain ⟨r10, P11, hs12, hk13⟩ := (hk4 i5 l6 dd7 x8 hp9)
  refine ab_callV (vs := []) (st := []) dX12_readWay_5 okMX12_readVoter wd_1504 kd_205 rfl rfl rfl (Nat.le_of_ble_eq_true rfl) ⟨Nat.le_of_ble_eq_true rfl, Nat.le_of_ble_eq_true rfl⟩ hs12 ?_
  rintro v9 ⟨i14, l15, dd16, x17⟩ E9 - ⟨rfl, rfl, hp18⟩
  show ab_Fr MX12_readWay (d + 1) Q 8 [some (.ref 205), none, none, none] [.int r10] (0, 0) (i14, l15, dd16, x17) (ab_E0 sc)
  refine ab_if_ne (tgt := 13) dX12_readWay_8 (by decide) (fun c19 => ?_) (fun c19 => ?_)
  · refine ab_bipush (v := 7) dX12_readWay_13 (by decide) ?_
    refine ab_aloadn dX12_readWay_15 rfl ?_
    refine ab_getf (v := .int (i14 205 28)) dX12_readWay_16 fl_X12_238 kd_205 rfl ?_
    refine ab_iadd dX12_readWay_19 ?_
    refine ab_istoren dX12_readWay_20 (Nat.le_of_ble_eq_true rfl) (L2 := [some (.ref 205), some (.int (7 + (i14 205 28))), none, none]) rfl ?_
    refine ab_aloadn dX12_readWay_21 rfl ?_
    obtain ⟨r20, P21, hs22, hk23⟩ := ((hk13 i14 l15 dd16 x17 hp18).1 c19)
    refine ab_callV (vs := []) (st := []) dX12_readWay_22 okMX12_wayAtHand wd_1465 kd_205 rfl rfl rfl (Nat.le_of_ble_eq_true rfl) ⟨Nat.le_of_ble_eq_true rfl, Nat.le_of_ble_eq_true rfl⟩ hs22 ?_
    rintro v9 ⟨i24, l25, dd26, x27⟩ E9 - ⟨rfl, rfl, hp28⟩
    show ab_Fr MX12_readWay (d + 1) Q 25 [some (.ref 205), some (.int (7 + (i14 205 28))), none, none] [.int r20] (0, 0) (i24, l25, dd26, x27) (ab_E0 sc)
    refine ab_istoren dX12_readWay_25 (Nat.le_of_ble_eq_true rfl) (L2 := [some (.ref 205), some (.int (7 + (i14 205 28))), some (.int r20), none]) rfl ?_
    refine ab_iloadn dX12_readWay_26 rfl ?_
    refine ab_iconst (v := (-1)) dX12_readWay_27 (by decide) ?_
    refine ab_icmp_ne (tgt := 37) dX12_readWay_28 (by decide) (fun c29 => ?_) (fun c29 => ?_)
    · refine ab_aloadn dX12_readWay_37 rfl ?_
      obtain ⟨P31, hs32, hk33⟩ := ((hk23 i24 l25 dd26 x27 hp28).1 c29)
      refine ab_callV (vs := []) (st := []) dX12_readWay_38 okMX12_go wd_1421 kd_205 rfl rfl rfl (Nat.le_of_ble_eq_true rfl) ⟨Nat.le_of_ble_eq_true rfl, Nat.le_of_ble_eq_true rfl⟩ hs32 ?_
      rintro v9 ⟨i34, l35, dd36, x37⟩ E9 - ⟨rfl, rfl, hp38⟩
      show ab_Fr MX12_readWay (d + 1) Q 41 [some (.ref 205), some (.int (7 + (i14 205 28))), some (.int r20), none] [] (0, 0) (i34, l35, dd36, x37) (ab_E0 sc)
      refine ab_iloadn dX12_readWay_41 rfl ?_
      refine ab_iconst (v := 2) dX12_readWay_42 (by decide) ?_
      refine ab_icmp_ne (tgt := 58) dX12_readWay_43 (by decide) (fun c39 => ?_) (fun c39 => ?_)
      · exact ((hk33 i34 l35 dd36 x37 hp38).1 c39)
      · refine ab_aloadn dX12_readWay_46 rfl ?_
        refine ab_iconst (v := 1) dX12_readWay_47 (by decide) ?_
        refine ab_bipush (v := 20) dX12_readWay_48 (by decide) ?_
        obtain ⟨r40, P41, hs42, hk43⟩ := ((hk33 i34 l35 dd36 x37 hp38).2 c39)
        refine ab_callV (vs := [.int 1, .int 20]) (st := []) dX12_readWay_50 okMX12_readNumber wd_1483 kd_205 rfl rfl rfl (Nat.le_of_ble_eq_true rfl) ⟨Nat.le_of_ble_eq_true rfl, Nat.le_of_ble_eq_true rfl⟩ hs42 ?_
        rintro v9 ⟨i44, l45, dd46, x47⟩ E9 - ⟨rfl, rfl, hp48⟩
        show ab_Fr MX12_readWay (d + 1) Q 53 [some (.ref 205), some (.int (7 + (i14 205 28))), some (.int r20), none] [.int r40] (0, 0) (i44, l45, dd46, x47) (ab_E0 sc)
        refine ab_if_ne (tgt := 58) dX12_readWay_53 (by decide) (fun c49 => ?_) (fun c49 => ?_)
        · exact ((hk43 i44 l45 dd46 x47 hp48).1 c49)
        · refine ab_iconst (v := 0) dX12_readWay_56 (by decide) ?_
          exact ab_zret dX12_readWay_57 rfl (by decide) ⟨Nat.zero_le _, Nat.zero_le _⟩ ((hk43 i44 l45 dd46 x47 hp48).2 c49)
    · refine ab_aloadn dX12_readWay_31 rfl ?_
      refine ab_iconst (v := 1) dX12_readWay_32 (by decide) ?_
      obtain ⟨r50, P51, hs52, hk53⟩ := ((hk23 i24 l25 dd26 x27 hp28).2 c29)
      refine ab_callV (vs := [.int 1]) (st := []) dX12_readWay_33 okMX12_bad wd_1450 kd_205 rfl rfl rfl (Nat.le_of_ble_eq_true rfl) ⟨Nat.le_of_ble_eq_true rfl, Nat.le_of_ble_eq_true rfl⟩ hs52 ?_
      rintro v9 ⟨i54, l55, dd56, x57⟩ E9 - ⟨rfl, rfl, hp58⟩
      show ab_Fr MX12_readWay (d + 1) Q 36 [some (.ref 205), some (.int (7 + (i14 205 28))), some (.int r20), none] [.int r50] (0, 0) (i54, l55, dd56, x57) (ab_E0 sc)
      exact ab_zret dX12_readWay_36 rfl (hk53 i54 l55 dd56 x57 hp58).1 ⟨Nat.zero_le _, Nat.zero_le _⟩ (hk53 i54 l55 dd56 x57 hp58).2
  · refine ab_iconst (v := 0) dX12_readWay_11 (by decide) ?_
    exact ab_zret dX12_readWay_12 rfl (by decide) ⟨Nat.zero_le _, Nat.zero_le _⟩ ((hk13 i14 l15 dd16 x17 hp18).2 c19)
theorem tMX12_readWay_58 {d : Nat} {Q : ab_Qt} {sc : Nat × (Nat → Int32)} {i : Nat → Nat → Int32} {l : Nat → Nat → Int64} {dd : Nat → Nat → Value} {x : Nat} {a1 : Int32} {a2 : Int32} 
    (h : ((¬ a2 = 2 → ab_Fr MX12_readWay (d + 1) Q 73 [some (.ref 205), some (.int a1), some (.int a2), none] [] (0, 0) (i, l, dd, x) (ab_E0 sc)) ∧ (a2 = 2 → (vp_in a1 14 ∧ ∀ i2, i2 = ab_u i 216 a1.toNatClampNeg (i 205 28) → ab_Fr MX12_readWay (d + 1) Q 73 [some (.ref 205), some (.int a1), some (.int a2), none] [] (0, 0) (i2, l, dd, x) (ab_E0 sc))))) :
    ab_Fr MX12_readWay (d + 1) Q 58 [some (.ref 205), some (.int a1), some (.int a2), none] [] (0, 0) (i, l, dd, x) (ab_E0 sc) := by
  refine ab_iloadn dX12_readWay_58 rfl ?_
  refine ab_iconst (v := 2) dX12_readWay_59 (by decide) ?_
  refine ab_icmp_ne (tgt := 73) dX12_readWay_60 (by decide) (fun c1 => ?_) (fun c1 => ?_)
  · exact (h.1 c1)
  · refine ab_aloadn dX12_readWay_63 rfl ?_
    refine ab_getf (v := .ref 216) dX12_readWay_64 fl_X12_41 kd_205 ff_205_20 ?_
    refine ab_iloadn dX12_readWay_67 rfl ?_
    refine ab_aloadn dX12_readWay_68 rfl ?_
    refine ab_getf (v := .int (i 205 28)) dX12_readWay_69 fl_X12_238 kd_205 rfl ?_
    refine ab_iastore dX12_readWay_72 kd_216 (h.2 c1).1 ?_
    obtain ⟨i2, e3⟩ : ∃ z, z = ab_u i 216 a1.toNatClampNeg (i 205 28) := ⟨_, rfl⟩
    rw [show ab_u i 216 a1.toNatClampNeg (i 205 28) = i2 from e3.symm]
    exact ((h.2 c1).2 i2 e3)
theorem tMX12_readWay_73 {d : Nat} {Q : ab_Qt} {sc : Nat × (Nat → Int32)} {i : Nat → Nat → Int32} {l : Nat → Nat → Int64} {dd : Nat → Nat → Value} {x : Nat} {a1 : Int32} {a2 : Int32} 
    (h : ab_Fr MX12_readWay (d + 1) Q 75 [some (.ref 205), some (.int a1), some (.int a2), some (.int 0)] [] (0, 0) (i, l, dd, x) (ab_E0 sc)) :
    ab_Fr MX12_readWay (d + 1) Q 73 [some (.ref 205), some (.int a1), some (.int a2), none] [] (0, 0) (i, l, dd, x) (ab_E0 sc) := by
  refine ab_iconst (v := 0) dX12_readWay_73 (by decide) ?_
  refine ab_istoren dX12_readWay_74 (Nat.le_of_ble_eq_true rfl) (L2 := [some (.ref 205), some (.int a1), some (.int a2), some (.int 0)]) rfl ?_
  exact h
theorem tMX12_readWay_75 {d : Nat} {Q : ab_Qt} {sc : Nat × (Nat → Int32)} {i : Nat → Nat → Int32} {l : Nat → Nat → Int64} {dd : Nat → Nat → Value} {x : Nat} {a1 : Int32} {a2 : Int32} {a3 : Int32} 
    (h : ((¬ a2 = 3 → (vp_in a1 14 ∧ ∀ i2, i2 = ab_u i 215 a1.toNatClampNeg a2 → Q (some (some (.int 1))) (i2, l, dd, x) (ab_E0 sc))) ∧ (a2 = 3 → (vp_in a1 14 ∧ (((i 212 a1.toNatClampNeg) ≤ a3 → (vp_in a1 14 ∧ ∀ i5, i5 = ab_u i 215 a1.toNatClampNeg a2 → Q (some (some (.int 1))) (i5, l, dd, x) (ab_E0 sc))) ∧ (¬ (i 212 a1.toNatClampNeg) ≤ a3 → (∃ (r7 : Int64) (P8 : ab_S → Prop), ab_Sp MX12_none d [] (i, l, dd, x) (ab_E0 sc) (some (.long r7)) P8 ∧ ∀ i11 l12 dd13 x14, P8 (i11, l12, dd13, x14) → ∃ (r16 : Int32) (P17 : ab_S → Prop), ab_Sp MX12_isKey d [.ref 205, .long r7] (i11, l12, dd13, x14) (ab_E0 sc) (some (.int r16)) P17 ∧ ∀ i20 l21 dd22 x23, P17 (i20, l21, dd22, x23) → ((r16 = 0 → (∃ (r26 : Int32) (P27 : ab_S → Prop), ab_Sp MX12_readTruth d [.ref 205] (i20, l21, dd22, x23) (ab_E0 sc) (some (.int r26)) P27 ∧ ∀ i30 l31 dd32 x33, P27 (i30, l31, dd32, x33) → ((¬ r26 = 0 → ab_Fr MX12_readWay (d + 1) Q 122 [some (.ref 205), some (.int a1), some (.int a2), some (.int a3)] [] (0, 0) (i30, l31, dd32, x33) (ab_E0 sc)) ∧ (r26 = 0 → Q (some (some (.int 0))) (i30, l31, dd32, x33) (ab_E0 sc))))) ∧ (¬ r16 = 0 → (∀ i36, i36 = ab_u i20 205 28 9 → ∃ (P39 : ab_S → Prop), ab_Sp MX12_go d [.ref 205] (i36, l21, dd22, x23) (ab_E0 sc) (none) P39 ∧ ∀ i42 l43 dd44 x45, P39 (i42, l43, dd44, x45) → ab_Fr MX12_readWay (d + 1) Q 122 [some (.ref 205), some (.int a1), some (.int a2), some (.int a3)] [] (0, 0) (i42, l43, dd44, x45) (ab_E0 sc))))))))))) :
    ab_Fr MX12_readWay (d + 1) Q 75 [some (.ref 205), some (.int a1), some (.int a2), some (.int a3)] [] (0, 0) (i, l, dd, x) (ab_E0 sc) := by
  refine ab_iloadn dX12_readWay_75 rfl ?_
  refine ab_iconst (v := 3) dX12_readWay_76 (by decide) ?_
  refine ab_icmp_ne (tgt := 142) dX12_readWay_77 (by decide) (fun c1 => ?_) (fun c1 => ?_)
  · refine ab_aloadn dX12_readWay_142 rfl ?_
    refine ab_getf (v := .ref 215) dX12_readWay_143 fl_X12_38 kd_205 ff_205_19 ?_
    refine ab_iloadn dX12_readWay_146 rfl ?_
    refine ab_iloadn dX12_readWay_147 rfl ?_
    refine ab_iastore dX12_readWay_148 kd_215 (h.1 c1).1 ?_
    obtain ⟨i2, e3⟩ : ∃ z, z = ab_u i 215 a1.toNatClampNeg a2 := ⟨_, rfl⟩
    rw [show ab_u i 215 a1.toNatClampNeg a2 = i2 from e3.symm]
    refine ab_iconst (v := 1) dX12_readWay_149 (by decide) ?_
    exact ab_zret dX12_readWay_150 rfl (by decide) ⟨Nat.zero_le _, Nat.zero_le _⟩ ((h.1 c1).2 i2 e3)
  · refine ab_iloadn dX12_readWay_80 rfl ?_
    refine ab_aloadn dX12_readWay_81 rfl ?_
    refine ab_getf (v := .ref 212) dX12_readWay_82 fl_X12_29 kd_205 ff_205_16 ?_
    refine ab_iloadn dX12_readWay_85 rfl ?_
    refine ab_iaload (v := (i 212 a1.toNatClampNeg)) dX12_readWay_86 kd_212 (h.2 c1).1 rfl ?_
    refine ab_icmp_ge (tgt := 142) dX12_readWay_87 (by decide) (fun c4 => ?_) (fun c4 => ?_)
    · refine ab_aloadn dX12_readWay_142 rfl ?_
      refine ab_getf (v := .ref 215) dX12_readWay_143 fl_X12_38 kd_205 ff_205_19 ?_
      refine ab_iloadn dX12_readWay_146 rfl ?_
      refine ab_iloadn dX12_readWay_147 rfl ?_
      refine ab_iastore dX12_readWay_148 kd_215 ((h.2 c1).2.1 c4).1 ?_
      obtain ⟨i5, e6⟩ : ∃ z, z = ab_u i 215 a1.toNatClampNeg a2 := ⟨_, rfl⟩
      rw [show ab_u i 215 a1.toNatClampNeg a2 = i5 from e6.symm]
      refine ab_iconst (v := 1) dX12_readWay_149 (by decide) ?_
      exact ab_zret dX12_readWay_150 rfl (by decide) ⟨Nat.zero_le _, Nat.zero_le _⟩ (((h.2 c1).2.1 c4).2 i5 e6)
    · refine ab_aloadn dX12_readWay_90 rfl ?_
      obtain ⟨r7, P8, hs9, hk10⟩ := ((h.2 c1).2.2 c4)
      refine ab_callS (vs := []) (st := [.ref 205]) dX12_readWay_91 okMX12_none wd_1468 rfl rfl (Nat.le_of_ble_eq_true rfl) ⟨Nat.le_of_ble_eq_true rfl, Nat.le_of_ble_eq_true rfl⟩ hs9 ?_
      rintro v9 ⟨i11, l12, dd13, x14⟩ E9 - ⟨rfl, rfl, hp15⟩
      show ab_Fr MX12_readWay (d + 1) Q 94 [some (.ref 205), some (.int a1), some (.int a2), some (.int a3)] [.long r7, .ref 205] (0, 0) (i11, l12, dd13, x14) (ab_E0 sc)
      obtain ⟨r16, P17, hs18, hk19⟩ := (hk10 i11 l12 dd13 x14 hp15)
      refine ab_callV (vs := [.long r7]) (st := []) dX12_readWay_94 okMX12_isKey wd_1444 kd_205 rfl rfl rfl (Nat.le_of_ble_eq_true rfl) ⟨Nat.le_of_ble_eq_true rfl, Nat.le_of_ble_eq_true rfl⟩ hs18 ?_
      rintro v9 ⟨i20, l21, dd22, x23⟩ E9 - ⟨rfl, rfl, hp24⟩
      show ab_Fr MX12_readWay (d + 1) Q 97 [some (.ref 205), some (.int a1), some (.int a2), some (.int a3)] [.int r16] (0, 0) (i20, l21, dd22, x23) (ab_E0 sc)
      refine ab_if_eq (tgt := 113) dX12_readWay_97 (by decide) (fun c25 => ?_) (fun c25 => ?_)
      · refine ab_aloadn dX12_readWay_113 rfl ?_
        obtain ⟨r26, P27, hs28, hk29⟩ := ((hk19 i20 l21 dd22 x23 hp24).1 c25)
        refine ab_callV (vs := []) (st := []) dX12_readWay_114 okMX12_readTruth wd_1498 kd_205 rfl rfl rfl (Nat.le_of_ble_eq_true rfl) ⟨Nat.le_of_ble_eq_true rfl, Nat.le_of_ble_eq_true rfl⟩ hs28 ?_
        rintro v9 ⟨i30, l31, dd32, x33⟩ E9 - ⟨rfl, rfl, hp34⟩
        show ab_Fr MX12_readWay (d + 1) Q 117 [some (.ref 205), some (.int a1), some (.int a2), some (.int a3)] [.int r26] (0, 0) (i30, l31, dd32, x33) (ab_E0 sc)
        refine ab_if_ne (tgt := 122) dX12_readWay_117 (by decide) (fun c35 => ?_) (fun c35 => ?_)
        · exact ((hk29 i30 l31 dd32 x33 hp34).1 c35)
        · refine ab_iconst (v := 0) dX12_readWay_120 (by decide) ?_
          exact ab_zret dX12_readWay_121 rfl (by decide) ⟨Nat.zero_le _, Nat.zero_le _⟩ ((hk29 i30 l31 dd32 x33 hp34).2 c35)
      · refine ab_aloadn dX12_readWay_100 rfl ?_
        refine ab_bipush (v := 9) dX12_readWay_101 (by decide) ?_
        refine ab_putI dX12_readWay_103 fl_X12_238 kd_205 rfl ?_
        obtain ⟨i36, e37⟩ : ∃ z, z = ab_u i20 205 28 9 := ⟨_, rfl⟩
        show ab_Fr MX12_readWay (d + 1) Q 106 [some (.ref 205), some (.int a1), some (.int a2), some (.int a3)] [] (0, 0) (ab_u i20 205 28 9, l21, dd22, x23) (ab_E0 sc)
        rw [show ab_u i20 205 28 9 = i36 from e37.symm]
        refine ab_aloadn dX12_readWay_106 rfl ?_
        obtain ⟨P39, hs40, hk41⟩ := (((hk19 i20 l21 dd22 x23 hp24).2 c25) i36 e37)
        refine ab_callV (vs := []) (st := []) dX12_readWay_107 okMX12_go wd_1421 kd_205 rfl rfl rfl (Nat.le_of_ble_eq_true rfl) ⟨Nat.le_of_ble_eq_true rfl, Nat.le_of_ble_eq_true rfl⟩ hs40 ?_
        rintro v9 ⟨i42, l43, dd44, x45⟩ E9 - ⟨rfl, rfl, hp46⟩
        show ab_Fr MX12_readWay (d + 1) Q 110 [some (.ref 205), some (.int a1), some (.int a2), some (.int a3)] [] (0, 0) (i42, l43, dd44, x45) (ab_E0 sc)
        refine ab_goto (tgt := 122) dX12_readWay_110 (by decide) ?_
        exact (hk41 i42 l43 dd44 x45 hp46)
theorem tMX12_readWay_122 {d : Nat} {Q : ab_Qt} {sc : Nat × (Nat → Int32)} {i : Nat → Nat → Int32} {l : Nat → Nat → Int64} {dd : Nat → Nat → Value} {x : Nat} {a1 : Int32} {a2 : Int32} {a3 : Int32} 
    (h : (vp_in ((3 * a1) + a3) 42 ∧ ∀ i1, i1 = ab_u i 217 ((3 * a1) + a3).toNatClampNeg (i 205 28) → ab_Fr MX12_readWay (d + 1) Q 75 [some (.ref 205), some (.int a1), some (.int a2), some (.int (a3 + 1))] [] (0, 0) (i1, l, dd, x) (ab_E0 sc))) :
    ab_Fr MX12_readWay (d + 1) Q 122 [some (.ref 205), some (.int a1), some (.int a2), some (.int a3)] [] (0, 0) (i, l, dd, x) (ab_E0 sc) := by
  refine ab_aloadn dX12_readWay_122 rfl ?_
  refine ab_getf (v := .ref 217) dX12_readWay_123 fl_X12_44 kd_205 ff_205_21 ?_
  refine ab_iconst (v := 3) dX12_readWay_126 (by decide) ?_
  refine ab_iloadn dX12_readWay_127 rfl ?_
  refine ab_imul dX12_readWay_128 ?_
  refine ab_iloadn dX12_readWay_129 rfl ?_
  refine ab_iadd dX12_readWay_130 ?_
  refine ab_aloadn dX12_readWay_131 rfl ?_
  refine ab_getf (v := .int (i 205 28)) dX12_readWay_132 fl_X12_238 kd_205 rfl ?_
  refine ab_iastore dX12_readWay_135 kd_217 h.1 ?_
  obtain ⟨i1, e2⟩ : ∃ z, z = ab_u i 217 ((3 * a1) + a3).toNatClampNeg (i 205 28) := ⟨_, rfl⟩
  rw [show ab_u i 217 ((3 * a1) + a3).toNatClampNeg (i 205 28) = i1 from e2.symm]
  refine ab_iinc (v := (a3 + 1)) dX12_readWay_136 rfl (by rfl) (Nat.le_of_ble_eq_true rfl) (L2 := [some (.ref 205), some (.int a1), some (.int a2), some (.int (a3 + 1))]) rfl ?_
  refine ab_goto (tgt := 75) dX12_readWay_139 (by decide) ?_
  exact (h.2 i1 e2)
theorem tMX12_readVoter_0 {d : Nat} {Q : ab_Qt} {sc : Nat × (Nat → Int32)} {i : Nat → Nat → Int32} {l : Nat → Nat → Int64} {dd : Nat → Nat → Value} {x : Nat}  
    (h : (∃ (r1 : Int32) (P2 : ab_S → Prop), ab_Sp MX12_isName d [.ref 205] (i, l, dd, x) (ab_E0 sc) (some (.int r1)) P2 ∧ ∀ i5 l6 dd7 x8, P2 (i5, l6, dd7, x8) → ((¬ r1 = 0 → (∃ (r11 : Int32) (P12 : ab_S → Prop), ab_Sp MX12_findVoter d [.ref 205] (i5, l6, dd7, x8) (ab_E0 sc) (some (.int r11)) P12 ∧ ∀ i15 l16 dd17 x18, P12 (i15, l16, dd17, x18) → ∀ i20, i20 = ab_u i15 205 28 r11 → ((¬ (i20 205 28) = (-1) → (∃ (P24 : ab_S → Prop), ab_Sp MX12_go d [.ref 205] (i20, l16, dd17, x18) (ab_E0 sc) (none) P24 ∧ ∀ i27 l28 dd29 x30, P24 (i27, l28, dd29, x30) → Q (some (some (.int 1))) (i27, l28, dd29, x30) (ab_E0 sc))) ∧ ((i20 205 28) = (-1) → (∃ (r32 : Int32) (P33 : ab_S → Prop), ab_Sp MX12_bad d [.ref 205, .int 3] (i20, l16, dd17, x18) (ab_E0 sc) (some (.int r32)) P33 ∧ ∀ i36 l37 dd38 x39, P33 (i36, l37, dd38, x39) → (r32 = 0 ∨ r32 = 1) ∧ Q (some (some (.int r32))) (i36, l37, dd38, x39) (ab_E0 sc)))))) ∧ (r1 = 0 → (∃ (r41 : Int32) (P42 : ab_S → Prop), ab_Sp MX12_bad d [.ref 205, .int 1] (i5, l6, dd7, x8) (ab_E0 sc) (some (.int r41)) P42 ∧ ∀ i45 l46 dd47 x48, P42 (i45, l46, dd47, x48) → (r41 = 0 ∨ r41 = 1) ∧ Q (some (some (.int r41))) (i45, l46, dd47, x48) (ab_E0 sc)))))) :
    ab_Fr MX12_readVoter (d + 1) Q 0 [some (.ref 205)] [] (0, 0) (i, l, dd, x) (ab_E0 sc) := by
  refine ab_aloadn dX12_readVoter_0 rfl ?_
  obtain ⟨r1, P2, hs3, hk4⟩ := h
  refine ab_callV (vs := []) (st := []) dX12_readVoter_1 okMX12_isName wd_1462 kd_205 rfl rfl rfl (Nat.le_of_ble_eq_true rfl) ⟨Nat.le_of_ble_eq_true rfl, Nat.le_of_ble_eq_true rfl⟩ hs3 ?_
  rintro v9 ⟨i5, l6, dd7, x8⟩ E9 - ⟨rfl, rfl, hp9⟩
  show ab_Fr MX12_readVoter (d + 1) Q 4 [some (.ref 205)] [.int r1] (0, 0) (i5, l6, dd7, x8) (ab_E0 sc)
  refine ab_if_ne (tgt := 13) dX12_readVoter_4 (by decide) (fun c10 => ?_) (fun c10 => ?_)
  · refine ab_aloadn dX12_readVoter_13 rfl ?_
    refine ab_aloadn dX12_readVoter_14 rfl ?_
    obtain ⟨r11, P12, hs13, hk14⟩ := ((hk4 i5 l6 dd7 x8 hp9).1 c10)
    refine ab_callV (vs := []) (st := [.ref 205]) dX12_readVoter_15 okMX12_findVoter wd_1480 kd_205 rfl rfl rfl (Nat.le_of_ble_eq_true rfl) ⟨Nat.le_of_ble_eq_true rfl, Nat.le_of_ble_eq_true rfl⟩ hs13 ?_
    rintro v9 ⟨i15, l16, dd17, x18⟩ E9 - ⟨rfl, rfl, hp19⟩
    show ab_Fr MX12_readVoter (d + 1) Q 18 [some (.ref 205)] [.int r11, .ref 205] (0, 0) (i15, l16, dd17, x18) (ab_E0 sc)
    refine ab_putI dX12_readVoter_18 fl_X12_238 kd_205 rfl ?_
    obtain ⟨i20, e21⟩ : ∃ z, z = ab_u i15 205 28 r11 := ⟨_, rfl⟩
    show ab_Fr MX12_readVoter (d + 1) Q 21 [some (.ref 205)] [] (0, 0) (ab_u i15 205 28 r11, l16, dd17, x18) (ab_E0 sc)
    rw [show ab_u i15 205 28 r11 = i20 from e21.symm]
    refine ab_aloadn dX12_readVoter_21 rfl ?_
    refine ab_getf (v := .int (i20 205 28)) dX12_readVoter_22 fl_X12_238 kd_205 rfl ?_
    refine ab_iconst (v := (-1)) dX12_readVoter_25 (by decide) ?_
    refine ab_icmp_ne (tgt := 35) dX12_readVoter_26 (by decide) (fun c22 => ?_) (fun c22 => ?_)
    · refine ab_aloadn dX12_readVoter_35 rfl ?_
      obtain ⟨P24, hs25, hk26⟩ := (((hk14 i15 l16 dd17 x18 hp19) i20 e21).1 c22)
      refine ab_callV (vs := []) (st := []) dX12_readVoter_36 okMX12_go wd_1421 kd_205 rfl rfl rfl (Nat.le_of_ble_eq_true rfl) ⟨Nat.le_of_ble_eq_true rfl, Nat.le_of_ble_eq_true rfl⟩ hs25 ?_
      rintro v9 ⟨i27, l28, dd29, x30⟩ E9 - ⟨rfl, rfl, hp31⟩
      show ab_Fr MX12_readVoter (d + 1) Q 39 [some (.ref 205)] [] (0, 0) (i27, l28, dd29, x30) (ab_E0 sc)
      refine ab_iconst (v := 1) dX12_readVoter_39 (by decide) ?_
      exact ab_zret dX12_readVoter_40 rfl (by decide) ⟨Nat.zero_le _, Nat.zero_le _⟩ (hk26 i27 l28 dd29 x30 hp31)
    · refine ab_aloadn dX12_readVoter_29 rfl ?_
      refine ab_iconst (v := 3) dX12_readVoter_30 (by decide) ?_
      obtain ⟨r32, P33, hs34, hk35⟩ := (((hk14 i15 l16 dd17 x18 hp19) i20 e21).2 c22)
      refine ab_callV (vs := [.int 3]) (st := []) dX12_readVoter_31 okMX12_bad wd_1450 kd_205 rfl rfl rfl (Nat.le_of_ble_eq_true rfl) ⟨Nat.le_of_ble_eq_true rfl, Nat.le_of_ble_eq_true rfl⟩ hs34 ?_
      rintro v9 ⟨i36, l37, dd38, x39⟩ E9 - ⟨rfl, rfl, hp40⟩
      show ab_Fr MX12_readVoter (d + 1) Q 34 [some (.ref 205)] [.int r32] (0, 0) (i36, l37, dd38, x39) (ab_E0 sc)
      exact ab_zret dX12_readVoter_34 rfl (hk35 i36 l37 dd38 x39 hp40).1 ⟨Nat.zero_le _, Nat.zero_le _⟩ (hk35 i36 l37 dd38 x39 hp40).2
  · refine ab_aloadn dX12_readVoter_7 rfl ?_
    refine ab_iconst (v := 1) dX12_readVoter_8 (by decide) ?_
    obtain ⟨r41, P42, hs43, hk44⟩ := ((hk4 i5 l6 dd7 x8 hp9).2 c10)
    refine ab_callV (vs := [.int 1]) (st := []) dX12_readVoter_9 okMX12_bad wd_1450 kd_205 rfl rfl rfl (Nat.le_of_ble_eq_true rfl) ⟨Nat.le_of_ble_eq_true rfl, Nat.le_of_ble_eq_true rfl⟩ hs43 ?_
    rintro v9 ⟨i45, l46, dd47, x48⟩ E9 - ⟨rfl, rfl, hp49⟩
    show ab_Fr MX12_readVoter (d + 1) Q 12 [some (.ref 205)] [.int r41] (0, 0) (i45, l46, dd47, x48) (ab_E0 sc)
    exact ab_zret dX12_readVoter_12 rfl (hk44 i45 l46 dd47 x48 hp49).1 ⟨Nat.zero_le _, Nat.zero_le _⟩ (hk44 i45 l46 dd47 x48 hp49).2
theorem tMX12_readRule_0 {d : Nat} {Q : ab_Qt} {sc : Nat × (Nat → Int32)} {i : Nat → Nat → Int32} {l : Nat → Nat → Int64} {dd : Nat → Nat → Value} {x : Nat}  
    (h : (∃ (P2 : ab_S → Prop), ab_Sp MX12_go d [.ref 205] (i, l, dd, x) (ab_E0 sc) (none) P2 ∧ ∀ i5 l6 dd7 x8, P2 (i5, l6, dd7, x8) → ∃ (r10 : Int64) (P11 : ab_S → Prop), ab_Sp MX12_spelt d [.int 109, .int 111, .int 115, .int 116, .int 0] (i5, l6, dd7, x8) (ab_E0 sc) (some (.long r10)) P11 ∧ ∀ i14 l15 dd16 x17, P11 (i14, l15, dd16, x17) → ∃ (r19 : Int32) (P20 : ab_S → Prop), ab_Sp MX12_isKey d [.ref 205, .long r10] (i14, l15, dd16, x17) (ab_E0 sc) (some (.int r19)) P20 ∧ ∀ i23 l24 dd25 x26, P20 (i23, l24, dd25, x26) → ((r19 = 0 → (∃ (r29 : Int64) (P30 : ab_S → Prop), ab_Sp MX12_spelt d [.int 110, .int 101, .int 101, .int 100, .int 0] (i23, l24, dd25, x26) (ab_E0 sc) (some (.long r29)) P30 ∧ ∀ i33 l34 dd35 x36, P30 (i33, l34, dd35, x36) → ∃ (r38 : Int32) (P39 : ab_S → Prop), ab_Sp MX12_readKey d [.ref 205, .long r29] (i33, l34, dd35, x36) (ab_E0 sc) (some (.int r38)) P39 ∧ ∀ i42 l43 dd44 x45, P39 (i42, l43, dd44, x45) → ((r38 = 0 → Q (some (some (.int 0))) (i42, l43, dd44, x45) (ab_E0 sc)) ∧ (¬ r38 = 0 → (∃ (r48 : Int32) (P49 : ab_S → Prop), ab_Sp MX12_readNumber d [.ref 205, .int 1, .int 81] (i42, l43, dd44, x45) (ab_E0 sc) (some (.int r48)) P49 ∧ ∀ i52 l53 dd54 x55, P49 (i52, l53, dd54, x55) → ((¬ r48 = 0 → (∃ (r58 : Int32) (P59 : ab_S → Prop), ab_Sp MX12_readTruth d [.ref 205] (i52, l53, dd54, x55) (ab_E0 sc) (some (.int r58)) P59 ∧ ∀ i62 l63 dd64 x65, P59 (i62, l63, dd64, x65) → ((¬ r58 = 0 → (∀ i68, i68 = ab_u i62 220 1 (i62 205 28) → ∃ (r70 : Int64) (P71 : ab_S → Prop), ab_Sp MX12_other d [] (i68, l63, dd64, x65) (ab_E0 sc) (some (.long r70)) P71 ∧ ∀ i74 l75 dd76 x77, P71 (i74, l75, dd76, x77) → ∃ (r79 : Int32) (P80 : ab_S → Prop), ab_Sp MX12_readKey d [.ref 205, .long r70] (i74, l75, dd76, x77) (ab_E0 sc) (some (.int r79)) P80 ∧ ∀ i83 l84 dd85 x86, P80 (i83, l84, dd85, x86) → ((r79 = 0 → Q (some (some (.int 0))) (i83, l84, dd85, x86) (ab_E0 sc)) ∧ (¬ r79 = 0 → (∃ (r89 : Int32) (P90 : ab_S → Prop), ab_Sp MX12_readTruth d [.ref 205] (i83, l84, dd85, x86) (ab_E0 sc) (some (.int r89)) P90 ∧ ∀ i93 l94 dd95 x96, P90 (i93, l94, dd95, x96) → ((¬ r89 = 0 → (∀ i99, i99 = ab_u i93 221 1 (i93 205 28) → ∀ i101, i101 = ab_u i99 219 1 (i52 205 28) → Q (some (some (.int 1))) (i101, l94, dd95, x96) (ab_E0 sc))) ∧ (r89 = 0 → Q (some (some (.int 0))) (i93, l94, dd95, x96) (ab_E0 sc)))))))) ∧ (r58 = 0 → Q (some (some (.int 0))) (i62, l63, dd64, x65) (ab_E0 sc))))) ∧ (r48 = 0 → Q (some (some (.int 0))) (i52, l53, dd54, x55) (ab_E0 sc)))))))) ∧ (¬ r19 = 0 → (∃ (P104 : ab_S → Prop), ab_Sp MX12_go d [.ref 205] (i23, l24, dd25, x26) (ab_E0 sc) (none) P104 ∧ ∀ i107 l108 dd109 x110, P104 (i107, l108, dd109, x110) → ∀ i112, i112 = ab_u i107 219 1 0 → ∀ i114, i114 = ab_u i112 222 1 (-1) → ∃ (r116 : Int64) (P117 : ab_S → Prop), ab_Sp MX12_chair d [] (i114, l108, dd109, x110) (ab_E0 sc) (some (.long r116)) P117 ∧ ∀ i120 l121 dd122 x123, P117 (i120, l121, dd122, x123) → ∃ (r125 : Int32) (P126 : ab_S → Prop), ab_Sp MX12_isKey d [.ref 205, .long r116] (i120, l121, dd122, x123) (ab_E0 sc) (some (.int r125)) P126 ∧ ∀ i129 l130 dd131 x132, P126 (i129, l130, dd131, x132) → ((¬ r125 = 0 → (∃ (P136 : ab_S → Prop), ab_Sp MX12_go d [.ref 205] (i129, l130, dd131, x132) (ab_E0 sc) (none) P136 ∧ ∀ i139 l140 dd141 x142, P136 (i139, l140, dd141, x142) → ∃ (r144 : Int32) (P145 : ab_S → Prop), ab_Sp MX12_readVoter d [.ref 205] (i139, l140, dd141, x142) (ab_E0 sc) (some (.int r144)) P145 ∧ ∀ i148 l149 dd150 x151, P145 (i148, l149, dd150, x151) → ((¬ r144 = 0 → (∀ i154, i154 = ab_u i148 222 1 (i148 205 28) → Q (some (some (.int 1))) (i154, l149, dd150, x151) (ab_E0 sc))) ∧ (r144 = 0 → Q (some (some (.int 0))) (i148, l149, dd150, x151) (ab_E0 sc))))) ∧ (r125 = 0 → Q (some (some (.int 1))) (i129, l130, dd131, x132) (ab_E0 sc)))))))) :
    ab_Fr MX12_readRule (d + 1) Q 0 [some (.ref 205), none] [] (0, 0) (i, l, dd, x) (ab_E0 sc) := by
  refine ab_aloadn dX12_readRule_0 rfl ?_
  obtain ⟨P2, hs3, hk4⟩ := h
  refine ab_callV (vs := []) (st := []) dX12_readRule_1 okMX12_go wd_1421 kd_205 rfl rfl rfl (Nat.le_of_ble_eq_true rfl) ⟨Nat.le_of_ble_eq_true rfl, Nat.le_of_ble_eq_true rfl⟩ hs3 ?_
  rintro v9 ⟨i5, l6, dd7, x8⟩ E9 - ⟨rfl, rfl, hp9⟩
  show ab_Fr MX12_readRule (d + 1) Q 4 [some (.ref 205), none] [] (0, 0) (i5, l6, dd7, x8) (ab_E0 sc)
  refine ab_aloadn dX12_readRule_4 rfl ?_
  refine ab_bipush (v := 109) dX12_readRule_5 (by decide) ?_
  refine ab_bipush (v := 111) dX12_readRule_7 (by decide) ?_
  refine ab_bipush (v := 115) dX12_readRule_9 (by decide) ?_
  refine ab_bipush (v := 116) dX12_readRule_11 (by decide) ?_
  refine ab_iconst (v := 0) dX12_readRule_13 (by decide) ?_
  obtain ⟨r10, P11, hs12, hk13⟩ := (hk4 i5 l6 dd7 x8 hp9)
  refine ab_callS (vs := [.int 109, .int 111, .int 115, .int 116, .int 0]) (st := [.ref 205]) dX12_readRule_14 okMX12_spelt wd_1441 rfl rfl (Nat.le_of_ble_eq_true rfl) ⟨Nat.le_of_ble_eq_true rfl, Nat.le_of_ble_eq_true rfl⟩ hs12 ?_
  rintro v9 ⟨i14, l15, dd16, x17⟩ E9 - ⟨rfl, rfl, hp18⟩
  show ab_Fr MX12_readRule (d + 1) Q 17 [some (.ref 205), none] [.long r10, .ref 205] (0, 0) (i14, l15, dd16, x17) (ab_E0 sc)
  obtain ⟨r19, P20, hs21, hk22⟩ := (hk13 i14 l15 dd16 x17 hp18)
  refine ab_callV (vs := [.long r10]) (st := []) dX12_readRule_17 okMX12_isKey wd_1444 kd_205 rfl rfl rfl (Nat.le_of_ble_eq_true rfl) ⟨Nat.le_of_ble_eq_true rfl, Nat.le_of_ble_eq_true rfl⟩ hs21 ?_
  rintro v9 ⟨i23, l24, dd25, x26⟩ E9 - ⟨rfl, rfl, hp27⟩
  show ab_Fr MX12_readRule (d + 1) Q 20 [some (.ref 205), none] [.int r19] (0, 0) (i23, l24, dd25, x26) (ab_E0 sc)
  refine ab_if_eq (tgt := 78) dX12_readRule_20 (by decide) (fun c28 => ?_) (fun c28 => ?_)
  · refine ab_aloadn dX12_readRule_78 rfl ?_
    refine ab_bipush (v := 110) dX12_readRule_79 (by decide) ?_
    refine ab_bipush (v := 101) dX12_readRule_81 (by decide) ?_
    refine ab_bipush (v := 101) dX12_readRule_83 (by decide) ?_
    refine ab_bipush (v := 100) dX12_readRule_85 (by decide) ?_
    refine ab_iconst (v := 0) dX12_readRule_87 (by decide) ?_
    obtain ⟨r29, P30, hs31, hk32⟩ := ((hk22 i23 l24 dd25 x26 hp27).1 c28)
    refine ab_callS (vs := [.int 110, .int 101, .int 101, .int 100, .int 0]) (st := [.ref 205]) dX12_readRule_88 okMX12_spelt wd_1441 rfl rfl (Nat.le_of_ble_eq_true rfl) ⟨Nat.le_of_ble_eq_true rfl, Nat.le_of_ble_eq_true rfl⟩ hs31 ?_
    rintro v9 ⟨i33, l34, dd35, x36⟩ E9 - ⟨rfl, rfl, hp37⟩
    show ab_Fr MX12_readRule (d + 1) Q 91 [some (.ref 205), none] [.long r29, .ref 205] (0, 0) (i33, l34, dd35, x36) (ab_E0 sc)
    obtain ⟨r38, P39, hs40, hk41⟩ := (hk32 i33 l34 dd35 x36 hp37)
    refine ab_callV (vs := [.long r29]) (st := []) dX12_readRule_91 okMX12_readKey wd_1492 kd_205 rfl rfl rfl (Nat.le_of_ble_eq_true rfl) ⟨Nat.le_of_ble_eq_true rfl, Nat.le_of_ble_eq_true rfl⟩ hs40 ?_
    rintro v9 ⟨i42, l43, dd44, x45⟩ E9 - ⟨rfl, rfl, hp46⟩
    show ab_Fr MX12_readRule (d + 1) Q 94 [some (.ref 205), none] [.int r38] (0, 0) (i42, l43, dd44, x45) (ab_E0 sc)
    refine ab_if_eq (tgt := 107) dX12_readRule_94 (by decide) (fun c47 => ?_) (fun c47 => ?_)
    · refine ab_iconst (v := 0) dX12_readRule_107 (by decide) ?_
      exact ab_zret dX12_readRule_108 rfl (by decide) ⟨Nat.zero_le _, Nat.zero_le _⟩ ((hk41 i42 l43 dd44 x45 hp46).1 c47)
    · refine ab_aloadn dX12_readRule_97 rfl ?_
      refine ab_iconst (v := 1) dX12_readRule_98 (by decide) ?_
      refine ab_bipush (v := 81) dX12_readRule_99 (by decide) ?_
      obtain ⟨r48, P49, hs50, hk51⟩ := ((hk41 i42 l43 dd44 x45 hp46).2 c47)
      refine ab_callV (vs := [.int 1, .int 81]) (st := []) dX12_readRule_101 okMX12_readNumber wd_1483 kd_205 rfl rfl rfl (Nat.le_of_ble_eq_true rfl) ⟨Nat.le_of_ble_eq_true rfl, Nat.le_of_ble_eq_true rfl⟩ hs50 ?_
      rintro v9 ⟨i52, l53, dd54, x55⟩ E9 - ⟨rfl, rfl, hp56⟩
      show ab_Fr MX12_readRule (d + 1) Q 104 [some (.ref 205), none] [.int r48] (0, 0) (i52, l53, dd54, x55) (ab_E0 sc)
      refine ab_if_ne (tgt := 109) dX12_readRule_104 (by decide) (fun c57 => ?_) (fun c57 => ?_)
      · refine ab_aloadn dX12_readRule_109 rfl ?_
        refine ab_getf (v := .int (i52 205 28)) dX12_readRule_110 fl_X12_238 kd_205 rfl ?_
        refine ab_istoren dX12_readRule_113 (Nat.le_of_ble_eq_true rfl) (L2 := [some (.ref 205), some (.int (i52 205 28))]) rfl ?_
        refine ab_aloadn dX12_readRule_114 rfl ?_
        obtain ⟨r58, P59, hs60, hk61⟩ := ((hk51 i52 l53 dd54 x55 hp56).1 c57)
        refine ab_callV (vs := []) (st := []) dX12_readRule_115 okMX12_readTruth wd_1498 kd_205 rfl rfl rfl (Nat.le_of_ble_eq_true rfl) ⟨Nat.le_of_ble_eq_true rfl, Nat.le_of_ble_eq_true rfl⟩ hs60 ?_
        rintro v9 ⟨i62, l63, dd64, x65⟩ E9 - ⟨rfl, rfl, hp66⟩
        show ab_Fr MX12_readRule (d + 1) Q 118 [some (.ref 205), some (.int (i52 205 28))] [.int r58] (0, 0) (i62, l63, dd64, x65) (ab_E0 sc)
        refine ab_if_ne (tgt := 123) dX12_readRule_118 (by decide) (fun c67 => ?_) (fun c67 => ?_)
        · refine ab_aloadn dX12_readRule_123 rfl ?_
          refine ab_getf (v := .ref 220) dX12_readRule_124 fl_X12_53 kd_205 ff_205_24 ?_
          refine ab_iconst (v := 1) dX12_readRule_127 (by decide) ?_
          refine ab_aloadn dX12_readRule_128 rfl ?_
          refine ab_getf (v := .int (i62 205 28)) dX12_readRule_129 fl_X12_238 kd_205 rfl ?_
          refine ab_iastore dX12_readRule_132 kd_220 (ab_vp (by decide)) ?_
          obtain ⟨i68, e69⟩ : ∃ z, z = ab_u i62 220 1 (i62 205 28) := ⟨_, rfl⟩
          show ab_Fr MX12_readRule (d + 1) Q 133 [some (.ref 205), some (.int (i52 205 28))] [] (0, 0) (ab_u i62 220 1 (i62 205 28), l63, dd64, x65) (ab_E0 sc)
          rw [show ab_u i62 220 1 (i62 205 28) = i68 from e69.symm]
          refine ab_aloadn dX12_readRule_133 rfl ?_
          obtain ⟨r70, P71, hs72, hk73⟩ := (((hk61 i62 l63 dd64 x65 hp66).1 c67) i68 e69)
          refine ab_callS (vs := []) (st := [.ref 205]) dX12_readRule_134 okMX12_other wd_1474 rfl rfl (Nat.le_of_ble_eq_true rfl) ⟨Nat.le_of_ble_eq_true rfl, Nat.le_of_ble_eq_true rfl⟩ hs72 ?_
          rintro v9 ⟨i74, l75, dd76, x77⟩ E9 - ⟨rfl, rfl, hp78⟩
          show ab_Fr MX12_readRule (d + 1) Q 137 [some (.ref 205), some (.int (i52 205 28))] [.long r70, .ref 205] (0, 0) (i74, l75, dd76, x77) (ab_E0 sc)
          obtain ⟨r79, P80, hs81, hk82⟩ := (hk73 i74 l75 dd76 x77 hp78)
          refine ab_callV (vs := [.long r70]) (st := []) dX12_readRule_137 okMX12_readKey wd_1492 kd_205 rfl rfl rfl (Nat.le_of_ble_eq_true rfl) ⟨Nat.le_of_ble_eq_true rfl, Nat.le_of_ble_eq_true rfl⟩ hs81 ?_
          rintro v9 ⟨i83, l84, dd85, x86⟩ E9 - ⟨rfl, rfl, hp87⟩
          show ab_Fr MX12_readRule (d + 1) Q 140 [some (.ref 205), some (.int (i52 205 28))] [.int r79] (0, 0) (i83, l84, dd85, x86) (ab_E0 sc)
          refine ab_if_eq (tgt := 150) dX12_readRule_140 (by decide) (fun c88 => ?_) (fun c88 => ?_)
          · refine ab_iconst (v := 0) dX12_readRule_150 (by decide) ?_
            exact ab_zret dX12_readRule_151 rfl (by decide) ⟨Nat.zero_le _, Nat.zero_le _⟩ ((hk82 i83 l84 dd85 x86 hp87).1 c88)
          · refine ab_aloadn dX12_readRule_143 rfl ?_
            obtain ⟨r89, P90, hs91, hk92⟩ := ((hk82 i83 l84 dd85 x86 hp87).2 c88)
            refine ab_callV (vs := []) (st := []) dX12_readRule_144 okMX12_readTruth wd_1498 kd_205 rfl rfl rfl (Nat.le_of_ble_eq_true rfl) ⟨Nat.le_of_ble_eq_true rfl, Nat.le_of_ble_eq_true rfl⟩ hs91 ?_
            rintro v9 ⟨i93, l94, dd95, x96⟩ E9 - ⟨rfl, rfl, hp97⟩
            show ab_Fr MX12_readRule (d + 1) Q 147 [some (.ref 205), some (.int (i52 205 28))] [.int r89] (0, 0) (i93, l94, dd95, x96) (ab_E0 sc)
            refine ab_if_ne (tgt := 152) dX12_readRule_147 (by decide) (fun c98 => ?_) (fun c98 => ?_)
            · refine ab_aloadn dX12_readRule_152 rfl ?_
              refine ab_getf (v := .ref 221) dX12_readRule_153 fl_X12_56 kd_205 ff_205_25 ?_
              refine ab_iconst (v := 1) dX12_readRule_156 (by decide) ?_
              refine ab_aloadn dX12_readRule_157 rfl ?_
              refine ab_getf (v := .int (i93 205 28)) dX12_readRule_158 fl_X12_238 kd_205 rfl ?_
              refine ab_iastore dX12_readRule_161 kd_221 (ab_vp (by decide)) ?_
              obtain ⟨i99, e100⟩ : ∃ z, z = ab_u i93 221 1 (i93 205 28) := ⟨_, rfl⟩
              show ab_Fr MX12_readRule (d + 1) Q 162 [some (.ref 205), some (.int (i52 205 28))] [] (0, 0) (ab_u i93 221 1 (i93 205 28), l94, dd95, x96) (ab_E0 sc)
              rw [show ab_u i93 221 1 (i93 205 28) = i99 from e100.symm]
              refine ab_aloadn dX12_readRule_162 rfl ?_
              refine ab_getf (v := .ref 219) dX12_readRule_163 fl_X12_50 kd_205 ff_205_23 ?_
              refine ab_iconst (v := 1) dX12_readRule_166 (by decide) ?_
              refine ab_iloadn dX12_readRule_167 rfl ?_
              refine ab_iastore dX12_readRule_168 kd_219 (ab_vp (by decide)) ?_
              obtain ⟨i101, e102⟩ : ∃ z, z = ab_u i99 219 1 (i52 205 28) := ⟨_, rfl⟩
              show ab_Fr MX12_readRule (d + 1) Q 169 [some (.ref 205), some (.int (i52 205 28))] [] (0, 0) (ab_u i99 219 1 (i52 205 28), l94, dd95, x96) (ab_E0 sc)
              rw [show ab_u i99 219 1 (i52 205 28) = i101 from e102.symm]
              refine ab_iconst (v := 1) dX12_readRule_169 (by decide) ?_
              exact ab_zret dX12_readRule_170 rfl (by decide) ⟨Nat.zero_le _, Nat.zero_le _⟩ ((((hk92 i93 l94 dd95 x96 hp97).1 c98) i99 e100) i101 e102)
            · refine ab_iconst (v := 0) dX12_readRule_150 (by decide) ?_
              exact ab_zret dX12_readRule_151 rfl (by decide) ⟨Nat.zero_le _, Nat.zero_le _⟩ ((hk92 i93 l94 dd95 x96 hp97).2 c98)
        · refine ab_iconst (v := 0) dX12_readRule_121 (by decide) ?_
          exact ab_zret dX12_readRule_122 rfl (by decide) ⟨Nat.zero_le _, Nat.zero_le _⟩ ((hk61 i62 l63 dd64 x65 hp66).2 c67)
      · refine ab_iconst (v := 0) dX12_readRule_107 (by decide) ?_
        exact ab_zret dX12_readRule_108 rfl (by decide) ⟨Nat.zero_le _, Nat.zero_le _⟩ ((hk51 i52 l53 dd54 x55 hp56).2 c57)
  · refine ab_aloadn dX12_readRule_23 rfl ?_
    obtain ⟨P104, hs105, hk106⟩ := ((hk22 i23 l24 dd25 x26 hp27).2 c28)
    refine ab_callV (vs := []) (st := []) dX12_readRule_24 okMX12_go wd_1421 kd_205 rfl rfl rfl (Nat.le_of_ble_eq_true rfl) ⟨Nat.le_of_ble_eq_true rfl, Nat.le_of_ble_eq_true rfl⟩ hs105 ?_
    rintro v9 ⟨i107, l108, dd109, x110⟩ E9 - ⟨rfl, rfl, hp111⟩
    show ab_Fr MX12_readRule (d + 1) Q 27 [some (.ref 205), none] [] (0, 0) (i107, l108, dd109, x110) (ab_E0 sc)
    refine ab_aloadn dX12_readRule_27 rfl ?_
    refine ab_getf (v := .ref 219) dX12_readRule_28 fl_X12_50 kd_205 ff_205_23 ?_
    refine ab_iconst (v := 1) dX12_readRule_31 (by decide) ?_
    refine ab_iconst (v := 0) dX12_readRule_32 (by decide) ?_
    refine ab_iastore dX12_readRule_33 kd_219 (ab_vp (by decide)) ?_
    obtain ⟨i112, e113⟩ : ∃ z, z = ab_u i107 219 1 0 := ⟨_, rfl⟩
    show ab_Fr MX12_readRule (d + 1) Q 34 [some (.ref 205), none] [] (0, 0) (ab_u i107 219 1 0, l108, dd109, x110) (ab_E0 sc)
    rw [show ab_u i107 219 1 0 = i112 from e113.symm]
    refine ab_aloadn dX12_readRule_34 rfl ?_
    refine ab_getf (v := .ref 222) dX12_readRule_35 fl_X12_59 kd_205 ff_205_26 ?_
    refine ab_iconst (v := 1) dX12_readRule_38 (by decide) ?_
    refine ab_iconst (v := (-1)) dX12_readRule_39 (by decide) ?_
    refine ab_iastore dX12_readRule_40 kd_222 (ab_vp (by decide)) ?_
    obtain ⟨i114, e115⟩ : ∃ z, z = ab_u i112 222 1 (-1) := ⟨_, rfl⟩
    show ab_Fr MX12_readRule (d + 1) Q 41 [some (.ref 205), none] [] (0, 0) (ab_u i112 222 1 (-1), l108, dd109, x110) (ab_E0 sc)
    rw [show ab_u i112 222 1 (-1) = i114 from e115.symm]
    refine ab_aloadn dX12_readRule_41 rfl ?_
    obtain ⟨r116, P117, hs118, hk119⟩ := (((hk106 i107 l108 dd109 x110 hp111) i112 e113) i114 e115)
    refine ab_callS (vs := []) (st := [.ref 205]) dX12_readRule_42 okMX12_chair wd_1471 rfl rfl (Nat.le_of_ble_eq_true rfl) ⟨Nat.le_of_ble_eq_true rfl, Nat.le_of_ble_eq_true rfl⟩ hs118 ?_
    rintro v9 ⟨i120, l121, dd122, x123⟩ E9 - ⟨rfl, rfl, hp124⟩
    show ab_Fr MX12_readRule (d + 1) Q 45 [some (.ref 205), none] [.long r116, .ref 205] (0, 0) (i120, l121, dd122, x123) (ab_E0 sc)
    obtain ⟨r125, P126, hs127, hk128⟩ := (hk119 i120 l121 dd122 x123 hp124)
    refine ab_callV (vs := [.long r116]) (st := []) dX12_readRule_45 okMX12_isKey wd_1444 kd_205 rfl rfl rfl (Nat.le_of_ble_eq_true rfl) ⟨Nat.le_of_ble_eq_true rfl, Nat.le_of_ble_eq_true rfl⟩ hs127 ?_
    rintro v9 ⟨i129, l130, dd131, x132⟩ E9 - ⟨rfl, rfl, hp133⟩
    show ab_Fr MX12_readRule (d + 1) Q 48 [some (.ref 205), none] [.int r125] (0, 0) (i129, l130, dd131, x132) (ab_E0 sc)
    refine ab_if_ne (tgt := 53) dX12_readRule_48 (by decide) (fun c134 => ?_) (fun c134 => ?_)
    · refine ab_aloadn dX12_readRule_53 rfl ?_
      obtain ⟨P136, hs137, hk138⟩ := ((hk128 i129 l130 dd131 x132 hp133).1 c134)
      refine ab_callV (vs := []) (st := []) dX12_readRule_54 okMX12_go wd_1421 kd_205 rfl rfl rfl (Nat.le_of_ble_eq_true rfl) ⟨Nat.le_of_ble_eq_true rfl, Nat.le_of_ble_eq_true rfl⟩ hs137 ?_
      rintro v9 ⟨i139, l140, dd141, x142⟩ E9 - ⟨rfl, rfl, hp143⟩
      show ab_Fr MX12_readRule (d + 1) Q 57 [some (.ref 205), none] [] (0, 0) (i139, l140, dd141, x142) (ab_E0 sc)
      refine ab_aloadn dX12_readRule_57 rfl ?_
      obtain ⟨r144, P145, hs146, hk147⟩ := (hk138 i139 l140 dd141 x142 hp143)
      refine ab_callV (vs := []) (st := []) dX12_readRule_58 okMX12_readVoter wd_1504 kd_205 rfl rfl rfl (Nat.le_of_ble_eq_true rfl) ⟨Nat.le_of_ble_eq_true rfl, Nat.le_of_ble_eq_true rfl⟩ hs146 ?_
      rintro v9 ⟨i148, l149, dd150, x151⟩ E9 - ⟨rfl, rfl, hp152⟩
      show ab_Fr MX12_readRule (d + 1) Q 61 [some (.ref 205), none] [.int r144] (0, 0) (i148, l149, dd150, x151) (ab_E0 sc)
      refine ab_if_ne (tgt := 66) dX12_readRule_61 (by decide) (fun c153 => ?_) (fun c153 => ?_)
      · refine ab_aloadn dX12_readRule_66 rfl ?_
        refine ab_getf (v := .ref 222) dX12_readRule_67 fl_X12_59 kd_205 ff_205_26 ?_
        refine ab_iconst (v := 1) dX12_readRule_70 (by decide) ?_
        refine ab_aloadn dX12_readRule_71 rfl ?_
        refine ab_getf (v := .int (i148 205 28)) dX12_readRule_72 fl_X12_238 kd_205 rfl ?_
        refine ab_iastore dX12_readRule_75 kd_222 (ab_vp (by decide)) ?_
        obtain ⟨i154, e155⟩ : ∃ z, z = ab_u i148 222 1 (i148 205 28) := ⟨_, rfl⟩
        show ab_Fr MX12_readRule (d + 1) Q 76 [some (.ref 205), none] [] (0, 0) (ab_u i148 222 1 (i148 205 28), l149, dd150, x151) (ab_E0 sc)
        rw [show ab_u i148 222 1 (i148 205 28) = i154 from e155.symm]
        refine ab_iconst (v := 1) dX12_readRule_76 (by decide) ?_
        exact ab_zret dX12_readRule_77 rfl (by decide) ⟨Nat.zero_le _, Nat.zero_le _⟩ (((hk147 i148 l149 dd150 x151 hp152).1 c153) i154 e155)
      · refine ab_iconst (v := 0) dX12_readRule_64 (by decide) ?_
        exact ab_zret dX12_readRule_65 rfl (by decide) ⟨Nat.zero_le _, Nat.zero_le _⟩ ((hk147 i148 l149 dd150 x151 hp152).2 c153)
    · refine ab_iconst (v := 1) dX12_readRule_51 (by decide) ?_
      exact ab_zret dX12_readRule_52 rfl (by decide) ⟨Nat.zero_le _, Nat.zero_le _⟩ ((hk128 i129 l130 dd131 x132 hp133).2 c134)
theorem tMX12_keep_0 {d : Nat} {Q : ab_Qt} {sc : Nat × (Nat → Int32)} {i : Nat → Nat → Int32} {l : Nat → Nat → Int64} {dd : Nat → Nat → Value} {x : Nat}  
    (h : (∀ i1, i1 = ab_u i 209 0 (i 209 1) → ∀ i3, i3 = ab_u i1 210 0 (i1 210 1) → ∀ i5, i5 = ab_u i3 219 0 (i3 219 1) → ∀ i7, i7 = ab_u i5 220 0 (i5 220 1) → ∀ i9, i9 = ab_u i7 221 0 (i7 221 1) → ∀ i11, i11 = ab_u i9 222 0 (i9 222 1) → ab_Fr MX12_keep (d + 1) Q 74 [some (.ref 205), some (.int 0)] [] (0, 0) (i11, l, dd, x) (ab_E0 sc))) :
    ab_Fr MX12_keep (d + 1) Q 0 [some (.ref 205), none] [] (0, 0) (i, l, dd, x) (ab_E0 sc) := by
  refine ab_aloadn dX12_keep_0 rfl ?_
  refine ab_getf (v := .ref 209) dX12_keep_1 fl_X12_20 kd_205 ff_205_13 ?_
  refine ab_iconst (v := 0) dX12_keep_4 (by decide) ?_
  refine ab_aloadn dX12_keep_5 rfl ?_
  refine ab_getf (v := .ref 209) dX12_keep_6 fl_X12_20 kd_205 ff_205_13 ?_
  refine ab_iconst (v := 1) dX12_keep_9 (by decide) ?_
  refine ab_iaload (v := (i 209 1)) dX12_keep_10 kd_209 (ab_vp (by decide)) rfl ?_
  refine ab_iastore dX12_keep_11 kd_209 (ab_vp (by decide)) ?_
  obtain ⟨i1, e2⟩ : ∃ z, z = ab_u i 209 0 (i 209 1) := ⟨_, rfl⟩
  show ab_Fr MX12_keep (d + 1) Q 12 [some (.ref 205), none] [] (0, 0) (ab_u i 209 0 (i 209 1), l, dd, x) (ab_E0 sc)
  rw [show ab_u i 209 0 (i 209 1) = i1 from e2.symm]
  refine ab_aloadn dX12_keep_12 rfl ?_
  refine ab_getf (v := .ref 210) dX12_keep_13 fl_X12_23 kd_205 ff_205_14 ?_
  refine ab_iconst (v := 0) dX12_keep_16 (by decide) ?_
  refine ab_aloadn dX12_keep_17 rfl ?_
  refine ab_getf (v := .ref 210) dX12_keep_18 fl_X12_23 kd_205 ff_205_14 ?_
  refine ab_iconst (v := 1) dX12_keep_21 (by decide) ?_
  refine ab_iaload (v := (i1 210 1)) dX12_keep_22 kd_210 (ab_vp (by decide)) rfl ?_
  refine ab_iastore dX12_keep_23 kd_210 (ab_vp (by decide)) ?_
  obtain ⟨i3, e4⟩ : ∃ z, z = ab_u i1 210 0 (i1 210 1) := ⟨_, rfl⟩
  show ab_Fr MX12_keep (d + 1) Q 24 [some (.ref 205), none] [] (0, 0) (ab_u i1 210 0 (i1 210 1), l, dd, x) (ab_E0 sc)
  rw [show ab_u i1 210 0 (i1 210 1) = i3 from e4.symm]
  refine ab_aloadn dX12_keep_24 rfl ?_
  refine ab_getf (v := .ref 219) dX12_keep_25 fl_X12_50 kd_205 ff_205_23 ?_
  refine ab_iconst (v := 0) dX12_keep_28 (by decide) ?_
  refine ab_aloadn dX12_keep_29 rfl ?_
  refine ab_getf (v := .ref 219) dX12_keep_30 fl_X12_50 kd_205 ff_205_23 ?_
  refine ab_iconst (v := 1) dX12_keep_33 (by decide) ?_
  refine ab_iaload (v := (i3 219 1)) dX12_keep_34 kd_219 (ab_vp (by decide)) rfl ?_
  refine ab_iastore dX12_keep_35 kd_219 (ab_vp (by decide)) ?_
  obtain ⟨i5, e6⟩ : ∃ z, z = ab_u i3 219 0 (i3 219 1) := ⟨_, rfl⟩
  show ab_Fr MX12_keep (d + 1) Q 36 [some (.ref 205), none] [] (0, 0) (ab_u i3 219 0 (i3 219 1), l, dd, x) (ab_E0 sc)
  rw [show ab_u i3 219 0 (i3 219 1) = i5 from e6.symm]
  refine ab_aloadn dX12_keep_36 rfl ?_
  refine ab_getf (v := .ref 220) dX12_keep_37 fl_X12_53 kd_205 ff_205_24 ?_
  refine ab_iconst (v := 0) dX12_keep_40 (by decide) ?_
  refine ab_aloadn dX12_keep_41 rfl ?_
  refine ab_getf (v := .ref 220) dX12_keep_42 fl_X12_53 kd_205 ff_205_24 ?_
  refine ab_iconst (v := 1) dX12_keep_45 (by decide) ?_
  refine ab_iaload (v := (i5 220 1)) dX12_keep_46 kd_220 (ab_vp (by decide)) rfl ?_
  refine ab_iastore dX12_keep_47 kd_220 (ab_vp (by decide)) ?_
  obtain ⟨i7, e8⟩ : ∃ z, z = ab_u i5 220 0 (i5 220 1) := ⟨_, rfl⟩
  show ab_Fr MX12_keep (d + 1) Q 48 [some (.ref 205), none] [] (0, 0) (ab_u i5 220 0 (i5 220 1), l, dd, x) (ab_E0 sc)
  rw [show ab_u i5 220 0 (i5 220 1) = i7 from e8.symm]
  refine ab_aloadn dX12_keep_48 rfl ?_
  refine ab_getf (v := .ref 221) dX12_keep_49 fl_X12_56 kd_205 ff_205_25 ?_
  refine ab_iconst (v := 0) dX12_keep_52 (by decide) ?_
  refine ab_aloadn dX12_keep_53 rfl ?_
  refine ab_getf (v := .ref 221) dX12_keep_54 fl_X12_56 kd_205 ff_205_25 ?_
  refine ab_iconst (v := 1) dX12_keep_57 (by decide) ?_
  refine ab_iaload (v := (i7 221 1)) dX12_keep_58 kd_221 (ab_vp (by decide)) rfl ?_
  refine ab_iastore dX12_keep_59 kd_221 (ab_vp (by decide)) ?_
  obtain ⟨i9, e10⟩ : ∃ z, z = ab_u i7 221 0 (i7 221 1) := ⟨_, rfl⟩
  show ab_Fr MX12_keep (d + 1) Q 60 [some (.ref 205), none] [] (0, 0) (ab_u i7 221 0 (i7 221 1), l, dd, x) (ab_E0 sc)
  rw [show ab_u i7 221 0 (i7 221 1) = i9 from e10.symm]
  refine ab_aloadn dX12_keep_60 rfl ?_
  refine ab_getf (v := .ref 222) dX12_keep_61 fl_X12_59 kd_205 ff_205_26 ?_
  refine ab_iconst (v := 0) dX12_keep_64 (by decide) ?_
  refine ab_aloadn dX12_keep_65 rfl ?_
  refine ab_getf (v := .ref 222) dX12_keep_66 fl_X12_59 kd_205 ff_205_26 ?_
  refine ab_iconst (v := 1) dX12_keep_69 (by decide) ?_
  refine ab_iaload (v := (i9 222 1)) dX12_keep_70 kd_222 (ab_vp (by decide)) rfl ?_
  refine ab_iastore dX12_keep_71 kd_222 (ab_vp (by decide)) ?_
  obtain ⟨i11, e12⟩ : ∃ z, z = ab_u i9 222 0 (i9 222 1) := ⟨_, rfl⟩
  show ab_Fr MX12_keep (d + 1) Q 72 [some (.ref 205), none] [] (0, 0) (ab_u i9 222 0 (i9 222 1), l, dd, x) (ab_E0 sc)
  rw [show ab_u i9 222 0 (i9 222 1) = i11 from e12.symm]
  refine ab_iconst (v := 0) dX12_keep_72 (by decide) ?_
  refine ab_istoren dX12_keep_73 (Nat.le_of_ble_eq_true rfl) (L2 := [some (.ref 205), some (.int 0)]) rfl ?_
  exact ((((((h i1 e2) i3 e4) i5 e6) i7 e8) i9 e10) i11 e12)
theorem tMX12_keep_74 {d : Nat} {Q : ab_Qt} {sc : Nat × (Nat → Int32)} {i : Nat → Nat → Int32} {l : Nat → Nat → Int64} {dd : Nat → Nat → Value} {x : Nat} {a1 : Int32} 
    (h : ((3 ≤ a1 → ab_Fr MX12_keep (d + 1) Q 101 [some (.ref 205), some (.int 0)] [] (0, 0) (i, l, dd, x) (ab_E0 sc)) ∧ (¬ 3 ≤ a1 → (vp_in (3 + a1) 6 ∧ vp_in a1 6 ∧ ∀ i2, i2 = ab_u i 211 a1.toNatClampNeg (i 211 (3 + a1).toNatClampNeg) → ab_Fr MX12_keep (d + 1) Q 74 [some (.ref 205), some (.int (a1 + 1))] [] (0, 0) (i2, l, dd, x) (ab_E0 sc))))) :
    ab_Fr MX12_keep (d + 1) Q 74 [some (.ref 205), some (.int a1)] [] (0, 0) (i, l, dd, x) (ab_E0 sc) := by
  refine ab_iloadn dX12_keep_74 rfl ?_
  refine ab_iconst (v := 3) dX12_keep_75 (by decide) ?_
  refine ab_icmp_ge (tgt := 99) dX12_keep_76 (by decide) (fun c1 => ?_) (fun c1 => ?_)
  · refine ab_iconst (v := 0) dX12_keep_99 (by decide) ?_
    refine ab_istoren dX12_keep_100 (Nat.le_of_ble_eq_true rfl) (L2 := [some (.ref 205), some (.int 0)]) rfl ?_
    exact (h.1 c1)
  · refine ab_aloadn dX12_keep_79 rfl ?_
    refine ab_getf (v := .ref 211) dX12_keep_80 fl_X12_26 kd_205 ff_205_15 ?_
    refine ab_iloadn dX12_keep_83 rfl ?_
    refine ab_aloadn dX12_keep_84 rfl ?_
    refine ab_getf (v := .ref 211) dX12_keep_85 fl_X12_26 kd_205 ff_205_15 ?_
    refine ab_iconst (v := 3) dX12_keep_88 (by decide) ?_
    refine ab_iloadn dX12_keep_89 rfl ?_
    refine ab_iadd dX12_keep_90 ?_
    refine ab_iaload (v := (i 211 (3 + a1).toNatClampNeg)) dX12_keep_91 kd_211 (h.2 c1).1 rfl ?_
    refine ab_iastore dX12_keep_92 kd_211 (h.2 c1).2.1 ?_
    obtain ⟨i2, e3⟩ : ∃ z, z = ab_u i 211 a1.toNatClampNeg (i 211 (3 + a1).toNatClampNeg) := ⟨_, rfl⟩
    rw [show ab_u i 211 a1.toNatClampNeg (i 211 (3 + a1).toNatClampNeg) = i2 from e3.symm]
    refine ab_iinc (v := (a1 + 1)) dX12_keep_93 rfl (by rfl) (Nat.le_of_ble_eq_true rfl) (L2 := [some (.ref 205), some (.int (a1 + 1))]) rfl ?_
    refine ab_goto (tgt := 74) dX12_keep_96 (by decide) ?_
    exact ((h.2 c1).2.2 i2 e3)
theorem tMX12_keep_101 {d : Nat} {Q : ab_Qt} {sc : Nat × (Nat → Int32)} {i : Nat → Nat → Int32} {l : Nat → Nat → Int64} {dd : Nat → Nat → Value} {x : Nat} {a1 : Int32} 
    (h : ((72 ≤ a1 → ab_Fr MX12_keep (d + 1) Q 130 [some (.ref 205), some (.int 0)] [] (0, 0) (i, l, dd, x) (ab_E0 sc)) ∧ (¬ 72 ≤ a1 → (vp_in (72 + a1) 144 ∧ vp_in a1 144 ∧ ∀ i2, i2 = ab_u i 214 a1.toNatClampNeg (i 214 (72 + a1).toNatClampNeg) → ab_Fr MX12_keep (d + 1) Q 101 [some (.ref 205), some (.int (a1 + 1))] [] (0, 0) (i2, l, dd, x) (ab_E0 sc))))) :
    ab_Fr MX12_keep (d + 1) Q 101 [some (.ref 205), some (.int a1)] [] (0, 0) (i, l, dd, x) (ab_E0 sc) := by
  refine ab_iloadn dX12_keep_101 rfl ?_
  refine ab_bipush (v := 72) dX12_keep_102 (by decide) ?_
  refine ab_icmp_ge (tgt := 128) dX12_keep_104 (by decide) (fun c1 => ?_) (fun c1 => ?_)
  · refine ab_iconst (v := 0) dX12_keep_128 (by decide) ?_
    refine ab_istoren dX12_keep_129 (Nat.le_of_ble_eq_true rfl) (L2 := [some (.ref 205), some (.int 0)]) rfl ?_
    exact (h.1 c1)
  · refine ab_aloadn dX12_keep_107 rfl ?_
    refine ab_getf (v := .ref 214) dX12_keep_108 fl_X12_35 kd_205 ff_205_18 ?_
    refine ab_iloadn dX12_keep_111 rfl ?_
    refine ab_aloadn dX12_keep_112 rfl ?_
    refine ab_getf (v := .ref 214) dX12_keep_113 fl_X12_35 kd_205 ff_205_18 ?_
    refine ab_bipush (v := 72) dX12_keep_116 (by decide) ?_
    refine ab_iloadn dX12_keep_118 rfl ?_
    refine ab_iadd dX12_keep_119 ?_
    refine ab_iaload (v := (i 214 (72 + a1).toNatClampNeg)) dX12_keep_120 kd_214 (h.2 c1).1 rfl ?_
    refine ab_iastore dX12_keep_121 kd_214 (h.2 c1).2.1 ?_
    obtain ⟨i2, e3⟩ : ∃ z, z = ab_u i 214 a1.toNatClampNeg (i 214 (72 + a1).toNatClampNeg) := ⟨_, rfl⟩
    rw [show ab_u i 214 a1.toNatClampNeg (i 214 (72 + a1).toNatClampNeg) = i2 from e3.symm]
    refine ab_iinc (v := (a1 + 1)) dX12_keep_122 rfl (by rfl) (Nat.le_of_ble_eq_true rfl) (L2 := [some (.ref 205), some (.int (a1 + 1))]) rfl ?_
    refine ab_goto (tgt := 101) dX12_keep_125 (by decide) ?_
    exact ((h.2 c1).2.2 i2 e3)
theorem tMX12_keep_130 {d : Nat} {Q : ab_Qt} {sc : Nat × (Nat → Int32)} {i : Nat → Nat → Int32} {l : Nat → Nat → Int64} {dd : Nat → Nat → Value} {x : Nat} {a1 : Int32} 
    (h : ((63 ≤ a1 → ab_Fr MX12_keep (d + 1) Q 159 [some (.ref 205), some (.int 0)] [] (0, 0) (i, l, dd, x) (ab_E0 sc)) ∧ (¬ 63 ≤ a1 → (vp_in (63 + a1) 126 ∧ vp_in a1 126 ∧ ∀ i2, i2 = ab_u i 213 a1.toNatClampNeg (i 213 (63 + a1).toNatClampNeg) → ab_Fr MX12_keep (d + 1) Q 130 [some (.ref 205), some (.int (a1 + 1))] [] (0, 0) (i2, l, dd, x) (ab_E0 sc))))) :
    ab_Fr MX12_keep (d + 1) Q 130 [some (.ref 205), some (.int a1)] [] (0, 0) (i, l, dd, x) (ab_E0 sc) := by
  refine ab_iloadn dX12_keep_130 rfl ?_
  refine ab_bipush (v := 63) dX12_keep_131 (by decide) ?_
  refine ab_icmp_ge (tgt := 157) dX12_keep_133 (by decide) (fun c1 => ?_) (fun c1 => ?_)
  · refine ab_iconst (v := 0) dX12_keep_157 (by decide) ?_
    refine ab_istoren dX12_keep_158 (Nat.le_of_ble_eq_true rfl) (L2 := [some (.ref 205), some (.int 0)]) rfl ?_
    exact (h.1 c1)
  · refine ab_aloadn dX12_keep_136 rfl ?_
    refine ab_getf (v := .ref 213) dX12_keep_137 fl_X12_32 kd_205 ff_205_17 ?_
    refine ab_iloadn dX12_keep_140 rfl ?_
    refine ab_aloadn dX12_keep_141 rfl ?_
    refine ab_getf (v := .ref 213) dX12_keep_142 fl_X12_32 kd_205 ff_205_17 ?_
    refine ab_bipush (v := 63) dX12_keep_145 (by decide) ?_
    refine ab_iloadn dX12_keep_147 rfl ?_
    refine ab_iadd dX12_keep_148 ?_
    refine ab_iaload (v := (i 213 (63 + a1).toNatClampNeg)) dX12_keep_149 kd_213 (h.2 c1).1 rfl ?_
    refine ab_iastore dX12_keep_150 kd_213 (h.2 c1).2.1 ?_
    obtain ⟨i2, e3⟩ : ∃ z, z = ab_u i 213 a1.toNatClampNeg (i 213 (63 + a1).toNatClampNeg) := ⟨_, rfl⟩
    rw [show ab_u i 213 a1.toNatClampNeg (i 213 (63 + a1).toNatClampNeg) = i2 from e3.symm]
    refine ab_iinc (v := (a1 + 1)) dX12_keep_151 rfl (by rfl) (Nat.le_of_ble_eq_true rfl) (L2 := [some (.ref 205), some (.int (a1 + 1))]) rfl ?_
    refine ab_goto (tgt := 130) dX12_keep_154 (by decide) ?_
    exact ((h.2 c1).2.2 i2 e3)
theorem tMX12_keep_159 {d : Nat} {Q : ab_Qt} {sc : Nat × (Nat → Int32)} {i : Nat → Nat → Int32} {l : Nat → Nat → Int64} {dd : Nat → Nat → Value} {x : Nat} {a1 : Int32} 
    (h : ((21 ≤ a1 → ab_Fr MX12_keep (d + 1) Q 188 [some (.ref 205), some (.int 0)] [] (0, 0) (i, l, dd, x) (ab_E0 sc)) ∧ (¬ 21 ≤ a1 → (vp_in (21 + a1) 42 ∧ vp_in a1 42 ∧ ∀ i2, i2 = ab_u i 217 a1.toNatClampNeg (i 217 (21 + a1).toNatClampNeg) → ab_Fr MX12_keep (d + 1) Q 159 [some (.ref 205), some (.int (a1 + 1))] [] (0, 0) (i2, l, dd, x) (ab_E0 sc))))) :
    ab_Fr MX12_keep (d + 1) Q 159 [some (.ref 205), some (.int a1)] [] (0, 0) (i, l, dd, x) (ab_E0 sc) := by
  refine ab_iloadn dX12_keep_159 rfl ?_
  refine ab_bipush (v := 21) dX12_keep_160 (by decide) ?_
  refine ab_icmp_ge (tgt := 186) dX12_keep_162 (by decide) (fun c1 => ?_) (fun c1 => ?_)
  · refine ab_iconst (v := 0) dX12_keep_186 (by decide) ?_
    refine ab_istoren dX12_keep_187 (Nat.le_of_ble_eq_true rfl) (L2 := [some (.ref 205), some (.int 0)]) rfl ?_
    exact (h.1 c1)
  · refine ab_aloadn dX12_keep_165 rfl ?_
    refine ab_getf (v := .ref 217) dX12_keep_166 fl_X12_44 kd_205 ff_205_21 ?_
    refine ab_iloadn dX12_keep_169 rfl ?_
    refine ab_aloadn dX12_keep_170 rfl ?_
    refine ab_getf (v := .ref 217) dX12_keep_171 fl_X12_44 kd_205 ff_205_21 ?_
    refine ab_bipush (v := 21) dX12_keep_174 (by decide) ?_
    refine ab_iloadn dX12_keep_176 rfl ?_
    refine ab_iadd dX12_keep_177 ?_
    refine ab_iaload (v := (i 217 (21 + a1).toNatClampNeg)) dX12_keep_178 kd_217 (h.2 c1).1 rfl ?_
    refine ab_iastore dX12_keep_179 kd_217 (h.2 c1).2.1 ?_
    obtain ⟨i2, e3⟩ : ∃ z, z = ab_u i 217 a1.toNatClampNeg (i 217 (21 + a1).toNatClampNeg) := ⟨_, rfl⟩
    rw [show ab_u i 217 a1.toNatClampNeg (i 217 (21 + a1).toNatClampNeg) = i2 from e3.symm]
    refine ab_iinc (v := (a1 + 1)) dX12_keep_180 rfl (by rfl) (Nat.le_of_ble_eq_true rfl) (L2 := [some (.ref 205), some (.int (a1 + 1))]) rfl ?_
    refine ab_goto (tgt := 159) dX12_keep_183 (by decide) ?_
    exact ((h.2 c1).2.2 i2 e3)
theorem tMX12_keep_188 {d : Nat} {Q : ab_Qt} {sc : Nat × (Nat → Int32)} {i : Nat → Nat → Int32} {l : Nat → Nat → Int64} {dd : Nat → Nat → Value} {x : Nat} {a1 : Int32} 
    (h : ((7 ≤ a1 → Q (some none) (i, l, dd, x) (ab_E0 sc)) ∧ (¬ 7 ≤ a1 → (vp_in (7 + a1) 14 ∧ vp_in a1 14 ∧ ∀ i2, i2 = ab_u i 212 a1.toNatClampNeg (i 212 (7 + a1).toNatClampNeg) → vp_in (7 + a1) 14 ∧ vp_in a1 14 ∧ ∀ i4, i4 = ab_u i2 215 a1.toNatClampNeg (i2 215 (7 + a1).toNatClampNeg) → vp_in (7 + a1) 14 ∧ vp_in a1 14 ∧ ∀ i6, i6 = ab_u i4 216 a1.toNatClampNeg (i4 216 (7 + a1).toNatClampNeg) → vp_in (7 + a1) 14 ∧ vp_in a1 14 ∧ ∀ i8, i8 = ab_u i6 218 a1.toNatClampNeg (i6 218 (7 + a1).toNatClampNeg) → ab_Fr MX12_keep (d + 1) Q 188 [some (.ref 205), some (.int (a1 + 1))] [] (0, 0) (i8, l, dd, x) (ab_E0 sc))))) :
    ab_Fr MX12_keep (d + 1) Q 188 [some (.ref 205), some (.int a1)] [] (0, 0) (i, l, dd, x) (ab_E0 sc) := by
  refine ab_iloadn dX12_keep_188 rfl ?_
  refine ab_bipush (v := 7) dX12_keep_189 (by decide) ?_
  refine ab_icmp_ge (tgt := 260) dX12_keep_191 (by decide) (fun c1 => ?_) (fun c1 => ?_)
  · exact ab_vret dX12_keep_260 rfl ⟨Nat.zero_le _, Nat.zero_le _⟩ (h.1 c1)
  · refine ab_aloadn dX12_keep_194 rfl ?_
    refine ab_getf (v := .ref 212) dX12_keep_195 fl_X12_29 kd_205 ff_205_16 ?_
    refine ab_iloadn dX12_keep_198 rfl ?_
    refine ab_aloadn dX12_keep_199 rfl ?_
    refine ab_getf (v := .ref 212) dX12_keep_200 fl_X12_29 kd_205 ff_205_16 ?_
    refine ab_bipush (v := 7) dX12_keep_203 (by decide) ?_
    refine ab_iloadn dX12_keep_205 rfl ?_
    refine ab_iadd dX12_keep_206 ?_
    refine ab_iaload (v := (i 212 (7 + a1).toNatClampNeg)) dX12_keep_207 kd_212 (h.2 c1).1 rfl ?_
    refine ab_iastore dX12_keep_208 kd_212 (h.2 c1).2.1 ?_
    obtain ⟨i2, e3⟩ : ∃ z, z = ab_u i 212 a1.toNatClampNeg (i 212 (7 + a1).toNatClampNeg) := ⟨_, rfl⟩
    rw [show ab_u i 212 a1.toNatClampNeg (i 212 (7 + a1).toNatClampNeg) = i2 from e3.symm]
    refine ab_aloadn dX12_keep_209 rfl ?_
    refine ab_getf (v := .ref 215) dX12_keep_210 fl_X12_38 kd_205 ff_205_19 ?_
    refine ab_iloadn dX12_keep_213 rfl ?_
    refine ab_aloadn dX12_keep_214 rfl ?_
    refine ab_getf (v := .ref 215) dX12_keep_215 fl_X12_38 kd_205 ff_205_19 ?_
    refine ab_bipush (v := 7) dX12_keep_218 (by decide) ?_
    refine ab_iloadn dX12_keep_220 rfl ?_
    refine ab_iadd dX12_keep_221 ?_
    refine ab_iaload (v := (i2 215 (7 + a1).toNatClampNeg)) dX12_keep_222 kd_215 ((h.2 c1).2.2 i2 e3).1 rfl ?_
    refine ab_iastore dX12_keep_223 kd_215 ((h.2 c1).2.2 i2 e3).2.1 ?_
    obtain ⟨i4, e5⟩ : ∃ z, z = ab_u i2 215 a1.toNatClampNeg (i2 215 (7 + a1).toNatClampNeg) := ⟨_, rfl⟩
    rw [show ab_u i2 215 a1.toNatClampNeg (i2 215 (7 + a1).toNatClampNeg) = i4 from e5.symm]
    refine ab_aloadn dX12_keep_224 rfl ?_
    refine ab_getf (v := .ref 216) dX12_keep_225 fl_X12_41 kd_205 ff_205_20 ?_
    refine ab_iloadn dX12_keep_228 rfl ?_
    refine ab_aloadn dX12_keep_229 rfl ?_
    refine ab_getf (v := .ref 216) dX12_keep_230 fl_X12_41 kd_205 ff_205_20 ?_
    refine ab_bipush (v := 7) dX12_keep_233 (by decide) ?_
    refine ab_iloadn dX12_keep_235 rfl ?_
    refine ab_iadd dX12_keep_236 ?_
    refine ab_iaload (v := (i4 216 (7 + a1).toNatClampNeg)) dX12_keep_237 kd_216 (((h.2 c1).2.2 i2 e3).2.2 i4 e5).1 rfl ?_
    refine ab_iastore dX12_keep_238 kd_216 (((h.2 c1).2.2 i2 e3).2.2 i4 e5).2.1 ?_
    obtain ⟨i6, e7⟩ : ∃ z, z = ab_u i4 216 a1.toNatClampNeg (i4 216 (7 + a1).toNatClampNeg) := ⟨_, rfl⟩
    rw [show ab_u i4 216 a1.toNatClampNeg (i4 216 (7 + a1).toNatClampNeg) = i6 from e7.symm]
    refine ab_aloadn dX12_keep_239 rfl ?_
    refine ab_getf (v := .ref 218) dX12_keep_240 fl_X12_47 kd_205 ff_205_22 ?_
    refine ab_iloadn dX12_keep_243 rfl ?_
    refine ab_aloadn dX12_keep_244 rfl ?_
    refine ab_getf (v := .ref 218) dX12_keep_245 fl_X12_47 kd_205 ff_205_22 ?_
    refine ab_bipush (v := 7) dX12_keep_248 (by decide) ?_
    refine ab_iloadn dX12_keep_250 rfl ?_
    refine ab_iadd dX12_keep_251 ?_
    refine ab_iaload (v := (i6 218 (7 + a1).toNatClampNeg)) dX12_keep_252 kd_218 ((((h.2 c1).2.2 i2 e3).2.2 i4 e5).2.2 i6 e7).1 rfl ?_
    refine ab_iastore dX12_keep_253 kd_218 ((((h.2 c1).2.2 i2 e3).2.2 i4 e5).2.2 i6 e7).2.1 ?_
    obtain ⟨i8, e9⟩ : ∃ z, z = ab_u i6 218 a1.toNatClampNeg (i6 218 (7 + a1).toNatClampNeg) := ⟨_, rfl⟩
    rw [show ab_u i6 218 a1.toNatClampNeg (i6 218 (7 + a1).toNatClampNeg) = i8 from e9.symm]
    refine ab_iinc (v := (a1 + 1)) dX12_keep_254 rfl (by rfl) (Nat.le_of_ble_eq_true rfl) (L2 := [some (.ref 205), some (.int (a1 + 1))]) rfl ?_
    refine ab_goto (tgt := 188) dX12_keep_257 (by decide) ?_
    exact (((((h.2 c1).2.2 i2 e3).2.2 i4 e5).2.2 i6 e7).2.2 i8 e9)
theorem tMX12_layRows_0 {d : Nat} {Q : ab_Qt} {sc : Nat × (Nat → Int32)} {i : Nat → Nat → Int32} {l : Nat → Nat → Int64} {dd : Nat → Nat → Value} {x : Nat}  
    (h : (∀ i1, i1 = ab_u i 205 29 (i 209 0) → ∀ i3, i3 = ab_u i1 205 30 (i1 210 0) → ∀ i5, i5 = ab_u i3 205 31 1 → ab_Fr MX12_layRows (d + 1) Q 27 [some (.ref 205), some (.int 0), none, none, none, none] [] (0, 0) (i5, l, dd, x) (ab_E0 sc))) :
    ab_Fr MX12_layRows (d + 1) Q 0 [some (.ref 205), none, none, none, none, none] [] (0, 0) (i, l, dd, x) (ab_E0 sc) := by
  refine ab_aloadn dX12_layRows_0 rfl ?_
  refine ab_aloadn dX12_layRows_1 rfl ?_
  refine ab_getf (v := .ref 209) dX12_layRows_2 fl_X12_20 kd_205 ff_205_13 ?_
  refine ab_iconst (v := 0) dX12_layRows_5 (by decide) ?_
  refine ab_iaload (v := (i 209 0)) dX12_layRows_6 kd_209 (ab_vp (by decide)) rfl ?_
  refine ab_putI dX12_layRows_7 fl_X12_303 kd_205 rfl ?_
  obtain ⟨i1, e2⟩ : ∃ z, z = ab_u i 205 29 (i 209 0) := ⟨_, rfl⟩
  show ab_Fr MX12_layRows (d + 1) Q 10 [some (.ref 205), none, none, none, none, none] [] (0, 0) (ab_u i 205 29 (i 209 0), l, dd, x) (ab_E0 sc)
  rw [show ab_u i 205 29 (i 209 0) = i1 from e2.symm]
  refine ab_aloadn dX12_layRows_10 rfl ?_
  refine ab_aloadn dX12_layRows_11 rfl ?_
  refine ab_getf (v := .ref 210) dX12_layRows_12 fl_X12_23 kd_205 ff_205_14 ?_
  refine ab_iconst (v := 0) dX12_layRows_15 (by decide) ?_
  refine ab_iaload (v := (i1 210 0)) dX12_layRows_16 kd_210 (ab_vp (by decide)) rfl ?_
  refine ab_putI dX12_layRows_17 fl_X12_306 kd_205 rfl ?_
  obtain ⟨i3, e4⟩ : ∃ z, z = ab_u i1 205 30 (i1 210 0) := ⟨_, rfl⟩
  show ab_Fr MX12_layRows (d + 1) Q 20 [some (.ref 205), none, none, none, none, none] [] (0, 0) (ab_u i1 205 30 (i1 210 0), l, dd, x) (ab_E0 sc)
  rw [show ab_u i1 205 30 (i1 210 0) = i3 from e4.symm]
  refine ab_aloadn dX12_layRows_20 rfl ?_
  refine ab_iconst (v := 1) dX12_layRows_21 (by decide) ?_
  refine ab_putI dX12_layRows_22 fl_X12_309 kd_205 rfl ?_
  obtain ⟨i5, e6⟩ : ∃ z, z = ab_u i3 205 31 1 := ⟨_, rfl⟩
  show ab_Fr MX12_layRows (d + 1) Q 25 [some (.ref 205), none, none, none, none, none] [] (0, 0) (ab_u i3 205 31 1, l, dd, x) (ab_E0 sc)
  rw [show ab_u i3 205 31 1 = i5 from e6.symm]
  refine ab_iconst (v := 0) dX12_layRows_25 (by decide) ?_
  refine ab_istoren dX12_layRows_26 (Nat.le_of_ble_eq_true rfl) (L2 := [some (.ref 205), some (.int 0), none, none, none, none]) rfl ?_
  exact (((h i1 e2) i3 e4) i5 e6)
theorem tMX12_layRows_27 {d : Nat} {Q : ab_Qt} {sc : Nat × (Nat → Int32)} {i : Nat → Nat → Int32} {l : Nat → Nat → Int64} {dd : Nat → Nat → Value} {x : Nat} {a1 : Int32} 
    (h : (((i 205 30) ≤ a1 → ab_Fr MX12_layRows (d + 1) Q 68 [some (.ref 205), some (.int 0), none, none, none, none] [] (0, 0) (i, l, dd, x) (ab_E0 sc)) ∧ (¬ (i 205 30) ≤ a1 → (vp_in a1 8 ∧ ∀ i2, i2 = ab_u i 223 a1.toNatClampNeg (i 205 31) → vp_in a1 14 ∧ ∀ i4, i4 = ab_u i2 205 31 ((i2 205 31) * (i2 212 a1.toNatClampNeg)) → ab_Fr MX12_layRows (d + 1) Q 27 [some (.ref 205), some (.int (a1 + 1)), none, none, none, none] [] (0, 0) (i4, l, dd, x) (ab_E0 sc))))) :
    ab_Fr MX12_layRows (d + 1) Q 27 [some (.ref 205), some (.int a1), none, none, none, none] [] (0, 0) (i, l, dd, x) (ab_E0 sc) := by
  refine ab_iloadn dX12_layRows_27 rfl ?_
  refine ab_aloadn dX12_layRows_28 rfl ?_
  refine ab_getf (v := .int (i 205 30)) dX12_layRows_29 fl_X12_306 kd_205 rfl ?_
  refine ab_icmp_ge (tgt := 66) dX12_layRows_32 (by decide) (fun c1 => ?_) (fun c1 => ?_)
  · refine ab_iconst (v := 0) dX12_layRows_66 (by decide) ?_
    refine ab_istoren dX12_layRows_67 (Nat.le_of_ble_eq_true rfl) (L2 := [some (.ref 205), some (.int 0), none, none, none, none]) rfl ?_
    exact (h.1 c1)
  · refine ab_aloadn dX12_layRows_35 rfl ?_
    refine ab_getf (v := .ref 223) dX12_layRows_36 fl_X12_62 kd_205 ff_205_32 ?_
    refine ab_iloadn dX12_layRows_39 rfl ?_
    refine ab_aloadn dX12_layRows_40 rfl ?_
    refine ab_getf (v := .int (i 205 31)) dX12_layRows_41 fl_X12_309 kd_205 rfl ?_
    refine ab_iastore dX12_layRows_44 kd_223 (h.2 c1).1 ?_
    obtain ⟨i2, e3⟩ : ∃ z, z = ab_u i 223 a1.toNatClampNeg (i 205 31) := ⟨_, rfl⟩
    rw [show ab_u i 223 a1.toNatClampNeg (i 205 31) = i2 from e3.symm]
    refine ab_aloadn dX12_layRows_45 rfl ?_
    refine ab_dup dX12_layRows_46 rfl ?_
    refine ab_getf (v := .int (i2 205 31)) dX12_layRows_47 fl_X12_309 kd_205 rfl ?_
    refine ab_aloadn dX12_layRows_50 rfl ?_
    refine ab_getf (v := .ref 212) dX12_layRows_51 fl_X12_29 kd_205 ff_205_16 ?_
    refine ab_iloadn dX12_layRows_54 rfl ?_
    refine ab_iaload (v := (i2 212 a1.toNatClampNeg)) dX12_layRows_55 kd_212 ((h.2 c1).2 i2 e3).1 rfl ?_
    refine ab_imul dX12_layRows_56 ?_
    refine ab_putI dX12_layRows_57 fl_X12_309 kd_205 rfl ?_
    obtain ⟨i4, e5⟩ : ∃ z, z = ab_u i2 205 31 ((i2 205 31) * (i2 212 a1.toNatClampNeg)) := ⟨_, rfl⟩
    show ab_Fr MX12_layRows (d + 1) Q 60 [some (.ref 205), some (.int a1), none, none, none, none] [] (0, 0) (ab_u i2 205 31 ((i2 205 31) * (i2 212 a1.toNatClampNeg)), l, dd, x) (ab_E0 sc)
    rw [show ab_u i2 205 31 ((i2 205 31) * (i2 212 a1.toNatClampNeg)) = i4 from e5.symm]
    refine ab_iinc (v := (a1 + 1)) dX12_layRows_60 rfl (by rfl) (Nat.le_of_ble_eq_true rfl) (L2 := [some (.ref 205), some (.int (a1 + 1)), none, none, none, none]) rfl ?_
    refine ab_goto (tgt := 27) dX12_layRows_63 (by decide) ?_
    exact (((h.2 c1).2 i2 e3).2 i4 e5)
theorem tMX12_layRows_68 {d : Nat} {Q : ab_Qt} {sc : Nat × (Nat → Int32)} {i : Nat → Nat → Int32} {l : Nat → Nat → Int64} {dd : Nat → Nat → Value} {x : Nat} {a1 : Int32} 
    (h : (((i 205 31) ≤ a1 → Q (some none) (i, l, dd, x) (ab_E0 sc)) ∧ (¬ (i 205 31) ≤ a1 → ab_Fr MX12_layRows (d + 1) Q 78 [some (.ref 205), some (.int a1), some (.int 0), none, none, none] [] (0, 0) (i, l, dd, x) (ab_E0 sc)))) :
    ab_Fr MX12_layRows (d + 1) Q 68 [some (.ref 205), some (.int a1), none, none, none, none] [] (0, 0) (i, l, dd, x) (ab_E0 sc) := by
  refine ab_iloadn dX12_layRows_68 rfl ?_
  refine ab_aloadn dX12_layRows_69 rfl ?_
  refine ab_getf (v := .int (i 205 31)) dX12_layRows_70 fl_X12_309 kd_205 rfl ?_
  refine ab_icmp_ge (tgt := 161) dX12_layRows_73 (by decide) (fun c1 => ?_) (fun c1 => ?_)
  · exact ab_vret dX12_layRows_161 rfl ⟨Nat.zero_le _, Nat.zero_le _⟩ (h.1 c1)
  · refine ab_iconst (v := 0) dX12_layRows_76 (by decide) ?_
    refine ab_istoren dX12_layRows_77 (Nat.le_of_ble_eq_true rfl) (L2 := [some (.ref 205), some (.int a1), some (.int 0), none, none, none]) rfl ?_
    exact (h.2 c1)
theorem tMX12_layRows_78 {d : Nat} {Q : ab_Qt} {sc : Nat × (Nat → Int32)} {i : Nat → Nat → Int32} {l : Nat → Nat → Int64} {dd : Nat → Nat → Value} {x : Nat} {a1 : Int32} {a2 : Int32} 
    (h : (((i 205 29) ≤ a2 → ab_Fr MX12_layRows (d + 1) Q 68 [some (.ref 205), some (.int (a1 + 1)), none, none, none, none] [] (0, 0) (i, l, dd, x) (ab_E0 sc)) ∧ (¬ (i 205 29) ≤ a2 → (vp_in a2 6 ∧ ab_Fr MX12_layRows (d + 1) Q 97 [some (.ref 205), some (.int a1), some (.int a2), some (.long ((i 211 a2.toNatClampNeg).toInt64)), none, some (.int 0)] [] (0, 0) (i, l, dd, x) (ab_E0 sc))))) :
    ab_Fr MX12_layRows (d + 1) Q 78 [some (.ref 205), some (.int a1), some (.int a2), none, none, none] [] (0, 0) (i, l, dd, x) (ab_E0 sc) := by
  refine ab_iloadn dX12_layRows_78 rfl ?_
  refine ab_aloadn dX12_layRows_79 rfl ?_
  refine ab_getf (v := .int (i 205 29)) dX12_layRows_80 fl_X12_303 kd_205 rfl ?_
  refine ab_icmp_ge (tgt := 155) dX12_layRows_83 (by decide) (fun c1 => ?_) (fun c1 => ?_)
  · refine ab_iinc (v := (a1 + 1)) dX12_layRows_155 rfl (by rfl) (Nat.le_of_ble_eq_true rfl) (L2 := [some (.ref 205), some (.int (a1 + 1)), some (.int a2), none, none, none]) rfl ?_
    refine ab_goto (tgt := 68) dX12_layRows_158 (by decide) ?_
    refine ab_forget (i := 2) (L2 := [some (.ref 205), some (.int (a1 + 1)), none, none, none, none]) rfl ?_
    exact (h.1 c1)
  · refine ab_aloadn dX12_layRows_86 rfl ?_
    refine ab_getf (v := .ref 211) dX12_layRows_87 fl_X12_26 kd_205 ff_205_15 ?_
    refine ab_iloadn dX12_layRows_90 rfl ?_
    refine ab_iaload (v := (i 211 a2.toNatClampNeg)) dX12_layRows_91 kd_211 (h.2 c1).1 rfl ?_
    refine ab_i2l dX12_layRows_92 rfl ?_
    refine ab_lstoren dX12_layRows_93 (Nat.le_of_ble_eq_true rfl) (L2 := [some (.ref 205), some (.int a1), some (.int a2), some (.long ((i 211 a2.toNatClampNeg).toInt64)), none, none]) rfl ?_
    refine ab_iconst (v := 0) dX12_layRows_94 (by decide) ?_
    refine ab_istore dX12_layRows_95 (Nat.le_of_ble_eq_true rfl) (L2 := [some (.ref 205), some (.int a1), some (.int a2), some (.long ((i 211 a2.toNatClampNeg).toInt64)), none, some (.int 0)]) rfl ?_
    exact (h.2 c1).2
theorem tMX12_layRows_97 {d : Nat} {Q : ab_Qt} {sc : Nat × (Nat → Int32)} {i : Nat → Nat → Int32} {l : Nat → Nat → Int64} {dd : Nat → Nat → Value} {x : Nat} {a1 : Int32} {a2 : Int32} {a3 : Int64} {a5 : Int32} 
    (h : (((i 205 30) ≤ a5 → (vp_in ((3 * a1) + a2) 6561 ∧ ∀ l2, l2 = ab_u l 224 ((3 * a1) + a2).toNatClampNeg a3 → ab_Fr MX12_layRows (d + 1) Q 78 [some (.ref 205), some (.int a1), some (.int (a2 + 1)), none, none, none] [] (0, 0) (i, l2, dd, x) (ab_E0 sc))) ∧ (¬ (i 205 30) ≤ a5 → (∃ (r4 : Int32) (P5 : ab_S → Prop), ab_Sp MX12_sign d [.ref 205, .int a1, .int a5] (i, l, dd, x) (ab_E0 sc) (some (.int r4)) P5 ∧ ∀ i8 l9 dd10 x11, P5 (i8, l9, dd10, x11) → vp_in (((9 * a5) + (3 * r4)) + a2) 126 ∧ ab_Fr MX12_layRows (d + 1) Q 97 [some (.ref 205), some (.int a1), some (.int a2), some (.long (a3 * (i8 213 (((9 * a5) + (3 * r4)) + a2).toNatClampNeg).toInt64)), none, some (.int (a5 + 1))] [] (0, 0) (i8, l9, dd10, x11) (ab_E0 sc))))) :
    ab_Fr MX12_layRows (d + 1) Q 97 [some (.ref 205), some (.int a1), some (.int a2), some (.long a3), none, some (.int a5)] [] (0, 0) (i, l, dd, x) (ab_E0 sc) := by
  refine ab_iload dX12_layRows_97 rfl ?_
  refine ab_aloadn dX12_layRows_99 rfl ?_
  refine ab_getf (v := .int (i 205 30)) dX12_layRows_100 fl_X12_306 kd_205 rfl ?_
  refine ab_icmp_ge (tgt := 138) dX12_layRows_103 (by decide) (fun c1 => ?_) (fun c1 => ?_)
  · refine ab_aloadn dX12_layRows_138 rfl ?_
    refine ab_getf (v := .ref 224) dX12_layRows_139 fl_X12_65 kd_205 ff_205_33 ?_
    refine ab_iconst (v := 3) dX12_layRows_142 (by decide) ?_
    refine ab_iloadn dX12_layRows_143 rfl ?_
    refine ab_imul dX12_layRows_144 ?_
    refine ab_iloadn dX12_layRows_145 rfl ?_
    refine ab_iadd dX12_layRows_146 ?_
    refine ab_lloadn dX12_layRows_147 rfl ?_
    refine ab_lastore dX12_layRows_148 kd_224 (h.1 c1).1 ?_
    obtain ⟨l2, e3⟩ : ∃ z, z = ab_u l 224 ((3 * a1) + a2).toNatClampNeg a3 := ⟨_, rfl⟩
    rw [show ab_u l 224 ((3 * a1) + a2).toNatClampNeg a3 = l2 from e3.symm]
    refine ab_iinc (v := (a2 + 1)) dX12_layRows_149 rfl (by rfl) (Nat.le_of_ble_eq_true rfl) (L2 := [some (.ref 205), some (.int a1), some (.int (a2 + 1)), some (.long a3), none, some (.int a5)]) rfl ?_
    refine ab_goto (tgt := 78) dX12_layRows_152 (by decide) ?_
    refine ab_forget (i := 3) (L2 := [some (.ref 205), some (.int a1), some (.int (a2 + 1)), none, none, some (.int a5)]) rfl ?_
    refine ab_forget (i := 5) (L2 := [some (.ref 205), some (.int a1), some (.int (a2 + 1)), none, none, none]) rfl ?_
    exact ((h.1 c1).2 l2 e3)
  · refine ab_lloadn dX12_layRows_106 rfl ?_
    refine ab_aloadn dX12_layRows_107 rfl ?_
    refine ab_getf (v := .ref 213) dX12_layRows_108 fl_X12_32 kd_205 ff_205_17 ?_
    refine ab_bipush (v := 9) dX12_layRows_111 (by decide) ?_
    refine ab_iload dX12_layRows_113 rfl ?_
    refine ab_imul dX12_layRows_115 ?_
    refine ab_iconst (v := 3) dX12_layRows_116 (by decide) ?_
    refine ab_aloadn dX12_layRows_117 rfl ?_
    refine ab_iloadn dX12_layRows_118 rfl ?_
    refine ab_iload dX12_layRows_119 rfl ?_
    obtain ⟨r4, P5, hs6, hk7⟩ := (h.2 c1)
    refine ab_callV (vs := [.int a1, .int a5]) (st := [.int 3, .int (9 * a5), .ref 213, .long a3]) dX12_layRows_121 okMX12_sign wd_1516 kd_205 rfl rfl rfl (Nat.le_of_ble_eq_true rfl) ⟨Nat.le_of_ble_eq_true rfl, Nat.le_of_ble_eq_true rfl⟩ hs6 ?_
    rintro v9 ⟨i8, l9, dd10, x11⟩ E9 - ⟨rfl, rfl, hp12⟩
    show ab_Fr MX12_layRows (d + 1) Q 124 [some (.ref 205), some (.int a1), some (.int a2), some (.long a3), none, some (.int a5)] [.int r4, .int 3, .int (9 * a5), .ref 213, .long a3] (0, 0) (i8, l9, dd10, x11) (ab_E0 sc)
    refine ab_imul dX12_layRows_124 ?_
    refine ab_iadd dX12_layRows_125 ?_
    refine ab_iloadn dX12_layRows_126 rfl ?_
    refine ab_iadd dX12_layRows_127 ?_
    refine ab_iaload (v := (i8 213 (((9 * a5) + (3 * r4)) + a2).toNatClampNeg)) dX12_layRows_128 kd_213 (hk7 i8 l9 dd10 x11 hp12).1 rfl ?_
    refine ab_i2l dX12_layRows_129 rfl ?_
    refine ab_lmul dX12_layRows_130 ?_
    refine ab_lstoren dX12_layRows_131 (Nat.le_of_ble_eq_true rfl) (L2 := [some (.ref 205), some (.int a1), some (.int a2), some (.long (a3 * (i8 213 (((9 * a5) + (3 * r4)) + a2).toNatClampNeg).toInt64)), none, some (.int a5)]) rfl ?_
    refine ab_iinc (v := (a5 + 1)) dX12_layRows_132 rfl (by rfl) (Nat.le_of_ble_eq_true rfl) (L2 := [some (.ref 205), some (.int a1), some (.int a2), some (.long (a3 * (i8 213 (((9 * a5) + (3 * r4)) + a2).toNatClampNeg).toInt64)), none, some (.int (a5 + 1))]) rfl ?_
    refine ab_goto (tgt := 97) dX12_layRows_135 (by decide) ?_
    exact (hk7 i8 l9 dd10 x11 hp12).2
theorem tMX12_sign_0 {d : Nat} {Q : ab_Qt} {sc : Nat × (Nat → Int32)} {i : Nat → Nat → Int32} {l : Nat → Nat → Int64} {dd : Nat → Nat → Value} {x : Nat} {a1 : Int32} {a2 : Int32} 
    (h : (vp_in a2 8 ∧ ¬ (i 223 a2.toNatClampNeg) = 0 ∧ vp_in a2 14 ∧ ¬ (i 212 a2.toNatClampNeg) = 0 ∧ Q (some (some (.int ((a1 / (i 223 a2.toNatClampNeg)) - (a1 / (i 223 a2.toNatClampNeg)) / (i 212 a2.toNatClampNeg) * (i 212 a2.toNatClampNeg))))) (i, l, dd, x) (ab_E0 sc))) :
    ab_Fr MX12_sign (d + 1) Q 0 [some (.ref 205), some (.int a1), some (.int a2)] [] (0, 0) (i, l, dd, x) (ab_E0 sc) := by
  refine ab_iloadn dX12_sign_0 rfl ?_
  refine ab_aloadn dX12_sign_1 rfl ?_
  refine ab_getf (v := .ref 223) dX12_sign_2 fl_X12_62 kd_205 ff_205_32 ?_
  refine ab_iloadn dX12_sign_5 rfl ?_
  refine ab_iaload (v := (i 223 a2.toNatClampNeg)) dX12_sign_6 kd_223 h.1 rfl ?_
  refine ab_idiv dX12_sign_7 h.2.1 ?_
  refine ab_aloadn dX12_sign_8 rfl ?_
  refine ab_getf (v := .ref 212) dX12_sign_9 fl_X12_29 kd_205 ff_205_16 ?_
  refine ab_iloadn dX12_sign_12 rfl ?_
  refine ab_iaload (v := (i 212 a2.toNatClampNeg)) dX12_sign_13 kd_212 h.2.2.1 rfl ?_
  refine ab_irem dX12_sign_14 h.2.2.2.1 ?_
  exact ab_iret dX12_sign_15 rfl ⟨Nat.zero_le _, Nat.zero_le _⟩ h.2.2.2.2
theorem tMX12_layVotes_0 {d : Nat} {Q : ab_Qt} {sc : Nat × (Nat → Int32)} {i : Nat → Nat → Int32} {l : Nat → Nat → Int64} {dd : Nat → Nat → Value} {x : Nat}  
    (h : ab_Fr MX12_layVotes (d + 1) Q 2 [some (.ref 205), some (.int 0), none] [] (0, 0) (i, l, dd, x) (ab_E0 sc)) :
    ab_Fr MX12_layVotes (d + 1) Q 0 [some (.ref 205), none, none] [] (0, 0) (i, l, dd, x) (ab_E0 sc) := by
  refine ab_iconst (v := 0) dX12_layVotes_0 (by decide) ?_
  refine ab_istoren dX12_layVotes_1 (Nat.le_of_ble_eq_true rfl) (L2 := [some (.ref 205), some (.int 0), none]) rfl ?_
  exact h
theorem tMX12_layVotes_2 {d : Nat} {Q : ab_Qt} {sc : Nat × (Nat → Int32)} {i : Nat → Nat → Int32} {l : Nat → Nat → Int64} {dd : Nat → Nat → Value} {x : Nat} {a1 : Int32} 
    (h : (((i 205 30) ≤ a1 → Q (some none) (i, l, dd, x) (ab_E0 sc)) ∧ (¬ (i 205 30) ≤ a1 → ab_Fr MX12_layVotes (d + 1) Q 12 [some (.ref 205), some (.int a1), some (.int 0)] [] (0, 0) (i, l, dd, x) (ab_E0 sc)))) :
    ab_Fr MX12_layVotes (d + 1) Q 2 [some (.ref 205), some (.int a1), none] [] (0, 0) (i, l, dd, x) (ab_E0 sc) := by
  refine ab_iloadn dX12_layVotes_2 rfl ?_
  refine ab_aloadn dX12_layVotes_3 rfl ?_
  refine ab_getf (v := .int (i 205 30)) dX12_layVotes_4 fl_X12_306 kd_205 rfl ?_
  refine ab_icmp_ge (tgt := 50) dX12_layVotes_7 (by decide) (fun c1 => ?_) (fun c1 => ?_)
  · exact ab_vret dX12_layVotes_50 rfl ⟨Nat.zero_le _, Nat.zero_le _⟩ (h.1 c1)
  · refine ab_iconst (v := 0) dX12_layVotes_10 (by decide) ?_
    refine ab_istoren dX12_layVotes_11 (Nat.le_of_ble_eq_true rfl) (L2 := [some (.ref 205), some (.int a1), some (.int 0)]) rfl ?_
    exact (h.2 c1)
theorem tMX12_layVotes_12 {d : Nat} {Q : ab_Qt} {sc : Nat × (Nat → Int32)} {i : Nat → Nat → Int32} {l : Nat → Nat → Int64} {dd : Nat → Nat → Value} {x : Nat} {a1 : Int32} {a2 : Int32} 
    (h : (vp_in a1 14 ∧ (((i 212 a1.toNatClampNeg) ≤ a2 → ab_Fr MX12_layVotes (d + 1) Q 2 [some (.ref 205), some (.int (a1 + 1)), none] [] (0, 0) (i, l, dd, x) (ab_E0 sc)) ∧ (¬ (i 212 a1.toNatClampNeg) ≤ a2 → (∃ (r2 : Int32) (P3 : ab_S → Prop), ab_Sp MX12_told d [.ref 205, .int a1, .int a2] (i, l, dd, x) (ab_E0 sc) (some (.int r2)) P3 ∧ ∀ i6 l7 dd8 x9, P3 (i6, l7, dd8, x9) → vp_in ((3 * a1) + a2) 42 ∧ ∀ i11, i11 = ab_u i6 225 ((3 * a1) + a2).toNatClampNeg r2 → ab_Fr MX12_layVotes (d + 1) Q 12 [some (.ref 205), some (.int a1), some (.int (a2 + 1))] [] (0, 0) (i11, l7, dd8, x9) (ab_E0 sc)))))) :
    ab_Fr MX12_layVotes (d + 1) Q 12 [some (.ref 205), some (.int a1), some (.int a2)] [] (0, 0) (i, l, dd, x) (ab_E0 sc) := by
  refine ab_iloadn dX12_layVotes_12 rfl ?_
  refine ab_aloadn dX12_layVotes_13 rfl ?_
  refine ab_getf (v := .ref 212) dX12_layVotes_14 fl_X12_29 kd_205 ff_205_16 ?_
  refine ab_iloadn dX12_layVotes_17 rfl ?_
  refine ab_iaload (v := (i 212 a1.toNatClampNeg)) dX12_layVotes_18 kd_212 h.1 rfl ?_
  refine ab_icmp_ge (tgt := 44) dX12_layVotes_19 (by decide) (fun c1 => ?_) (fun c1 => ?_)
  · refine ab_iinc (v := (a1 + 1)) dX12_layVotes_44 rfl (by rfl) (Nat.le_of_ble_eq_true rfl) (L2 := [some (.ref 205), some (.int (a1 + 1)), some (.int a2)]) rfl ?_
    refine ab_goto (tgt := 2) dX12_layVotes_47 (by decide) ?_
    refine ab_forget (i := 2) (L2 := [some (.ref 205), some (.int (a1 + 1)), none]) rfl ?_
    exact (h.2.1 c1)
  · refine ab_aloadn dX12_layVotes_22 rfl ?_
    refine ab_getf (v := .ref 225) dX12_layVotes_23 fl_X12_68 kd_205 ff_205_34 ?_
    refine ab_iconst (v := 3) dX12_layVotes_26 (by decide) ?_
    refine ab_iloadn dX12_layVotes_27 rfl ?_
    refine ab_imul dX12_layVotes_28 ?_
    refine ab_iloadn dX12_layVotes_29 rfl ?_
    refine ab_iadd dX12_layVotes_30 ?_
    refine ab_aloadn dX12_layVotes_31 rfl ?_
    refine ab_iloadn dX12_layVotes_32 rfl ?_
    refine ab_iloadn dX12_layVotes_33 rfl ?_
    obtain ⟨r2, P3, hs4, hk5⟩ := (h.2.2 c1)
    refine ab_callV (vs := [.int a1, .int a2]) (st := [.int ((3 * a1) + a2), .ref 225]) dX12_layVotes_34 okMX12_told wd_1522 kd_205 rfl rfl rfl (Nat.le_of_ble_eq_true rfl) ⟨Nat.le_of_ble_eq_true rfl, Nat.le_of_ble_eq_true rfl⟩ hs4 ?_
    rintro v9 ⟨i6, l7, dd8, x9⟩ E9 - ⟨rfl, rfl, hp10⟩
    show ab_Fr MX12_layVotes (d + 1) Q 37 [some (.ref 205), some (.int a1), some (.int a2)] [.int r2, .int ((3 * a1) + a2), .ref 225] (0, 0) (i6, l7, dd8, x9) (ab_E0 sc)
    refine ab_iastore dX12_layVotes_37 kd_225 (hk5 i6 l7 dd8 x9 hp10).1 ?_
    obtain ⟨i11, e12⟩ : ∃ z, z = ab_u i6 225 ((3 * a1) + a2).toNatClampNeg r2 := ⟨_, rfl⟩
    rw [show ab_u i6 225 ((3 * a1) + a2).toNatClampNeg r2 = i11 from e12.symm]
    refine ab_iinc (v := (a2 + 1)) dX12_layVotes_38 rfl (by rfl) (Nat.le_of_ble_eq_true rfl) (L2 := [some (.ref 205), some (.int a1), some (.int (a2 + 1))]) rfl ?_
    refine ab_goto (tgt := 12) dX12_layVotes_41 (by decide) ?_
    exact ((hk5 i6 l7 dd8 x9 hp10).2 i11 e12)
theorem tMX12_told_0 {d : Nat} {Q : ab_Qt} {sc : Nat × (Nat → Int32)} {i : Nat → Nat → Int32} {l : Nat → Nat → Int64} {dd : Nat → Nat → Value} {x : Nat} {a1 : Int32} {a2 : Int32} 
    (h : (vp_in a1 14 ∧ ((¬ (i 215 a1.toNatClampNeg) = 3 → (vp_in a1 14 ∧ ((¬ (i 215 a1.toNatClampNeg) = 1 → (∃ (r3 : Int32) (P4 : ab_S → Prop), ab_Sp MX12_honest d [.ref 205, .int a1, .int a2] (i, l, dd, x) (ab_E0 sc) (some (.int r3)) P4 ∧ ∀ i7 l8 dd9 x10, P4 (i7, l8, dd9, x10) → vp_in a1 14 ∧ ((¬ (i7 215 a1.toNatClampNeg) = 0 → ab_Fr MX12_told (d + 1) Q 114 [some (.ref 205), some (.int a1), some (.int a2), some (.int r3), some (.long 0), none, some (.int 0)] [] (0, 0) (i7, l8, dd9, x10) (ab_E0 sc)) ∧ ((i7 215 a1.toNatClampNeg) = 0 → Q (some (some (.int r3))) (i7, l8, dd9, x10) (ab_E0 sc))))) ∧ ((i 215 a1.toNatClampNeg) = 1 → ab_Fr MX12_told (d + 1) Q 36 [some (.ref 205), some (.int a1), some (.int a2), some (.int 0), some (.int 1), none, none] [] (0, 0) (i, l, dd, x) (ab_E0 sc))))) ∧ ((i 215 a1.toNatClampNeg) = 3 → (vp_in ((3 * a1) + a2) 42 ∧ Q (some (some (.int (i 217 ((3 * a1) + a2).toNatClampNeg)))) (i, l, dd, x) (ab_E0 sc)))))) :
    ab_Fr MX12_told (d + 1) Q 0 [some (.ref 205), some (.int a1), some (.int a2), none, none, none, none] [] (0, 0) (i, l, dd, x) (ab_E0 sc) := by
  refine ab_aloadn dX12_told_0 rfl ?_
  refine ab_getf (v := .ref 215) dX12_told_1 fl_X12_38 kd_205 ff_205_19 ?_
  refine ab_iloadn dX12_told_4 rfl ?_
  refine ab_iaload (v := (i 215 a1.toNatClampNeg)) dX12_told_5 kd_215 h.1 rfl ?_
  refine ab_iconst (v := 3) dX12_told_6 (by decide) ?_
  refine ab_icmp_ne (tgt := 21) dX12_told_7 (by decide) (fun c1 => ?_) (fun c1 => ?_)
  · refine ab_aloadn dX12_told_21 rfl ?_
    refine ab_getf (v := .ref 215) dX12_told_22 fl_X12_38 kd_205 ff_205_19 ?_
    refine ab_iloadn dX12_told_25 rfl ?_
    refine ab_iaload (v := (i 215 a1.toNatClampNeg)) dX12_told_26 kd_215 (h.2.1 c1).1 rfl ?_
    refine ab_iconst (v := 1) dX12_told_27 (by decide) ?_
    refine ab_icmp_ne (tgt := 90) dX12_told_28 (by decide) (fun c2 => ?_) (fun c2 => ?_)
    · refine ab_aloadn dX12_told_90 rfl ?_
      refine ab_iloadn dX12_told_91 rfl ?_
      refine ab_iloadn dX12_told_92 rfl ?_
      obtain ⟨r3, P4, hs5, hk6⟩ := ((h.2.1 c1).2.1 c2)
      refine ab_callV (vs := [.int a1, .int a2]) (st := []) dX12_told_93 okMX12_honest wd_1525 kd_205 rfl rfl rfl (Nat.le_of_ble_eq_true rfl) ⟨Nat.le_of_ble_eq_true rfl, Nat.le_of_ble_eq_true rfl⟩ hs5 ?_
      rintro v9 ⟨i7, l8, dd9, x10⟩ E9 - ⟨rfl, rfl, hp11⟩
      show ab_Fr MX12_told (d + 1) Q 96 [some (.ref 205), some (.int a1), some (.int a2), none, none, none, none] [.int r3] (0, 0) (i7, l8, dd9, x10) (ab_E0 sc)
      refine ab_istoren dX12_told_96 (Nat.le_of_ble_eq_true rfl) (L2 := [some (.ref 205), some (.int a1), some (.int a2), some (.int r3), none, none, none]) rfl ?_
      refine ab_aloadn dX12_told_97 rfl ?_
      refine ab_getf (v := .ref 215) dX12_told_98 fl_X12_38 kd_205 ff_205_19 ?_
      refine ab_iloadn dX12_told_101 rfl ?_
      refine ab_iaload (v := (i7 215 a1.toNatClampNeg)) dX12_told_102 kd_215 (hk6 i7 l8 dd9 x10 hp11).1 rfl ?_
      refine ab_if_ne (tgt := 108) dX12_told_103 (by decide) (fun c12 => ?_) (fun c12 => ?_)
      · refine ab_lconst (v := 0) dX12_told_108 (by decide) ?_
        refine ab_lstore dX12_told_109 (Nat.le_of_ble_eq_true rfl) (L2 := [some (.ref 205), some (.int a1), some (.int a2), some (.int r3), some (.long 0), none, none]) rfl ?_
        refine ab_iconst (v := 0) dX12_told_111 (by decide) ?_
        refine ab_istore dX12_told_112 (Nat.le_of_ble_eq_true rfl) (L2 := [some (.ref 205), some (.int a1), some (.int a2), some (.int r3), some (.long 0), none, some (.int 0)]) rfl ?_
        exact ((hk6 i7 l8 dd9 x10 hp11).2.1 c12)
      · refine ab_iloadn dX12_told_106 rfl ?_
        exact ab_iret dX12_told_107 rfl ⟨Nat.zero_le _, Nat.zero_le _⟩ ((hk6 i7 l8 dd9 x10 hp11).2.2 c12)
    · refine ab_iconst (v := 0) dX12_told_31 (by decide) ?_
      refine ab_istoren dX12_told_32 (Nat.le_of_ble_eq_true rfl) (L2 := [some (.ref 205), some (.int a1), some (.int a2), some (.int 0), none, none, none]) rfl ?_
      refine ab_iconst (v := 1) dX12_told_33 (by decide) ?_
      refine ab_istore dX12_told_34 (Nat.le_of_ble_eq_true rfl) (L2 := [some (.ref 205), some (.int a1), some (.int a2), some (.int 0), some (.int 1), none, none]) rfl ?_
      exact ((h.2.1 c1).2.2 c2)
  · refine ab_aloadn dX12_told_10 rfl ?_
    refine ab_getf (v := .ref 217) dX12_told_11 fl_X12_44 kd_205 ff_205_21 ?_
    refine ab_iconst (v := 3) dX12_told_14 (by decide) ?_
    refine ab_iloadn dX12_told_15 rfl ?_
    refine ab_imul dX12_told_16 ?_
    refine ab_iloadn dX12_told_17 rfl ?_
    refine ab_iadd dX12_told_18 ?_
    refine ab_iaload (v := (i 217 ((3 * a1) + a2).toNatClampNeg)) dX12_told_19 kd_217 (h.2.2 c1).1 rfl ?_
    exact ab_iret dX12_told_20 rfl ⟨Nat.zero_le _, Nat.zero_le _⟩ (h.2.2 c1).2
theorem tMX12_told_36 {d : Nat} {Q : ab_Qt} {sc : Nat × (Nat → Int32)} {i : Nat → Nat → Int32} {l : Nat → Nat → Int64} {dd : Nat → Nat → Value} {x : Nat} {a1 : Int32} {a2 : Int32} {a3 : Int32} {a4 : Int32} 
    (h : (((i 205 29) ≤ a4 → Q (some (some (.int a3))) (i, l, dd, x) (ab_E0 sc)) ∧ (¬ (i 205 29) ≤ a4 → (vp_in (((9 * a1) + (3 * a2)) + a4) 126 ∧ vp_in (((9 * a1) + (3 * a2)) + a3) 126 ∧ (((i 213 (((9 * a1) + (3 * a2)) + a4).toNatClampNeg) ≤ (i 213 (((9 * a1) + (3 * a2)) + a3).toNatClampNeg) → ab_Fr MX12_told (d + 1) Q 36 [some (.ref 205), some (.int a1), some (.int a2), some (.int a3), some (.int (a4 + 1)), none, none] [] (0, 0) (i, l, dd, x) (ab_E0 sc)) ∧ (¬ (i 213 (((9 * a1) + (3 * a2)) + a4).toNatClampNeg) ≤ (i 213 (((9 * a1) + (3 * a2)) + a3).toNatClampNeg) → ab_Fr MX12_told (d + 1) Q 36 [some (.ref 205), some (.int a1), some (.int a2), some (.int a4), some (.int (a4 + 1)), none, none] [] (0, 0) (i, l, dd, x) (ab_E0 sc))))))) :
    ab_Fr MX12_told (d + 1) Q 36 [some (.ref 205), some (.int a1), some (.int a2), some (.int a3), some (.int a4), none, none] [] (0, 0) (i, l, dd, x) (ab_E0 sc) := by
  refine ab_iload dX12_told_36 rfl ?_
  refine ab_aloadn dX12_told_38 rfl ?_
  refine ab_getf (v := .int (i 205 29)) dX12_told_39 fl_X12_303 kd_205 rfl ?_
  refine ab_icmp_ge (tgt := 88) dX12_told_42 (by decide) (fun c1 => ?_) (fun c1 => ?_)
  · refine ab_iloadn dX12_told_88 rfl ?_
    exact ab_iret dX12_told_89 rfl ⟨Nat.zero_le _, Nat.zero_le _⟩ (h.1 c1)
  · refine ab_aloadn dX12_told_45 rfl ?_
    refine ab_getf (v := .ref 213) dX12_told_46 fl_X12_32 kd_205 ff_205_17 ?_
    refine ab_bipush (v := 9) dX12_told_49 (by decide) ?_
    refine ab_iloadn dX12_told_51 rfl ?_
    refine ab_imul dX12_told_52 ?_
    refine ab_iconst (v := 3) dX12_told_53 (by decide) ?_
    refine ab_iloadn dX12_told_54 rfl ?_
    refine ab_imul dX12_told_55 ?_
    refine ab_iadd dX12_told_56 ?_
    refine ab_iload dX12_told_57 rfl ?_
    refine ab_iadd dX12_told_59 ?_
    refine ab_iaload (v := (i 213 (((9 * a1) + (3 * a2)) + a4).toNatClampNeg)) dX12_told_60 kd_213 (h.2 c1).1 rfl ?_
    refine ab_aloadn dX12_told_61 rfl ?_
    refine ab_getf (v := .ref 213) dX12_told_62 fl_X12_32 kd_205 ff_205_17 ?_
    refine ab_bipush (v := 9) dX12_told_65 (by decide) ?_
    refine ab_iloadn dX12_told_67 rfl ?_
    refine ab_imul dX12_told_68 ?_
    refine ab_iconst (v := 3) dX12_told_69 (by decide) ?_
    refine ab_iloadn dX12_told_70 rfl ?_
    refine ab_imul dX12_told_71 ?_
    refine ab_iadd dX12_told_72 ?_
    refine ab_iloadn dX12_told_73 rfl ?_
    refine ab_iadd dX12_told_74 ?_
    refine ab_iaload (v := (i 213 (((9 * a1) + (3 * a2)) + a3).toNatClampNeg)) dX12_told_75 kd_213 (h.2 c1).2.1 rfl ?_
    refine ab_icmp_le (tgt := 82) dX12_told_76 (by decide) (fun c2 => ?_) (fun c2 => ?_)
    · refine ab_iinc (v := (a4 + 1)) dX12_told_82 rfl (by rfl) (Nat.le_of_ble_eq_true rfl) (L2 := [some (.ref 205), some (.int a1), some (.int a2), some (.int a3), some (.int (a4 + 1)), none, none]) rfl ?_
      refine ab_goto (tgt := 36) dX12_told_85 (by decide) ?_
      exact ((h.2 c1).2.2.1 c2)
    · refine ab_iload dX12_told_79 rfl ?_
      refine ab_istoren dX12_told_81 (Nat.le_of_ble_eq_true rfl) (L2 := [some (.ref 205), some (.int a1), some (.int a2), some (.int a4), some (.int a4), none, none]) rfl ?_
      refine ab_iinc (v := (a4 + 1)) dX12_told_82 rfl (by rfl) (Nat.le_of_ble_eq_true rfl) (L2 := [some (.ref 205), some (.int a1), some (.int a2), some (.int a4), some (.int (a4 + 1)), none, none]) rfl ?_
      refine ab_goto (tgt := 36) dX12_told_85 (by decide) ?_
      exact ((h.2 c1).2.2.2 c2)
theorem tMX12_told_114 {d : Nat} {Q : ab_Qt} {sc : Nat × (Nat → Int32)} {i : Nat → Nat → Int32} {l : Nat → Nat → Int64} {dd : Nat → Nat → Value} {x : Nat} {a1 : Int32} {a2 : Int32} {a3 : Int32} {a4 : Int64} {a6 : Int32} 
    (h : (((i 205 29) ≤ a6 → (∃ (r2 : Int64) (P3 : ab_S → Prop), ab_Sp MX12_weightOf d [.ref 205, .int a1, .int a2, .int a3] (i, l, dd, x) (ab_E0 sc) (some (.long r2)) P3 ∧ ∀ i6 l7 dd8 x9, P3 (i6, l7, dd8, x9) → vp_in a1 14 ∧ (((20 * r2) < ((i6 216 a1.toNatClampNeg).toInt64 * a4) → Q (some (some (.int 9))) (i6, l7, dd8, x9) (ab_E0 sc)) ∧ (¬ (20 * r2) < ((i6 216 a1.toNatClampNeg).toInt64 * a4) → Q (some (some (.int a3))) (i6, l7, dd8, x9) (ab_E0 sc))))) ∧ (¬ (i 205 29) ≤ a6 → (∃ (r12 : Int64) (P13 : ab_S → Prop), ab_Sp MX12_weightOf d [.ref 205, .int a1, .int a2, .int a6] (i, l, dd, x) (ab_E0 sc) (some (.long r12)) P13 ∧ ∀ i16 l17 dd18 x19, P13 (i16, l17, dd18, x19) → ab_Fr MX12_told (d + 1) Q 114 [some (.ref 205), some (.int a1), some (.int a2), some (.int a3), some (.long (a4 + r12)), none, some (.int (a6 + 1))] [] (0, 0) (i16, l17, dd18, x19) (ab_E0 sc))))) :
    ab_Fr MX12_told (d + 1) Q 114 [some (.ref 205), some (.int a1), some (.int a2), some (.int a3), some (.long a4), none, some (.int a6)] [] (0, 0) (i, l, dd, x) (ab_E0 sc) := by
  refine ab_iload dX12_told_114 rfl ?_
  refine ab_aloadn dX12_told_116 rfl ?_
  refine ab_getf (v := .int (i 205 29)) dX12_told_117 fl_X12_303 kd_205 rfl ?_
  refine ab_icmp_ge (tgt := 142) dX12_told_120 (by decide) (fun c1 => ?_) (fun c1 => ?_)
  · refine ab_ldc2 dX12_told_142 wd_1540 ?_
    refine ab_aloadn dX12_told_145 rfl ?_
    refine ab_iloadn dX12_told_146 rfl ?_
    refine ab_iloadn dX12_told_147 rfl ?_
    refine ab_iloadn dX12_told_148 rfl ?_
    obtain ⟨r2, P3, hs4, hk5⟩ := (h.1 c1)
    refine ab_callV (vs := [.int a1, .int a2, .int a3]) (st := [.long 20]) dX12_told_149 okMX12_weightOf wd_1531 kd_205 rfl rfl rfl (Nat.le_of_ble_eq_true rfl) ⟨Nat.le_of_ble_eq_true rfl, Nat.le_of_ble_eq_true rfl⟩ hs4 ?_
    rintro v9 ⟨i6, l7, dd8, x9⟩ E9 - ⟨rfl, rfl, hp10⟩
    show ab_Fr MX12_told (d + 1) Q 152 [some (.ref 205), some (.int a1), some (.int a2), some (.int a3), some (.long a4), none, some (.int a6)] [.long r2, .long 20] (0, 0) (i6, l7, dd8, x9) (ab_E0 sc)
    refine ab_lmul dX12_told_152 ?_
    refine ab_aloadn dX12_told_153 rfl ?_
    refine ab_getf (v := .ref 216) dX12_told_154 fl_X12_41 kd_205 ff_205_20 ?_
    refine ab_iloadn dX12_told_157 rfl ?_
    refine ab_iaload (v := (i6 216 a1.toNatClampNeg)) dX12_told_158 kd_216 (hk5 i6 l7 dd8 x9 hp10).1 rfl ?_
    refine ab_i2l dX12_told_159 rfl ?_
    refine ab_lload dX12_told_160 rfl ?_
    refine ab_lmul dX12_told_162 ?_
    refine ab_lclt (tgt := 171) dX12_told_163 dX12_told_164 (by decide) (fun c11 => ?_) (fun c11 => ?_)
    · refine ab_bipush (v := 9) dX12_told_171 (by decide) ?_
      exact ab_iret dX12_told_173 rfl ⟨Nat.zero_le _, Nat.zero_le _⟩ ((hk5 i6 l7 dd8 x9 hp10).2.1 c11)
    · refine ab_iloadn dX12_told_167 rfl ?_
      refine ab_goto (tgt := 173) dX12_told_168 (by decide) ?_
      exact ab_iret dX12_told_173 rfl ⟨Nat.zero_le _, Nat.zero_le _⟩ ((hk5 i6 l7 dd8 x9 hp10).2.2 c11)
  · refine ab_lload dX12_told_123 rfl ?_
    refine ab_aloadn dX12_told_125 rfl ?_
    refine ab_iloadn dX12_told_126 rfl ?_
    refine ab_iloadn dX12_told_127 rfl ?_
    refine ab_iload dX12_told_128 rfl ?_
    obtain ⟨r12, P13, hs14, hk15⟩ := (h.2 c1)
    refine ab_callV (vs := [.int a1, .int a2, .int a6]) (st := [.long a4]) dX12_told_130 okMX12_weightOf wd_1531 kd_205 rfl rfl rfl (Nat.le_of_ble_eq_true rfl) ⟨Nat.le_of_ble_eq_true rfl, Nat.le_of_ble_eq_true rfl⟩ hs14 ?_
    rintro v9 ⟨i16, l17, dd18, x19⟩ E9 - ⟨rfl, rfl, hp20⟩
    show ab_Fr MX12_told (d + 1) Q 133 [some (.ref 205), some (.int a1), some (.int a2), some (.int a3), some (.long a4), none, some (.int a6)] [.long r12, .long a4] (0, 0) (i16, l17, dd18, x19) (ab_E0 sc)
    refine ab_ladd dX12_told_133 ?_
    refine ab_lstore dX12_told_134 (Nat.le_of_ble_eq_true rfl) (L2 := [some (.ref 205), some (.int a1), some (.int a2), some (.int a3), some (.long (a4 + r12)), none, some (.int a6)]) rfl ?_
    refine ab_iinc (v := (a6 + 1)) dX12_told_136 rfl (by rfl) (Nat.le_of_ble_eq_true rfl) (L2 := [some (.ref 205), some (.int a1), some (.int a2), some (.int a3), some (.long (a4 + r12)), none, some (.int (a6 + 1))]) rfl ?_
    refine ab_goto (tgt := 114) dX12_told_139 (by decide) ?_
    exact (hk15 i16 l17 dd18 x19 hp20)
theorem tMX12_honest_0 {d : Nat} {Q : ab_Qt} {sc : Nat × (Nat → Int32)} {i : Nat → Nat → Int32} {l : Nat → Nat → Int64} {dd : Nat → Nat → Value} {x : Nat} {a1 : Int32} {a2 : Int32} 
    (h : (∃ (r1 : Int64) (P2 : ab_S → Prop), ab_Sp MX12_losing d [.ref 205, .int a1, .int a2, .int 0] (i, l, dd, x) (ab_E0 sc) (some (.long r1)) P2 ∧ ∀ i5 l6 dd7 x8, P2 (i5, l6, dd7, x8) → ∃ (r10 : Int64) (P11 : ab_S → Prop), ab_Sp MX12_losing d [.ref 205, .int a1, .int a2, .int 1] (i5, l6, dd7, x8) (ab_E0 sc) (some (.long r10)) P11 ∧ ∀ i14 l15 dd16 x17, P11 (i14, l15, dd16, x17) → ((¬ (i14 205 29) = 3 → ab_Fr MX12_honest (d + 1) Q 34 [none, none, none] [.long 0, .long r10, .long r1, .ref 205] (0, 0) (i14, l15, dd16, x17) (ab_E0 sc)) ∧ ((i14 205 29) = 3 → (∃ (r20 : Int64) (P21 : ab_S → Prop), ab_Sp MX12_losing d [.ref 205, .int a1, .int a2, .int 2] (i14, l15, dd16, x17) (ab_E0 sc) (some (.long r20)) P21 ∧ ∀ i24 l25 dd26 x27, P21 (i24, l25, dd26, x27) → ab_Fr MX12_honest (d + 1) Q 34 [none, none, none] [.long r20, .long r10, .long r1, .ref 205] (0, 0) (i24, l25, dd26, x27) (ab_E0 sc)))))) :
    ab_Fr MX12_honest (d + 1) Q 0 [some (.ref 205), some (.int a1), some (.int a2)] [] (0, 0) (i, l, dd, x) (ab_E0 sc) := by
  refine ab_aloadn dX12_honest_0 rfl ?_
  refine ab_aloadn dX12_honest_1 rfl ?_
  refine ab_iloadn dX12_honest_2 rfl ?_
  refine ab_iloadn dX12_honest_3 rfl ?_
  refine ab_iconst (v := 0) dX12_honest_4 (by decide) ?_
  obtain ⟨r1, P2, hs3, hk4⟩ := h
  refine ab_callV (vs := [.int a1, .int a2, .int 0]) (st := [.ref 205]) dX12_honest_5 okMX12_losing wd_1528 kd_205 rfl rfl rfl (Nat.le_of_ble_eq_true rfl) ⟨Nat.le_of_ble_eq_true rfl, Nat.le_of_ble_eq_true rfl⟩ hs3 ?_
  rintro v9 ⟨i5, l6, dd7, x8⟩ E9 - ⟨rfl, rfl, hp9⟩
  show ab_Fr MX12_honest (d + 1) Q 8 [some (.ref 205), some (.int a1), some (.int a2)] [.long r1, .ref 205] (0, 0) (i5, l6, dd7, x8) (ab_E0 sc)
  refine ab_aloadn dX12_honest_8 rfl ?_
  refine ab_iloadn dX12_honest_9 rfl ?_
  refine ab_iloadn dX12_honest_10 rfl ?_
  refine ab_iconst (v := 1) dX12_honest_11 (by decide) ?_
  obtain ⟨r10, P11, hs12, hk13⟩ := (hk4 i5 l6 dd7 x8 hp9)
  refine ab_callV (vs := [.int a1, .int a2, .int 1]) (st := [.long r1, .ref 205]) dX12_honest_12 okMX12_losing wd_1528 kd_205 rfl rfl rfl (Nat.le_of_ble_eq_true rfl) ⟨Nat.le_of_ble_eq_true rfl, Nat.le_of_ble_eq_true rfl⟩ hs12 ?_
  rintro v9 ⟨i14, l15, dd16, x17⟩ E9 - ⟨rfl, rfl, hp18⟩
  show ab_Fr MX12_honest (d + 1) Q 15 [some (.ref 205), some (.int a1), some (.int a2)] [.long r10, .long r1, .ref 205] (0, 0) (i14, l15, dd16, x17) (ab_E0 sc)
  refine ab_aloadn dX12_honest_15 rfl ?_
  refine ab_getf (v := .int (i14 205 29)) dX12_honest_16 fl_X12_303 kd_205 rfl ?_
  refine ab_iconst (v := 3) dX12_honest_19 (by decide) ?_
  refine ab_icmp_ne (tgt := 33) dX12_honest_20 (by decide) (fun c19 => ?_) (fun c19 => ?_)
  · refine ab_lconst (v := 0) dX12_honest_33 (by decide) ?_
    refine ab_forget (i := 0) (L2 := [none, some (.int a1), some (.int a2)]) rfl ?_
    refine ab_forget (i := 1) (L2 := [none, none, some (.int a2)]) rfl ?_
    refine ab_forget (i := 2) (L2 := [none, none, none]) rfl ?_
    exact ((hk13 i14 l15 dd16 x17 hp18).1 c19)
  · refine ab_aloadn dX12_honest_23 rfl ?_
    refine ab_iloadn dX12_honest_24 rfl ?_
    refine ab_iloadn dX12_honest_25 rfl ?_
    refine ab_iconst (v := 2) dX12_honest_26 (by decide) ?_
    obtain ⟨r20, P21, hs22, hk23⟩ := ((hk13 i14 l15 dd16 x17 hp18).2 c19)
    refine ab_callV (vs := [.int a1, .int a2, .int 2]) (st := [.long r10, .long r1, .ref 205]) dX12_honest_27 okMX12_losing wd_1528 kd_205 rfl rfl rfl (Nat.le_of_ble_eq_true rfl) ⟨Nat.le_of_ble_eq_true rfl, Nat.le_of_ble_eq_true rfl⟩ hs22 ?_
    rintro v9 ⟨i24, l25, dd26, x27⟩ E9 - ⟨rfl, rfl, hp28⟩
    show ab_Fr MX12_honest (d + 1) Q 30 [some (.ref 205), some (.int a1), some (.int a2)] [.long r20, .long r10, .long r1, .ref 205] (0, 0) (i24, l25, dd26, x27) (ab_E0 sc)
    refine ab_goto (tgt := 34) dX12_honest_30 (by decide) ?_
    refine ab_forget (i := 0) (L2 := [none, some (.int a1), some (.int a2)]) rfl ?_
    refine ab_forget (i := 1) (L2 := [none, none, some (.int a2)]) rfl ?_
    refine ab_forget (i := 2) (L2 := [none, none, none]) rfl ?_
    exact (hk23 i24 l25 dd26 x27 hp28)
theorem tMX12_honest_34 {d : Nat} {Q : ab_Qt} {sc : Nat × (Nat → Int32)} {i : Nat → Nat → Int32} {l : Nat → Nat → Int64} {dd : Nat → Nat → Value} {x : Nat} {s1 : Int64} {s2 : Int64} {s3 : Int64} 
    (h : (∃ (r1 : Int32) (P2 : ab_S → Prop), ab_Sp MX12_least d [.ref 205, .long s1, .long s2, .long s3] (i, l, dd, x) (ab_E0 sc) (some (.int r1)) P2 ∧ ∀ i5 l6 dd7 x8, P2 (i5, l6, dd7, x8) → Q (some (some (.int r1))) (i5, l6, dd7, x8) (ab_E0 sc))) :
    ab_Fr MX12_honest (d + 1) Q 34 [none, none, none] [.long s3, .long s2, .long s1, .ref 205] (0, 0) (i, l, dd, x) (ab_E0 sc) := by
  obtain ⟨r1, P2, hs3, hk4⟩ := h
  refine ab_callV (vs := [.long s1, .long s2, .long s3]) (st := []) dX12_honest_34 okMX12_least wd_1537 kd_205 rfl rfl rfl (Nat.le_of_ble_eq_true rfl) ⟨Nat.le_of_ble_eq_true rfl, Nat.le_of_ble_eq_true rfl⟩ hs3 ?_
  rintro v9 ⟨i5, l6, dd7, x8⟩ E9 - ⟨rfl, rfl, hp9⟩
  show ab_Fr MX12_honest (d + 1) Q 37 [none, none, none] [.int r1] (0, 0) (i5, l6, dd7, x8) (ab_E0 sc)
  exact ab_iret dX12_honest_37 rfl ⟨Nat.zero_le _, Nat.zero_le _⟩ (hk4 i5 l6 dd7 x8 hp9)
theorem tMX12_losing_0 {d : Nat} {Q : ab_Qt} {sc : Nat × (Nat → Int32)} {i : Nat → Nat → Int32} {l : Nat → Nat → Int64} {dd : Nat → Nat → Value} {x : Nat} {a1 : Int32} {a2 : Int32} {a3 : Int32} 
    (h : ab_Fr MX12_losing (d + 1) Q 6 [some (.ref 205), some (.int a1), some (.int a2), some (.int a3), some (.long 0), none, some (.int 0)] [] (0, 0) (i, l, dd, x) (ab_E0 sc)) :
    ab_Fr MX12_losing (d + 1) Q 0 [some (.ref 205), some (.int a1), some (.int a2), some (.int a3), none, none, none] [] (0, 0) (i, l, dd, x) (ab_E0 sc) := by
  refine ab_lconst (v := 0) dX12_losing_0 (by decide) ?_
  refine ab_lstore dX12_losing_1 (Nat.le_of_ble_eq_true rfl) (L2 := [some (.ref 205), some (.int a1), some (.int a2), some (.int a3), some (.long 0), none, none]) rfl ?_
  refine ab_iconst (v := 0) dX12_losing_3 (by decide) ?_
  refine ab_istore dX12_losing_4 (Nat.le_of_ble_eq_true rfl) (L2 := [some (.ref 205), some (.int a1), some (.int a2), some (.int a3), some (.long 0), none, some (.int 0)]) rfl ?_
  exact h
theorem tMX12_losing_6 {d : Nat} {Q : ab_Qt} {sc : Nat × (Nat → Int32)} {i : Nat → Nat → Int32} {l : Nat → Nat → Int64} {dd : Nat → Nat → Value} {x : Nat} {a1 : Int32} {a2 : Int32} {a3 : Int32} {a4 : Int64} {a6 : Int32} 
    (h : (((i 205 29) ≤ a6 → Q (some (some (.long a4))) (i, l, dd, x) (ab_E0 sc)) ∧ (¬ (i 205 29) ≤ a6 → (∃ (r2 : Int64) (P3 : ab_S → Prop), ab_Sp MX12_weightOf d [.ref 205, .int a1, .int a2, .int a6] (i, l, dd, x) (ab_E0 sc) (some (.long r2)) P3 ∧ ∀ i6 l7 dd8 x9, P3 (i6, l7, dd8, x9) → ∃ (r11 : Int32) (P12 : ab_S → Prop), ab_Sp MX12_loss d [.ref 205, .int a1, .int a6, .int a3] (i6, l7, dd8, x9) (ab_E0 sc) (some (.int r11)) P12 ∧ ∀ i15 l16 dd17 x18, P12 (i15, l16, dd17, x18) → ab_Fr MX12_losing (d + 1) Q 6 [some (.ref 205), some (.int a1), some (.int a2), some (.int a3), some (.long (a4 + (r2 * r11.toInt64))), none, some (.int (a6 + 1))] [] (0, 0) (i15, l16, dd17, x18) (ab_E0 sc))))) :
    ab_Fr MX12_losing (d + 1) Q 6 [some (.ref 205), some (.int a1), some (.int a2), some (.int a3), some (.long a4), none, some (.int a6)] [] (0, 0) (i, l, dd, x) (ab_E0 sc) := by
  refine ab_iload dX12_losing_6 rfl ?_
  refine ab_aloadn dX12_losing_8 rfl ?_
  refine ab_getf (v := .int (i 205 29)) dX12_losing_9 fl_X12_303 kd_205 rfl ?_
  refine ab_icmp_ge (tgt := 44) dX12_losing_12 (by decide) (fun c1 => ?_) (fun c1 => ?_)
  · refine ab_lload dX12_losing_44 rfl ?_
    exact ab_lret dX12_losing_46 rfl ⟨Nat.zero_le _, Nat.zero_le _⟩ (h.1 c1)
  · refine ab_lload dX12_losing_15 rfl ?_
    refine ab_aloadn dX12_losing_17 rfl ?_
    refine ab_iloadn dX12_losing_18 rfl ?_
    refine ab_iloadn dX12_losing_19 rfl ?_
    refine ab_iload dX12_losing_20 rfl ?_
    obtain ⟨r2, P3, hs4, hk5⟩ := (h.2 c1)
    refine ab_callV (vs := [.int a1, .int a2, .int a6]) (st := [.long a4]) dX12_losing_22 okMX12_weightOf wd_1531 kd_205 rfl rfl rfl (Nat.le_of_ble_eq_true rfl) ⟨Nat.le_of_ble_eq_true rfl, Nat.le_of_ble_eq_true rfl⟩ hs4 ?_
    rintro v9 ⟨i6, l7, dd8, x9⟩ E9 - ⟨rfl, rfl, hp10⟩
    show ab_Fr MX12_losing (d + 1) Q 25 [some (.ref 205), some (.int a1), some (.int a2), some (.int a3), some (.long a4), none, some (.int a6)] [.long r2, .long a4] (0, 0) (i6, l7, dd8, x9) (ab_E0 sc)
    refine ab_aloadn dX12_losing_25 rfl ?_
    refine ab_iloadn dX12_losing_26 rfl ?_
    refine ab_iload dX12_losing_27 rfl ?_
    refine ab_iloadn dX12_losing_29 rfl ?_
    obtain ⟨r11, P12, hs13, hk14⟩ := (hk5 i6 l7 dd8 x9 hp10)
    refine ab_callV (vs := [.int a1, .int a6, .int a3]) (st := [.long r2, .long a4]) dX12_losing_30 okMX12_loss wd_1534 kd_205 rfl rfl rfl (Nat.le_of_ble_eq_true rfl) ⟨Nat.le_of_ble_eq_true rfl, Nat.le_of_ble_eq_true rfl⟩ hs13 ?_
    rintro v9 ⟨i15, l16, dd17, x18⟩ E9 - ⟨rfl, rfl, hp19⟩
    show ab_Fr MX12_losing (d + 1) Q 33 [some (.ref 205), some (.int a1), some (.int a2), some (.int a3), some (.long a4), none, some (.int a6)] [.int r11, .long r2, .long a4] (0, 0) (i15, l16, dd17, x18) (ab_E0 sc)
    refine ab_i2l dX12_losing_33 rfl ?_
    refine ab_lmul dX12_losing_34 ?_
    refine ab_ladd dX12_losing_35 ?_
    refine ab_lstore dX12_losing_36 (Nat.le_of_ble_eq_true rfl) (L2 := [some (.ref 205), some (.int a1), some (.int a2), some (.int a3), some (.long (a4 + (r2 * r11.toInt64))), none, some (.int a6)]) rfl ?_
    refine ab_iinc (v := (a6 + 1)) dX12_losing_38 rfl (by rfl) (Nat.le_of_ble_eq_true rfl) (L2 := [some (.ref 205), some (.int a1), some (.int a2), some (.int a3), some (.long (a4 + (r2 * r11.toInt64))), none, some (.int (a6 + 1))]) rfl ?_
    refine ab_goto (tgt := 6) dX12_losing_41 (by decide) ?_
    exact (hk14 i15 l16 dd17 x18 hp19)
theorem tMX12_weightOf_0 {d : Nat} {Q : ab_Qt} {sc : Nat × (Nat → Int32)} {i : Nat → Nat → Int32} {l : Nat → Nat → Int64} {dd : Nat → Nat → Value} {x : Nat} {a1 : Int32} {a2 : Int32} {a3 : Int32} 
    (h : (vp_in a3 6 ∧ vp_in (((9 * a1) + (3 * a2)) + a3) 126 ∧ Q (some (some (.long ((i 211 a3.toNatClampNeg).toInt64 * (i 213 (((9 * a1) + (3 * a2)) + a3).toNatClampNeg).toInt64)))) (i, l, dd, x) (ab_E0 sc))) :
    ab_Fr MX12_weightOf (d + 1) Q 0 [some (.ref 205), some (.int a1), some (.int a2), some (.int a3)] [] (0, 0) (i, l, dd, x) (ab_E0 sc) := by
  refine ab_aloadn dX12_weightOf_0 rfl ?_
  refine ab_getf (v := .ref 211) dX12_weightOf_1 fl_X12_26 kd_205 ff_205_15 ?_
  refine ab_iloadn dX12_weightOf_4 rfl ?_
  refine ab_iaload (v := (i 211 a3.toNatClampNeg)) dX12_weightOf_5 kd_211 h.1 rfl ?_
  refine ab_i2l dX12_weightOf_6 rfl ?_
  refine ab_aloadn dX12_weightOf_7 rfl ?_
  refine ab_getf (v := .ref 213) dX12_weightOf_8 fl_X12_32 kd_205 ff_205_17 ?_
  refine ab_bipush (v := 9) dX12_weightOf_11 (by decide) ?_
  refine ab_iloadn dX12_weightOf_13 rfl ?_
  refine ab_imul dX12_weightOf_14 ?_
  refine ab_iconst (v := 3) dX12_weightOf_15 (by decide) ?_
  refine ab_iloadn dX12_weightOf_16 rfl ?_
  refine ab_imul dX12_weightOf_17 ?_
  refine ab_iadd dX12_weightOf_18 ?_
  refine ab_iloadn dX12_weightOf_19 rfl ?_
  refine ab_iadd dX12_weightOf_20 ?_
  refine ab_iaload (v := (i 213 (((9 * a1) + (3 * a2)) + a3).toNatClampNeg)) dX12_weightOf_21 kd_213 h.2.1 rfl ?_
  refine ab_i2l dX12_weightOf_22 rfl ?_
  refine ab_lmul dX12_weightOf_23 ?_
  exact ab_lret dX12_weightOf_24 rfl ⟨Nat.zero_le _, Nat.zero_le _⟩ h.2.2
theorem tMX12_loss_0 {d : Nat} {Q : ab_Qt} {sc : Nat × (Nat → Int32)} {i : Nat → Nat → Int32} {l : Nat → Nat → Int64} {dd : Nat → Nat → Value} {x : Nat} {a1 : Int32} {a2 : Int32} {a3 : Int32} 
    (h : (vp_in (((9 * a1) + (3 * a2)) + a3) 144 ∧ (((i 214 (((9 * a1) + (3 * a2)) + a3).toNatClampNeg) = (-1) → (vp_in ((63 + (3 * a2)) + a3) 144 ∧ (((i 214 ((63 + (3 * a2)) + a3).toNatClampNeg) = (-1) → ((¬ a2 = a3 → Q (some (some (.int 1))) (i, l, dd, x) (ab_E0 sc)) ∧ (a2 = a3 → Q (some (some (.int 0))) (i, l, dd, x) (ab_E0 sc)))) ∧ (¬ (i 214 ((63 + (3 * a2)) + a3).toNatClampNeg) = (-1) → Q (some (some (.int (i 214 ((63 + (3 * a2)) + a3).toNatClampNeg)))) (i, l, dd, x) (ab_E0 sc))))) ∧ (¬ (i 214 (((9 * a1) + (3 * a2)) + a3).toNatClampNeg) = (-1) → Q (some (some (.int (i 214 (((9 * a1) + (3 * a2)) + a3).toNatClampNeg)))) (i, l, dd, x) (ab_E0 sc))))) :
    ab_Fr MX12_loss (d + 1) Q 0 [some (.ref 205), some (.int a1), some (.int a2), some (.int a3), none, none] [] (0, 0) (i, l, dd, x) (ab_E0 sc) := by
  refine ab_aloadn dX12_loss_0 rfl ?_
  refine ab_getf (v := .ref 214) dX12_loss_1 fl_X12_35 kd_205 ff_205_18 ?_
  refine ab_bipush (v := 9) dX12_loss_4 (by decide) ?_
  refine ab_iloadn dX12_loss_6 rfl ?_
  refine ab_imul dX12_loss_7 ?_
  refine ab_iconst (v := 3) dX12_loss_8 (by decide) ?_
  refine ab_iloadn dX12_loss_9 rfl ?_
  refine ab_imul dX12_loss_10 ?_
  refine ab_iadd dX12_loss_11 ?_
  refine ab_iloadn dX12_loss_12 rfl ?_
  refine ab_iadd dX12_loss_13 ?_
  refine ab_iaload (v := (i 214 (((9 * a1) + (3 * a2)) + a3).toNatClampNeg)) dX12_loss_14 kd_214 h.1 rfl ?_
  refine ab_istore dX12_loss_15 (Nat.le_of_ble_eq_true rfl) (L2 := [some (.ref 205), some (.int a1), some (.int a2), some (.int a3), some (.int (i 214 (((9 * a1) + (3 * a2)) + a3).toNatClampNeg)), none]) rfl ?_
  refine ab_iload dX12_loss_17 rfl ?_
  refine ab_iconst (v := (-1)) dX12_loss_19 (by decide) ?_
  refine ab_icmp_eq (tgt := 26) dX12_loss_20 (by decide) (fun c1 => ?_) (fun c1 => ?_)
  · refine ab_aloadn dX12_loss_26 rfl ?_
    refine ab_getf (v := .ref 214) dX12_loss_27 fl_X12_35 kd_205 ff_205_18 ?_
    refine ab_bipush (v := 63) dX12_loss_30 (by decide) ?_
    refine ab_iconst (v := 3) dX12_loss_32 (by decide) ?_
    refine ab_iloadn dX12_loss_33 rfl ?_
    refine ab_imul dX12_loss_34 ?_
    refine ab_iadd dX12_loss_35 ?_
    refine ab_iloadn dX12_loss_36 rfl ?_
    refine ab_iadd dX12_loss_37 ?_
    refine ab_iaload (v := (i 214 ((63 + (3 * a2)) + a3).toNatClampNeg)) dX12_loss_38 kd_214 (h.2.1 c1).1 rfl ?_
    refine ab_istore dX12_loss_39 (Nat.le_of_ble_eq_true rfl) (L2 := [some (.ref 205), some (.int a1), some (.int a2), some (.int a3), some (.int (i 214 (((9 * a1) + (3 * a2)) + a3).toNatClampNeg)), some (.int (i 214 ((63 + (3 * a2)) + a3).toNatClampNeg))]) rfl ?_
    refine ab_iload dX12_loss_41 rfl ?_
    refine ab_iconst (v := (-1)) dX12_loss_43 (by decide) ?_
    refine ab_icmp_eq (tgt := 52) dX12_loss_44 (by decide) (fun c2 => ?_) (fun c2 => ?_)
    · refine ab_iloadn dX12_loss_52 rfl ?_
      refine ab_iloadn dX12_loss_53 rfl ?_
      refine ab_icmp_ne (tgt := 61) dX12_loss_54 (by decide) (fun c3 => ?_) (fun c3 => ?_)
      · refine ab_iconst (v := 1) dX12_loss_61 (by decide) ?_
        exact ab_iret dX12_loss_62 rfl ⟨Nat.zero_le _, Nat.zero_le _⟩ (((h.2.1 c1).2.1 c2).1 c3)
      · refine ab_iconst (v := 0) dX12_loss_57 (by decide) ?_
        refine ab_goto (tgt := 62) dX12_loss_58 (by decide) ?_
        exact ab_iret dX12_loss_62 rfl ⟨Nat.zero_le _, Nat.zero_le _⟩ (((h.2.1 c1).2.1 c2).2 c3)
    · refine ab_iload dX12_loss_47 rfl ?_
      refine ab_goto (tgt := 62) dX12_loss_49 (by decide) ?_
      exact ab_iret dX12_loss_62 rfl ⟨Nat.zero_le _, Nat.zero_le _⟩ ((h.2.1 c1).2.2 c2)
  · refine ab_iload dX12_loss_23 rfl ?_
    exact ab_iret dX12_loss_25 rfl ⟨Nat.zero_le _, Nat.zero_le _⟩ (h.2.2 c1)
theorem tMX12_least_0 {d : Nat} {Q : ab_Qt} {sc : Nat × (Nat → Int32)} {i : Nat → Nat → Int32} {l : Nat → Nat → Int64} {dd : Nat → Nat → Value} {x : Nat} {a1 : Int64} {a3 : Int64} {a5 : Int64} 
    (h : ((¬ a3 < a1 → ab_Fr MX12_least (d + 1) Q 11 [some (.ref 205), some (.long a1), none, some (.long a3), none, some (.long a5), none, none] [.int 0] (0, 0) (i, l, dd, x) (ab_E0 sc)) ∧ (a3 < a1 → ab_Fr MX12_least (d + 1) Q 11 [some (.ref 205), some (.long a1), none, some (.long a3), none, some (.long a5), none, none] [.int 1] (0, 0) (i, l, dd, x) (ab_E0 sc)))) :
    ab_Fr MX12_least (d + 1) Q 0 [some (.ref 205), some (.long a1), none, some (.long a3), none, some (.long a5), none, none] [] (0, 0) (i, l, dd, x) (ab_E0 sc) := by
  refine ab_lloadn dX12_least_0 rfl ?_
  refine ab_lloadn dX12_least_1 rfl ?_
  refine ab_lcge (tgt := 10) dX12_least_2 dX12_least_3 (by decide) (fun c1 => ?_) (fun c1 => ?_)
  · refine ab_iconst (v := 0) dX12_least_10 (by decide) ?_
    exact (h.1 c1)
  · refine ab_iconst (v := 1) dX12_least_6 (by decide) ?_
    refine ab_goto (tgt := 11) dX12_least_7 (by decide) ?_
    exact (h.2 c1)
theorem tMX12_least_11 {d : Nat} {Q : ab_Qt} {sc : Nat × (Nat → Int32)} {i : Nat → Nat → Int32} {l : Nat → Nat → Int64} {dd : Nat → Nat → Value} {x : Nat} {a1 : Int64} {a3 : Int64} {a5 : Int64} {s0 : Int32} 
    (h : ((¬ (i 205 29) = 3 → Q (some (some (.int s0))) (i, l, dd, x) (ab_E0 sc)) ∧ ((i 205 29) = 3 → ((¬ s0 = 1 → ab_Fr MX12_least (d + 1) Q 34 [none, none, none, none, none, none, none, some (.int s0)] [.long a1, .long a5] (0, 0) (i, l, dd, x) (ab_E0 sc)) ∧ (s0 = 1 → ab_Fr MX12_least (d + 1) Q 34 [none, none, none, none, none, none, none, some (.int s0)] [.long a3, .long a5] (0, 0) (i, l, dd, x) (ab_E0 sc)))))) :
    ab_Fr MX12_least (d + 1) Q 11 [some (.ref 205), some (.long a1), none, some (.long a3), none, some (.long a5), none, none] [.int s0] (0, 0) (i, l, dd, x) (ab_E0 sc) := by
  refine ab_istore dX12_least_11 (Nat.le_of_ble_eq_true rfl) (L2 := [some (.ref 205), some (.long a1), none, some (.long a3), none, some (.long a5), none, some (.int s0)]) rfl ?_
  refine ab_aloadn dX12_least_13 rfl ?_
  refine ab_getf (v := .int (i 205 29)) dX12_least_14 fl_X12_303 kd_205 rfl ?_
  refine ab_iconst (v := 3) dX12_least_17 (by decide) ?_
  refine ab_icmp_ne (tgt := 41) dX12_least_18 (by decide) (fun c1 => ?_) (fun c1 => ?_)
  · refine ab_iload dX12_least_41 rfl ?_
    exact ab_iret dX12_least_43 rfl ⟨Nat.zero_le _, Nat.zero_le _⟩ (h.1 c1)
  · refine ab_lload dX12_least_21 rfl ?_
    refine ab_iload dX12_least_23 rfl ?_
    refine ab_iconst (v := 1) dX12_least_25 (by decide) ?_
    refine ab_icmp_ne (tgt := 33) dX12_least_26 (by decide) (fun c2 => ?_) (fun c2 => ?_)
    · refine ab_lloadn dX12_least_33 rfl ?_
      refine ab_forget (i := 0) (L2 := [none, some (.long a1), none, some (.long a3), none, some (.long a5), none, some (.int s0)]) rfl ?_
      refine ab_forget (i := 1) (L2 := [none, none, none, some (.long a3), none, some (.long a5), none, some (.int s0)]) rfl ?_
      refine ab_forget (i := 3) (L2 := [none, none, none, none, none, some (.long a5), none, some (.int s0)]) rfl ?_
      refine ab_forget (i := 5) (L2 := [none, none, none, none, none, none, none, some (.int s0)]) rfl ?_
      exact ((h.2 c1).1 c2)
    · refine ab_lloadn dX12_least_29 rfl ?_
      refine ab_goto (tgt := 34) dX12_least_30 (by decide) ?_
      refine ab_forget (i := 0) (L2 := [none, some (.long a1), none, some (.long a3), none, some (.long a5), none, some (.int s0)]) rfl ?_
      refine ab_forget (i := 1) (L2 := [none, none, none, some (.long a3), none, some (.long a5), none, some (.int s0)]) rfl ?_
      refine ab_forget (i := 3) (L2 := [none, none, none, none, none, some (.long a5), none, some (.int s0)]) rfl ?_
      refine ab_forget (i := 5) (L2 := [none, none, none, none, none, none, none, some (.int s0)]) rfl ?_
      exact ((h.2 c1).2 c2)
theorem tMX12_least_34 {d : Nat} {Q : ab_Qt} {sc : Nat × (Nat → Int32)} {i : Nat → Nat → Int32} {l : Nat → Nat → Int64} {dd : Nat → Nat → Value} {x : Nat} {a7 : Int32} {s0 : Int64} {s1 : Int64} 
    (h : ((¬ s0 < s1 → Q (some (some (.int a7))) (i, l, dd, x) (ab_E0 sc)) ∧ (s0 < s1 → Q (some (some (.int 2))) (i, l, dd, x) (ab_E0 sc)))) :
    ab_Fr MX12_least (d + 1) Q 34 [none, none, none, none, none, none, none, some (.int a7)] [.long s1, .long s0] (0, 0) (i, l, dd, x) (ab_E0 sc) := by
  refine ab_lcge (tgt := 41) dX12_least_34 dX12_least_35 (by decide) (fun c1 => ?_) (fun c1 => ?_)
  · refine ab_iload dX12_least_41 rfl ?_
    exact ab_iret dX12_least_43 rfl ⟨Nat.zero_le _, Nat.zero_le _⟩ (h.1 c1)
  · refine ab_iconst (v := 2) dX12_least_38 (by decide) ?_
    refine ab_istore dX12_least_39 (Nat.le_of_ble_eq_true rfl) (L2 := [none, none, none, none, none, none, none, some (.int 2)]) rfl ?_
    refine ab_iload dX12_least_41 rfl ?_
    exact ab_iret dX12_least_43 rfl ⟨Nat.zero_le _, Nat.zero_le _⟩ (h.2 c1)
