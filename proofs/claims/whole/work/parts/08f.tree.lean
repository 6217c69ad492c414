theorem tMX12_fault_0 {d : Nat} {Q : ab_Qt} {sc : Nat × (Nat → Int32)} {i : Nat → Nat → Int32} {l : Nat → Nat → Int64} {dd : Nat → Nat → Value} {x : Nat}  
    (h : (∀ i1, i1 = ab_u i 205 0 0 → Q (some (some (.int (i1 205 8)))) (i1, l, dd, x) (ab_E0 sc))) :
    ab_Fr MX12_fault (d + 1) Q 0 [some (.ref 205)] [] (0, 0) (i, l, dd, x) (ab_E0 sc) := by
  refine ab_aloadn dX12_fault_0 rfl ?_
  refine ab_iconst (v := 0) dX12_fault_1 (by decide) ?_
  refine ab_putI dX12_fault_2 fl_X12_149 kd_205 rfl ?_
  obtain ⟨i1, e2⟩ : ∃ z, z = ab_u i 205 0 0 := ⟨_, rfl⟩
  show ab_Fr MX12_fault (d + 1) Q 5 [some (.ref 205)] [] (0, 0) (ab_u i 205 0 0, l, dd, x) (ab_E0 sc)
  rw [show ab_u i 205 0 0 = i1 from e2.symm]
  refine ab_aloadn dX12_fault_5 rfl ?_
  refine ab_getf (v := .int (i1 205 8)) dX12_fault_6 fl_X12_197 kd_205 rfl ?_
  exact ab_iret dX12_fault_9 rfl ⟨Nat.zero_le _, Nat.zero_le _⟩ (h i1 e2)
theorem tMX12_count_0 {d : Nat} {Q : ab_Qt} {sc : Nat × (Nat → Int32)} {i : Nat → Nat → Int32} {l : Nat → Nat → Int64} {dd : Nat → Nat → Value} {x : Nat} {a1 : Int32} 
    (h : (∀ i1, i1 = ab_u i 205 0 0 → ((¬ a1 = 0 → ((¬ a1 = 1 → ((¬ a1 = 2 → Q (some (some (.int (-1)))) (i1, l, dd, x) (ab_E0 sc)) ∧ (a1 = 2 → Q (some (some (.int (i1 205 2)))) (i1, l, dd, x) (ab_E0 sc)))) ∧ (a1 = 1 → Q (some (some (.int (i1 205 30)))) (i1, l, dd, x) (ab_E0 sc)))) ∧ (a1 = 0 → Q (some (some (.int (i1 205 29)))) (i1, l, dd, x) (ab_E0 sc))))) :
    ab_Fr MX12_count (d + 1) Q 0 [some (.ref 205), some (.int a1)] [] (0, 0) (i, l, dd, x) (ab_E0 sc) := by
  refine ab_aloadn dX12_count_0 rfl ?_
  refine ab_iconst (v := 0) dX12_count_1 (by decide) ?_
  refine ab_putI dX12_count_2 fl_X12_149 kd_205 rfl ?_
  obtain ⟨i1, e2⟩ : ∃ z, z = ab_u i 205 0 0 := ⟨_, rfl⟩
  show ab_Fr MX12_count (d + 1) Q 5 [some (.ref 205), some (.int a1)] [] (0, 0) (ab_u i 205 0 0, l, dd, x) (ab_E0 sc)
  rw [show ab_u i 205 0 0 = i1 from e2.symm]
  refine ab_iloadn dX12_count_5 rfl ?_
  refine ab_if_ne (tgt := 16) dX12_count_6 (by decide) (fun c3 => ?_) (fun c3 => ?_)
  · refine ab_iloadn dX12_count_16 rfl ?_
    refine ab_iconst (v := 1) dX12_count_17 (by decide) ?_
    refine ab_icmp_ne (tgt := 28) dX12_count_18 (by decide) (fun c4 => ?_) (fun c4 => ?_)
    · refine ab_iloadn dX12_count_28 rfl ?_
      refine ab_iconst (v := 2) dX12_count_29 (by decide) ?_
      refine ab_icmp_ne (tgt := 40) dX12_count_30 (by decide) (fun c5 => ?_) (fun c5 => ?_)
      · refine ab_iconst (v := (-1)) dX12_count_40 (by decide) ?_
        exact ab_iret dX12_count_41 rfl ⟨Nat.zero_le _, Nat.zero_le _⟩ ((((h i1 e2).1 c3).1 c4).1 c5)
      · refine ab_aloadn dX12_count_33 rfl ?_
        refine ab_getf (v := .int (i1 205 2)) dX12_count_34 fl_X12_153 kd_205 rfl ?_
        refine ab_goto (tgt := 41) dX12_count_37 (by decide) ?_
        exact ab_iret dX12_count_41 rfl ⟨Nat.zero_le _, Nat.zero_le _⟩ ((((h i1 e2).1 c3).1 c4).2 c5)
    · refine ab_aloadn dX12_count_21 rfl ?_
      refine ab_getf (v := .int (i1 205 30)) dX12_count_22 fl_X12_306 kd_205 rfl ?_
      refine ab_goto (tgt := 41) dX12_count_25 (by decide) ?_
      exact ab_iret dX12_count_41 rfl ⟨Nat.zero_le _, Nat.zero_le _⟩ (((h i1 e2).1 c3).2 c4)
  · refine ab_aloadn dX12_count_9 rfl ?_
    refine ab_getf (v := .int (i1 205 29)) dX12_count_10 fl_X12_303 kd_205 rfl ?_
    refine ab_goto (tgt := 41) dX12_count_13 (by decide) ?_
    exact ab_iret dX12_count_41 rfl ⟨Nat.zero_le _, Nat.zero_le _⟩ ((h i1 e2).2 c3)
theorem tMX12_signs_0 {d : Nat} {Q : ab_Qt} {sc : Nat × (Nat → Int32)} {i : Nat → Nat → Int32} {l : Nat → Nat → Int64} {dd : Nat → Nat → Value} {x : Nat} {a1 : Int32} 
    (h : (∀ i1, i1 = ab_u i 205 0 0 → ∃ (r3 : Int32) (P4 : ab_S → Prop), ab_Sp MX12_isVoter d [.ref 205, .int a1] (i1, l, dd, x) (ab_E0 sc) (some (.int r3)) P4 ∧ ∀ i7 l8 dd9 x10, P4 (i7, l8, dd9, x10) → ((r3 = 0 → Q (some (some (.int (-1)))) (i7, l8, dd9, x10) (ab_E0 sc)) ∧ (¬ r3 = 0 → (vp_in a1 14 ∧ Q (some (some (.int (i7 212 a1.toNatClampNeg)))) (i7, l8, dd9, x10) (ab_E0 sc)))))) :
    ab_Fr MX12_signs (d + 1) Q 0 [some (.ref 205), some (.int a1)] [] (0, 0) (i, l, dd, x) (ab_E0 sc) := by
  refine ab_aloadn dX12_signs_0 rfl ?_
  refine ab_iconst (v := 0) dX12_signs_1 (by decide) ?_
  refine ab_putI dX12_signs_2 fl_X12_149 kd_205 rfl ?_
  obtain ⟨i1, e2⟩ : ∃ z, z = ab_u i 205 0 0 := ⟨_, rfl⟩
  show ab_Fr MX12_signs (d + 1) Q 5 [some (.ref 205), some (.int a1)] [] (0, 0) (ab_u i 205 0 0, l, dd, x) (ab_E0 sc)
  rw [show ab_u i 205 0 0 = i1 from e2.symm]
  refine ab_aloadn dX12_signs_5 rfl ?_
  refine ab_iloadn dX12_signs_6 rfl ?_
  obtain ⟨r3, P4, hs5, hk6⟩ := (h i1 e2)
  refine ab_callV (vs := [.int a1]) (st := []) dX12_signs_7 okMX12_isVoter wd_1553 kd_205 rfl rfl rfl (Nat.le_of_ble_eq_true rfl) ⟨Nat.le_of_ble_eq_true rfl, Nat.le_of_ble_eq_true rfl⟩ hs5 ?_
  rintro v9 ⟨i7, l8, dd9, x10⟩ E9 - ⟨rfl, rfl, hp11⟩
  show ab_Fr MX12_signs (d + 1) Q 10 [some (.ref 205), some (.int a1)] [.int r3] (0, 0) (i7, l8, dd9, x10) (ab_E0 sc)
  refine ab_if_eq (tgt := 22) dX12_signs_10 (by decide) (fun c12 => ?_) (fun c12 => ?_)
  · refine ab_iconst (v := (-1)) dX12_signs_22 (by decide) ?_
    exact ab_iret dX12_signs_23 rfl ⟨Nat.zero_le _, Nat.zero_le _⟩ ((hk6 i7 l8 dd9 x10 hp11).1 c12)
  · refine ab_aloadn dX12_signs_13 rfl ?_
    refine ab_getf (v := .ref 212) dX12_signs_14 fl_X12_29 kd_205 ff_205_16 ?_
    refine ab_iloadn dX12_signs_17 rfl ?_
    refine ab_iaload (v := (i7 212 a1.toNatClampNeg)) dX12_signs_18 kd_212 ((hk6 i7 l8 dd9 x10 hp11).2 c12).1 rfl ?_
    refine ab_goto (tgt := 23) dX12_signs_19 (by decide) ?_
    exact ab_iret dX12_signs_23 rfl ⟨Nat.zero_le _, Nat.zero_le _⟩ ((hk6 i7 l8 dd9 x10 hp11).2 c12).2
theorem tMX12_isVoter_0 {d : Nat} {Q : ab_Qt} {sc : Nat × (Nat → Int32)} {i : Nat → Nat → Int32} {l : Nat → Nat → Int64} {dd : Nat → Nat → Value} {x : Nat} {a1 : Int32} 
    (h : ((a1 < 0 → Q (some (some (.int 0))) (i, l, dd, x) (ab_E0 sc)) ∧ (¬ a1 < 0 → (((i 205 30) ≤ a1 → Q (some (some (.int 0))) (i, l, dd, x) (ab_E0 sc)) ∧ (¬ (i 205 30) ≤ a1 → Q (some (some (.int 1))) (i, l, dd, x) (ab_E0 sc)))))) :
    ab_Fr MX12_isVoter (d + 1) Q 0 [some (.ref 205), some (.int a1)] [] (0, 0) (i, l, dd, x) (ab_E0 sc) := by
  refine ab_iloadn dX12_isVoter_0 rfl ?_
  refine ab_if_lt (tgt := 16) dX12_isVoter_1 (by decide) (fun c1 => ?_) (fun c1 => ?_)
  · refine ab_iconst (v := 0) dX12_isVoter_16 (by decide) ?_
    exact ab_zret dX12_isVoter_17 rfl (by decide) ⟨Nat.zero_le _, Nat.zero_le _⟩ (h.1 c1)
  · refine ab_iloadn dX12_isVoter_4 rfl ?_
    refine ab_aloadn dX12_isVoter_5 rfl ?_
    refine ab_getf (v := .int (i 205 30)) dX12_isVoter_6 fl_X12_306 kd_205 rfl ?_
    refine ab_icmp_ge (tgt := 16) dX12_isVoter_9 (by decide) (fun c2 => ?_) (fun c2 => ?_)
    · refine ab_iconst (v := 0) dX12_isVoter_16 (by decide) ?_
      exact ab_zret dX12_isVoter_17 rfl (by decide) ⟨Nat.zero_le _, Nat.zero_le _⟩ ((h.2 c1).1 c2)
    · refine ab_iconst (v := 1) dX12_isVoter_12 (by decide) ?_
      refine ab_goto (tgt := 17) dX12_isVoter_13 (by decide) ?_
      exact ab_zret dX12_isVoter_17 rfl (by decide) ⟨Nat.zero_le _, Nat.zero_le _⟩ ((h.2 c1).2 c2)
theorem tMX12_parts_0 {d : Nat} {Q : ab_Qt} {sc : Nat × (Nat → Int32)} {i : Nat → Nat → Int32} {l : Nat → Nat → Int64} {dd : Nat → Nat → Value} {x : Nat} {a1 : Int32} 
    (h : (∃ (r1 : Int32) (P2 : ab_S → Prop), ab_Sp MX12_rowTold d [.ref 205] (i, l, dd, x) (ab_E0 sc) (some (.int r1)) P2 ∧ ∀ i5 l6 dd7 x8, P2 (i5, l6, dd7, x8) → ∃ (r10 : Int32) (P11 : ab_S → Prop), ab_Sp MX12_isTruth d [.ref 205, .int a1] (i5, l6, dd7, x8) (ab_E0 sc) (some (.int r10)) P11 ∧ ∀ i14 l15 dd16 x17, P11 (i14, l15, dd16, x17) → ((r10 = 0 → ab_Fr MX12_parts (d + 1) Q 18 [some (.ref 205), none, none] [] (0, 0) (i14, l15, dd16, x17) (ab_E0 sc)) ∧ (¬ r10 = 0 → ((¬ r1 = (-1) → (∀ i21, i21 = ab_u i14 205 0 0 → ∀ i23, i23 = ab_u i21 205 2 0 → vp_in ((3 * r1) + a1) 6561 ∧ Q (some (some (.long (l15 224 ((3 * r1) + a1).toNatClampNeg)))) (i23, l15, dd16, x17) (ab_E0 sc))) ∧ (r1 = (-1) → ab_Fr MX12_parts (d + 1) Q 18 [some (.ref 205), none, none] [] (0, 0) (i14, l15, dd16, x17) (ab_E0 sc))))))) :
    ab_Fr MX12_parts (d + 1) Q 0 [some (.ref 205), some (.int a1), none] [] (0, 0) (i, l, dd, x) (ab_E0 sc) := by
  refine ab_aloadn dX12_parts_0 rfl ?_
  obtain ⟨r1, P2, hs3, hk4⟩ := h
  refine ab_callV (vs := []) (st := []) dX12_parts_1 okMX12_rowTold wd_1560 kd_205 rfl rfl rfl (Nat.le_of_ble_eq_true rfl) ⟨Nat.le_of_ble_eq_true rfl, Nat.le_of_ble_eq_true rfl⟩ hs3 ?_
  rintro v9 ⟨i5, l6, dd7, x8⟩ E9 - ⟨rfl, rfl, hp9⟩
  show ab_Fr MX12_parts (d + 1) Q 4 [some (.ref 205), some (.int a1), none] [.int r1] (0, 0) (i5, l6, dd7, x8) (ab_E0 sc)
  refine ab_istoren dX12_parts_4 (Nat.le_of_ble_eq_true rfl) (L2 := [some (.ref 205), some (.int a1), some (.int r1)]) rfl ?_
  refine ab_aloadn dX12_parts_5 rfl ?_
  refine ab_iloadn dX12_parts_6 rfl ?_
  obtain ⟨r10, P11, hs12, hk13⟩ := (hk4 i5 l6 dd7 x8 hp9)
  refine ab_callV (vs := [.int a1]) (st := []) dX12_parts_7 okMX12_isTruth wd_1563 kd_205 rfl rfl rfl (Nat.le_of_ble_eq_true rfl) ⟨Nat.le_of_ble_eq_true rfl, Nat.le_of_ble_eq_true rfl⟩ hs12 ?_
  rintro v9 ⟨i14, l15, dd16, x17⟩ E9 - ⟨rfl, rfl, hp18⟩
  show ab_Fr MX12_parts (d + 1) Q 10 [some (.ref 205), some (.int a1), some (.int r1)] [.int r10] (0, 0) (i14, l15, dd16, x17) (ab_E0 sc)
  refine ab_if_eq (tgt := 18) dX12_parts_10 (by decide) (fun c19 => ?_) (fun c19 => ?_)
  · refine ab_forget (i := 1) (L2 := [some (.ref 205), none, some (.int r1)]) rfl ?_
    refine ab_forget (i := 2) (L2 := [some (.ref 205), none, none]) rfl ?_
    exact ((hk13 i14 l15 dd16 x17 hp18).1 c19)
  · refine ab_iloadn dX12_parts_13 rfl ?_
    refine ab_iconst (v := (-1)) dX12_parts_14 (by decide) ?_
    refine ab_icmp_ne (tgt := 23) dX12_parts_15 (by decide) (fun c20 => ?_) (fun c20 => ?_)
    · refine ab_aloadn dX12_parts_23 rfl ?_
      refine ab_iconst (v := 0) dX12_parts_24 (by decide) ?_
      refine ab_putI dX12_parts_25 fl_X12_149 kd_205 rfl ?_
      obtain ⟨i21, e22⟩ : ∃ z, z = ab_u i14 205 0 0 := ⟨_, rfl⟩
      show ab_Fr MX12_parts (d + 1) Q 28 [some (.ref 205), some (.int a1), some (.int r1)] [] (0, 0) (ab_u i14 205 0 0, l15, dd16, x17) (ab_E0 sc)
      rw [show ab_u i14 205 0 0 = i21 from e22.symm]
      refine ab_aloadn dX12_parts_28 rfl ?_
      refine ab_iconst (v := 0) dX12_parts_29 (by decide) ?_
      refine ab_putI dX12_parts_30 fl_X12_153 kd_205 rfl ?_
      obtain ⟨i23, e24⟩ : ∃ z, z = ab_u i21 205 2 0 := ⟨_, rfl⟩
      show ab_Fr MX12_parts (d + 1) Q 33 [some (.ref 205), some (.int a1), some (.int r1)] [] (0, 0) (ab_u i21 205 2 0, l15, dd16, x17) (ab_E0 sc)
      rw [show ab_u i21 205 2 0 = i23 from e24.symm]
      refine ab_aloadn dX12_parts_33 rfl ?_
      refine ab_getf (v := .ref 224) dX12_parts_34 fl_X12_65 kd_205 ff_205_33 ?_
      refine ab_iconst (v := 3) dX12_parts_37 (by decide) ?_
      refine ab_iloadn dX12_parts_38 rfl ?_
      refine ab_imul dX12_parts_39 ?_
      refine ab_iloadn dX12_parts_40 rfl ?_
      refine ab_iadd dX12_parts_41 ?_
      refine ab_laload (v := (l15 224 ((3 * r1) + a1).toNatClampNeg)) dX12_parts_42 kd_224 (((((hk13 i14 l15 dd16 x17 hp18).2 c19).1 c20) i21 e22) i23 e24).1 rfl ?_
      exact ab_lret dX12_parts_43 rfl ⟨Nat.zero_le _, Nat.zero_le _⟩ (((((hk13 i14 l15 dd16 x17 hp18).2 c19).1 c20) i21 e22) i23 e24).2
    · refine ab_forget (i := 1) (L2 := [some (.ref 205), none, some (.int r1)]) rfl ?_
      refine ab_forget (i := 2) (L2 := [some (.ref 205), none, none]) rfl ?_
      exact (((hk13 i14 l15 dd16 x17 hp18).2 c19).2 c20)
theorem tMX12_parts_18 {d : Nat} {Q : ab_Qt} {sc : Nat × (Nat → Int32)} {i : Nat → Nat → Int32} {l : Nat → Nat → Int64} {dd : Nat → Nat → Value} {x : Nat}  
    (h : (∃ (r1 : Int64) (P2 : ab_S → Prop), ab_Sp MX12_refuse d [.ref 205] (i, l, dd, x) (ab_E0 sc) (some (.long r1)) P2 ∧ ∀ i5 l6 dd7 x8, P2 (i5, l6, dd7, x8) → Q (some (some (.long r1))) (i5, l6, dd7, x8) (ab_E0 sc))) :
    ab_Fr MX12_parts (d + 1) Q 18 [some (.ref 205), none, none] [] (0, 0) (i, l, dd, x) (ab_E0 sc) := by
  refine ab_aloadn dX12_parts_18 rfl ?_
  obtain ⟨r1, P2, hs3, hk4⟩ := h
  refine ab_callV (vs := []) (st := []) dX12_parts_19 okMX12_refuse wd_1566 kd_205 rfl rfl rfl (Nat.le_of_ble_eq_true rfl) ⟨Nat.le_of_ble_eq_true rfl, Nat.le_of_ble_eq_true rfl⟩ hs3 ?_
  rintro v9 ⟨i5, l6, dd7, x8⟩ E9 - ⟨rfl, rfl, hp9⟩
  show ab_Fr MX12_parts (d + 1) Q 22 [some (.ref 205), none, none] [.long r1] (0, 0) (i5, l6, dd7, x8) (ab_E0 sc)
  exact ab_lret dX12_parts_22 rfl ⟨Nat.zero_le _, Nat.zero_le _⟩ (hk4 i5 l6 dd7 x8 hp9)
theorem tMX12_rowTold_0 {d : Nat} {Q : ab_Qt} {sc : Nat × (Nat → Int32)} {i : Nat → Nat → Int32} {l : Nat → Nat → Int64} {dd : Nat → Nat → Value} {x : Nat}  
    (h : (((i 205 30) = 0 → Q (some (some (.int (-1)))) (i, l, dd, x) (ab_E0 sc)) ∧ (¬ (i 205 30) = 0 → (((i 205 2) = (i 205 30) → ab_Fr MX12_rowTold (d + 1) Q 24 [some (.ref 205), some (.int 0), some (.int 0)] [] (0, 0) (i, l, dd, x) (ab_E0 sc)) ∧ (¬ (i 205 2) = (i 205 30) → Q (some (some (.int (-1)))) (i, l, dd, x) (ab_E0 sc)))))) :
    ab_Fr MX12_rowTold (d + 1) Q 0 [some (.ref 205), none, none] [] (0, 0) (i, l, dd, x) (ab_E0 sc) := by
  refine ab_aloadn dX12_rowTold_0 rfl ?_
  refine ab_getf (v := .int (i 205 30)) dX12_rowTold_1 fl_X12_306 kd_205 rfl ?_
  refine ab_if_eq (tgt := 18) dX12_rowTold_4 (by decide) (fun c1 => ?_) (fun c1 => ?_)
  · refine ab_iconst (v := (-1)) dX12_rowTold_18 (by decide) ?_
    exact ab_iret dX12_rowTold_19 rfl ⟨Nat.zero_le _, Nat.zero_le _⟩ (h.1 c1)
  · refine ab_aloadn dX12_rowTold_7 rfl ?_
    refine ab_getf (v := .int (i 205 2)) dX12_rowTold_8 fl_X12_153 kd_205 rfl ?_
    refine ab_aloadn dX12_rowTold_11 rfl ?_
    refine ab_getf (v := .int (i 205 30)) dX12_rowTold_12 fl_X12_306 kd_205 rfl ?_
    refine ab_icmp_eq (tgt := 20) dX12_rowTold_15 (by decide) (fun c2 => ?_) (fun c2 => ?_)
    · refine ab_iconst (v := 0) dX12_rowTold_20 (by decide) ?_
      refine ab_istoren dX12_rowTold_21 (Nat.le_of_ble_eq_true rfl) (L2 := [some (.ref 205), some (.int 0), none]) rfl ?_
      refine ab_iconst (v := 0) dX12_rowTold_22 (by decide) ?_
      refine ab_istoren dX12_rowTold_23 (Nat.le_of_ble_eq_true rfl) (L2 := [some (.ref 205), some (.int 0), some (.int 0)]) rfl ?_
      exact ((h.2 c1).1 c2)
    · refine ab_iconst (v := (-1)) dX12_rowTold_18 (by decide) ?_
      exact ab_iret dX12_rowTold_19 rfl ⟨Nat.zero_le _, Nat.zero_le _⟩ ((h.2 c1).2 c2)
theorem tMX12_rowTold_24 {d : Nat} {Q : ab_Qt} {sc : Nat × (Nat → Int32)} {i : Nat → Nat → Int32} {l : Nat → Nat → Int64} {dd : Nat → Nat → Value} {x : Nat} {a1 : Int32} {a2 : Int32} 
    (h : (((i 205 30) ≤ a2 → Q (some (some (.int a1))) (i, l, dd, x) (ab_E0 sc)) ∧ (¬ (i 205 30) ≤ a2 → (vp_in a2 740 ∧ vp_in a2 14 ∧ (((i 206 a2.toNatClampNeg) < (i 212 a2.toNatClampNeg) → (vp_in a2 740 ∧ vp_in a2 8 ∧ ab_Fr MX12_rowTold (d + 1) Q 24 [some (.ref 205), some (.int (a1 + ((i 206 a2.toNatClampNeg) * (i 223 a2.toNatClampNeg)))), some (.int (a2 + 1))] [] (0, 0) (i, l, dd, x) (ab_E0 sc))) ∧ (¬ (i 206 a2.toNatClampNeg) < (i 212 a2.toNatClampNeg) → Q (some (some (.int (-1)))) (i, l, dd, x) (ab_E0 sc))))))) :
    ab_Fr MX12_rowTold (d + 1) Q 24 [some (.ref 205), some (.int a1), some (.int a2)] [] (0, 0) (i, l, dd, x) (ab_E0 sc) := by
  refine ab_iloadn dX12_rowTold_24 rfl ?_
  refine ab_aloadn dX12_rowTold_25 rfl ?_
  refine ab_getf (v := .int (i 205 30)) dX12_rowTold_26 fl_X12_306 kd_205 rfl ?_
  refine ab_icmp_ge (tgt := 71) dX12_rowTold_29 (by decide) (fun c1 => ?_) (fun c1 => ?_)
  · refine ab_iloadn dX12_rowTold_71 rfl ?_
    exact ab_iret dX12_rowTold_72 rfl ⟨Nat.zero_le _, Nat.zero_le _⟩ (h.1 c1)
  · refine ab_aloadn dX12_rowTold_32 rfl ?_
    refine ab_getf (v := .ref 206) dX12_rowTold_33 fl_X12_7 kd_205 ff_205_1 ?_
    refine ab_iloadn dX12_rowTold_36 rfl ?_
    refine ab_iaload (v := (i 206 a2.toNatClampNeg)) dX12_rowTold_37 kd_206 (h.2 c1).1 rfl ?_
    refine ab_aloadn dX12_rowTold_38 rfl ?_
    refine ab_getf (v := .ref 212) dX12_rowTold_39 fl_X12_29 kd_205 ff_205_16 ?_
    refine ab_iloadn dX12_rowTold_42 rfl ?_
    refine ab_iaload (v := (i 212 a2.toNatClampNeg)) dX12_rowTold_43 kd_212 (h.2 c1).2.1 rfl ?_
    refine ab_icmp_lt (tgt := 49) dX12_rowTold_44 (by decide) (fun c2 => ?_) (fun c2 => ?_)
    · refine ab_iloadn dX12_rowTold_49 rfl ?_
      refine ab_aloadn dX12_rowTold_50 rfl ?_
      refine ab_getf (v := .ref 206) dX12_rowTold_51 fl_X12_7 kd_205 ff_205_1 ?_
      refine ab_iloadn dX12_rowTold_54 rfl ?_
      refine ab_iaload (v := (i 206 a2.toNatClampNeg)) dX12_rowTold_55 kd_206 ((h.2 c1).2.2.1 c2).1 rfl ?_
      refine ab_aloadn dX12_rowTold_56 rfl ?_
      refine ab_getf (v := .ref 223) dX12_rowTold_57 fl_X12_62 kd_205 ff_205_32 ?_
      refine ab_iloadn dX12_rowTold_60 rfl ?_
      refine ab_iaload (v := (i 223 a2.toNatClampNeg)) dX12_rowTold_61 kd_223 ((h.2 c1).2.2.1 c2).2.1 rfl ?_
      refine ab_imul dX12_rowTold_62 ?_
      refine ab_iadd dX12_rowTold_63 ?_
      refine ab_istoren dX12_rowTold_64 (Nat.le_of_ble_eq_true rfl) (L2 := [some (.ref 205), some (.int (a1 + ((i 206 a2.toNatClampNeg) * (i 223 a2.toNatClampNeg)))), some (.int a2)]) rfl ?_
      refine ab_iinc (v := (a2 + 1)) dX12_rowTold_65 rfl (by rfl) (Nat.le_of_ble_eq_true rfl) (L2 := [some (.ref 205), some (.int (a1 + ((i 206 a2.toNatClampNeg) * (i 223 a2.toNatClampNeg)))), some (.int (a2 + 1))]) rfl ?_
      refine ab_goto (tgt := 24) dX12_rowTold_68 (by decide) ?_
      exact ((h.2 c1).2.2.1 c2).2.2
    · refine ab_iconst (v := (-1)) dX12_rowTold_47 (by decide) ?_
      exact ab_iret dX12_rowTold_48 rfl ⟨Nat.zero_le _, Nat.zero_le _⟩ ((h.2 c1).2.2.2 c2)
theorem tMX12_isTruth_0 {d : Nat} {Q : ab_Qt} {sc : Nat × (Nat → Int32)} {i : Nat → Nat → Int32} {l : Nat → Nat → Int64} {dd : Nat → Nat → Value} {x : Nat} {a1 : Int32} 
    (h : ((a1 < 0 → Q (some (some (.int 0))) (i, l, dd, x) (ab_E0 sc)) ∧ (¬ a1 < 0 → (((i 205 29) ≤ a1 → Q (some (some (.int 0))) (i, l, dd, x) (ab_E0 sc)) ∧ (¬ (i 205 29) ≤ a1 → Q (some (some (.int 1))) (i, l, dd, x) (ab_E0 sc)))))) :
    ab_Fr MX12_isTruth (d + 1) Q 0 [some (.ref 205), some (.int a1)] [] (0, 0) (i, l, dd, x) (ab_E0 sc) := by
  refine ab_iloadn dX12_isTruth_0 rfl ?_
  refine ab_if_lt (tgt := 16) dX12_isTruth_1 (by decide) (fun c1 => ?_) (fun c1 => ?_)
  · refine ab_iconst (v := 0) dX12_isTruth_16 (by decide) ?_
    exact ab_zret dX12_isTruth_17 rfl (by decide) ⟨Nat.zero_le _, Nat.zero_le _⟩ (h.1 c1)
  · refine ab_iloadn dX12_isTruth_4 rfl ?_
    refine ab_aloadn dX12_isTruth_5 rfl ?_
    refine ab_getf (v := .int (i 205 29)) dX12_isTruth_6 fl_X12_303 kd_205 rfl ?_
    refine ab_icmp_ge (tgt := 16) dX12_isTruth_9 (by decide) (fun c2 => ?_) (fun c2 => ?_)
    · refine ab_iconst (v := 0) dX12_isTruth_16 (by decide) ?_
      exact ab_zret dX12_isTruth_17 rfl (by decide) ⟨Nat.zero_le _, Nat.zero_le _⟩ ((h.2 c1).1 c2)
    · refine ab_iconst (v := 1) dX12_isTruth_12 (by decide) ?_
      refine ab_goto (tgt := 17) dX12_isTruth_13 (by decide) ?_
      exact ab_zret dX12_isTruth_17 rfl (by decide) ⟨Nat.zero_le _, Nat.zero_le _⟩ ((h.2 c1).2 c2)
theorem tMX12_refuse_0 {d : Nat} {Q : ab_Qt} {sc : Nat × (Nat → Int32)} {i : Nat → Nat → Int32} {l : Nat → Nat → Int64} {dd : Nat → Nat → Value} {x : Nat}  
    (h : (∀ i1, i1 = ab_u i 205 0 1 → Q (some (some (.long 0))) (i1, l, dd, x) (ab_E0 sc))) :
    ab_Fr MX12_refuse (d + 1) Q 0 [some (.ref 205)] [] (0, 0) (i, l, dd, x) (ab_E0 sc) := by
  refine ab_aloadn dX12_refuse_0 rfl ?_
  refine ab_iconst (v := 1) dX12_refuse_1 (by decide) ?_
  refine ab_putI dX12_refuse_2 fl_X12_149 kd_205 rfl ?_
  obtain ⟨i1, e2⟩ : ∃ z, z = ab_u i 205 0 1 := ⟨_, rfl⟩
  show ab_Fr MX12_refuse (d + 1) Q 5 [some (.ref 205)] [] (0, 0) (ab_u i 205 0 1, l, dd, x) (ab_E0 sc)
  rw [show ab_u i 205 0 1 = i1 from e2.symm]
  refine ab_lconst (v := 0) dX12_refuse_5 (by decide) ?_
  exact ab_lret dX12_refuse_6 rfl ⟨Nat.zero_le _, Nat.zero_le _⟩ (h i1 e2)
theorem tMX12_all_0 {d : Nat} {Q : ab_Qt} {sc : Nat × (Nat → Int32)} {i : Nat → Nat → Int32} {l : Nat → Nat → Int64} {dd : Nat → Nat → Value} {x : Nat}  
    (h : (∀ i1, i1 = ab_u i 205 0 0 → ((¬ (i1 205 30) = 0 → ab_Fr MX12_all (d + 1) Q 19 [some (.ref 205), none, none, none] [.long 20] (0, 0) (i1, l, dd, x) (ab_E0 sc)) ∧ ((i1 205 30) = 0 → ab_Fr MX12_all (d + 1) Q 19 [some (.ref 205), none, none, none] [.long 0] (0, 0) (i1, l, dd, x) (ab_E0 sc))))) :
    ab_Fr MX12_all (d + 1) Q 0 [some (.ref 205), none, none, none] [] (0, 0) (i, l, dd, x) (ab_E0 sc) := by
  refine ab_aloadn dX12_all_0 rfl ?_
  refine ab_iconst (v := 0) dX12_all_1 (by decide) ?_
  refine ab_putI dX12_all_2 fl_X12_149 kd_205 rfl ?_
  obtain ⟨i1, e2⟩ : ∃ z, z = ab_u i 205 0 0 := ⟨_, rfl⟩
  show ab_Fr MX12_all (d + 1) Q 5 [some (.ref 205), none, none, none] [] (0, 0) (ab_u i 205 0 0, l, dd, x) (ab_E0 sc)
  rw [show ab_u i 205 0 0 = i1 from e2.symm]
  refine ab_aloadn dX12_all_5 rfl ?_
  refine ab_getf (v := .int (i1 205 30)) dX12_all_6 fl_X12_306 kd_205 rfl ?_
  refine ab_if_ne (tgt := 16) dX12_all_9 (by decide) (fun c3 => ?_) (fun c3 => ?_)
  · refine ab_ldc2 dX12_all_16 wd_1540 ?_
    exact ((h i1 e2).1 c3)
  · refine ab_lconst (v := 0) dX12_all_12 (by decide) ?_
    refine ab_goto (tgt := 19) dX12_all_13 (by decide) ?_
    exact ((h i1 e2).2 c3)
theorem tMX12_all_19 {d : Nat} {Q : ab_Qt} {sc : Nat × (Nat → Int32)} {i : Nat → Nat → Int32} {l : Nat → Nat → Int64} {dd : Nat → Nat → Value} {x : Nat} {s0 : Int64} 
    (h : ab_Fr MX12_all (d + 1) Q 22 [some (.ref 205), some (.long s0), none, some (.int 0)] [] (0, 0) (i, l, dd, x) (ab_E0 sc)) :
    ab_Fr MX12_all (d + 1) Q 19 [some (.ref 205), none, none, none] [.long s0] (0, 0) (i, l, dd, x) (ab_E0 sc) := by
  refine ab_lstoren dX12_all_19 (Nat.le_of_ble_eq_true rfl) (L2 := [some (.ref 205), some (.long s0), none, none]) rfl ?_
  refine ab_iconst (v := 0) dX12_all_20 (by decide) ?_
  refine ab_istoren dX12_all_21 (Nat.le_of_ble_eq_true rfl) (L2 := [some (.ref 205), some (.long s0), none, some (.int 0)]) rfl ?_
  exact h
theorem tMX12_all_22 {d : Nat} {Q : ab_Qt} {sc : Nat × (Nat → Int32)} {i : Nat → Nat → Int32} {l : Nat → Nat → Int64} {dd : Nat → Nat → Value} {x : Nat} {a1 : Int64} {a3 : Int32} 
    (h : (((i 205 30) ≤ a3 → Q (some (some (.long a1))) (i, l, dd, x) (ab_E0 sc)) ∧ (¬ (i 205 30) ≤ a3 → ab_Fr MX12_all (d + 1) Q 22 [some (.ref 205), some (.long (a1 * 20)), none, some (.int (a3 + 1))] [] (0, 0) (i, l, dd, x) (ab_E0 sc)))) :
    ab_Fr MX12_all (d + 1) Q 22 [some (.ref 205), some (.long a1), none, some (.int a3)] [] (0, 0) (i, l, dd, x) (ab_E0 sc) := by
  refine ab_iloadn dX12_all_22 rfl ?_
  refine ab_aloadn dX12_all_23 rfl ?_
  refine ab_getf (v := .int (i 205 30)) dX12_all_24 fl_X12_306 kd_205 rfl ?_
  refine ab_icmp_ge (tgt := 42) dX12_all_27 (by decide) (fun c1 => ?_) (fun c1 => ?_)
  · refine ab_lloadn dX12_all_42 rfl ?_
    exact ab_lret dX12_all_43 rfl ⟨Nat.zero_le _, Nat.zero_le _⟩ (h.1 c1)
  · refine ab_lloadn dX12_all_30 rfl ?_
    refine ab_ldc2 dX12_all_31 wd_1540 ?_
    refine ab_lmul dX12_all_34 ?_
    refine ab_lstoren dX12_all_35 (Nat.le_of_ble_eq_true rfl) (L2 := [some (.ref 205), some (.long (a1 * 20)), none, some (.int a3)]) rfl ?_
    refine ab_iinc (v := (a3 + 1)) dX12_all_36 rfl (by rfl) (Nat.le_of_ble_eq_true rfl) (L2 := [some (.ref 205), some (.long (a1 * 20)), none, some (.int (a3 + 1))]) rfl ?_
    refine ab_goto (tgt := 22) dX12_all_39 (by decide) ?_
    exact (h.2 c1)
theorem tMX12_vote_0 {d : Nat} {Q : ab_Qt} {sc : Nat × (Nat → Int32)} {i : Nat → Nat → Int32} {l : Nat → Nat → Int64} {dd : Nat → Nat → Value} {x : Nat} {a1 : Int32} {a2 : Int32} 
    (h : (∀ i1, i1 = ab_u i 205 0 0 → ∃ (r3 : Int32) (P4 : ab_S → Prop), ab_Sp MX12_isSign d [.ref 205, .int a1, .int a2] (i1, l, dd, x) (ab_E0 sc) (some (.int r3)) P4 ∧ ∀ i7 l8 dd9 x10, P4 (i7, l8, dd9, x10) → ((r3 = 0 → Q (some (some (.int (-1)))) (i7, l8, dd9, x10) (ab_E0 sc)) ∧ (¬ r3 = 0 → (vp_in ((3 * a1) + a2) 42 ∧ Q (some (some (.int (i7 225 ((3 * a1) + a2).toNatClampNeg)))) (i7, l8, dd9, x10) (ab_E0 sc)))))) :
    ab_Fr MX12_vote (d + 1) Q 0 [some (.ref 205), some (.int a1), some (.int a2)] [] (0, 0) (i, l, dd, x) (ab_E0 sc) := by
  refine ab_aloadn dX12_vote_0 rfl ?_
  refine ab_iconst (v := 0) dX12_vote_1 (by decide) ?_
  refine ab_putI dX12_vote_2 fl_X12_149 kd_205 rfl ?_
  obtain ⟨i1, e2⟩ : ∃ z, z = ab_u i 205 0 0 := ⟨_, rfl⟩
  show ab_Fr MX12_vote (d + 1) Q 5 [some (.ref 205), some (.int a1), some (.int a2)] [] (0, 0) (ab_u i 205 0 0, l, dd, x) (ab_E0 sc)
  rw [show ab_u i 205 0 0 = i1 from e2.symm]
  refine ab_aloadn dX12_vote_5 rfl ?_
  refine ab_iloadn dX12_vote_6 rfl ?_
  refine ab_iloadn dX12_vote_7 rfl ?_
  obtain ⟨r3, P4, hs5, hk6⟩ := (h i1 e2)
  refine ab_callV (vs := [.int a1, .int a2]) (st := []) dX12_vote_8 okMX12_isSign wd_1577 kd_205 rfl rfl rfl (Nat.le_of_ble_eq_true rfl) ⟨Nat.le_of_ble_eq_true rfl, Nat.le_of_ble_eq_true rfl⟩ hs5 ?_
  rintro v9 ⟨i7, l8, dd9, x10⟩ E9 - ⟨rfl, rfl, hp11⟩
  show ab_Fr MX12_vote (d + 1) Q 11 [some (.ref 205), some (.int a1), some (.int a2)] [.int r3] (0, 0) (i7, l8, dd9, x10) (ab_E0 sc)
  refine ab_if_eq (tgt := 27) dX12_vote_11 (by decide) (fun c12 => ?_) (fun c12 => ?_)
  · refine ab_iconst (v := (-1)) dX12_vote_27 (by decide) ?_
    exact ab_iret dX12_vote_28 rfl ⟨Nat.zero_le _, Nat.zero_le _⟩ ((hk6 i7 l8 dd9 x10 hp11).1 c12)
  · refine ab_aloadn dX12_vote_14 rfl ?_
    refine ab_getf (v := .ref 225) dX12_vote_15 fl_X12_68 kd_205 ff_205_34 ?_
    refine ab_iconst (v := 3) dX12_vote_18 (by decide) ?_
    refine ab_iloadn dX12_vote_19 rfl ?_
    refine ab_imul dX12_vote_20 ?_
    refine ab_iloadn dX12_vote_21 rfl ?_
    refine ab_iadd dX12_vote_22 ?_
    refine ab_iaload (v := (i7 225 ((3 * a1) + a2).toNatClampNeg)) dX12_vote_23 kd_225 ((hk6 i7 l8 dd9 x10 hp11).2 c12).1 rfl ?_
    refine ab_goto (tgt := 28) dX12_vote_24 (by decide) ?_
    exact ab_iret dX12_vote_28 rfl ⟨Nat.zero_le _, Nat.zero_le _⟩ ((hk6 i7 l8 dd9 x10 hp11).2 c12).2
theorem tMX12_isSign_0 {d : Nat} {Q : ab_Qt} {sc : Nat × (Nat → Int32)} {i : Nat → Nat → Int32} {l : Nat → Nat → Int64} {dd : Nat → Nat → Value} {x : Nat} {a1 : Int32} {a2 : Int32} 
    (h : (∃ (r1 : Int32) (P2 : ab_S → Prop), ab_Sp MX12_isVoter d [.ref 205, .int a1] (i, l, dd, x) (ab_E0 sc) (some (.int r1)) P2 ∧ ∀ i5 l6 dd7 x8, P2 (i5, l6, dd7, x8) → ((r1 = 0 → Q (some (some (.int 0))) (i5, l6, dd7, x8) (ab_E0 sc)) ∧ (¬ r1 = 0 → ((a2 < 0 → Q (some (some (.int 0))) (i5, l6, dd7, x8) (ab_E0 sc)) ∧ (¬ a2 < 0 → (vp_in a1 14 ∧ (((i5 212 a1.toNatClampNeg) ≤ a2 → Q (some (some (.int 0))) (i5, l6, dd7, x8) (ab_E0 sc)) ∧ (¬ (i5 212 a1.toNatClampNeg) ≤ a2 → Q (some (some (.int 1))) (i5, l6, dd7, x8) (ab_E0 sc)))))))))) :
    ab_Fr MX12_isSign (d + 1) Q 0 [some (.ref 205), some (.int a1), some (.int a2)] [] (0, 0) (i, l, dd, x) (ab_E0 sc) := by
  refine ab_aloadn dX12_isSign_0 rfl ?_
  refine ab_iloadn dX12_isSign_1 rfl ?_
  obtain ⟨r1, P2, hs3, hk4⟩ := h
  refine ab_callV (vs := [.int a1]) (st := []) dX12_isSign_2 okMX12_isVoter wd_1553 kd_205 rfl rfl rfl (Nat.le_of_ble_eq_true rfl) ⟨Nat.le_of_ble_eq_true rfl, Nat.le_of_ble_eq_true rfl⟩ hs3 ?_
  rintro v9 ⟨i5, l6, dd7, x8⟩ E9 - ⟨rfl, rfl, hp9⟩
  show ab_Fr MX12_isSign (d + 1) Q 5 [some (.ref 205), some (.int a1), some (.int a2)] [.int r1] (0, 0) (i5, l6, dd7, x8) (ab_E0 sc)
  refine ab_if_eq (tgt := 26) dX12_isSign_5 (by decide) (fun c10 => ?_) (fun c10 => ?_)
  · refine ab_iconst (v := 0) dX12_isSign_26 (by decide) ?_
    exact ab_zret dX12_isSign_27 rfl (by decide) ⟨Nat.zero_le _, Nat.zero_le _⟩ ((hk4 i5 l6 dd7 x8 hp9).1 c10)
  · refine ab_iloadn dX12_isSign_8 rfl ?_
    refine ab_if_lt (tgt := 26) dX12_isSign_9 (by decide) (fun c11 => ?_) (fun c11 => ?_)
    · refine ab_iconst (v := 0) dX12_isSign_26 (by decide) ?_
      exact ab_zret dX12_isSign_27 rfl (by decide) ⟨Nat.zero_le _, Nat.zero_le _⟩ (((hk4 i5 l6 dd7 x8 hp9).2 c10).1 c11)
    · refine ab_iloadn dX12_isSign_12 rfl ?_
      refine ab_aloadn dX12_isSign_13 rfl ?_
      refine ab_getf (v := .ref 212) dX12_isSign_14 fl_X12_29 kd_205 ff_205_16 ?_
      refine ab_iloadn dX12_isSign_17 rfl ?_
      refine ab_iaload (v := (i5 212 a1.toNatClampNeg)) dX12_isSign_18 kd_212 (((hk4 i5 l6 dd7 x8 hp9).2 c10).2 c11).1 rfl ?_
      refine ab_icmp_ge (tgt := 26) dX12_isSign_19 (by decide) (fun c12 => ?_) (fun c12 => ?_)
      · refine ab_iconst (v := 0) dX12_isSign_26 (by decide) ?_
        exact ab_zret dX12_isSign_27 rfl (by decide) ⟨Nat.zero_le _, Nat.zero_le _⟩ ((((hk4 i5 l6 dd7 x8 hp9).2 c10).2 c11).2.1 c12)
      · refine ab_iconst (v := 1) dX12_isSign_22 (by decide) ?_
        refine ab_goto (tgt := 27) dX12_isSign_23 (by decide) ?_
        exact ab_zret dX12_isSign_27 rfl (by decide) ⟨Nat.zero_le _, Nat.zero_le _⟩ ((((hk4 i5 l6 dd7 x8 hp9).2 c10).2 c11).2.2 c12)
theorem tMX12_decided_0 {d : Nat} {Q : ab_Qt} {sc : Nat × (Nat → Int32)} {i : Nat → Nat → Int32} {l : Nat → Nat → Int64} {dd : Nat → Nat → Value} {x : Nat}  
    (h : (∀ i1, i1 = ab_u i 205 0 0 → ∃ (r3 : Int32) (P4 : ab_S → Prop), ab_Sp MX12_rowTold d [.ref 205] (i1, l, dd, x) (ab_E0 sc) (some (.int r3)) P4 ∧ ∀ i7 l8 dd9 x10, P4 (i7, l8, dd9, x10) → ∀ i12, i12 = ab_u i7 205 2 0 → ((¬ r3 = (-1) → (∃ (r15 : Int32) (P16 : ab_S → Prop), ab_Sp MX12_decideRow d [.ref 205, .int r3, .int 0] (i12, l8, dd9, x10) (ab_E0 sc) (some (.int r15)) P16 ∧ ∀ i19 l20 dd21 x22, P16 (i19, l20, dd21, x22) → Q (some (some (.int r15))) (i19, l20, dd21, x22) (ab_E0 sc))) ∧ (r3 = (-1) → Q (some (some (.int (-1)))) (i12, l8, dd9, x10) (ab_E0 sc))))) :
    ab_Fr MX12_decided (d + 1) Q 0 [some (.ref 205), none] [] (0, 0) (i, l, dd, x) (ab_E0 sc) := by
  refine ab_aloadn dX12_decided_0 rfl ?_
  refine ab_iconst (v := 0) dX12_decided_1 (by decide) ?_
  refine ab_putI dX12_decided_2 fl_X12_149 kd_205 rfl ?_
  obtain ⟨i1, e2⟩ : ∃ z, z = ab_u i 205 0 0 := ⟨_, rfl⟩
  show ab_Fr MX12_decided (d + 1) Q 5 [some (.ref 205), none] [] (0, 0) (ab_u i 205 0 0, l, dd, x) (ab_E0 sc)
  rw [show ab_u i 205 0 0 = i1 from e2.symm]
  refine ab_aloadn dX12_decided_5 rfl ?_
  obtain ⟨r3, P4, hs5, hk6⟩ := (h i1 e2)
  refine ab_callV (vs := []) (st := []) dX12_decided_6 okMX12_rowTold wd_1560 kd_205 rfl rfl rfl (Nat.le_of_ble_eq_true rfl) ⟨Nat.le_of_ble_eq_true rfl, Nat.le_of_ble_eq_true rfl⟩ hs5 ?_
  rintro v9 ⟨i7, l8, dd9, x10⟩ E9 - ⟨rfl, rfl, hp11⟩
  show ab_Fr MX12_decided (d + 1) Q 9 [some (.ref 205), none] [.int r3] (0, 0) (i7, l8, dd9, x10) (ab_E0 sc)
  refine ab_istoren dX12_decided_9 (Nat.le_of_ble_eq_true rfl) (L2 := [some (.ref 205), some (.int r3)]) rfl ?_
  refine ab_aloadn dX12_decided_10 rfl ?_
  refine ab_iconst (v := 0) dX12_decided_11 (by decide) ?_
  refine ab_putI dX12_decided_12 fl_X12_153 kd_205 rfl ?_
  obtain ⟨i12, e13⟩ : ∃ z, z = ab_u i7 205 2 0 := ⟨_, rfl⟩
  show ab_Fr MX12_decided (d + 1) Q 15 [some (.ref 205), some (.int r3)] [] (0, 0) (ab_u i7 205 2 0, l8, dd9, x10) (ab_E0 sc)
  rw [show ab_u i7 205 2 0 = i12 from e13.symm]
  refine ab_iloadn dX12_decided_15 rfl ?_
  refine ab_iconst (v := (-1)) dX12_decided_16 (by decide) ?_
  refine ab_icmp_ne (tgt := 24) dX12_decided_17 (by decide) (fun c14 => ?_) (fun c14 => ?_)
  · refine ab_aloadn dX12_decided_24 rfl ?_
    refine ab_iloadn dX12_decided_25 rfl ?_
    refine ab_iconst (v := 0) dX12_decided_26 (by decide) ?_
    obtain ⟨r15, P16, hs17, hk18⟩ := (((hk6 i7 l8 dd9 x10 hp11) i12 e13).1 c14)
    refine ab_callV (vs := [.int r3, .int 0]) (st := []) dX12_decided_27 okMX12_decideRow wd_1584 kd_205 rfl rfl rfl (Nat.le_of_ble_eq_true rfl) ⟨Nat.le_of_ble_eq_true rfl, Nat.le_of_ble_eq_true rfl⟩ hs17 ?_
    rintro v9 ⟨i19, l20, dd21, x22⟩ E9 - ⟨rfl, rfl, hp23⟩
    show ab_Fr MX12_decided (d + 1) Q 30 [some (.ref 205), some (.int r3)] [.int r15] (0, 0) (i19, l20, dd21, x22) (ab_E0 sc)
    exact ab_iret dX12_decided_30 rfl ⟨Nat.zero_le _, Nat.zero_le _⟩ (hk18 i19 l20 dd21 x22 hp23)
  · refine ab_iconst (v := (-1)) dX12_decided_20 (by decide) ?_
    refine ab_goto (tgt := 30) dX12_decided_21 (by decide) ?_
    exact ab_iret dX12_decided_30 rfl ⟨Nat.zero_le _, Nat.zero_le _⟩ (((hk6 i7 l8 dd9 x10 hp11) i12 e13).2 c14)
theorem tMX12_decideRow_0 {d : Nat} {Q : ab_Qt} {sc : Nat × (Nat → Int32)} {i : Nat → Nat → Int32} {l : Nat → Nat → Int64} {dd : Nat → Nat → Value} {x : Nat} {a1 : Int32} {a2 : Int32} 
    (h : ab_Fr MX12_decideRow (d + 1) Q 2 [some (.ref 205), some (.int a1), some (.int a2), some (.int 0)] [] (0, 0) (i, l, dd, x) (ab_E0 sc)) :
    ab_Fr MX12_decideRow (d + 1) Q 0 [some (.ref 205), some (.int a1), some (.int a2), none] [] (0, 0) (i, l, dd, x) (ab_E0 sc) := by
  refine ab_iconst (v := 0) dX12_decideRow_0 (by decide) ?_
  refine ab_istoren dX12_decideRow_1 (Nat.le_of_ble_eq_true rfl) (L2 := [some (.ref 205), some (.int a1), some (.int a2), some (.int 0)]) rfl ?_
  exact h
theorem tMX12_decideRow_2 {d : Nat} {Q : ab_Qt} {sc : Nat × (Nat → Int32)} {i : Nat → Nat → Int32} {l : Nat → Nat → Int64} {dd : Nat → Nat → Value} {x : Nat} {a1 : Int32} {a2 : Int32} {a3 : Int32} 
    (h : (((i 205 30) ≤ a3 → (∃ (r2 : Int32) (P3 : ab_S → Prop), ab_Sp MX12_decide d [.ref 205] (i, l, dd, x) (ab_E0 sc) (some (.int r2)) P3 ∧ ∀ i6 l7 dd8 x9, P3 (i6, l7, dd8, x9) → Q (some (some (.int r2))) (i6, l7, dd8, x9) (ab_E0 sc))) ∧ (¬ (i 205 30) ≤ a3 → (∃ (r11 : Int32) (P12 : ab_S → Prop), ab_Sp MX12_sign d [.ref 205, .int a1, .int a3] (i, l, dd, x) (ab_E0 sc) (some (.int r11)) P12 ∧ ∀ i15 l16 dd17 x18, P12 (i15, l16, dd17, x18) → vp_in (((21 * a2) + (3 * a3)) + r11) 42 ∧ vp_in a3 7 ∧ ∀ i20, i20 = ab_u i15 226 a3.toNatClampNeg (i15 225 (((21 * a2) + (3 * a3)) + r11).toNatClampNeg) → ab_Fr MX12_decideRow (d + 1) Q 2 [some (.ref 205), some (.int a1), some (.int a2), some (.int (a3 + 1))] [] (0, 0) (i20, l16, dd17, x18) (ab_E0 sc))))) :
    ab_Fr MX12_decideRow (d + 1) Q 2 [some (.ref 205), some (.int a1), some (.int a2), some (.int a3)] [] (0, 0) (i, l, dd, x) (ab_E0 sc) := by
  refine ab_iloadn dX12_decideRow_2 rfl ?_
  refine ab_aloadn dX12_decideRow_3 rfl ?_
  refine ab_getf (v := .int (i 205 30)) dX12_decideRow_4 fl_X12_306 kd_205 rfl ?_
  refine ab_icmp_ge (tgt := 42) dX12_decideRow_7 (by decide) (fun c1 => ?_) (fun c1 => ?_)
  · refine ab_aloadn dX12_decideRow_42 rfl ?_
    obtain ⟨r2, P3, hs4, hk5⟩ := (h.1 c1)
    refine ab_callV (vs := []) (st := []) dX12_decideRow_43 okMX12_decide wd_1587 kd_205 rfl rfl rfl (Nat.le_of_ble_eq_true rfl) ⟨Nat.le_of_ble_eq_true rfl, Nat.le_of_ble_eq_true rfl⟩ hs4 ?_
    rintro v9 ⟨i6, l7, dd8, x9⟩ E9 - ⟨rfl, rfl, hp10⟩
    show ab_Fr MX12_decideRow (d + 1) Q 46 [some (.ref 205), some (.int a1), some (.int a2), some (.int a3)] [.int r2] (0, 0) (i6, l7, dd8, x9) (ab_E0 sc)
    exact ab_iret dX12_decideRow_46 rfl ⟨Nat.zero_le _, Nat.zero_le _⟩ (hk5 i6 l7 dd8 x9 hp10)
  · refine ab_aloadn dX12_decideRow_10 rfl ?_
    refine ab_getf (v := .ref 226) dX12_decideRow_11 fl_X12_71 kd_205 ff_205_35 ?_
    refine ab_iloadn dX12_decideRow_14 rfl ?_
    refine ab_aloadn dX12_decideRow_15 rfl ?_
    refine ab_getf (v := .ref 225) dX12_decideRow_16 fl_X12_68 kd_205 ff_205_34 ?_
    refine ab_bipush (v := 21) dX12_decideRow_19 (by decide) ?_
    refine ab_iloadn dX12_decideRow_21 rfl ?_
    refine ab_imul dX12_decideRow_22 ?_
    refine ab_iconst (v := 3) dX12_decideRow_23 (by decide) ?_
    refine ab_iloadn dX12_decideRow_24 rfl ?_
    refine ab_imul dX12_decideRow_25 ?_
    refine ab_iadd dX12_decideRow_26 ?_
    refine ab_aloadn dX12_decideRow_27 rfl ?_
    refine ab_iloadn dX12_decideRow_28 rfl ?_
    refine ab_iloadn dX12_decideRow_29 rfl ?_
    obtain ⟨r11, P12, hs13, hk14⟩ := (h.2 c1)
    refine ab_callV (vs := [.int a1, .int a3]) (st := [.int ((21 * a2) + (3 * a3)), .ref 225, .int a3, .ref 226]) dX12_decideRow_30 okMX12_sign wd_1516 kd_205 rfl rfl rfl (Nat.le_of_ble_eq_true rfl) ⟨Nat.le_of_ble_eq_true rfl, Nat.le_of_ble_eq_true rfl⟩ hs13 ?_
    rintro v9 ⟨i15, l16, dd17, x18⟩ E9 - ⟨rfl, rfl, hp19⟩
    show ab_Fr MX12_decideRow (d + 1) Q 33 [some (.ref 205), some (.int a1), some (.int a2), some (.int a3)] [.int r11, .int ((21 * a2) + (3 * a3)), .ref 225, .int a3, .ref 226] (0, 0) (i15, l16, dd17, x18) (ab_E0 sc)
    refine ab_iadd dX12_decideRow_33 ?_
    refine ab_iaload (v := (i15 225 (((21 * a2) + (3 * a3)) + r11).toNatClampNeg)) dX12_decideRow_34 kd_225 (hk14 i15 l16 dd17 x18 hp19).1 rfl ?_
    refine ab_iastore dX12_decideRow_35 kd_226 (hk14 i15 l16 dd17 x18 hp19).2.1 ?_
    obtain ⟨i20, e21⟩ : ∃ z, z = ab_u i15 226 a3.toNatClampNeg (i15 225 (((21 * a2) + (3 * a3)) + r11).toNatClampNeg) := ⟨_, rfl⟩
    rw [show ab_u i15 226 a3.toNatClampNeg (i15 225 (((21 * a2) + (3 * a3)) + r11).toNatClampNeg) = i20 from e21.symm]
    refine ab_iinc (v := (a3 + 1)) dX12_decideRow_36 rfl (by rfl) (Nat.le_of_ble_eq_true rfl) (L2 := [some (.ref 205), some (.int a1), some (.int a2), some (.int (a3 + 1))]) rfl ?_
    refine ab_goto (tgt := 2) dX12_decideRow_39 (by decide) ?_
    exact ((hk14 i15 l16 dd17 x18 hp19).2.2 i20 e21)
theorem tMX12_decide_0 {d : Nat} {Q : ab_Qt} {sc : Nat × (Nat → Int32)} {i : Nat → Nat → Int32} {l : Nat → Nat → Int64} {dd : Nat → Nat → Value} {x : Nat}  
    (h : ab_Fr MX12_decide (d + 1) Q 2 [some (.ref 205), some (.int 0), none] [] (0, 0) (i, l, dd, x) (ab_E0 sc)) :
    ab_Fr MX12_decide (d + 1) Q 0 [some (.ref 205), none, none] [] (0, 0) (i, l, dd, x) (ab_E0 sc) := by
  refine ab_iconst (v := 0) dX12_decide_0 (by decide) ?_
  refine ab_istoren dX12_decide_1 (Nat.le_of_ble_eq_true rfl) (L2 := [some (.ref 205), some (.int 0), none]) rfl ?_
  exact h
theorem tMX12_decide_2 {d : Nat} {Q : ab_Qt} {sc : Nat × (Nat → Int32)} {i : Nat → Nat → Int32} {l : Nat → Nat → Int64} {dd : Nat → Nat → Value} {x : Nat} {a1 : Int32} 
    (h : (((i 205 29) ≤ a1 → ab_Fr MX12_decide (d + 1) Q 25 [some (.ref 205), some (.int 0), none] [] (0, 0) (i, l, dd, x) (ab_E0 sc)) ∧ (¬ (i 205 29) ≤ a1 → (vp_in a1 10 ∧ ∀ i2, i2 = ab_u i 227 a1.toNatClampNeg 0 → ab_Fr MX12_decide (d + 1) Q 2 [some (.ref 205), some (.int (a1 + 1)), none] [] (0, 0) (i2, l, dd, x) (ab_E0 sc))))) :
    ab_Fr MX12_decide (d + 1) Q 2 [some (.ref 205), some (.int a1), none] [] (0, 0) (i, l, dd, x) (ab_E0 sc) := by
  refine ab_iloadn dX12_decide_2 rfl ?_
  refine ab_aloadn dX12_decide_3 rfl ?_
  refine ab_getf (v := .int (i 205 29)) dX12_decide_4 fl_X12_303 kd_205 rfl ?_
  refine ab_icmp_ge (tgt := 23) dX12_decide_7 (by decide) (fun c1 => ?_) (fun c1 => ?_)
  · refine ab_iconst (v := 0) dX12_decide_23 (by decide) ?_
    refine ab_istoren dX12_decide_24 (Nat.le_of_ble_eq_true rfl) (L2 := [some (.ref 205), some (.int 0), none]) rfl ?_
    exact (h.1 c1)
  · refine ab_aloadn dX12_decide_10 rfl ?_
    refine ab_getf (v := .ref 227) dX12_decide_11 fl_X12_74 kd_205 ff_205_36 ?_
    refine ab_iloadn dX12_decide_14 rfl ?_
    refine ab_iconst (v := 0) dX12_decide_15 (by decide) ?_
    refine ab_iastore dX12_decide_16 kd_227 (h.2 c1).1 ?_
    obtain ⟨i2, e3⟩ : ∃ z, z = ab_u i 227 a1.toNatClampNeg 0 := ⟨_, rfl⟩
    rw [show ab_u i 227 a1.toNatClampNeg 0 = i2 from e3.symm]
    refine ab_iinc (v := (a1 + 1)) dX12_decide_17 rfl (by rfl) (Nat.le_of_ble_eq_true rfl) (L2 := [some (.ref 205), some (.int (a1 + 1)), none]) rfl ?_
    refine ab_goto (tgt := 2) dX12_decide_20 (by decide) ?_
    exact ((h.2 c1).2 i2 e3)
theorem tMX12_decide_25 {d : Nat} {Q : ab_Qt} {sc : Nat × (Nat → Int32)} {i : Nat → Nat → Int32} {l : Nat → Nat → Int64} {dd : Nat → Nat → Value} {x : Nat} {a1 : Int32} 
    (h : (((i 205 30) ≤ a1 → (((i 219 0) ≤ 0 → ab_Fr MX12_decide (d + 1) Q 119 [some (.ref 205), some (.int 0), some (.int 1)] [] (0, 0) (i, l, dd, x) (ab_E0 sc)) ∧ (¬ (i 219 0) ≤ 0 → (vp_in (i 220 0) 10 ∧ (((i 227 (i 220 0).toNatClampNeg) < (i 219 0) → Q (some (some (.int (i 221 0)))) (i, l, dd, x) (ab_E0 sc)) ∧ (¬ (i 227 (i 220 0).toNatClampNeg) < (i 219 0) → Q (some (some (.int (i 220 0)))) (i, l, dd, x) (ab_E0 sc))))))) ∧ (¬ (i 205 30) ≤ a1 → (vp_in a1 7 ∧ (((i 226 a1.toNatClampNeg) = 9 → ab_Fr MX12_decide (d + 1) Q 25 [some (.ref 205), some (.int (a1 + 1)), none] [] (0, 0) (i, l, dd, x) (ab_E0 sc)) ∧ (¬ (i 226 a1.toNatClampNeg) = 9 → (vp_in a1 7 ∧ vp_in (i 226 a1.toNatClampNeg) 10 ∧ vp_in a1 14 ∧ vp_in (i 226 a1.toNatClampNeg) 10 ∧ ∀ i5, i5 = ab_u i 227 (i 226 a1.toNatClampNeg).toNatClampNeg ((i 227 (i 226 a1.toNatClampNeg).toNatClampNeg) + (i 218 a1.toNatClampNeg)) → ab_Fr MX12_decide (d + 1) Q 25 [some (.ref 205), some (.int (a1 + 1)), none] [] (0, 0) (i5, l, dd, x) (ab_E0 sc)))))))) :
    ab_Fr MX12_decide (d + 1) Q 25 [some (.ref 205), some (.int a1), none] [] (0, 0) (i, l, dd, x) (ab_E0 sc) := by
  refine ab_iloadn dX12_decide_25 rfl ?_
  refine ab_aloadn dX12_decide_26 rfl ?_
  refine ab_getf (v := .int (i 205 30)) dX12_decide_27 fl_X12_306 kd_205 rfl ?_
  refine ab_icmp_ge (tgt := 70) dX12_decide_30 (by decide) (fun c1 => ?_) (fun c1 => ?_)
  · refine ab_aloadn dX12_decide_70 rfl ?_
    refine ab_getf (v := .ref 219) dX12_decide_71 fl_X12_50 kd_205 ff_205_23 ?_
    refine ab_iconst (v := 0) dX12_decide_74 (by decide) ?_
    refine ab_iaload (v := (i 219 0)) dX12_decide_75 kd_219 (ab_vp (by decide)) rfl ?_
    refine ab_if_le (tgt := 115) dX12_decide_76 (by decide) (fun c2 => ?_) (fun c2 => ?_)
    · refine ab_iconst (v := 0) dX12_decide_115 (by decide) ?_
      refine ab_istoren dX12_decide_116 (Nat.le_of_ble_eq_true rfl) (L2 := [some (.ref 205), some (.int 0), none]) rfl ?_
      refine ab_iconst (v := 1) dX12_decide_117 (by decide) ?_
      refine ab_istoren dX12_decide_118 (Nat.le_of_ble_eq_true rfl) (L2 := [some (.ref 205), some (.int 0), some (.int 1)]) rfl ?_
      exact ((h.1 c1).1 c2)
    · refine ab_aloadn dX12_decide_79 rfl ?_
      refine ab_getf (v := .ref 227) dX12_decide_80 fl_X12_74 kd_205 ff_205_36 ?_
      refine ab_aloadn dX12_decide_83 rfl ?_
      refine ab_getf (v := .ref 220) dX12_decide_84 fl_X12_53 kd_205 ff_205_24 ?_
      refine ab_iconst (v := 0) dX12_decide_87 (by decide) ?_
      refine ab_iaload (v := (i 220 0)) dX12_decide_88 kd_220 (ab_vp (by decide)) rfl ?_
      refine ab_iaload (v := (i 227 (i 220 0).toNatClampNeg)) dX12_decide_89 kd_227 ((h.1 c1).2 c2).1 rfl ?_
      refine ab_aloadn dX12_decide_90 rfl ?_
      refine ab_getf (v := .ref 219) dX12_decide_91 fl_X12_50 kd_205 ff_205_23 ?_
      refine ab_iconst (v := 0) dX12_decide_94 (by decide) ?_
      refine ab_iaload (v := (i 219 0)) dX12_decide_95 kd_219 (ab_vp (by decide)) rfl ?_
      refine ab_icmp_lt (tgt := 108) dX12_decide_96 (by decide) (fun c3 => ?_) (fun c3 => ?_)
      · refine ab_aloadn dX12_decide_108 rfl ?_
        refine ab_getf (v := .ref 221) dX12_decide_109 fl_X12_56 kd_205 ff_205_25 ?_
        refine ab_iconst (v := 0) dX12_decide_112 (by decide) ?_
        refine ab_iaload (v := (i 221 0)) dX12_decide_113 kd_221 (ab_vp (by decide)) rfl ?_
        exact ab_iret dX12_decide_114 rfl ⟨Nat.zero_le _, Nat.zero_le _⟩ (((h.1 c1).2 c2).2.1 c3)
      · refine ab_aloadn dX12_decide_99 rfl ?_
        refine ab_getf (v := .ref 220) dX12_decide_100 fl_X12_53 kd_205 ff_205_24 ?_
        refine ab_iconst (v := 0) dX12_decide_103 (by decide) ?_
        refine ab_iaload (v := (i 220 0)) dX12_decide_104 kd_220 (ab_vp (by decide)) rfl ?_
        refine ab_goto (tgt := 114) dX12_decide_105 (by decide) ?_
        exact ab_iret dX12_decide_114 rfl ⟨Nat.zero_le _, Nat.zero_le _⟩ (((h.1 c1).2 c2).2.2 c3)
  · refine ab_aloadn dX12_decide_33 rfl ?_
    refine ab_getf (v := .ref 226) dX12_decide_34 fl_X12_71 kd_205 ff_205_35 ?_
    refine ab_iloadn dX12_decide_37 rfl ?_
    refine ab_iaload (v := (i 226 a1.toNatClampNeg)) dX12_decide_38 kd_226 (h.2 c1).1 rfl ?_
    refine ab_bipush (v := 9) dX12_decide_39 (by decide) ?_
    refine ab_icmp_eq (tgt := 64) dX12_decide_41 (by decide) (fun c4 => ?_) (fun c4 => ?_)
    · refine ab_iinc (v := (a1 + 1)) dX12_decide_64 rfl (by rfl) (Nat.le_of_ble_eq_true rfl) (L2 := [some (.ref 205), some (.int (a1 + 1)), none]) rfl ?_
      refine ab_goto (tgt := 25) dX12_decide_67 (by decide) ?_
      exact ((h.2 c1).2.1 c4)
    · refine ab_aloadn dX12_decide_44 rfl ?_
      refine ab_getf (v := .ref 227) dX12_decide_45 fl_X12_74 kd_205 ff_205_36 ?_
      refine ab_aloadn dX12_decide_48 rfl ?_
      refine ab_getf (v := .ref 226) dX12_decide_49 fl_X12_71 kd_205 ff_205_35 ?_
      refine ab_iloadn dX12_decide_52 rfl ?_
      refine ab_iaload (v := (i 226 a1.toNatClampNeg)) dX12_decide_53 kd_226 ((h.2 c1).2.2 c4).1 rfl ?_
      refine ab_dup2 dX12_decide_54 rfl rfl ?_
      refine ab_iaload (v := (i 227 (i 226 a1.toNatClampNeg).toNatClampNeg)) dX12_decide_55 kd_227 ((h.2 c1).2.2 c4).2.1 rfl ?_
      refine ab_aloadn dX12_decide_56 rfl ?_
      refine ab_getf (v := .ref 218) dX12_decide_57 fl_X12_47 kd_205 ff_205_22 ?_
      refine ab_iloadn dX12_decide_60 rfl ?_
      refine ab_iaload (v := (i 218 a1.toNatClampNeg)) dX12_decide_61 kd_218 ((h.2 c1).2.2 c4).2.2.1 rfl ?_
      refine ab_iadd dX12_decide_62 ?_
      refine ab_iastore dX12_decide_63 kd_227 ((h.2 c1).2.2 c4).2.2.2.1 ?_
      obtain ⟨i5, e6⟩ : ∃ z, z = ab_u i 227 (i 226 a1.toNatClampNeg).toNatClampNeg ((i 227 (i 226 a1.toNatClampNeg).toNatClampNeg) + (i 218 a1.toNatClampNeg)) := ⟨_, rfl⟩
      rw [show ab_u i 227 (i 226 a1.toNatClampNeg).toNatClampNeg ((i 227 (i 226 a1.toNatClampNeg).toNatClampNeg) + (i 218 a1.toNatClampNeg)) = i5 from e6.symm]
      refine ab_iinc (v := (a1 + 1)) dX12_decide_64 rfl (by rfl) (Nat.le_of_ble_eq_true rfl) (L2 := [some (.ref 205), some (.int (a1 + 1)), none]) rfl ?_
      refine ab_goto (tgt := 25) dX12_decide_67 (by decide) ?_
      exact (((h.2 c1).2.2 c4).2.2.2.2 i5 e6)
theorem tMX12_decide_119 {d : Nat} {Q : ab_Qt} {sc : Nat × (Nat → Int32)} {i : Nat → Nat → Int32} {l : Nat → Nat → Int64} {dd : Nat → Nat → Value} {x : Nat} {a1 : Int32} {a2 : Int32} 
    (h : (((i 205 29) ≤ a2 → (((i 222 0) = (-1) → Q (some (some (.int a1))) (i, l, dd, x) (ab_E0 sc)) ∧ (¬ (i 222 0) = (-1) → (vp_in (i 222 0) 7 ∧ (((i 226 (i 222 0).toNatClampNeg) = 9 → Q (some (some (.int a1))) (i, l, dd, x) (ab_E0 sc)) ∧ (¬ (i 226 (i 222 0).toNatClampNeg) = 9 → (vp_in (i 226 (i 222 0).toNatClampNeg) 10 ∧ vp_in a1 10 ∧ ((¬ (i 227 (i 226 (i 222 0).toNatClampNeg).toNatClampNeg) = (i 227 a1.toNatClampNeg) → Q (some (some (.int a1))) (i, l, dd, x) (ab_E0 sc)) ∧ ((i 227 (i 226 (i 222 0).toNatClampNeg).toNatClampNeg) = (i 227 a1.toNatClampNeg) → Q (some (some (.int (i 226 (i 222 0).toNatClampNeg)))) (i, l, dd, x) (ab_E0 sc)))))))))) ∧ (¬ (i 205 29) ≤ a2 → (vp_in a2 10 ∧ vp_in a1 10 ∧ (((i 227 a2.toNatClampNeg) ≤ (i 227 a1.toNatClampNeg) → ab_Fr MX12_decide (d + 1) Q 119 [some (.ref 205), some (.int a1), some (.int (a2 + 1))] [] (0, 0) (i, l, dd, x) (ab_E0 sc)) ∧ (¬ (i 227 a2.toNatClampNeg) ≤ (i 227 a1.toNatClampNeg) → ab_Fr MX12_decide (d + 1) Q 119 [some (.ref 205), some (.int a2), some (.int (a2 + 1))] [] (0, 0) (i, l, dd, x) (ab_E0 sc))))))) :
    ab_Fr MX12_decide (d + 1) Q 119 [some (.ref 205), some (.int a1), some (.int a2)] [] (0, 0) (i, l, dd, x) (ab_E0 sc) := by
  refine ab_iloadn dX12_decide_119 rfl ?_
  refine ab_aloadn dX12_decide_120 rfl ?_
  refine ab_getf (v := .int (i 205 29)) dX12_decide_121 fl_X12_303 kd_205 rfl ?_
  refine ab_icmp_ge (tgt := 150) dX12_decide_124 (by decide) (fun c1 => ?_) (fun c1 => ?_)
  · refine ab_aloadn dX12_decide_150 rfl ?_
    refine ab_getf (v := .ref 222) dX12_decide_151 fl_X12_59 kd_205 ff_205_26 ?_
    refine ab_iconst (v := 0) dX12_decide_154 (by decide) ?_
    refine ab_iaload (v := (i 222 0)) dX12_decide_155 kd_222 (ab_vp (by decide)) rfl ?_
    refine ab_iconst (v := (-1)) dX12_decide_156 (by decide) ?_
    refine ab_icmp_eq (tgt := 195) dX12_decide_157 (by decide) (fun c2 => ?_) (fun c2 => ?_)
    · refine ab_iloadn dX12_decide_195 rfl ?_
      exact ab_iret dX12_decide_196 rfl ⟨Nat.zero_le _, Nat.zero_le _⟩ ((h.1 c1).1 c2)
    · refine ab_aloadn dX12_decide_160 rfl ?_
      refine ab_getf (v := .ref 226) dX12_decide_161 fl_X12_71 kd_205 ff_205_35 ?_
      refine ab_aloadn dX12_decide_164 rfl ?_
      refine ab_getf (v := .ref 222) dX12_decide_165 fl_X12_59 kd_205 ff_205_26 ?_
      refine ab_iconst (v := 0) dX12_decide_168 (by decide) ?_
      refine ab_iaload (v := (i 222 0)) dX12_decide_169 kd_222 (ab_vp (by decide)) rfl ?_
      refine ab_iaload (v := (i 226 (i 222 0).toNatClampNeg)) dX12_decide_170 kd_226 ((h.1 c1).2 c2).1 rfl ?_
      refine ab_istoren dX12_decide_171 (Nat.le_of_ble_eq_true rfl) (L2 := [some (.ref 205), some (.int a1), some (.int (i 226 (i 222 0).toNatClampNeg))]) rfl ?_
      refine ab_iloadn dX12_decide_172 rfl ?_
      refine ab_bipush (v := 9) dX12_decide_173 (by decide) ?_
      refine ab_icmp_eq (tgt := 195) dX12_decide_175 (by decide) (fun c3 => ?_) (fun c3 => ?_)
      · refine ab_iloadn dX12_decide_195 rfl ?_
        exact ab_iret dX12_decide_196 rfl ⟨Nat.zero_le _, Nat.zero_le _⟩ (((h.1 c1).2 c2).2.1 c3)
      · refine ab_aloadn dX12_decide_178 rfl ?_
        refine ab_getf (v := .ref 227) dX12_decide_179 fl_X12_74 kd_205 ff_205_36 ?_
        refine ab_iloadn dX12_decide_182 rfl ?_
        refine ab_iaload (v := (i 227 (i 226 (i 222 0).toNatClampNeg).toNatClampNeg)) dX12_decide_183 kd_227 (((h.1 c1).2 c2).2.2 c3).1 rfl ?_
        refine ab_aloadn dX12_decide_184 rfl ?_
        refine ab_getf (v := .ref 227) dX12_decide_185 fl_X12_74 kd_205 ff_205_36 ?_
        refine ab_iloadn dX12_decide_188 rfl ?_
        refine ab_iaload (v := (i 227 a1.toNatClampNeg)) dX12_decide_189 kd_227 (((h.1 c1).2 c2).2.2 c3).2.1 rfl ?_
        refine ab_icmp_ne (tgt := 195) dX12_decide_190 (by decide) (fun c4 => ?_) (fun c4 => ?_)
        · refine ab_iloadn dX12_decide_195 rfl ?_
          exact ab_iret dX12_decide_196 rfl ⟨Nat.zero_le _, Nat.zero_le _⟩ ((((h.1 c1).2 c2).2.2 c3).2.2.1 c4)
        · refine ab_iloadn dX12_decide_193 rfl ?_
          exact ab_iret dX12_decide_194 rfl ⟨Nat.zero_le _, Nat.zero_le _⟩ ((((h.1 c1).2 c2).2.2 c3).2.2.2 c4)
  · refine ab_aloadn dX12_decide_127 rfl ?_
    refine ab_getf (v := .ref 227) dX12_decide_128 fl_X12_74 kd_205 ff_205_36 ?_
    refine ab_iloadn dX12_decide_131 rfl ?_
    refine ab_iaload (v := (i 227 a2.toNatClampNeg)) dX12_decide_132 kd_227 (h.2 c1).1 rfl ?_
    refine ab_aloadn dX12_decide_133 rfl ?_
    refine ab_getf (v := .ref 227) dX12_decide_134 fl_X12_74 kd_205 ff_205_36 ?_
    refine ab_iloadn dX12_decide_137 rfl ?_
    refine ab_iaload (v := (i 227 a1.toNatClampNeg)) dX12_decide_138 kd_227 (h.2 c1).2.1 rfl ?_
    refine ab_icmp_le (tgt := 144) dX12_decide_139 (by decide) (fun c5 => ?_) (fun c5 => ?_)
    · refine ab_iinc (v := (a2 + 1)) dX12_decide_144 rfl (by rfl) (Nat.le_of_ble_eq_true rfl) (L2 := [some (.ref 205), some (.int a1), some (.int (a2 + 1))]) rfl ?_
      refine ab_goto (tgt := 119) dX12_decide_147 (by decide) ?_
      exact ((h.2 c1).2.2.1 c5)
    · refine ab_iloadn dX12_decide_142 rfl ?_
      refine ab_istoren dX12_decide_143 (Nat.le_of_ble_eq_true rfl) (L2 := [some (.ref 205), some (.int a2), some (.int a2)]) rfl ?_
      refine ab_iinc (v := (a2 + 1)) dX12_decide_144 rfl (by rfl) (Nat.le_of_ble_eq_true rfl) (L2 := [some (.ref 205), some (.int a2), some (.int (a2 + 1))]) rfl ?_
      refine ab_goto (tgt := 119) dX12_decide_147 (by decide) ?_
      exact ((h.2 c1).2.2.2 c5)
theorem tMX12_right_0 {d : Nat} {Q : ab_Qt} {sc : Nat × (Nat → Int32)} {i : Nat → Nat → Int32} {l : Nat → Nat → Int64} {dd : Nat → Nat → Value} {x : Nat}  
    (h : (∀ i1, i1 = ab_u i 205 0 0 → ((¬ (i1 205 30) = 0 → (∃ (r4 : Int64) (P5 : ab_S → Prop), ab_Sp MX12_rightBy d [.ref 205, .int 0] (i1, l, dd, x) (ab_E0 sc) (some (.long r4)) P5 ∧ ∀ i8 l9 dd10 x11, P5 (i8, l9, dd10, x11) → Q (some (some (.long r4))) (i8, l9, dd10, x11) (ab_E0 sc))) ∧ ((i1 205 30) = 0 → Q (some (some (.long 0))) (i1, l, dd, x) (ab_E0 sc))))) :
    ab_Fr MX12_right (d + 1) Q 0 [some (.ref 205)] [] (0, 0) (i, l, dd, x) (ab_E0 sc) := by
  refine ab_aloadn dX12_right_0 rfl ?_
  refine ab_iconst (v := 0) dX12_right_1 (by decide) ?_
  refine ab_putI dX12_right_2 fl_X12_149 kd_205 rfl ?_
  obtain ⟨i1, e2⟩ : ∃ z, z = ab_u i 205 0 0 := ⟨_, rfl⟩
  show ab_Fr MX12_right (d + 1) Q 5 [some (.ref 205)] [] (0, 0) (ab_u i 205 0 0, l, dd, x) (ab_E0 sc)
  rw [show ab_u i 205 0 0 = i1 from e2.symm]
  refine ab_aloadn dX12_right_5 rfl ?_
  refine ab_getf (v := .int (i1 205 30)) dX12_right_6 fl_X12_306 kd_205 rfl ?_
  refine ab_if_ne (tgt := 16) dX12_right_9 (by decide) (fun c3 => ?_) (fun c3 => ?_)
  · refine ab_aloadn dX12_right_16 rfl ?_
    refine ab_iconst (v := 0) dX12_right_17 (by decide) ?_
    obtain ⟨r4, P5, hs6, hk7⟩ := ((h i1 e2).1 c3)
    refine ab_callV (vs := [.int 0]) (st := []) dX12_right_18 okMX12_rightBy wd_1594 kd_205 rfl rfl rfl (Nat.le_of_ble_eq_true rfl) ⟨Nat.le_of_ble_eq_true rfl, Nat.le_of_ble_eq_true rfl⟩ hs6 ?_
    rintro v9 ⟨i8, l9, dd10, x11⟩ E9 - ⟨rfl, rfl, hp12⟩
    show ab_Fr MX12_right (d + 1) Q 21 [some (.ref 205)] [.long r4] (0, 0) (i8, l9, dd10, x11) (ab_E0 sc)
    exact ab_lret dX12_right_21 rfl ⟨Nat.zero_le _, Nat.zero_le _⟩ (hk7 i8 l9 dd10 x11 hp12)
  · refine ab_lconst (v := 0) dX12_right_12 (by decide) ?_
    refine ab_goto (tgt := 21) dX12_right_13 (by decide) ?_
    exact ab_lret dX12_right_21 rfl ⟨Nat.zero_le _, Nat.zero_le _⟩ ((h i1 e2).2 c3)
theorem tMX12_rightBy_0 {d : Nat} {Q : ab_Qt} {sc : Nat × (Nat → Int32)} {i : Nat → Nat → Int32} {l : Nat → Nat → Int64} {dd : Nat → Nat → Value} {x : Nat} {a1 : Int32} 
    (h : ab_Fr MX12_rightBy (d + 1) Q 5 [some (.ref 205), some (.int a1), some (.long 0), none, some (.int 0)] [] (0, 0) (i, l, dd, x) (ab_E0 sc)) :
    ab_Fr MX12_rightBy (d + 1) Q 0 [some (.ref 205), some (.int a1), none, none, none] [] (0, 0) (i, l, dd, x) (ab_E0 sc) := by
  refine ab_lconst (v := 0) dX12_rightBy_0 (by decide) ?_
  refine ab_lstoren dX12_rightBy_1 (Nat.le_of_ble_eq_true rfl) (L2 := [some (.ref 205), some (.int a1), some (.long 0), none, none]) rfl ?_
  refine ab_iconst (v := 0) dX12_rightBy_2 (by decide) ?_
  refine ab_istore dX12_rightBy_3 (Nat.le_of_ble_eq_true rfl) (L2 := [some (.ref 205), some (.int a1), some (.long 0), none, some (.int 0)]) rfl ?_
  exact h
theorem tMX12_rightBy_5 {d : Nat} {Q : ab_Qt} {sc : Nat × (Nat → Int32)} {i : Nat → Nat → Int32} {l : Nat → Nat → Int64} {dd : Nat → Nat → Value} {x : Nat} {a1 : Int32} {a2 : Int64} {a4 : Int32} 
    (h : (((i 205 31) ≤ a4 → Q (some (some (.long a2))) (i, l, dd, x) (ab_E0 sc)) ∧ (¬ (i 205 31) ≤ a4 → (∃ (r2 : Int32) (P3 : ab_S → Prop), ab_Sp MX12_decideRow d [.ref 205, .int a4, .int a1] (i, l, dd, x) (ab_E0 sc) (some (.int r2)) P3 ∧ ∀ i6 l7 dd8 x9, P3 (i6, l7, dd8, x9) → vp_in ((3 * a4) + r2) 6561 ∧ ab_Fr MX12_rightBy (d + 1) Q 5 [some (.ref 205), some (.int a1), some (.long (a2 + (l7 224 ((3 * a4) + r2).toNatClampNeg))), none, some (.int (a4 + 1))] [] (0, 0) (i6, l7, dd8, x9) (ab_E0 sc))))) :
    ab_Fr MX12_rightBy (d + 1) Q 5 [some (.ref 205), some (.int a1), some (.long a2), none, some (.int a4)] [] (0, 0) (i, l, dd, x) (ab_E0 sc) := by
  refine ab_iload dX12_rightBy_5 rfl ?_
  refine ab_aloadn dX12_rightBy_7 rfl ?_
  refine ab_getf (v := .int (i 205 31)) dX12_rightBy_8 fl_X12_309 kd_205 rfl ?_
  refine ab_icmp_ge (tgt := 40) dX12_rightBy_11 (by decide) (fun c1 => ?_) (fun c1 => ?_)
  · refine ab_lloadn dX12_rightBy_40 rfl ?_
    exact ab_lret dX12_rightBy_41 rfl ⟨Nat.zero_le _, Nat.zero_le _⟩ (h.1 c1)
  · refine ab_lloadn dX12_rightBy_14 rfl ?_
    refine ab_aloadn dX12_rightBy_15 rfl ?_
    refine ab_getf (v := .ref 224) dX12_rightBy_16 fl_X12_65 kd_205 ff_205_33 ?_
    refine ab_iconst (v := 3) dX12_rightBy_19 (by decide) ?_
    refine ab_iload dX12_rightBy_20 rfl ?_
    refine ab_imul dX12_rightBy_22 ?_
    refine ab_aloadn dX12_rightBy_23 rfl ?_
    refine ab_iload dX12_rightBy_24 rfl ?_
    refine ab_iloadn dX12_rightBy_26 rfl ?_
    obtain ⟨r2, P3, hs4, hk5⟩ := (h.2 c1)
    refine ab_callV (vs := [.int a4, .int a1]) (st := [.int (3 * a4), .ref 224, .long a2]) dX12_rightBy_27 okMX12_decideRow wd_1584 kd_205 rfl rfl rfl (Nat.le_of_ble_eq_true rfl) ⟨Nat.le_of_ble_eq_true rfl, Nat.le_of_ble_eq_true rfl⟩ hs4 ?_
    rintro v9 ⟨i6, l7, dd8, x9⟩ E9 - ⟨rfl, rfl, hp10⟩
    show ab_Fr MX12_rightBy (d + 1) Q 30 [some (.ref 205), some (.int a1), some (.long a2), none, some (.int a4)] [.int r2, .int (3 * a4), .ref 224, .long a2] (0, 0) (i6, l7, dd8, x9) (ab_E0 sc)
    refine ab_iadd dX12_rightBy_30 ?_
    refine ab_laload (v := (l7 224 ((3 * a4) + r2).toNatClampNeg)) dX12_rightBy_31 kd_224 (hk5 i6 l7 dd8 x9 hp10).1 rfl ?_
    refine ab_ladd dX12_rightBy_32 ?_
    refine ab_lstoren dX12_rightBy_33 (Nat.le_of_ble_eq_true rfl) (L2 := [some (.ref 205), some (.int a1), some (.long (a2 + (l7 224 ((3 * a4) + r2).toNatClampNeg))), none, some (.int a4)]) rfl ?_
    refine ab_iinc (v := (a4 + 1)) dX12_rightBy_34 rfl (by rfl) (Nat.le_of_ble_eq_true rfl) (L2 := [some (.ref 205), some (.int a1), some (.long (a2 + (l7 224 ((3 * a4) + r2).toNatClampNeg))), none, some (.int (a4 + 1))]) rfl ?_
    refine ab_goto (tgt := 5) dX12_rightBy_37 (by decide) ?_
    exact (hk5 i6 l7 dd8 x9 hp10).2
theorem tMX12_lost_0 {d : Nat} {Q : ab_Qt} {sc : Nat × (Nat → Int32)} {i : Nat → Nat → Int32} {l : Nat → Nat → Int64} {dd : Nat → Nat → Value} {x : Nat}  
    (h : (∀ i1, i1 = ab_u i 205 0 0 → ((¬ (i1 205 30) = 0 → (∃ (r4 : Int64) (P5 : ab_S → Prop), ab_Sp MX12_lostBy d [.ref 205, .int 0] (i1, l, dd, x) (ab_E0 sc) (some (.long r4)) P5 ∧ ∀ i8 l9 dd10 x11, P5 (i8, l9, dd10, x11) → Q (some (some (.long r4))) (i8, l9, dd10, x11) (ab_E0 sc))) ∧ ((i1 205 30) = 0 → Q (some (some (.long 0))) (i1, l, dd, x) (ab_E0 sc))))) :
    ab_Fr MX12_lost (d + 1) Q 0 [some (.ref 205)] [] (0, 0) (i, l, dd, x) (ab_E0 sc) := by
  refine ab_aloadn dX12_lost_0 rfl ?_
  refine ab_iconst (v := 0) dX12_lost_1 (by decide) ?_
  refine ab_putI dX12_lost_2 fl_X12_149 kd_205 rfl ?_
  obtain ⟨i1, e2⟩ : ∃ z, z = ab_u i 205 0 0 := ⟨_, rfl⟩
  show ab_Fr MX12_lost (d + 1) Q 5 [some (.ref 205)] [] (0, 0) (ab_u i 205 0 0, l, dd, x) (ab_E0 sc)
  rw [show ab_u i 205 0 0 = i1 from e2.symm]
  refine ab_aloadn dX12_lost_5 rfl ?_
  refine ab_getf (v := .int (i1 205 30)) dX12_lost_6 fl_X12_306 kd_205 rfl ?_
  refine ab_if_ne (tgt := 16) dX12_lost_9 (by decide) (fun c3 => ?_) (fun c3 => ?_)
  · refine ab_aloadn dX12_lost_16 rfl ?_
    refine ab_iconst (v := 0) dX12_lost_17 (by decide) ?_
    obtain ⟨r4, P5, hs6, hk7⟩ := ((h i1 e2).1 c3)
    refine ab_callV (vs := [.int 0]) (st := []) dX12_lost_18 okMX12_lostBy wd_1601 kd_205 rfl rfl rfl (Nat.le_of_ble_eq_true rfl) ⟨Nat.le_of_ble_eq_true rfl, Nat.le_of_ble_eq_true rfl⟩ hs6 ?_
    rintro v9 ⟨i8, l9, dd10, x11⟩ E9 - ⟨rfl, rfl, hp12⟩
    show ab_Fr MX12_lost (d + 1) Q 21 [some (.ref 205)] [.long r4] (0, 0) (i8, l9, dd10, x11) (ab_E0 sc)
    exact ab_lret dX12_lost_21 rfl ⟨Nat.zero_le _, Nat.zero_le _⟩ (hk7 i8 l9 dd10 x11 hp12)
  · refine ab_lconst (v := 0) dX12_lost_12 (by decide) ?_
    refine ab_goto (tgt := 21) dX12_lost_13 (by decide) ?_
    exact ab_lret dX12_lost_21 rfl ⟨Nat.zero_le _, Nat.zero_le _⟩ ((h i1 e2).2 c3)
theorem tMX12_lostBy_0 {d : Nat} {Q : ab_Qt} {sc : Nat × (Nat → Int32)} {i : Nat → Nat → Int32} {l : Nat → Nat → Int64} {dd : Nat → Nat → Value} {x : Nat} {a1 : Int32} 
    (h : ab_Fr MX12_lostBy (d + 1) Q 5 [some (.ref 205), some (.int a1), some (.long 0), none, some (.int 0), none, none] [] (0, 0) (i, l, dd, x) (ab_E0 sc)) :
    ab_Fr MX12_lostBy (d + 1) Q 0 [some (.ref 205), some (.int a1), none, none, none, none, none] [] (0, 0) (i, l, dd, x) (ab_E0 sc) := by
  refine ab_lconst (v := 0) dX12_lostBy_0 (by decide) ?_
  refine ab_lstoren dX12_lostBy_1 (Nat.le_of_ble_eq_true rfl) (L2 := [some (.ref 205), some (.int a1), some (.long 0), none, none, none, none]) rfl ?_
  refine ab_iconst (v := 0) dX12_lostBy_2 (by decide) ?_
  refine ab_istore dX12_lostBy_3 (Nat.le_of_ble_eq_true rfl) (L2 := [some (.ref 205), some (.int a1), some (.long 0), none, some (.int 0), none, none]) rfl ?_
  exact h
theorem tMX12_lostBy_5 {d : Nat} {Q : ab_Qt} {sc : Nat × (Nat → Int32)} {i : Nat → Nat → Int32} {l : Nat → Nat → Int64} {dd : Nat → Nat → Value} {x : Nat} {a1 : Int32} {a2 : Int64} {a4 : Int32} 
    (h : (((i 205 31) ≤ a4 → Q (some (some (.long a2))) (i, l, dd, x) (ab_E0 sc)) ∧ (¬ (i 205 31) ≤ a4 → (∃ (r2 : Int32) (P3 : ab_S → Prop), ab_Sp MX12_decideRow d [.ref 205, .int a4, .int a1] (i, l, dd, x) (ab_E0 sc) (some (.int r2)) P3 ∧ ∀ i6 l7 dd8 x9, P3 (i6, l7, dd8, x9) → ab_Fr MX12_lostBy (d + 1) Q 26 [some (.ref 205), some (.int a1), some (.long a2), none, some (.int a4), some (.int r2), some (.int 0)] [] (0, 0) (i6, l7, dd8, x9) (ab_E0 sc))))) :
    ab_Fr MX12_lostBy (d + 1) Q 5 [some (.ref 205), some (.int a1), some (.long a2), none, some (.int a4), none, none] [] (0, 0) (i, l, dd, x) (ab_E0 sc) := by
  refine ab_iload dX12_lostBy_5 rfl ?_
  refine ab_aloadn dX12_lostBy_7 rfl ?_
  refine ab_getf (v := .int (i 205 31)) dX12_lostBy_8 fl_X12_309 kd_205 rfl ?_
  refine ab_icmp_ge (tgt := 74) dX12_lostBy_11 (by decide) (fun c1 => ?_) (fun c1 => ?_)
  · refine ab_lloadn dX12_lostBy_74 rfl ?_
    exact ab_lret dX12_lostBy_75 rfl ⟨Nat.zero_le _, Nat.zero_le _⟩ (h.1 c1)
  · refine ab_aloadn dX12_lostBy_14 rfl ?_
    refine ab_iload dX12_lostBy_15 rfl ?_
    refine ab_iloadn dX12_lostBy_17 rfl ?_
    obtain ⟨r2, P3, hs4, hk5⟩ := (h.2 c1)
    refine ab_callV (vs := [.int a4, .int a1]) (st := []) dX12_lostBy_18 okMX12_decideRow wd_1584 kd_205 rfl rfl rfl (Nat.le_of_ble_eq_true rfl) ⟨Nat.le_of_ble_eq_true rfl, Nat.le_of_ble_eq_true rfl⟩ hs4 ?_
    rintro v9 ⟨i6, l7, dd8, x9⟩ E9 - ⟨rfl, rfl, hp10⟩
    show ab_Fr MX12_lostBy (d + 1) Q 21 [some (.ref 205), some (.int a1), some (.long a2), none, some (.int a4), none, none] [.int r2] (0, 0) (i6, l7, dd8, x9) (ab_E0 sc)
    refine ab_istore dX12_lostBy_21 (Nat.le_of_ble_eq_true rfl) (L2 := [some (.ref 205), some (.int a1), some (.long a2), none, some (.int a4), some (.int r2), none]) rfl ?_
    refine ab_iconst (v := 0) dX12_lostBy_23 (by decide) ?_
    refine ab_istore dX12_lostBy_24 (Nat.le_of_ble_eq_true rfl) (L2 := [some (.ref 205), some (.int a1), some (.long a2), none, some (.int a4), some (.int r2), some (.int 0)]) rfl ?_
    exact (hk5 i6 l7 dd8 x9 hp10)
theorem tMX12_lostBy_26 {d : Nat} {Q : ab_Qt} {sc : Nat × (Nat → Int32)} {i : Nat → Nat → Int32} {l : Nat → Nat → Int64} {dd : Nat → Nat → Value} {x : Nat} {a1 : Int32} {a2 : Int64} {a4 : Int32} {a5 : Int32} {a6 : Int32} 
    (h : (((i 205 29) ≤ a6 → ab_Fr MX12_lostBy (d + 1) Q 5 [some (.ref 205), some (.int a1), some (.long a2), none, some (.int (a4 + 1)), none, none] [] (0, 0) (i, l, dd, x) (ab_E0 sc)) ∧ (¬ (i 205 29) ≤ a6 → (vp_in ((3 * a4) + a6) 6561 ∧ ∃ (r2 : Int32) (P3 : ab_S → Prop), ab_Sp MX12_loss d [.ref 205, .int 7, .int a6, .int a5] (i, l, dd, x) (ab_E0 sc) (some (.int r2)) P3 ∧ ∀ i6 l7 dd8 x9, P3 (i6, l7, dd8, x9) → ab_Fr MX12_lostBy (d + 1) Q 26 [some (.ref 205), some (.int a1), some (.long (a2 + ((l 224 ((3 * a4) + a6).toNatClampNeg) * r2.toInt64))), none, some (.int a4), some (.int a5), some (.int (a6 + 1))] [] (0, 0) (i6, l7, dd8, x9) (ab_E0 sc))))) :
    ab_Fr MX12_lostBy (d + 1) Q 26 [some (.ref 205), some (.int a1), some (.long a2), none, some (.int a4), some (.int a5), some (.int a6)] [] (0, 0) (i, l, dd, x) (ab_E0 sc) := by
  refine ab_iload dX12_lostBy_26 rfl ?_
  refine ab_aloadn dX12_lostBy_28 rfl ?_
  refine ab_getf (v := .int (i 205 29)) dX12_lostBy_29 fl_X12_303 kd_205 rfl ?_
  refine ab_icmp_ge (tgt := 68) dX12_lostBy_32 (by decide) (fun c1 => ?_) (fun c1 => ?_)
  · refine ab_iinc (v := (a4 + 1)) dX12_lostBy_68 rfl (by rfl) (Nat.le_of_ble_eq_true rfl) (L2 := [some (.ref 205), some (.int a1), some (.long a2), none, some (.int (a4 + 1)), some (.int a5), some (.int a6)]) rfl ?_
    refine ab_goto (tgt := 5) dX12_lostBy_71 (by decide) ?_
    refine ab_forget (i := 5) (L2 := [some (.ref 205), some (.int a1), some (.long a2), none, some (.int (a4 + 1)), none, some (.int a6)]) rfl ?_
    refine ab_forget (i := 6) (L2 := [some (.ref 205), some (.int a1), some (.long a2), none, some (.int (a4 + 1)), none, none]) rfl ?_
    exact (h.1 c1)
  · refine ab_lloadn dX12_lostBy_35 rfl ?_
    refine ab_aloadn dX12_lostBy_36 rfl ?_
    refine ab_getf (v := .ref 224) dX12_lostBy_37 fl_X12_65 kd_205 ff_205_33 ?_
    refine ab_iconst (v := 3) dX12_lostBy_40 (by decide) ?_
    refine ab_iload dX12_lostBy_41 rfl ?_
    refine ab_imul dX12_lostBy_43 ?_
    refine ab_iload dX12_lostBy_44 rfl ?_
    refine ab_iadd dX12_lostBy_46 ?_
    refine ab_laload (v := (l 224 ((3 * a4) + a6).toNatClampNeg)) dX12_lostBy_47 kd_224 (h.2 c1).1 rfl ?_
    refine ab_aloadn dX12_lostBy_48 rfl ?_
    refine ab_bipush (v := 7) dX12_lostBy_49 (by decide) ?_
    refine ab_iload dX12_lostBy_51 rfl ?_
    refine ab_iload dX12_lostBy_53 rfl ?_
    obtain ⟨r2, P3, hs4, hk5⟩ := (h.2 c1).2
    refine ab_callV (vs := [.int 7, .int a6, .int a5]) (st := [.long (l 224 ((3 * a4) + a6).toNatClampNeg), .long a2]) dX12_lostBy_55 okMX12_loss wd_1534 kd_205 rfl rfl rfl (Nat.le_of_ble_eq_true rfl) ⟨Nat.le_of_ble_eq_true rfl, Nat.le_of_ble_eq_true rfl⟩ hs4 ?_
    rintro v9 ⟨i6, l7, dd8, x9⟩ E9 - ⟨rfl, rfl, hp10⟩
    show ab_Fr MX12_lostBy (d + 1) Q 58 [some (.ref 205), some (.int a1), some (.long a2), none, some (.int a4), some (.int a5), some (.int a6)] [.int r2, .long (l 224 ((3 * a4) + a6).toNatClampNeg), .long a2] (0, 0) (i6, l7, dd8, x9) (ab_E0 sc)
    refine ab_i2l dX12_lostBy_58 rfl ?_
    refine ab_lmul dX12_lostBy_59 ?_
    refine ab_ladd dX12_lostBy_60 ?_
    refine ab_lstoren dX12_lostBy_61 (Nat.le_of_ble_eq_true rfl) (L2 := [some (.ref 205), some (.int a1), some (.long (a2 + ((l 224 ((3 * a4) + a6).toNatClampNeg) * r2.toInt64))), none, some (.int a4), some (.int a5), some (.int a6)]) rfl ?_
    refine ab_iinc (v := (a6 + 1)) dX12_lostBy_62 rfl (by rfl) (Nat.le_of_ble_eq_true rfl) (L2 := [some (.ref 205), some (.int a1), some (.long (a2 + ((l 224 ((3 * a4) + a6).toNatClampNeg) * r2.toInt64))), none, some (.int a4), some (.int a5), some (.int (a6 + 1))]) rfl ?_
    refine ab_goto (tgt := 26) dX12_lostBy_65 (by decide) ?_
    exact (hk5 i6 l7 dd8 x9 hp10)
theorem tMX12_comes_0 {d : Nat} {Q : ab_Qt} {sc : Nat × (Nat → Int32)} {i : Nat → Nat → Int32} {l : Nat → Nat → Int64} {dd : Nat → Nat → Value} {x : Nat} {a1 : Int32} {a2 : Int32} 
    (h : (∃ (r1 : Int32) (P2 : ab_S → Prop), ab_Sp MX12_isTruth d [.ref 205, .int a1] (i, l, dd, x) (ab_E0 sc) (some (.int r1)) P2 ∧ ∀ i5 l6 dd7 x8, P2 (i5, l6, dd7, x8) → ((r1 = 0 → ab_Fr MX12_comes (d + 1) Q 16 [some (.ref 205), none, none, none, none, none] [] (0, 0) (i5, l6, dd7, x8) (ab_E0 sc)) ∧ (¬ r1 = 0 → (∃ (r11 : Int32) (P12 : ab_S → Prop), ab_Sp MX12_isTruth d [.ref 205, .int a2] (i5, l6, dd7, x8) (ab_E0 sc) (some (.int r11)) P12 ∧ ∀ i15 l16 dd17 x18, P12 (i15, l16, dd17, x18) → ((¬ r11 = 0 → (∀ i21, i21 = ab_u i15 205 0 0 → ab_Fr MX12_comes (d + 1) Q 31 [some (.ref 205), some (.int a1), some (.int a2), some (.long 0), none, some (.int 0)] [] (0, 0) (i21, l16, dd17, x18) (ab_E0 sc))) ∧ (r11 = 0 → ab_Fr MX12_comes (d + 1) Q 16 [some (.ref 205), none, none, none, none, none] [] (0, 0) (i15, l16, dd17, x18) (ab_E0 sc)))))))) :
    ab_Fr MX12_comes (d + 1) Q 0 [some (.ref 205), some (.int a1), some (.int a2), none, none, none] [] (0, 0) (i, l, dd, x) (ab_E0 sc) := by
  refine ab_aloadn dX12_comes_0 rfl ?_
  refine ab_iloadn dX12_comes_1 rfl ?_
  obtain ⟨r1, P2, hs3, hk4⟩ := h
  refine ab_callV (vs := [.int a1]) (st := []) dX12_comes_2 okMX12_isTruth wd_1563 kd_205 rfl rfl rfl (Nat.le_of_ble_eq_true rfl) ⟨Nat.le_of_ble_eq_true rfl, Nat.le_of_ble_eq_true rfl⟩ hs3 ?_
  rintro v9 ⟨i5, l6, dd7, x8⟩ E9 - ⟨rfl, rfl, hp9⟩
  show ab_Fr MX12_comes (d + 1) Q 5 [some (.ref 205), some (.int a1), some (.int a2), none, none, none] [.int r1] (0, 0) (i5, l6, dd7, x8) (ab_E0 sc)
  refine ab_if_eq (tgt := 16) dX12_comes_5 (by decide) (fun c10 => ?_) (fun c10 => ?_)
  · refine ab_forget (i := 1) (L2 := [some (.ref 205), none, some (.int a2), none, none, none]) rfl ?_
    refine ab_forget (i := 2) (L2 := [some (.ref 205), none, none, none, none, none]) rfl ?_
    exact ((hk4 i5 l6 dd7 x8 hp9).1 c10)
  · refine ab_aloadn dX12_comes_8 rfl ?_
    refine ab_iloadn dX12_comes_9 rfl ?_
    obtain ⟨r11, P12, hs13, hk14⟩ := ((hk4 i5 l6 dd7 x8 hp9).2 c10)
    refine ab_callV (vs := [.int a2]) (st := []) dX12_comes_10 okMX12_isTruth wd_1563 kd_205 rfl rfl rfl (Nat.le_of_ble_eq_true rfl) ⟨Nat.le_of_ble_eq_true rfl, Nat.le_of_ble_eq_true rfl⟩ hs13 ?_
    rintro v9 ⟨i15, l16, dd17, x18⟩ E9 - ⟨rfl, rfl, hp19⟩
    show ab_Fr MX12_comes (d + 1) Q 13 [some (.ref 205), some (.int a1), some (.int a2), none, none, none] [.int r11] (0, 0) (i15, l16, dd17, x18) (ab_E0 sc)
    refine ab_if_ne (tgt := 21) dX12_comes_13 (by decide) (fun c20 => ?_) (fun c20 => ?_)
    · refine ab_aloadn dX12_comes_21 rfl ?_
      refine ab_iconst (v := 0) dX12_comes_22 (by decide) ?_
      refine ab_putI dX12_comes_23 fl_X12_149 kd_205 rfl ?_
      obtain ⟨i21, e22⟩ : ∃ z, z = ab_u i15 205 0 0 := ⟨_, rfl⟩
      show ab_Fr MX12_comes (d + 1) Q 26 [some (.ref 205), some (.int a1), some (.int a2), none, none, none] [] (0, 0) (ab_u i15 205 0 0, l16, dd17, x18) (ab_E0 sc)
      rw [show ab_u i15 205 0 0 = i21 from e22.symm]
      refine ab_lconst (v := 0) dX12_comes_26 (by decide) ?_
      refine ab_lstoren dX12_comes_27 (Nat.le_of_ble_eq_true rfl) (L2 := [some (.ref 205), some (.int a1), some (.int a2), some (.long 0), none, none]) rfl ?_
      refine ab_iconst (v := 0) dX12_comes_28 (by decide) ?_
      refine ab_istore dX12_comes_29 (Nat.le_of_ble_eq_true rfl) (L2 := [some (.ref 205), some (.int a1), some (.int a2), some (.long 0), none, some (.int 0)]) rfl ?_
      exact (((hk14 i15 l16 dd17 x18 hp19).1 c20) i21 e22)
    · refine ab_forget (i := 1) (L2 := [some (.ref 205), none, some (.int a2), none, none, none]) rfl ?_
      refine ab_forget (i := 2) (L2 := [some (.ref 205), none, none, none, none, none]) rfl ?_
      exact ((hk14 i15 l16 dd17 x18 hp19).2 c20)
theorem tMX12_comes_16 {d : Nat} {Q : ab_Qt} {sc : Nat × (Nat → Int32)} {i : Nat → Nat → Int32} {l : Nat → Nat → Int64} {dd : Nat → Nat → Value} {x : Nat}  
    (h : (∃ (r1 : Int64) (P2 : ab_S → Prop), ab_Sp MX12_refuse d [.ref 205] (i, l, dd, x) (ab_E0 sc) (some (.long r1)) P2 ∧ ∀ i5 l6 dd7 x8, P2 (i5, l6, dd7, x8) → Q (some (some (.long r1))) (i5, l6, dd7, x8) (ab_E0 sc))) :
    ab_Fr MX12_comes (d + 1) Q 16 [some (.ref 205), none, none, none, none, none] [] (0, 0) (i, l, dd, x) (ab_E0 sc) := by
  refine ab_aloadn dX12_comes_16 rfl ?_
  obtain ⟨r1, P2, hs3, hk4⟩ := h
  refine ab_callV (vs := []) (st := []) dX12_comes_17 okMX12_refuse wd_1566 kd_205 rfl rfl rfl (Nat.le_of_ble_eq_true rfl) ⟨Nat.le_of_ble_eq_true rfl, Nat.le_of_ble_eq_true rfl⟩ hs3 ?_
  rintro v9 ⟨i5, l6, dd7, x8⟩ E9 - ⟨rfl, rfl, hp9⟩
  show ab_Fr MX12_comes (d + 1) Q 20 [some (.ref 205), none, none, none, none, none] [.long r1] (0, 0) (i5, l6, dd7, x8) (ab_E0 sc)
  exact ab_lret dX12_comes_20 rfl ⟨Nat.zero_le _, Nat.zero_le _⟩ (hk4 i5 l6 dd7 x8 hp9)
theorem tMX12_comes_31 {d : Nat} {Q : ab_Qt} {sc : Nat × (Nat → Int32)} {i : Nat → Nat → Int32} {l : Nat → Nat → Int64} {dd : Nat → Nat → Value} {x : Nat} {a1 : Int32} {a2 : Int32} {a3 : Int64} {a5 : Int32} 
    (h : (((i 205 31) ≤ a5 → Q (some (some (.long a3))) (i, l, dd, x) (ab_E0 sc)) ∧ (¬ (i 205 31) ≤ a5 → (∃ (r2 : Int32) (P3 : ab_S → Prop), ab_Sp MX12_decideRow d [.ref 205, .int a5, .int 0] (i, l, dd, x) (ab_E0 sc) (some (.int r2)) P3 ∧ ∀ i6 l7 dd8 x9, P3 (i6, l7, dd8, x9) → ((¬ r2 = a2 → ab_Fr MX12_comes (d + 1) Q 31 [some (.ref 205), some (.int a1), some (.int a2), some (.long a3), none, some (.int (a5 + 1))] [] (0, 0) (i6, l7, dd8, x9) (ab_E0 sc)) ∧ (r2 = a2 → (vp_in ((3 * a5) + a1) 6561 ∧ ab_Fr MX12_comes (d + 1) Q 31 [some (.ref 205), some (.int a1), some (.int a2), some (.long (a3 + (l7 224 ((3 * a5) + a1).toNatClampNeg))), none, some (.int (a5 + 1))] [] (0, 0) (i6, l7, dd8, x9) (ab_E0 sc)))))))) :
    ab_Fr MX12_comes (d + 1) Q 31 [some (.ref 205), some (.int a1), some (.int a2), some (.long a3), none, some (.int a5)] [] (0, 0) (i, l, dd, x) (ab_E0 sc) := by
  refine ab_iload dX12_comes_31 rfl ?_
  refine ab_aloadn dX12_comes_33 rfl ?_
  refine ab_getf (v := .int (i 205 31)) dX12_comes_34 fl_X12_309 kd_205 rfl ?_
  refine ab_icmp_ge (tgt := 71) dX12_comes_37 (by decide) (fun c1 => ?_) (fun c1 => ?_)
  · refine ab_lloadn dX12_comes_71 rfl ?_
    exact ab_lret dX12_comes_72 rfl ⟨Nat.zero_le _, Nat.zero_le _⟩ (h.1 c1)
  · refine ab_aloadn dX12_comes_40 rfl ?_
    refine ab_iload dX12_comes_41 rfl ?_
    refine ab_iconst (v := 0) dX12_comes_43 (by decide) ?_
    obtain ⟨r2, P3, hs4, hk5⟩ := (h.2 c1)
    refine ab_callV (vs := [.int a5, .int 0]) (st := []) dX12_comes_44 okMX12_decideRow wd_1584 kd_205 rfl rfl rfl (Nat.le_of_ble_eq_true rfl) ⟨Nat.le_of_ble_eq_true rfl, Nat.le_of_ble_eq_true rfl⟩ hs4 ?_
    rintro v9 ⟨i6, l7, dd8, x9⟩ E9 - ⟨rfl, rfl, hp10⟩
    show ab_Fr MX12_comes (d + 1) Q 47 [some (.ref 205), some (.int a1), some (.int a2), some (.long a3), none, some (.int a5)] [.int r2] (0, 0) (i6, l7, dd8, x9) (ab_E0 sc)
    refine ab_iloadn dX12_comes_47 rfl ?_
    refine ab_icmp_ne (tgt := 65) dX12_comes_48 (by decide) (fun c11 => ?_) (fun c11 => ?_)
    · refine ab_iinc (v := (a5 + 1)) dX12_comes_65 rfl (by rfl) (Nat.le_of_ble_eq_true rfl) (L2 := [some (.ref 205), some (.int a1), some (.int a2), some (.long a3), none, some (.int (a5 + 1))]) rfl ?_
      refine ab_goto (tgt := 31) dX12_comes_68 (by decide) ?_
      exact ((hk5 i6 l7 dd8 x9 hp10).1 c11)
    · refine ab_lloadn dX12_comes_51 rfl ?_
      refine ab_aloadn dX12_comes_52 rfl ?_
      refine ab_getf (v := .ref 224) dX12_comes_53 fl_X12_65 kd_205 ff_205_33 ?_
      refine ab_iconst (v := 3) dX12_comes_56 (by decide) ?_
      refine ab_iload dX12_comes_57 rfl ?_
      refine ab_imul dX12_comes_59 ?_
      refine ab_iloadn dX12_comes_60 rfl ?_
      refine ab_iadd dX12_comes_61 ?_
      refine ab_laload (v := (l7 224 ((3 * a5) + a1).toNatClampNeg)) dX12_comes_62 kd_224 ((hk5 i6 l7 dd8 x9 hp10).2 c11).1 rfl ?_
      refine ab_ladd dX12_comes_63 ?_
      refine ab_lstoren dX12_comes_64 (Nat.le_of_ble_eq_true rfl) (L2 := [some (.ref 205), some (.int a1), some (.int a2), some (.long (a3 + (l7 224 ((3 * a5) + a1).toNatClampNeg))), none, some (.int a5)]) rfl ?_
      refine ab_iinc (v := (a5 + 1)) dX12_comes_65 rfl (by rfl) (Nat.le_of_ble_eq_true rfl) (L2 := [some (.ref 205), some (.int a1), some (.int a2), some (.long (a3 + (l7 224 ((3 * a5) + a1).toNatClampNeg))), none, some (.int (a5 + 1))]) rfl ?_
      refine ab_goto (tgt := 31) dX12_comes_68 (by decide) ?_
      exact ((hk5 i6 l7 dd8 x9 hp10).2 c11).2
theorem tMX12_known_0 {d : Nat} {Q : ab_Qt} {sc : Nat × (Nat → Int32)} {i : Nat → Nat → Int32} {l : Nat → Nat → Int64} {dd : Nat → Nat → Value} {x : Nat}  
    (h : (∀ i1, i1 = ab_u i 205 0 0 → ∃ (r3 : Int32) (P4 : ab_S → Prop), ab_Sp MX12_rowTold d [.ref 205] (i1, l, dd, x) (ab_E0 sc) (some (.int r3)) P4 ∧ ∀ i7 l8 dd9 x10, P4 (i7, l8, dd9, x10) → ∀ i12, i12 = ab_u i7 205 2 0 → ((¬ r3 = (-1) → (∃ (r15 : Int32) (P16 : ab_S → Prop), ab_Sp MX12_knownAt d [.ref 205, .int r3] (i12, l8, dd9, x10) (ab_E0 sc) (some (.int r15)) P16 ∧ ∀ i19 l20 dd21 x22, P16 (i19, l20, dd21, x22) → Q (some (some (.int r15))) (i19, l20, dd21, x22) (ab_E0 sc))) ∧ (r3 = (-1) → Q (some (some (.int (-1)))) (i12, l8, dd9, x10) (ab_E0 sc))))) :
    ab_Fr MX12_known (d + 1) Q 0 [some (.ref 205), none] [] (0, 0) (i, l, dd, x) (ab_E0 sc) := by
  refine ab_aloadn dX12_known_0 rfl ?_
  refine ab_iconst (v := 0) dX12_known_1 (by decide) ?_
  refine ab_putI dX12_known_2 fl_X12_149 kd_205 rfl ?_
  obtain ⟨i1, e2⟩ : ∃ z, z = ab_u i 205 0 0 := ⟨_, rfl⟩
  show ab_Fr MX12_known (d + 1) Q 5 [some (.ref 205), none] [] (0, 0) (ab_u i 205 0 0, l, dd, x) (ab_E0 sc)
  rw [show ab_u i 205 0 0 = i1 from e2.symm]
  refine ab_aloadn dX12_known_5 rfl ?_
  obtain ⟨r3, P4, hs5, hk6⟩ := (h i1 e2)
  refine ab_callV (vs := []) (st := []) dX12_known_6 okMX12_rowTold wd_1560 kd_205 rfl rfl rfl (Nat.le_of_ble_eq_true rfl) ⟨Nat.le_of_ble_eq_true rfl, Nat.le_of_ble_eq_true rfl⟩ hs5 ?_
  rintro v9 ⟨i7, l8, dd9, x10⟩ E9 - ⟨rfl, rfl, hp11⟩
  show ab_Fr MX12_known (d + 1) Q 9 [some (.ref 205), none] [.int r3] (0, 0) (i7, l8, dd9, x10) (ab_E0 sc)
  refine ab_istoren dX12_known_9 (Nat.le_of_ble_eq_true rfl) (L2 := [some (.ref 205), some (.int r3)]) rfl ?_
  refine ab_aloadn dX12_known_10 rfl ?_
  refine ab_iconst (v := 0) dX12_known_11 (by decide) ?_
  refine ab_putI dX12_known_12 fl_X12_153 kd_205 rfl ?_
  obtain ⟨i12, e13⟩ : ∃ z, z = ab_u i7 205 2 0 := ⟨_, rfl⟩
  show ab_Fr MX12_known (d + 1) Q 15 [some (.ref 205), some (.int r3)] [] (0, 0) (ab_u i7 205 2 0, l8, dd9, x10) (ab_E0 sc)
  rw [show ab_u i7 205 2 0 = i12 from e13.symm]
  refine ab_iloadn dX12_known_15 rfl ?_
  refine ab_iconst (v := (-1)) dX12_known_16 (by decide) ?_
  refine ab_icmp_ne (tgt := 24) dX12_known_17 (by decide) (fun c14 => ?_) (fun c14 => ?_)
  · refine ab_aloadn dX12_known_24 rfl ?_
    refine ab_iloadn dX12_known_25 rfl ?_
    obtain ⟨r15, P16, hs17, hk18⟩ := (((hk6 i7 l8 dd9 x10 hp11) i12 e13).1 c14)
    refine ab_callV (vs := [.int r3]) (st := []) dX12_known_26 okMX12_knownAt wd_1612 kd_205 rfl rfl rfl (Nat.le_of_ble_eq_true rfl) ⟨Nat.le_of_ble_eq_true rfl, Nat.le_of_ble_eq_true rfl⟩ hs17 ?_
    rintro v9 ⟨i19, l20, dd21, x22⟩ E9 - ⟨rfl, rfl, hp23⟩
    show ab_Fr MX12_known (d + 1) Q 29 [some (.ref 205), some (.int r3)] [.int r15] (0, 0) (i19, l20, dd21, x22) (ab_E0 sc)
    exact ab_iret dX12_known_29 rfl ⟨Nat.zero_le _, Nat.zero_le _⟩ (hk18 i19 l20 dd21 x22 hp23)
  · refine ab_iconst (v := (-1)) dX12_known_20 (by decide) ?_
    refine ab_goto (tgt := 29) dX12_known_21 (by decide) ?_
    exact ab_iret dX12_known_29 rfl ⟨Nat.zero_le _, Nat.zero_le _⟩ (((hk6 i7 l8 dd9 x10 hp11) i12 e13).2 c14)
theorem tMX12_knownAt_0 {d : Nat} {Q : ab_Qt} {sc : Nat × (Nat → Int32)} {i : Nat → Nat → Int32} {l : Nat → Nat → Int64} {dd : Nat → Nat → Value} {x : Nat} {a1 : Int32} 
    (h : (∃ (r1 : Int64) (P2 : ab_S → Prop), ab_Sp MX12_commonly d [.ref 205, .int a1, .int 0] (i, l, dd, x) (ab_E0 sc) (some (.long r1)) P2 ∧ ∀ i5 l6 dd7 x8, P2 (i5, l6, dd7, x8) → ∃ (r10 : Int64) (P11 : ab_S → Prop), ab_Sp MX12_commonly d [.ref 205, .int a1, .int 1] (i5, l6, dd7, x8) (ab_E0 sc) (some (.long r10)) P11 ∧ ∀ i14 l15 dd16 x17, P11 (i14, l15, dd16, x17) → ((¬ (i14 205 29) = 3 → ab_Fr MX12_knownAt (d + 1) Q 31 [none, none] [.long 0, .long r10, .long r1, .ref 205] (0, 0) (i14, l15, dd16, x17) (ab_E0 sc)) ∧ ((i14 205 29) = 3 → (∃ (r20 : Int64) (P21 : ab_S → Prop), ab_Sp MX12_commonly d [.ref 205, .int a1, .int 2] (i14, l15, dd16, x17) (ab_E0 sc) (some (.long r20)) P21 ∧ ∀ i24 l25 dd26 x27, P21 (i24, l25, dd26, x27) → ab_Fr MX12_knownAt (d + 1) Q 31 [none, none] [.long r20, .long r10, .long r1, .ref 205] (0, 0) (i24, l25, dd26, x27) (ab_E0 sc)))))) :
    ab_Fr MX12_knownAt (d + 1) Q 0 [some (.ref 205), some (.int a1)] [] (0, 0) (i, l, dd, x) (ab_E0 sc) := by
  refine ab_aloadn dX12_knownAt_0 rfl ?_
  refine ab_aloadn dX12_knownAt_1 rfl ?_
  refine ab_iloadn dX12_knownAt_2 rfl ?_
  refine ab_iconst (v := 0) dX12_knownAt_3 (by decide) ?_
  obtain ⟨r1, P2, hs3, hk4⟩ := h
  refine ab_callV (vs := [.int a1, .int 0]) (st := [.ref 205]) dX12_knownAt_4 okMX12_commonly wd_1615 kd_205 rfl rfl rfl (Nat.le_of_ble_eq_true rfl) ⟨Nat.le_of_ble_eq_true rfl, Nat.le_of_ble_eq_true rfl⟩ hs3 ?_
  rintro v9 ⟨i5, l6, dd7, x8⟩ E9 - ⟨rfl, rfl, hp9⟩
  show ab_Fr MX12_knownAt (d + 1) Q 7 [some (.ref 205), some (.int a1)] [.long r1, .ref 205] (0, 0) (i5, l6, dd7, x8) (ab_E0 sc)
  refine ab_aloadn dX12_knownAt_7 rfl ?_
  refine ab_iloadn dX12_knownAt_8 rfl ?_
  refine ab_iconst (v := 1) dX12_knownAt_9 (by decide) ?_
  obtain ⟨r10, P11, hs12, hk13⟩ := (hk4 i5 l6 dd7 x8 hp9)
  refine ab_callV (vs := [.int a1, .int 1]) (st := [.long r1, .ref 205]) dX12_knownAt_10 okMX12_commonly wd_1615 kd_205 rfl rfl rfl (Nat.le_of_ble_eq_true rfl) ⟨Nat.le_of_ble_eq_true rfl, Nat.le_of_ble_eq_true rfl⟩ hs12 ?_
  rintro v9 ⟨i14, l15, dd16, x17⟩ E9 - ⟨rfl, rfl, hp18⟩
  show ab_Fr MX12_knownAt (d + 1) Q 13 [some (.ref 205), some (.int a1)] [.long r10, .long r1, .ref 205] (0, 0) (i14, l15, dd16, x17) (ab_E0 sc)
  refine ab_aloadn dX12_knownAt_13 rfl ?_
  refine ab_getf (v := .int (i14 205 29)) dX12_knownAt_14 fl_X12_303 kd_205 rfl ?_
  refine ab_iconst (v := 3) dX12_knownAt_17 (by decide) ?_
  refine ab_icmp_ne (tgt := 30) dX12_knownAt_18 (by decide) (fun c19 => ?_) (fun c19 => ?_)
  · refine ab_lconst (v := 0) dX12_knownAt_30 (by decide) ?_
    refine ab_forget (i := 0) (L2 := [none, some (.int a1)]) rfl ?_
    refine ab_forget (i := 1) (L2 := [none, none]) rfl ?_
    exact ((hk13 i14 l15 dd16 x17 hp18).1 c19)
  · refine ab_aloadn dX12_knownAt_21 rfl ?_
    refine ab_iloadn dX12_knownAt_22 rfl ?_
    refine ab_iconst (v := 2) dX12_knownAt_23 (by decide) ?_
    obtain ⟨r20, P21, hs22, hk23⟩ := ((hk13 i14 l15 dd16 x17 hp18).2 c19)
    refine ab_callV (vs := [.int a1, .int 2]) (st := [.long r10, .long r1, .ref 205]) dX12_knownAt_24 okMX12_commonly wd_1615 kd_205 rfl rfl rfl (Nat.le_of_ble_eq_true rfl) ⟨Nat.le_of_ble_eq_true rfl, Nat.le_of_ble_eq_true rfl⟩ hs22 ?_
    rintro v9 ⟨i24, l25, dd26, x27⟩ E9 - ⟨rfl, rfl, hp28⟩
    show ab_Fr MX12_knownAt (d + 1) Q 27 [some (.ref 205), some (.int a1)] [.long r20, .long r10, .long r1, .ref 205] (0, 0) (i24, l25, dd26, x27) (ab_E0 sc)
    refine ab_goto (tgt := 31) dX12_knownAt_27 (by decide) ?_
    refine ab_forget (i := 0) (L2 := [none, some (.int a1)]) rfl ?_
    refine ab_forget (i := 1) (L2 := [none, none]) rfl ?_
    exact (hk23 i24 l25 dd26 x27 hp28)
theorem tMX12_knownAt_31 {d : Nat} {Q : ab_Qt} {sc : Nat × (Nat → Int32)} {i : Nat → Nat → Int32} {l : Nat → Nat → Int64} {dd : Nat → Nat → Value} {x : Nat} {s1 : Int64} {s2 : Int64} {s3 : Int64} 
    (h : (∃ (r1 : Int32) (P2 : ab_S → Prop), ab_Sp MX12_least d [.ref 205, .long s1, .long s2, .long s3] (i, l, dd, x) (ab_E0 sc) (some (.int r1)) P2 ∧ ∀ i5 l6 dd7 x8, P2 (i5, l6, dd7, x8) → Q (some (some (.int r1))) (i5, l6, dd7, x8) (ab_E0 sc))) :
    ab_Fr MX12_knownAt (d + 1) Q 31 [none, none] [.long s3, .long s2, .long s1, .ref 205] (0, 0) (i, l, dd, x) (ab_E0 sc) := by
  obtain ⟨r1, P2, hs3, hk4⟩ := h
  refine ab_callV (vs := [.long s1, .long s2, .long s3]) (st := []) dX12_knownAt_31 okMX12_least wd_1537 kd_205 rfl rfl rfl (Nat.le_of_ble_eq_true rfl) ⟨Nat.le_of_ble_eq_true rfl, Nat.le_of_ble_eq_true rfl⟩ hs3 ?_
  rintro v9 ⟨i5, l6, dd7, x8⟩ E9 - ⟨rfl, rfl, hp9⟩
  show ab_Fr MX12_knownAt (d + 1) Q 34 [none, none] [.int r1] (0, 0) (i5, l6, dd7, x8) (ab_E0 sc)
  exact ab_iret dX12_knownAt_34 rfl ⟨Nat.zero_le _, Nat.zero_le _⟩ (hk4 i5 l6 dd7 x8 hp9)
theorem tMX12_commonly_0 {d : Nat} {Q : ab_Qt} {sc : Nat × (Nat → Int32)} {i : Nat → Nat → Int32} {l : Nat → Nat → Int64} {dd : Nat → Nat → Value} {x : Nat} {a1 : Int32} {a2 : Int32} 
    (h : ab_Fr MX12_commonly (d + 1) Q 5 [some (.ref 205), some (.int a1), some (.int a2), some (.long 0), none, some (.int 0)] [] (0, 0) (i, l, dd, x) (ab_E0 sc)) :
    ab_Fr MX12_commonly (d + 1) Q 0 [some (.ref 205), some (.int a1), some (.int a2), none, none, none] [] (0, 0) (i, l, dd, x) (ab_E0 sc) := by
  refine ab_lconst (v := 0) dX12_commonly_0 (by decide) ?_
  refine ab_lstoren dX12_commonly_1 (Nat.le_of_ble_eq_true rfl) (L2 := [some (.ref 205), some (.int a1), some (.int a2), some (.long 0), none, none]) rfl ?_
  refine ab_iconst (v := 0) dX12_commonly_2 (by decide) ?_
  refine ab_istore dX12_commonly_3 (Nat.le_of_ble_eq_true rfl) (L2 := [some (.ref 205), some (.int a1), some (.int a2), some (.long 0), none, some (.int 0)]) rfl ?_
  exact h
theorem tMX12_commonly_5 {d : Nat} {Q : ab_Qt} {sc : Nat × (Nat → Int32)} {i : Nat → Nat → Int32} {l : Nat → Nat → Int64} {dd : Nat → Nat → Value} {x : Nat} {a1 : Int32} {a2 : Int32} {a3 : Int64} {a5 : Int32} 
    (h : (((i 205 29) ≤ a5 → Q (some (some (.long a3))) (i, l, dd, x) (ab_E0 sc)) ∧ (¬ (i 205 29) ≤ a5 → (vp_in ((3 * a1) + a5) 6561 ∧ ∃ (r2 : Int32) (P3 : ab_S → Prop), ab_Sp MX12_loss d [.ref 205, .int 7, .int a5, .int a2] (i, l, dd, x) (ab_E0 sc) (some (.int r2)) P3 ∧ ∀ i6 l7 dd8 x9, P3 (i6, l7, dd8, x9) → ab_Fr MX12_commonly (d + 1) Q 5 [some (.ref 205), some (.int a1), some (.int a2), some (.long (a3 + ((l 224 ((3 * a1) + a5).toNatClampNeg) * r2.toInt64))), none, some (.int (a5 + 1))] [] (0, 0) (i6, l7, dd8, x9) (ab_E0 sc))))) :
    ab_Fr MX12_commonly (d + 1) Q 5 [some (.ref 205), some (.int a1), some (.int a2), some (.long a3), none, some (.int a5)] [] (0, 0) (i, l, dd, x) (ab_E0 sc) := by
  refine ab_iload dX12_commonly_5 rfl ?_
  refine ab_aloadn dX12_commonly_7 rfl ?_
  refine ab_getf (v := .int (i 205 29)) dX12_commonly_8 fl_X12_303 kd_205 rfl ?_
  refine ab_icmp_ge (tgt := 45) dX12_commonly_11 (by decide) (fun c1 => ?_) (fun c1 => ?_)
  · refine ab_lloadn dX12_commonly_45 rfl ?_
    exact ab_lret dX12_commonly_46 rfl ⟨Nat.zero_le _, Nat.zero_le _⟩ (h.1 c1)
  · refine ab_lloadn dX12_commonly_14 rfl ?_
    refine ab_aloadn dX12_commonly_15 rfl ?_
    refine ab_getf (v := .ref 224) dX12_commonly_16 fl_X12_65 kd_205 ff_205_33 ?_
    refine ab_iconst (v := 3) dX12_commonly_19 (by decide) ?_
    refine ab_iloadn dX12_commonly_20 rfl ?_
    refine ab_imul dX12_commonly_21 ?_
    refine ab_iload dX12_commonly_22 rfl ?_
    refine ab_iadd dX12_commonly_24 ?_
    refine ab_laload (v := (l 224 ((3 * a1) + a5).toNatClampNeg)) dX12_commonly_25 kd_224 (h.2 c1).1 rfl ?_
    refine ab_aloadn dX12_commonly_26 rfl ?_
    refine ab_bipush (v := 7) dX12_commonly_27 (by decide) ?_
    refine ab_iload dX12_commonly_29 rfl ?_
    refine ab_iloadn dX12_commonly_31 rfl ?_
    obtain ⟨r2, P3, hs4, hk5⟩ := (h.2 c1).2
    refine ab_callV (vs := [.int 7, .int a5, .int a2]) (st := [.long (l 224 ((3 * a1) + a5).toNatClampNeg), .long a3]) dX12_commonly_32 okMX12_loss wd_1534 kd_205 rfl rfl rfl (Nat.le_of_ble_eq_true rfl) ⟨Nat.le_of_ble_eq_true rfl, Nat.le_of_ble_eq_true rfl⟩ hs4 ?_
    rintro v9 ⟨i6, l7, dd8, x9⟩ E9 - ⟨rfl, rfl, hp10⟩
    show ab_Fr MX12_commonly (d + 1) Q 35 [some (.ref 205), some (.int a1), some (.int a2), some (.long a3), none, some (.int a5)] [.int r2, .long (l 224 ((3 * a1) + a5).toNatClampNeg), .long a3] (0, 0) (i6, l7, dd8, x9) (ab_E0 sc)
    refine ab_i2l dX12_commonly_35 rfl ?_
    refine ab_lmul dX12_commonly_36 ?_
    refine ab_ladd dX12_commonly_37 ?_
    refine ab_lstoren dX12_commonly_38 (Nat.le_of_ble_eq_true rfl) (L2 := [some (.ref 205), some (.int a1), some (.int a2), some (.long (a3 + ((l 224 ((3 * a1) + a5).toNatClampNeg) * r2.toInt64))), none, some (.int a5)]) rfl ?_
    refine ab_iinc (v := (a5 + 1)) dX12_commonly_39 rfl (by rfl) (Nat.le_of_ble_eq_true rfl) (L2 := [some (.ref 205), some (.int a1), some (.int a2), some (.long (a3 + ((l 224 ((3 * a1) + a5).toNatClampNeg) * r2.toInt64))), none, some (.int (a5 + 1))]) rfl ?_
    refine ab_goto (tgt := 5) dX12_commonly_42 (by decide) ?_
    exact (hk5 i6 l7 dd8 x9 hp10)
theorem tMX12_knows_0 {d : Nat} {Q : ab_Qt} {sc : Nat × (Nat → Int32)} {i : Nat → Nat → Int32} {l : Nat → Nat → Int64} {dd : Nat → Nat → Value} {x : Nat} {a1 : Int32} 
    (h : (((i 205 30) = 0 → ab_Fr MX12_knows (d + 1) Q 16 [some (.ref 205), none, none, none, none] [] (0, 0) (i, l, dd, x) (ab_E0 sc)) ∧ (¬ (i 205 30) = 0 → (∃ (r2 : Int32) (P3 : ab_S → Prop), ab_Sp MX12_isIn d [.int a1, .int 0, .int 1] (i, l, dd, x) (ab_E0 sc) (some (.int r2)) P3 ∧ ∀ i6 l7 dd8 x9, P3 (i6, l7, dd8, x9) → ((¬ r2 = 0 → (∀ i12, i12 = ab_u i6 205 0 0 → ab_Fr MX12_knows (d + 1) Q 31 [some (.ref 205), some (.int a1), some (.long 0), none, some (.int 0)] [] (0, 0) (i12, l7, dd8, x9) (ab_E0 sc))) ∧ (r2 = 0 → ab_Fr MX12_knows (d + 1) Q 16 [some (.ref 205), none, none, none, none] [] (0, 0) (i6, l7, dd8, x9) (ab_E0 sc))))))) :
    ab_Fr MX12_knows (d + 1) Q 0 [some (.ref 205), some (.int a1), none, none, none] [] (0, 0) (i, l, dd, x) (ab_E0 sc) := by
  refine ab_aloadn dX12_knows_0 rfl ?_
  refine ab_getf (v := .int (i 205 30)) dX12_knows_1 fl_X12_306 kd_205 rfl ?_
  refine ab_if_eq (tgt := 16) dX12_knows_4 (by decide) (fun c1 => ?_) (fun c1 => ?_)
  · refine ab_forget (i := 1) (L2 := [some (.ref 205), none, none, none, none]) rfl ?_
    exact (h.1 c1)
  · refine ab_iloadn dX12_knows_7 rfl ?_
    refine ab_iconst (v := 0) dX12_knows_8 (by decide) ?_
    refine ab_iconst (v := 1) dX12_knows_9 (by decide) ?_
    obtain ⟨r2, P3, hs4, hk5⟩ := (h.2 c1)
    refine ab_callS (vs := [.int a1, .int 0, .int 1]) (st := []) dX12_knows_10 okMX12_isIn wd_1486 rfl rfl (Nat.le_of_ble_eq_true rfl) ⟨Nat.le_of_ble_eq_true rfl, Nat.le_of_ble_eq_true rfl⟩ hs4 ?_
    rintro v9 ⟨i6, l7, dd8, x9⟩ E9 - ⟨rfl, rfl, hp10⟩
    show ab_Fr MX12_knows (d + 1) Q 13 [some (.ref 205), some (.int a1), none, none, none] [.int r2] (0, 0) (i6, l7, dd8, x9) (ab_E0 sc)
    refine ab_if_ne (tgt := 21) dX12_knows_13 (by decide) (fun c11 => ?_) (fun c11 => ?_)
    · refine ab_aloadn dX12_knows_21 rfl ?_
      refine ab_iconst (v := 0) dX12_knows_22 (by decide) ?_
      refine ab_putI dX12_knows_23 fl_X12_149 kd_205 rfl ?_
      obtain ⟨i12, e13⟩ : ∃ z, z = ab_u i6 205 0 0 := ⟨_, rfl⟩
      show ab_Fr MX12_knows (d + 1) Q 26 [some (.ref 205), some (.int a1), none, none, none] [] (0, 0) (ab_u i6 205 0 0, l7, dd8, x9) (ab_E0 sc)
      rw [show ab_u i6 205 0 0 = i12 from e13.symm]
      refine ab_lconst (v := 0) dX12_knows_26 (by decide) ?_
      refine ab_lstoren dX12_knows_27 (Nat.le_of_ble_eq_true rfl) (L2 := [some (.ref 205), some (.int a1), some (.long 0), none, none]) rfl ?_
      refine ab_iconst (v := 0) dX12_knows_28 (by decide) ?_
      refine ab_istore dX12_knows_29 (Nat.le_of_ble_eq_true rfl) (L2 := [some (.ref 205), some (.int a1), some (.long 0), none, some (.int 0)]) rfl ?_
      exact (((hk5 i6 l7 dd8 x9 hp10).1 c11) i12 e13)
    · refine ab_forget (i := 1) (L2 := [some (.ref 205), none, none, none, none]) rfl ?_
      exact ((hk5 i6 l7 dd8 x9 hp10).2 c11)
theorem tMX12_knows_16 {d : Nat} {Q : ab_Qt} {sc : Nat × (Nat → Int32)} {i : Nat → Nat → Int32} {l : Nat → Nat → Int64} {dd : Nat → Nat → Value} {x : Nat}  
    (h : (∃ (r1 : Int64) (P2 : ab_S → Prop), ab_Sp MX12_refuse d [.ref 205] (i, l, dd, x) (ab_E0 sc) (some (.long r1)) P2 ∧ ∀ i5 l6 dd7 x8, P2 (i5, l6, dd7, x8) → Q (some (some (.long r1))) (i5, l6, dd7, x8) (ab_E0 sc))) :
    ab_Fr MX12_knows (d + 1) Q 16 [some (.ref 205), none, none, none, none] [] (0, 0) (i, l, dd, x) (ab_E0 sc) := by
  refine ab_aloadn dX12_knows_16 rfl ?_
  obtain ⟨r1, P2, hs3, hk4⟩ := h
  refine ab_callV (vs := []) (st := []) dX12_knows_17 okMX12_refuse wd_1566 kd_205 rfl rfl rfl (Nat.le_of_ble_eq_true rfl) ⟨Nat.le_of_ble_eq_true rfl, Nat.le_of_ble_eq_true rfl⟩ hs3 ?_
  rintro v9 ⟨i5, l6, dd7, x8⟩ E9 - ⟨rfl, rfl, hp9⟩
  show ab_Fr MX12_knows (d + 1) Q 20 [some (.ref 205), none, none, none, none] [.long r1] (0, 0) (i5, l6, dd7, x8) (ab_E0 sc)
  exact ab_lret dX12_knows_20 rfl ⟨Nat.zero_le _, Nat.zero_le _⟩ (hk4 i5 l6 dd7 x8 hp9)
theorem tMX12_knows_31 {d : Nat} {Q : ab_Qt} {sc : Nat × (Nat → Int32)} {i : Nat → Nat → Int32} {l : Nat → Nat → Int64} {dd : Nat → Nat → Value} {x : Nat} {a1 : Int32} {a2 : Int64} {a4 : Int32} 
    (h : (((i 205 31) ≤ a4 → Q (some (some (.long a2))) (i, l, dd, x) (ab_E0 sc)) ∧ (¬ (i 205 31) ≤ a4 → ((¬ a1 = 0 → (∃ (r3 : Int32) (P4 : ab_S → Prop), ab_Sp MX12_knownAt d [.ref 205, .int a4] (i, l, dd, x) (ab_E0 sc) (some (.int r3)) P4 ∧ ∀ i7 l8 dd9 x10, P4 (i7, l8, dd9, x10) → vp_in ((3 * a4) + r3) 6561 ∧ ab_Fr MX12_knows (d + 1) Q 31 [some (.ref 205), some (.int a1), some (.long (a2 + (l8 224 ((3 * a4) + r3).toNatClampNeg))), none, some (.int (a4 + 1))] [] (0, 0) (i7, l8, dd9, x10) (ab_E0 sc))) ∧ (a1 = 0 → (∃ (r12 : Int32) (P13 : ab_S → Prop), ab_Sp MX12_knownAt d [.ref 205, .int a4] (i, l, dd, x) (ab_E0 sc) (some (.int r12)) P13 ∧ ∀ i16 l17 dd18 x19, P13 (i16, l17, dd18, x19) → ∃ (r21 : Int64) (P22 : ab_S → Prop), ab_Sp MX12_commonly d [.ref 205, .int a4, .int r12] (i16, l17, dd18, x19) (ab_E0 sc) (some (.long r21)) P22 ∧ ∀ i25 l26 dd27 x28, P22 (i25, l26, dd27, x28) → ab_Fr MX12_knows (d + 1) Q 31 [some (.ref 205), some (.int a1), some (.long (a2 + r21)), none, some (.int (a4 + 1))] [] (0, 0) (i25, l26, dd27, x28) (ab_E0 sc))))))) :
    ab_Fr MX12_knows (d + 1) Q 31 [some (.ref 205), some (.int a1), some (.long a2), none, some (.int a4)] [] (0, 0) (i, l, dd, x) (ab_E0 sc) := by
  refine ab_iload dX12_knows_31 rfl ?_
  refine ab_aloadn dX12_knows_33 rfl ?_
  refine ab_getf (v := .int (i 205 31)) dX12_knows_34 fl_X12_309 kd_205 rfl ?_
  refine ab_icmp_ge (tgt := 84) dX12_knows_37 (by decide) (fun c1 => ?_) (fun c1 => ?_)
  · refine ab_lloadn dX12_knows_84 rfl ?_
    exact ab_lret dX12_knows_85 rfl ⟨Nat.zero_le _, Nat.zero_le _⟩ (h.1 c1)
  · refine ab_lloadn dX12_knows_40 rfl ?_
    refine ab_iloadn dX12_knows_41 rfl ?_
    refine ab_if_ne (tgt := 60) dX12_knows_42 (by decide) (fun c2 => ?_) (fun c2 => ?_)
    · refine ab_aloadn dX12_knows_60 rfl ?_
      refine ab_getf (v := .ref 224) dX12_knows_61 fl_X12_65 kd_205 ff_205_33 ?_
      refine ab_iconst (v := 3) dX12_knows_64 (by decide) ?_
      refine ab_iload dX12_knows_65 rfl ?_
      refine ab_imul dX12_knows_67 ?_
      refine ab_aloadn dX12_knows_68 rfl ?_
      refine ab_iload dX12_knows_69 rfl ?_
      obtain ⟨r3, P4, hs5, hk6⟩ := ((h.2 c1).1 c2)
      refine ab_callV (vs := [.int a4]) (st := [.int (3 * a4), .ref 224, .long a2]) dX12_knows_71 okMX12_knownAt wd_1612 kd_205 rfl rfl rfl (Nat.le_of_ble_eq_true rfl) ⟨Nat.le_of_ble_eq_true rfl, Nat.le_of_ble_eq_true rfl⟩ hs5 ?_
      rintro v9 ⟨i7, l8, dd9, x10⟩ E9 - ⟨rfl, rfl, hp11⟩
      show ab_Fr MX12_knows (d + 1) Q 74 [some (.ref 205), some (.int a1), some (.long a2), none, some (.int a4)] [.int r3, .int (3 * a4), .ref 224, .long a2] (0, 0) (i7, l8, dd9, x10) (ab_E0 sc)
      refine ab_iadd dX12_knows_74 ?_
      refine ab_laload (v := (l8 224 ((3 * a4) + r3).toNatClampNeg)) dX12_knows_75 kd_224 (hk6 i7 l8 dd9 x10 hp11).1 rfl ?_
      refine ab_ladd dX12_knows_76 ?_
      refine ab_lstoren dX12_knows_77 (Nat.le_of_ble_eq_true rfl) (L2 := [some (.ref 205), some (.int a1), some (.long (a2 + (l8 224 ((3 * a4) + r3).toNatClampNeg))), none, some (.int a4)]) rfl ?_
      refine ab_iinc (v := (a4 + 1)) dX12_knows_78 rfl (by rfl) (Nat.le_of_ble_eq_true rfl) (L2 := [some (.ref 205), some (.int a1), some (.long (a2 + (l8 224 ((3 * a4) + r3).toNatClampNeg))), none, some (.int (a4 + 1))]) rfl ?_
      refine ab_goto (tgt := 31) dX12_knows_81 (by decide) ?_
      exact (hk6 i7 l8 dd9 x10 hp11).2
    · refine ab_aloadn dX12_knows_45 rfl ?_
      refine ab_iload dX12_knows_46 rfl ?_
      refine ab_aloadn dX12_knows_48 rfl ?_
      refine ab_iload dX12_knows_49 rfl ?_
      obtain ⟨r12, P13, hs14, hk15⟩ := ((h.2 c1).2 c2)
      refine ab_callV (vs := [.int a4]) (st := [.int a4, .ref 205, .long a2]) dX12_knows_51 okMX12_knownAt wd_1612 kd_205 rfl rfl rfl (Nat.le_of_ble_eq_true rfl) ⟨Nat.le_of_ble_eq_true rfl, Nat.le_of_ble_eq_true rfl⟩ hs14 ?_
      rintro v9 ⟨i16, l17, dd18, x19⟩ E9 - ⟨rfl, rfl, hp20⟩
      show ab_Fr MX12_knows (d + 1) Q 54 [some (.ref 205), some (.int a1), some (.long a2), none, some (.int a4)] [.int r12, .int a4, .ref 205, .long a2] (0, 0) (i16, l17, dd18, x19) (ab_E0 sc)
      obtain ⟨r21, P22, hs23, hk24⟩ := (hk15 i16 l17 dd18 x19 hp20)
      refine ab_callV (vs := [.int a4, .int r12]) (st := [.long a2]) dX12_knows_54 okMX12_commonly wd_1615 kd_205 rfl rfl rfl (Nat.le_of_ble_eq_true rfl) ⟨Nat.le_of_ble_eq_true rfl, Nat.le_of_ble_eq_true rfl⟩ hs23 ?_
      rintro v9 ⟨i25, l26, dd27, x28⟩ E9 - ⟨rfl, rfl, hp29⟩
      show ab_Fr MX12_knows (d + 1) Q 57 [some (.ref 205), some (.int a1), some (.long a2), none, some (.int a4)] [.long r21, .long a2] (0, 0) (i25, l26, dd27, x28) (ab_E0 sc)
      refine ab_goto (tgt := 76) dX12_knows_57 (by decide) ?_
      refine ab_ladd dX12_knows_76 ?_
      refine ab_lstoren dX12_knows_77 (Nat.le_of_ble_eq_true rfl) (L2 := [some (.ref 205), some (.int a1), some (.long (a2 + r21)), none, some (.int a4)]) rfl ?_
      refine ab_iinc (v := (a4 + 1)) dX12_knows_78 rfl (by rfl) (Nat.le_of_ble_eq_true rfl) (L2 := [some (.ref 205), some (.int a1), some (.long (a2 + r21)), none, some (.int (a4 + 1))]) rfl ?_
      refine ab_goto (tgt := 31) dX12_knows_81 (by decide) ?_
      exact (hk24 i25 l26 dd27 x28 hp29)
theorem tMX12_turns_0 {d : Nat} {Q : ab_Qt} {sc : Nat × (Nat → Int32)} {i : Nat → Nat → Int32} {l : Nat → Nat → Int64} {dd : Nat → Nat → Value} {x : Nat} {a1 : Int32} {a2 : Int32} 
    (h : (∃ (r1 : Int32) (P2 : ab_S → Prop), ab_Sp MX12_isSign d [.ref 205, .int a1, .int a2] (i, l, dd, x) (ab_E0 sc) (some (.int r1)) P2 ∧ ∀ i5 l6 dd7 x8, P2 (i5, l6, dd7, x8) → ((¬ r1 = 0 → (∀ i11, i11 = ab_u i5 205 0 0 → ab_Fr MX12_turns (d + 1) Q 24 [some (.ref 205), some (.int a1), some (.int a2), some (.long 0), none, some (.int 0)] [] (0, 0) (i11, l6, dd7, x8) (ab_E0 sc))) ∧ (r1 = 0 → (∃ (r13 : Int64) (P14 : ab_S → Prop), ab_Sp MX12_refuse d [.ref 205] (i5, l6, dd7, x8) (ab_E0 sc) (some (.long r13)) P14 ∧ ∀ i17 l18 dd19 x20, P14 (i17, l18, dd19, x20) → Q (some (some (.long r13))) (i17, l18, dd19, x20) (ab_E0 sc)))))) :
    ab_Fr MX12_turns (d + 1) Q 0 [some (.ref 205), some (.int a1), some (.int a2), none, none, none] [] (0, 0) (i, l, dd, x) (ab_E0 sc) := by
  refine ab_aloadn dX12_turns_0 rfl ?_
  refine ab_iloadn dX12_turns_1 rfl ?_
  refine ab_iloadn dX12_turns_2 rfl ?_
  obtain ⟨r1, P2, hs3, hk4⟩ := h
  refine ab_callV (vs := [.int a1, .int a2]) (st := []) dX12_turns_3 okMX12_isSign wd_1577 kd_205 rfl rfl rfl (Nat.le_of_ble_eq_true rfl) ⟨Nat.le_of_ble_eq_true rfl, Nat.le_of_ble_eq_true rfl⟩ hs3 ?_
  rintro v9 ⟨i5, l6, dd7, x8⟩ E9 - ⟨rfl, rfl, hp9⟩
  show ab_Fr MX12_turns (d + 1) Q 6 [some (.ref 205), some (.int a1), some (.int a2), none, none, none] [.int r1] (0, 0) (i5, l6, dd7, x8) (ab_E0 sc)
  refine ab_if_ne (tgt := 14) dX12_turns_6 (by decide) (fun c10 => ?_) (fun c10 => ?_)
  · refine ab_aloadn dX12_turns_14 rfl ?_
    refine ab_iconst (v := 0) dX12_turns_15 (by decide) ?_
    refine ab_putI dX12_turns_16 fl_X12_149 kd_205 rfl ?_
    obtain ⟨i11, e12⟩ : ∃ z, z = ab_u i5 205 0 0 := ⟨_, rfl⟩
    show ab_Fr MX12_turns (d + 1) Q 19 [some (.ref 205), some (.int a1), some (.int a2), none, none, none] [] (0, 0) (ab_u i5 205 0 0, l6, dd7, x8) (ab_E0 sc)
    rw [show ab_u i5 205 0 0 = i11 from e12.symm]
    refine ab_lconst (v := 0) dX12_turns_19 (by decide) ?_
    refine ab_lstoren dX12_turns_20 (Nat.le_of_ble_eq_true rfl) (L2 := [some (.ref 205), some (.int a1), some (.int a2), some (.long 0), none, none]) rfl ?_
    refine ab_iconst (v := 0) dX12_turns_21 (by decide) ?_
    refine ab_istore dX12_turns_22 (Nat.le_of_ble_eq_true rfl) (L2 := [some (.ref 205), some (.int a1), some (.int a2), some (.long 0), none, some (.int 0)]) rfl ?_
    exact (((hk4 i5 l6 dd7 x8 hp9).1 c10) i11 e12)
  · refine ab_aloadn dX12_turns_9 rfl ?_
    obtain ⟨r13, P14, hs15, hk16⟩ := ((hk4 i5 l6 dd7 x8 hp9).2 c10)
    refine ab_callV (vs := []) (st := []) dX12_turns_10 okMX12_refuse wd_1566 kd_205 rfl rfl rfl (Nat.le_of_ble_eq_true rfl) ⟨Nat.le_of_ble_eq_true rfl, Nat.le_of_ble_eq_true rfl⟩ hs15 ?_
    rintro v9 ⟨i17, l18, dd19, x20⟩ E9 - ⟨rfl, rfl, hp21⟩
    show ab_Fr MX12_turns (d + 1) Q 13 [some (.ref 205), some (.int a1), some (.int a2), none, none, none] [.long r13] (0, 0) (i17, l18, dd19, x20) (ab_E0 sc)
    exact ab_lret dX12_turns_13 rfl ⟨Nat.zero_le _, Nat.zero_le _⟩ (hk16 i17 l18 dd19 x20 hp21)
theorem tMX12_turns_24 {d : Nat} {Q : ab_Qt} {sc : Nat × (Nat → Int32)} {i : Nat → Nat → Int32} {l : Nat → Nat → Int64} {dd : Nat → Nat → Value} {x : Nat} {a1 : Int32} {a2 : Int32} {a3 : Int64} {a5 : Int32} 
    (h : (((i 205 29) ≤ a5 → Q (some (some (.long a3))) (i, l, dd, x) (ab_E0 sc)) ∧ (¬ (i 205 29) ≤ a5 → (∃ (r2 : Int64) (P3 : ab_S → Prop), ab_Sp MX12_turned d [.ref 205, .int a1, .int a2, .int a5] (i, l, dd, x) (ab_E0 sc) (some (.long r2)) P3 ∧ ∀ i6 l7 dd8 x9, P3 (i6, l7, dd8, x9) → ab_Fr MX12_turns (d + 1) Q 24 [some (.ref 205), some (.int a1), some (.int a2), some (.long (a3 + r2)), none, some (.int (a5 + 1))] [] (0, 0) (i6, l7, dd8, x9) (ab_E0 sc))))) :
    ab_Fr MX12_turns (d + 1) Q 24 [some (.ref 205), some (.int a1), some (.int a2), some (.long a3), none, some (.int a5)] [] (0, 0) (i, l, dd, x) (ab_E0 sc) := by
  refine ab_iload dX12_turns_24 rfl ?_
  refine ab_aloadn dX12_turns_26 rfl ?_
  refine ab_getf (v := .int (i 205 29)) dX12_turns_27 fl_X12_303 kd_205 rfl ?_
  refine ab_icmp_ge (tgt := 50) dX12_turns_30 (by decide) (fun c1 => ?_) (fun c1 => ?_)
  · refine ab_lloadn dX12_turns_50 rfl ?_
    exact ab_lret dX12_turns_51 rfl ⟨Nat.zero_le _, Nat.zero_le _⟩ (h.1 c1)
  · refine ab_lloadn dX12_turns_33 rfl ?_
    refine ab_aloadn dX12_turns_34 rfl ?_
    refine ab_iloadn dX12_turns_35 rfl ?_
    refine ab_iloadn dX12_turns_36 rfl ?_
    refine ab_iload dX12_turns_37 rfl ?_
    obtain ⟨r2, P3, hs4, hk5⟩ := (h.2 c1)
    refine ab_callV (vs := [.int a1, .int a2, .int a5]) (st := [.long a3]) dX12_turns_39 okMX12_turned wd_1626 kd_205 rfl rfl rfl (Nat.le_of_ble_eq_true rfl) ⟨Nat.le_of_ble_eq_true rfl, Nat.le_of_ble_eq_true rfl⟩ hs4 ?_
    rintro v9 ⟨i6, l7, dd8, x9⟩ E9 - ⟨rfl, rfl, hp10⟩
    show ab_Fr MX12_turns (d + 1) Q 42 [some (.ref 205), some (.int a1), some (.int a2), some (.long a3), none, some (.int a5)] [.long r2, .long a3] (0, 0) (i6, l7, dd8, x9) (ab_E0 sc)
    refine ab_ladd dX12_turns_42 ?_
    refine ab_lstoren dX12_turns_43 (Nat.le_of_ble_eq_true rfl) (L2 := [some (.ref 205), some (.int a1), some (.int a2), some (.long (a3 + r2)), none, some (.int a5)]) rfl ?_
    refine ab_iinc (v := (a5 + 1)) dX12_turns_44 rfl (by rfl) (Nat.le_of_ble_eq_true rfl) (L2 := [some (.ref 205), some (.int a1), some (.int a2), some (.long (a3 + r2)), none, some (.int (a5 + 1))]) rfl ?_
    refine ab_goto (tgt := 24) dX12_turns_47 (by decide) ?_
    exact (hk5 i6 l7 dd8 x9 hp10)
theorem tMX12_turned_0 {d : Nat} {Q : ab_Qt} {sc : Nat × (Nat → Int32)} {i : Nat → Nat → Int32} {l : Nat → Nat → Int64} {dd : Nat → Nat → Value} {x : Nat} {a1 : Int32} {a2 : Int32} {a3 : Int32} 
    (h : ab_Fr MX12_turned (d + 1) Q 6 [some (.ref 205), some (.int a1), some (.int a2), some (.int a3), some (.long 0), none, some (.int 0)] [] (0, 0) (i, l, dd, x) (ab_E0 sc)) :
    ab_Fr MX12_turned (d + 1) Q 0 [some (.ref 205), some (.int a1), some (.int a2), some (.int a3), none, none, none] [] (0, 0) (i, l, dd, x) (ab_E0 sc) := by
  refine ab_lconst (v := 0) dX12_turned_0 (by decide) ?_
  refine ab_lstore dX12_turned_1 (Nat.le_of_ble_eq_true rfl) (L2 := [some (.ref 205), some (.int a1), some (.int a2), some (.int a3), some (.long 0), none, none]) rfl ?_
  refine ab_iconst (v := 0) dX12_turned_3 (by decide) ?_
  refine ab_istore dX12_turned_4 (Nat.le_of_ble_eq_true rfl) (L2 := [some (.ref 205), some (.int a1), some (.int a2), some (.int a3), some (.long 0), none, some (.int 0)]) rfl ?_
  exact h
theorem tMX12_turned_6 {d : Nat} {Q : ab_Qt} {sc : Nat × (Nat → Int32)} {i : Nat → Nat → Int32} {l : Nat → Nat → Int64} {dd : Nat → Nat → Value} {x : Nat} {a1 : Int32} {a2 : Int32} {a3 : Int32} {a4 : Int64} {a6 : Int32} 
    (h : (((i 205 31) ≤ a6 → Q (some (some (.long a4))) (i, l, dd, x) (ab_E0 sc)) ∧ (¬ (i 205 31) ≤ a6 → (∃ (r2 : Int32) (P3 : ab_S → Prop), ab_Sp MX12_sign d [.ref 205, .int a6, .int a1] (i, l, dd, x) (ab_E0 sc) (some (.int r2)) P3 ∧ ∀ i6 l7 dd8 x9, P3 (i6, l7, dd8, x9) → ((¬ r2 = a2 → ab_Fr MX12_turned (d + 1) Q 6 [some (.ref 205), some (.int a1), some (.int a2), some (.int a3), some (.long a4), none, some (.int (a6 + 1))] [] (0, 0) (i6, l7, dd8, x9) (ab_E0 sc)) ∧ (r2 = a2 → (∃ (r12 : Int32) (P13 : ab_S → Prop), ab_Sp MX12_isTurned d [.ref 205, .int a6, .int a1] (i6, l7, dd8, x9) (ab_E0 sc) (some (.int r12)) P13 ∧ ∀ i16 l17 dd18 x19, P13 (i16, l17, dd18, x19) → ((r12 = 0 → ab_Fr MX12_turned (d + 1) Q 6 [some (.ref 205), some (.int a1), some (.int a2), some (.int a3), some (.long a4), none, some (.int (a6 + 1))] [] (0, 0) (i16, l17, dd18, x19) (ab_E0 sc)) ∧ (¬ r12 = 0 → (vp_in ((3 * a6) + a3) 6561 ∧ ab_Fr MX12_turned (d + 1) Q 6 [some (.ref 205), some (.int a1), some (.int a2), some (.int a3), some (.long (a4 + (l17 224 ((3 * a6) + a3).toNatClampNeg))), none, some (.int (a6 + 1))] [] (0, 0) (i16, l17, dd18, x19) (ab_E0 sc))))))))))) :
    ab_Fr MX12_turned (d + 1) Q 6 [some (.ref 205), some (.int a1), some (.int a2), some (.int a3), some (.long a4), none, some (.int a6)] [] (0, 0) (i, l, dd, x) (ab_E0 sc) := by
  refine ab_iload dX12_turned_6 rfl ?_
  refine ab_aloadn dX12_turned_8 rfl ?_
  refine ab_getf (v := .int (i 205 31)) dX12_turned_9 fl_X12_309 kd_205 rfl ?_
  refine ab_icmp_ge (tgt := 58) dX12_turned_12 (by decide) (fun c1 => ?_) (fun c1 => ?_)
  · refine ab_lload dX12_turned_58 rfl ?_
    exact ab_lret dX12_turned_60 rfl ⟨Nat.zero_le _, Nat.zero_le _⟩ (h.1 c1)
  · refine ab_aloadn dX12_turned_15 rfl ?_
    refine ab_iload dX12_turned_16 rfl ?_
    refine ab_iloadn dX12_turned_18 rfl ?_
    obtain ⟨r2, P3, hs4, hk5⟩ := (h.2 c1)
    refine ab_callV (vs := [.int a6, .int a1]) (st := []) dX12_turned_19 okMX12_sign wd_1516 kd_205 rfl rfl rfl (Nat.le_of_ble_eq_true rfl) ⟨Nat.le_of_ble_eq_true rfl, Nat.le_of_ble_eq_true rfl⟩ hs4 ?_
    rintro v9 ⟨i6, l7, dd8, x9⟩ E9 - ⟨rfl, rfl, hp10⟩
    show ab_Fr MX12_turned (d + 1) Q 22 [some (.ref 205), some (.int a1), some (.int a2), some (.int a3), some (.long a4), none, some (.int a6)] [.int r2] (0, 0) (i6, l7, dd8, x9) (ab_E0 sc)
    refine ab_iloadn dX12_turned_22 rfl ?_
    refine ab_icmp_ne (tgt := 52) dX12_turned_23 (by decide) (fun c11 => ?_) (fun c11 => ?_)
    · refine ab_iinc (v := (a6 + 1)) dX12_turned_52 rfl (by rfl) (Nat.le_of_ble_eq_true rfl) (L2 := [some (.ref 205), some (.int a1), some (.int a2), some (.int a3), some (.long a4), none, some (.int (a6 + 1))]) rfl ?_
      refine ab_goto (tgt := 6) dX12_turned_55 (by decide) ?_
      exact ((hk5 i6 l7 dd8 x9 hp10).1 c11)
    · refine ab_aloadn dX12_turned_26 rfl ?_
      refine ab_iload dX12_turned_27 rfl ?_
      refine ab_iloadn dX12_turned_29 rfl ?_
      obtain ⟨r12, P13, hs14, hk15⟩ := ((hk5 i6 l7 dd8 x9 hp10).2 c11)
      refine ab_callV (vs := [.int a6, .int a1]) (st := []) dX12_turned_30 okMX12_isTurned wd_1629 kd_205 rfl rfl rfl (Nat.le_of_ble_eq_true rfl) ⟨Nat.le_of_ble_eq_true rfl, Nat.le_of_ble_eq_true rfl⟩ hs14 ?_
      rintro v9 ⟨i16, l17, dd18, x19⟩ E9 - ⟨rfl, rfl, hp20⟩
      show ab_Fr MX12_turned (d + 1) Q 33 [some (.ref 205), some (.int a1), some (.int a2), some (.int a3), some (.long a4), none, some (.int a6)] [.int r12] (0, 0) (i16, l17, dd18, x19) (ab_E0 sc)
      refine ab_if_eq (tgt := 52) dX12_turned_33 (by decide) (fun c21 => ?_) (fun c21 => ?_)
      · refine ab_iinc (v := (a6 + 1)) dX12_turned_52 rfl (by rfl) (Nat.le_of_ble_eq_true rfl) (L2 := [some (.ref 205), some (.int a1), some (.int a2), some (.int a3), some (.long a4), none, some (.int (a6 + 1))]) rfl ?_
        refine ab_goto (tgt := 6) dX12_turned_55 (by decide) ?_
        exact ((hk15 i16 l17 dd18 x19 hp20).1 c21)
      · refine ab_lload dX12_turned_36 rfl ?_
        refine ab_aloadn dX12_turned_38 rfl ?_
        refine ab_getf (v := .ref 224) dX12_turned_39 fl_X12_65 kd_205 ff_205_33 ?_
        refine ab_iconst (v := 3) dX12_turned_42 (by decide) ?_
        refine ab_iload dX12_turned_43 rfl ?_
        refine ab_imul dX12_turned_45 ?_
        refine ab_iloadn dX12_turned_46 rfl ?_
        refine ab_iadd dX12_turned_47 ?_
        refine ab_laload (v := (l17 224 ((3 * a6) + a3).toNatClampNeg)) dX12_turned_48 kd_224 ((hk15 i16 l17 dd18 x19 hp20).2 c21).1 rfl ?_
        refine ab_ladd dX12_turned_49 ?_
        refine ab_lstore dX12_turned_50 (Nat.le_of_ble_eq_true rfl) (L2 := [some (.ref 205), some (.int a1), some (.int a2), some (.int a3), some (.long (a4 + (l17 224 ((3 * a6) + a3).toNatClampNeg))), none, some (.int a6)]) rfl ?_
        refine ab_iinc (v := (a6 + 1)) dX12_turned_52 rfl (by rfl) (Nat.le_of_ble_eq_true rfl) (L2 := [some (.ref 205), some (.int a1), some (.int a2), some (.int a3), some (.long (a4 + (l17 224 ((3 * a6) + a3).toNatClampNeg))), none, some (.int (a6 + 1))]) rfl ?_
        refine ab_goto (tgt := 6) dX12_turned_55 (by decide) ?_
        exact ((hk15 i16 l17 dd18 x19 hp20).2 c21).2
theorem tMX12_isTurned_0 {d : Nat} {Q : ab_Qt} {sc : Nat × (Nat → Int32)} {i : Nat → Nat → Int32} {l : Nat → Nat → Int64} {dd : Nat → Nat → Value} {x : Nat} {a1 : Int32} {a2 : Int32} 
    (h : (∃ (r1 : Int32) (P2 : ab_S → Prop), ab_Sp MX12_decideRow d [.ref 205, .int a1, .int 0] (i, l, dd, x) (ab_E0 sc) (some (.int r1)) P2 ∧ ∀ i5 l6 dd7 x8, P2 (i5, l6, dd7, x8) → ∃ (r10 : Int32) (P11 : ab_S → Prop), ab_Sp MX12_decideWith d [.ref 205, .int a2, .int 0] (i5, l6, dd7, x8) (ab_E0 sc) (some (.int r10)) P11 ∧ ∀ i14 l15 dd16 x17, P11 (i14, l15, dd16, x17) → ab_Fr MX12_isTurned (d + 1) Q 17 [some (.ref 205), none, some (.int a2), some (.int r10), some (.int 1)] [] (0, 0) (i14, l15, dd16, x17) (ab_E0 sc))) :
    ab_Fr MX12_isTurned (d + 1) Q 0 [some (.ref 205), some (.int a1), some (.int a2), none, none] [] (0, 0) (i, l, dd, x) (ab_E0 sc) := by
  refine ab_aloadn dX12_isTurned_0 rfl ?_
  refine ab_iloadn dX12_isTurned_1 rfl ?_
  refine ab_iconst (v := 0) dX12_isTurned_2 (by decide) ?_
  obtain ⟨r1, P2, hs3, hk4⟩ := h
  refine ab_callV (vs := [.int a1, .int 0]) (st := []) dX12_isTurned_3 okMX12_decideRow wd_1584 kd_205 rfl rfl rfl (Nat.le_of_ble_eq_true rfl) ⟨Nat.le_of_ble_eq_true rfl, Nat.le_of_ble_eq_true rfl⟩ hs3 ?_
  rintro v9 ⟨i5, l6, dd7, x8⟩ E9 - ⟨rfl, rfl, hp9⟩
  show ab_Fr MX12_isTurned (d + 1) Q 6 [some (.ref 205), some (.int a1), some (.int a2), none, none] [.int r1] (0, 0) (i5, l6, dd7, x8) (ab_E0 sc)
  refine ab_pop dX12_isTurned_6 rfl ?_
  refine ab_aloadn dX12_isTurned_7 rfl ?_
  refine ab_iloadn dX12_isTurned_8 rfl ?_
  refine ab_iconst (v := 0) dX12_isTurned_9 (by decide) ?_
  obtain ⟨r10, P11, hs12, hk13⟩ := (hk4 i5 l6 dd7 x8 hp9)
  refine ab_callV (vs := [.int a2, .int 0]) (st := []) dX12_isTurned_10 okMX12_decideWith wd_1632 kd_205 rfl rfl rfl (Nat.le_of_ble_eq_true rfl) ⟨Nat.le_of_ble_eq_true rfl, Nat.le_of_ble_eq_true rfl⟩ hs12 ?_
  rintro v9 ⟨i14, l15, dd16, x17⟩ E9 - ⟨rfl, rfl, hp18⟩
  show ab_Fr MX12_isTurned (d + 1) Q 13 [some (.ref 205), some (.int a1), some (.int a2), none, none] [.int r10] (0, 0) (i14, l15, dd16, x17) (ab_E0 sc)
  refine ab_istoren dX12_isTurned_13 (Nat.le_of_ble_eq_true rfl) (L2 := [some (.ref 205), some (.int a1), some (.int a2), some (.int r10), none]) rfl ?_
  refine ab_iconst (v := 1) dX12_isTurned_14 (by decide) ?_
  refine ab_istore dX12_isTurned_15 (Nat.le_of_ble_eq_true rfl) (L2 := [some (.ref 205), some (.int a1), some (.int a2), some (.int r10), some (.int 1)]) rfl ?_
  refine ab_forget (i := 1) (L2 := [some (.ref 205), none, some (.int a2), some (.int r10), some (.int 1)]) rfl ?_
  exact (hk13 i14 l15 dd16 x17 hp18)
theorem tMX12_isTurned_17 {d : Nat} {Q : ab_Qt} {sc : Nat × (Nat → Int32)} {i : Nat → Nat → Int32} {l : Nat → Nat → Int64} {dd : Nat → Nat → Value} {x : Nat} {a2 : Int32} {a3 : Int32} {a4 : Int32} 
    (h : (((i 205 29) < a4 → Q (some (some (.int 0))) (i, l, dd, x) (ab_E0 sc)) ∧ (¬ (i 205 29) < a4 → (∃ (r2 : Int32) (P3 : ab_S → Prop), ab_Sp MX12_decideWith d [.ref 205, .int a2, .int a4] (i, l, dd, x) (ab_E0 sc) (some (.int r2)) P3 ∧ ∀ i6 l7 dd8 x9, P3 (i6, l7, dd8, x9) → ((r2 = a3 → ab_Fr MX12_isTurned (d + 1) Q 17 [some (.ref 205), none, some (.int a2), some (.int a3), some (.int (a4 + 1))] [] (0, 0) (i6, l7, dd8, x9) (ab_E0 sc)) ∧ (¬ r2 = a3 → Q (some (some (.int 1))) (i6, l7, dd8, x9) (ab_E0 sc))))))) :
    ab_Fr MX12_isTurned (d + 1) Q 17 [some (.ref 205), none, some (.int a2), some (.int a3), some (.int a4)] [] (0, 0) (i, l, dd, x) (ab_E0 sc) := by
  refine ab_iload dX12_isTurned_17 rfl ?_
  refine ab_aloadn dX12_isTurned_19 rfl ?_
  refine ab_getf (v := .int (i 205 29)) dX12_isTurned_20 fl_X12_303 kd_205 rfl ?_
  refine ab_icmp_gt (tgt := 45) dX12_isTurned_23 (by decide) (fun c1 => ?_) (fun c1 => ?_)
  · refine ab_iconst (v := 0) dX12_isTurned_45 (by decide) ?_
    exact ab_zret dX12_isTurned_46 rfl (by decide) ⟨Nat.zero_le _, Nat.zero_le _⟩ (h.1 c1)
  · refine ab_aloadn dX12_isTurned_26 rfl ?_
    refine ab_iloadn dX12_isTurned_27 rfl ?_
    refine ab_iload dX12_isTurned_28 rfl ?_
    obtain ⟨r2, P3, hs4, hk5⟩ := (h.2 c1)
    refine ab_callV (vs := [.int a2, .int a4]) (st := []) dX12_isTurned_30 okMX12_decideWith wd_1632 kd_205 rfl rfl rfl (Nat.le_of_ble_eq_true rfl) ⟨Nat.le_of_ble_eq_true rfl, Nat.le_of_ble_eq_true rfl⟩ hs4 ?_
    rintro v9 ⟨i6, l7, dd8, x9⟩ E9 - ⟨rfl, rfl, hp10⟩
    show ab_Fr MX12_isTurned (d + 1) Q 33 [some (.ref 205), none, some (.int a2), some (.int a3), some (.int a4)] [.int r2] (0, 0) (i6, l7, dd8, x9) (ab_E0 sc)
    refine ab_iloadn dX12_isTurned_33 rfl ?_
    refine ab_icmp_eq (tgt := 39) dX12_isTurned_34 (by decide) (fun c11 => ?_) (fun c11 => ?_)
    · refine ab_iinc (v := (a4 + 1)) dX12_isTurned_39 rfl (by rfl) (Nat.le_of_ble_eq_true rfl) (L2 := [some (.ref 205), none, some (.int a2), some (.int a3), some (.int (a4 + 1))]) rfl ?_
      refine ab_goto (tgt := 17) dX12_isTurned_42 (by decide) ?_
      exact ((hk5 i6 l7 dd8 x9 hp10).1 c11)
    · refine ab_iconst (v := 1) dX12_isTurned_37 (by decide) ?_
      exact ab_zret dX12_isTurned_38 rfl (by decide) ⟨Nat.zero_le _, Nat.zero_le _⟩ ((hk5 i6 l7 dd8 x9 hp10).2 c11)
theorem tMX12_decideWith_0 {d : Nat} {Q : ab_Qt} {sc : Nat × (Nat → Int32)} {i : Nat → Nat → Int32} {l : Nat → Nat → Int64} {dd : Nat → Nat → Value} {x : Nat} {a1 : Int32} {a2 : Int32} 
    (h : (vp_in a1 7 ∧ (((i 205 29) ≤ a2 → ab_Fr MX12_decideWith (d + 1) Q 26 [some (.ref 205), some (.int a1), none, some (.int (i 226 a1.toNatClampNeg)), none] [.int 9, .int a1, .ref 226] (0, 0) (i, l, dd, x) (ab_E0 sc)) ∧ (¬ (i 205 29) ≤ a2 → ab_Fr MX12_decideWith (d + 1) Q 26 [some (.ref 205), some (.int a1), none, some (.int (i 226 a1.toNatClampNeg)), none] [.int a2, .int a1, .ref 226] (0, 0) (i, l, dd, x) (ab_E0 sc))))) :
    ab_Fr MX12_decideWith (d + 1) Q 0 [some (.ref 205), some (.int a1), some (.int a2), none, none] [] (0, 0) (i, l, dd, x) (ab_E0 sc) := by
  refine ab_aloadn dX12_decideWith_0 rfl ?_
  refine ab_getf (v := .ref 226) dX12_decideWith_1 fl_X12_71 kd_205 ff_205_35 ?_
  refine ab_iloadn dX12_decideWith_4 rfl ?_
  refine ab_iaload (v := (i 226 a1.toNatClampNeg)) dX12_decideWith_5 kd_226 h.1 rfl ?_
  refine ab_istoren dX12_decideWith_6 (Nat.le_of_ble_eq_true rfl) (L2 := [some (.ref 205), some (.int a1), some (.int a2), some (.int (i 226 a1.toNatClampNeg)), none]) rfl ?_
  refine ab_aloadn dX12_decideWith_7 rfl ?_
  refine ab_getf (v := .ref 226) dX12_decideWith_8 fl_X12_71 kd_205 ff_205_35 ?_
  refine ab_iloadn dX12_decideWith_11 rfl ?_
  refine ab_iloadn dX12_decideWith_12 rfl ?_
  refine ab_aloadn dX12_decideWith_13 rfl ?_
  refine ab_getf (v := .int (i 205 29)) dX12_decideWith_14 fl_X12_303 kd_205 rfl ?_
  refine ab_icmp_ge (tgt := 24) dX12_decideWith_17 (by decide) (fun c1 => ?_) (fun c1 => ?_)
  · refine ab_bipush (v := 9) dX12_decideWith_24 (by decide) ?_
    refine ab_forget (i := 2) (L2 := [some (.ref 205), some (.int a1), none, some (.int (i 226 a1.toNatClampNeg)), none]) rfl ?_
    exact (h.2.1 c1)
  · refine ab_iloadn dX12_decideWith_20 rfl ?_
    refine ab_goto (tgt := 26) dX12_decideWith_21 (by decide) ?_
    refine ab_forget (i := 2) (L2 := [some (.ref 205), some (.int a1), none, some (.int (i 226 a1.toNatClampNeg)), none]) rfl ?_
    exact (h.2.2 c1)
theorem tMX12_decideWith_26 {d : Nat} {Q : ab_Qt} {sc : Nat × (Nat → Int32)} {i : Nat → Nat → Int32} {l : Nat → Nat → Int64} {dd : Nat → Nat → Value} {x : Nat} {a1 : Int32} {a3 : Int32} {s0 : Nat} {n_s0 : Nat} {s1 : Int32} {s2 : Int32} (k_s0 : (ab_E0 sc).1 s0 = .inr (0, n_s0))
    (h : (vp_in s1 n_s0 ∧ ∀ i1, i1 = ab_u i s0 s1.toNatClampNeg s2 → ∃ (r3 : Int32) (P4 : ab_S → Prop), ab_Sp MX12_decide d [.ref 205] (i1, l, dd, x) (ab_E0 sc) (some (.int r3)) P4 ∧ ∀ i7 l8 dd9 x10, P4 (i7, l8, dd9, x10) → vp_in a1 7 ∧ ∀ i12, i12 = ab_u i7 226 a1.toNatClampNeg a3 → Q (some (some (.int r3))) (i12, l8, dd9, x10) (ab_E0 sc))) :
    ab_Fr MX12_decideWith (d + 1) Q 26 [some (.ref 205), some (.int a1), none, some (.int a3), none] [.int s2, .int s1, .ref s0] (0, 0) (i, l, dd, x) (ab_E0 sc) := by
  refine ab_iastore dX12_decideWith_26 k_s0 h.1 ?_
  obtain ⟨i1, e2⟩ : ∃ z, z = ab_u i s0 s1.toNatClampNeg s2 := ⟨_, rfl⟩
  rw [show ab_u i s0 s1.toNatClampNeg s2 = i1 from e2.symm]
  refine ab_aloadn dX12_decideWith_27 rfl ?_
  obtain ⟨r3, P4, hs5, hk6⟩ := (h.2 i1 e2)
  refine ab_callV (vs := []) (st := []) dX12_decideWith_28 okMX12_decide wd_1587 kd_205 rfl rfl rfl (Nat.le_of_ble_eq_true rfl) ⟨Nat.le_of_ble_eq_true rfl, Nat.le_of_ble_eq_true rfl⟩ hs5 ?_
  rintro v9 ⟨i7, l8, dd9, x10⟩ E9 - ⟨rfl, rfl, hp11⟩
  show ab_Fr MX12_decideWith (d + 1) Q 31 [some (.ref 205), some (.int a1), none, some (.int a3), none] [.int r3] (0, 0) (i7, l8, dd9, x10) (ab_E0 sc)
  refine ab_istore dX12_decideWith_31 (Nat.le_of_ble_eq_true rfl) (L2 := [some (.ref 205), some (.int a1), none, some (.int a3), some (.int r3)]) rfl ?_
  refine ab_aloadn dX12_decideWith_33 rfl ?_
  refine ab_getf (v := .ref 226) dX12_decideWith_34 fl_X12_71 kd_205 ff_205_35 ?_
  refine ab_iloadn dX12_decideWith_37 rfl ?_
  refine ab_iloadn dX12_decideWith_38 rfl ?_
  refine ab_iastore dX12_decideWith_39 kd_226 (hk6 i7 l8 dd9 x10 hp11).1 ?_
  obtain ⟨i12, e13⟩ : ∃ z, z = ab_u i7 226 a1.toNatClampNeg a3 := ⟨_, rfl⟩
  rw [show ab_u i7 226 a1.toNatClampNeg a3 = i12 from e13.symm]
  refine ab_iload dX12_decideWith_40 rfl ?_
  exact ab_iret dX12_decideWith_42 rfl ⟨Nat.zero_le _, Nat.zero_le _⟩ ((hk6 i7 l8 dd9 x10 hp11).2 i12 e13)
theorem tMX12_think_0 {d : Nat} {Q : ab_Qt} {sc : Nat × (Nat → Int32)} {i : Nat → Nat → Int32} {l : Nat → Nat → Int64} {dd : Nat → Nat → Value} {x : Nat} {a1 : Int32} {a2 : Int32} {a3 : Int32} 
    (h : (∃ (r1 : Int32) (P2 : ab_S → Prop), ab_Sp MX12_isSign d [.ref 205, .int a1, .int a2] (i, l, dd, x) (ab_E0 sc) (some (.int r1)) P2 ∧ ∀ i5 l6 dd7 x8, P2 (i5, l6, dd7, x8) → ((r1 = 0 → ab_Fr MX12_think (d + 1) Q 17 [some (.ref 205), none, none, none] [] (0, 0) (i5, l6, dd7, x8) (ab_E0 sc)) ∧ (¬ r1 = 0 → (∃ (r11 : Int32) (P12 : ab_S → Prop), ab_Sp MX12_isTruth d [.ref 205, .int a3] (i5, l6, dd7, x8) (ab_E0 sc) (some (.int r11)) P12 ∧ ∀ i15 l16 dd17 x18, P12 (i15, l16, dd17, x18) → ((¬ r11 = 0 → (∀ i21, i21 = ab_u i15 205 0 0 → ∃ (r23 : Int64) (P24 : ab_S → Prop), ab_Sp MX12_turned d [.ref 205, .int a1, .int a2, .int a3] (i21, l16, dd17, x18) (ab_E0 sc) (some (.long r23)) P24 ∧ ∀ i27 l28 dd29 x30, P24 (i27, l28, dd29, x30) → Q (some (some (.long r23))) (i27, l28, dd29, x30) (ab_E0 sc))) ∧ (r11 = 0 → ab_Fr MX12_think (d + 1) Q 17 [some (.ref 205), none, none, none] [] (0, 0) (i15, l16, dd17, x18) (ab_E0 sc)))))))) :
    ab_Fr MX12_think (d + 1) Q 0 [some (.ref 205), some (.int a1), some (.int a2), some (.int a3)] [] (0, 0) (i, l, dd, x) (ab_E0 sc) := by
  refine ab_aloadn dX12_think_0 rfl ?_
  refine ab_iloadn dX12_think_1 rfl ?_
  refine ab_iloadn dX12_think_2 rfl ?_
  obtain ⟨r1, P2, hs3, hk4⟩ := h
  refine ab_callV (vs := [.int a1, .int a2]) (st := []) dX12_think_3 okMX12_isSign wd_1577 kd_205 rfl rfl rfl (Nat.le_of_ble_eq_true rfl) ⟨Nat.le_of_ble_eq_true rfl, Nat.le_of_ble_eq_true rfl⟩ hs3 ?_
  rintro v9 ⟨i5, l6, dd7, x8⟩ E9 - ⟨rfl, rfl, hp9⟩
  show ab_Fr MX12_think (d + 1) Q 6 [some (.ref 205), some (.int a1), some (.int a2), some (.int a3)] [.int r1] (0, 0) (i5, l6, dd7, x8) (ab_E0 sc)
  refine ab_if_eq (tgt := 17) dX12_think_6 (by decide) (fun c10 => ?_) (fun c10 => ?_)
  · refine ab_forget (i := 1) (L2 := [some (.ref 205), none, some (.int a2), some (.int a3)]) rfl ?_
    refine ab_forget (i := 2) (L2 := [some (.ref 205), none, none, some (.int a3)]) rfl ?_
    refine ab_forget (i := 3) (L2 := [some (.ref 205), none, none, none]) rfl ?_
    exact ((hk4 i5 l6 dd7 x8 hp9).1 c10)
  · refine ab_aloadn dX12_think_9 rfl ?_
    refine ab_iloadn dX12_think_10 rfl ?_
    obtain ⟨r11, P12, hs13, hk14⟩ := ((hk4 i5 l6 dd7 x8 hp9).2 c10)
    refine ab_callV (vs := [.int a3]) (st := []) dX12_think_11 okMX12_isTruth wd_1563 kd_205 rfl rfl rfl (Nat.le_of_ble_eq_true rfl) ⟨Nat.le_of_ble_eq_true rfl, Nat.le_of_ble_eq_true rfl⟩ hs13 ?_
    rintro v9 ⟨i15, l16, dd17, x18⟩ E9 - ⟨rfl, rfl, hp19⟩
    show ab_Fr MX12_think (d + 1) Q 14 [some (.ref 205), some (.int a1), some (.int a2), some (.int a3)] [.int r11] (0, 0) (i15, l16, dd17, x18) (ab_E0 sc)
    refine ab_if_ne (tgt := 22) dX12_think_14 (by decide) (fun c20 => ?_) (fun c20 => ?_)
    · refine ab_aloadn dX12_think_22 rfl ?_
      refine ab_iconst (v := 0) dX12_think_23 (by decide) ?_
      refine ab_putI dX12_think_24 fl_X12_149 kd_205 rfl ?_
      obtain ⟨i21, e22⟩ : ∃ z, z = ab_u i15 205 0 0 := ⟨_, rfl⟩
      show ab_Fr MX12_think (d + 1) Q 27 [some (.ref 205), some (.int a1), some (.int a2), some (.int a3)] [] (0, 0) (ab_u i15 205 0 0, l16, dd17, x18) (ab_E0 sc)
      rw [show ab_u i15 205 0 0 = i21 from e22.symm]
      refine ab_aloadn dX12_think_27 rfl ?_
      refine ab_iloadn dX12_think_28 rfl ?_
      refine ab_iloadn dX12_think_29 rfl ?_
      refine ab_iloadn dX12_think_30 rfl ?_
      obtain ⟨r23, P24, hs25, hk26⟩ := (((hk14 i15 l16 dd17 x18 hp19).1 c20) i21 e22)
      refine ab_callV (vs := [.int a1, .int a2, .int a3]) (st := []) dX12_think_31 okMX12_turned wd_1626 kd_205 rfl rfl rfl (Nat.le_of_ble_eq_true rfl) ⟨Nat.le_of_ble_eq_true rfl, Nat.le_of_ble_eq_true rfl⟩ hs25 ?_
      rintro v9 ⟨i27, l28, dd29, x30⟩ E9 - ⟨rfl, rfl, hp31⟩
      show ab_Fr MX12_think (d + 1) Q 34 [some (.ref 205), some (.int a1), some (.int a2), some (.int a3)] [.long r23] (0, 0) (i27, l28, dd29, x30) (ab_E0 sc)
      exact ab_lret dX12_think_34 rfl ⟨Nat.zero_le _, Nat.zero_le _⟩ (hk26 i27 l28 dd29 x30 hp31)
    · refine ab_forget (i := 1) (L2 := [some (.ref 205), none, some (.int a2), some (.int a3)]) rfl ?_
      refine ab_forget (i := 2) (L2 := [some (.ref 205), none, none, some (.int a3)]) rfl ?_
      refine ab_forget (i := 3) (L2 := [some (.ref 205), none, none, none]) rfl ?_
      exact ((hk14 i15 l16 dd17 x18 hp19).2 c20)
theorem tMX12_think_17 {d : Nat} {Q : ab_Qt} {sc : Nat × (Nat → Int32)} {i : Nat → Nat → Int32} {l : Nat → Nat → Int64} {dd : Nat → Nat → Value} {x : Nat}  
    (h : (∃ (r1 : Int64) (P2 : ab_S → Prop), ab_Sp MX12_refuse d [.ref 205] (i, l, dd, x) (ab_E0 sc) (some (.long r1)) P2 ∧ ∀ i5 l6 dd7 x8, P2 (i5, l6, dd7, x8) → Q (some (some (.long r1))) (i5, l6, dd7, x8) (ab_E0 sc))) :
    ab_Fr MX12_think (d + 1) Q 17 [some (.ref 205), none, none, none] [] (0, 0) (i, l, dd, x) (ab_E0 sc) := by
  refine ab_aloadn dX12_think_17 rfl ?_
  obtain ⟨r1, P2, hs3, hk4⟩ := h
  refine ab_callV (vs := []) (st := []) dX12_think_18 okMX12_refuse wd_1566 kd_205 rfl rfl rfl (Nat.le_of_ble_eq_true rfl) ⟨Nat.le_of_ble_eq_true rfl, Nat.le_of_ble_eq_true rfl⟩ hs3 ?_
  rintro v9 ⟨i5, l6, dd7, x8⟩ E9 - ⟨rfl, rfl, hp9⟩
  show ab_Fr MX12_think (d + 1) Q 21 [some (.ref 205), none, none, none] [.long r1] (0, 0) (i5, l6, dd7, x8) (ab_E0 sc)
  exact ab_lret dX12_think_21 rfl ⟨Nat.zero_le _, Nat.zero_le _⟩ (hk4 i5 l6 dd7 x8 hp9)
theorem tMX12_reply_0 {d : Nat} {Q : ab_Qt} {sc : Nat × (Nat → Int32)} {i : Nat → Nat → Int32} {l : Nat → Nat → Int64} {dd : Nat → Nat → Value} {x : Nat} {a1 : Int32} {a2 : Int32} 
    (h : (∀ i1, i1 = ab_u i 205 0 0 → ∃ (r3 : Int32) (P4 : ab_S → Prop), ab_Sp MX12_isSign d [.ref 205, .int a1, .int a2] (i1, l, dd, x) (ab_E0 sc) (some (.int r3)) P4 ∧ ∀ i7 l8 dd9 x10, P4 (i7, l8, dd9, x10) → ((r3 = 0 → Q (some (some (.int (-1)))) (i7, l8, dd9, x10) (ab_E0 sc)) ∧ (¬ r3 = 0 → (∃ (r13 : Int32) (P14 : ab_S → Prop), ab_Sp MX12_replyBy d [.ref 205, .int a1, .int a2, .int 0] (i7, l8, dd9, x10) (ab_E0 sc) (some (.int r13)) P14 ∧ ∀ i17 l18 dd19 x20, P14 (i17, l18, dd19, x20) → Q (some (some (.int r13))) (i17, l18, dd19, x20) (ab_E0 sc)))))) :
    ab_Fr MX12_reply (d + 1) Q 0 [some (.ref 205), some (.int a1), some (.int a2)] [] (0, 0) (i, l, dd, x) (ab_E0 sc) := by
  refine ab_aloadn dX12_reply_0 rfl ?_
  refine ab_iconst (v := 0) dX12_reply_1 (by decide) ?_
  refine ab_putI dX12_reply_2 fl_X12_149 kd_205 rfl ?_
  obtain ⟨i1, e2⟩ : ∃ z, z = ab_u i 205 0 0 := ⟨_, rfl⟩
  show ab_Fr MX12_reply (d + 1) Q 5 [some (.ref 205), some (.int a1), some (.int a2)] [] (0, 0) (ab_u i 205 0 0, l, dd, x) (ab_E0 sc)
  rw [show ab_u i 205 0 0 = i1 from e2.symm]
  refine ab_aloadn dX12_reply_5 rfl ?_
  refine ab_iloadn dX12_reply_6 rfl ?_
  refine ab_iloadn dX12_reply_7 rfl ?_
  obtain ⟨r3, P4, hs5, hk6⟩ := (h i1 e2)
  refine ab_callV (vs := [.int a1, .int a2]) (st := []) dX12_reply_8 okMX12_isSign wd_1577 kd_205 rfl rfl rfl (Nat.le_of_ble_eq_true rfl) ⟨Nat.le_of_ble_eq_true rfl, Nat.le_of_ble_eq_true rfl⟩ hs5 ?_
  rintro v9 ⟨i7, l8, dd9, x10⟩ E9 - ⟨rfl, rfl, hp11⟩
  show ab_Fr MX12_reply (d + 1) Q 11 [some (.ref 205), some (.int a1), some (.int a2)] [.int r3] (0, 0) (i7, l8, dd9, x10) (ab_E0 sc)
  refine ab_if_eq (tgt := 24) dX12_reply_11 (by decide) (fun c12 => ?_) (fun c12 => ?_)
  · refine ab_iconst (v := (-1)) dX12_reply_24 (by decide) ?_
    exact ab_iret dX12_reply_25 rfl ⟨Nat.zero_le _, Nat.zero_le _⟩ ((hk6 i7 l8 dd9 x10 hp11).1 c12)
  · refine ab_aloadn dX12_reply_14 rfl ?_
    refine ab_iloadn dX12_reply_15 rfl ?_
    refine ab_iloadn dX12_reply_16 rfl ?_
    refine ab_iconst (v := 0) dX12_reply_17 (by decide) ?_
    obtain ⟨r13, P14, hs15, hk16⟩ := ((hk6 i7 l8 dd9 x10 hp11).2 c12)
    refine ab_callV (vs := [.int a1, .int a2, .int 0]) (st := []) dX12_reply_18 okMX12_replyBy wd_1643 kd_205 rfl rfl rfl (Nat.le_of_ble_eq_true rfl) ⟨Nat.le_of_ble_eq_true rfl, Nat.le_of_ble_eq_true rfl⟩ hs15 ?_
    rintro v9 ⟨i17, l18, dd19, x20⟩ E9 - ⟨rfl, rfl, hp21⟩
    show ab_Fr MX12_reply (d + 1) Q 21 [some (.ref 205), some (.int a1), some (.int a2)] [.int r13] (0, 0) (i17, l18, dd19, x20) (ab_E0 sc)
    refine ab_goto (tgt := 25) dX12_reply_21 (by decide) ?_
    exact ab_iret dX12_reply_25 rfl ⟨Nat.zero_le _, Nat.zero_le _⟩ (hk16 i17 l18 dd19 x20 hp21)
theorem tMX12_replyBy_0 {d : Nat} {Q : ab_Qt} {sc : Nat × (Nat → Int32)} {i : Nat → Nat → Int32} {l : Nat → Nat → Int64} {dd : Nat → Nat → Value} {x : Nat} {a1 : Int32} {a2 : Int32} {a3 : Int32} 
    (h : ab_Fr MX12_replyBy (d + 1) Q 3 [some (.ref 205), some (.int a1), some (.int a2), some (.int a3), some (.int 0), none, none, none] [] (0, 0) (i, l, dd, x) (ab_E0 sc)) :
    ab_Fr MX12_replyBy (d + 1) Q 0 [some (.ref 205), some (.int a1), some (.int a2), some (.int a3), none, none, none, none] [] (0, 0) (i, l, dd, x) (ab_E0 sc) := by
  refine ab_iconst (v := 0) dX12_replyBy_0 (by decide) ?_
  refine ab_istore dX12_replyBy_1 (Nat.le_of_ble_eq_true rfl) (L2 := [some (.ref 205), some (.int a1), some (.int a2), some (.int a3), some (.int 0), none, none, none]) rfl ?_
  exact h
theorem tMX12_replyBy_3 {d : Nat} {Q : ab_Qt} {sc : Nat × (Nat → Int32)} {i : Nat → Nat → Int32} {l : Nat → Nat → Int64} {dd : Nat → Nat → Value} {x : Nat} {a1 : Int32} {a2 : Int32} {a3 : Int32} {a4 : Int32} 
    (h : (((i 205 29) < a4 → ab_Fr MX12_replyBy (d + 1) Q 29 [some (.ref 205), some (.int a1), some (.int a2), some (.int a3), some (.int 0), none, none, none] [] (0, 0) (i, l, dd, x) (ab_E0 sc)) ∧ (¬ (i 205 29) < a4 → (vp_in a4 4 ∧ ∀ l2, l2 = ab_u l 228 a4.toNatClampNeg 0 → ab_Fr MX12_replyBy (d + 1) Q 3 [some (.ref 205), some (.int a1), some (.int a2), some (.int a3), some (.int (a4 + 1)), none, none, none] [] (0, 0) (i, l2, dd, x) (ab_E0 sc))))) :
    ab_Fr MX12_replyBy (d + 1) Q 3 [some (.ref 205), some (.int a1), some (.int a2), some (.int a3), some (.int a4), none, none, none] [] (0, 0) (i, l, dd, x) (ab_E0 sc) := by
  refine ab_iload dX12_replyBy_3 rfl ?_
  refine ab_aloadn dX12_replyBy_5 rfl ?_
  refine ab_getf (v := .int (i 205 29)) dX12_replyBy_6 fl_X12_303 kd_205 rfl ?_
  refine ab_icmp_gt (tgt := 26) dX12_replyBy_9 (by decide) (fun c1 => ?_) (fun c1 => ?_)
  · refine ab_iconst (v := 0) dX12_replyBy_26 (by decide) ?_
    refine ab_istore dX12_replyBy_27 (Nat.le_of_ble_eq_true rfl) (L2 := [some (.ref 205), some (.int a1), some (.int a2), some (.int a3), some (.int 0), none, none, none]) rfl ?_
    exact (h.1 c1)
  · refine ab_aloadn dX12_replyBy_12 rfl ?_
    refine ab_getf (v := .ref 228) dX12_replyBy_13 fl_X12_77 kd_205 ff_205_37 ?_
    refine ab_iload dX12_replyBy_16 rfl ?_
    refine ab_lconst (v := 0) dX12_replyBy_18 (by decide) ?_
    refine ab_lastore dX12_replyBy_19 kd_228 (h.2 c1).1 ?_
    obtain ⟨l2, e3⟩ : ∃ z, z = ab_u l 228 a4.toNatClampNeg 0 := ⟨_, rfl⟩
    rw [show ab_u l 228 a4.toNatClampNeg 0 = l2 from e3.symm]
    refine ab_iinc (v := (a4 + 1)) dX12_replyBy_20 rfl (by rfl) (Nat.le_of_ble_eq_true rfl) (L2 := [some (.ref 205), some (.int a1), some (.int a2), some (.int a3), some (.int (a4 + 1)), none, none, none]) rfl ?_
    refine ab_goto (tgt := 3) dX12_replyBy_23 (by decide) ?_
    exact ((h.2 c1).2 l2 e3)
theorem tMX12_replyBy_29 {d : Nat} {Q : ab_Qt} {sc : Nat × (Nat → Int32)} {i : Nat → Nat → Int32} {l : Nat → Nat → Int64} {dd : Nat → Nat → Value} {x : Nat} {a1 : Int32} {a2 : Int32} {a3 : Int32} {a4 : Int32} 
    (h : (((i 205 31) ≤ a4 → (vp_in (((21 * a3) + (3 * a1)) + a2) 42 ∧ ((¬ (i 225 (((21 * a3) + (3 * a1)) + a2).toNatClampNeg) = 9 → ab_Fr MX12_replyBy (d + 1) Q 177 [some (.ref 205), none, none, none, none, none, none, none] [.int (i 225 (((21 * a3) + (3 * a1)) + a2).toNatClampNeg)] (0, 0) (i, l, dd, x) (ab_E0 sc)) ∧ ((i 225 (((21 * a3) + (3 * a1)) + a2).toNatClampNeg) = 9 → ab_Fr MX12_replyBy (d + 1) Q 177 [some (.ref 205), none, none, none, none, none, none, none] [.int (i 205 29)] (0, 0) (i, l, dd, x) (ab_E0 sc))))) ∧ (¬ (i 205 31) ≤ a4 → (∃ (r3 : Int32) (P4 : ab_S → Prop), ab_Sp MX12_sign d [.ref 205, .int a4, .int a1] (i, l, dd, x) (ab_E0 sc) (some (.int r3)) P4 ∧ ∀ i7 l8 dd9 x10, P4 (i7, l8, dd9, x10) → ((r3 = a2 → (∃ (r13 : Int32) (P14 : ab_S → Prop), ab_Sp MX12_decideRow d [.ref 205, .int a4, .int a3] (i7, l8, dd9, x10) (ab_E0 sc) (some (.int r13)) P14 ∧ ∀ i17 l18 dd19 x20, P14 (i17, l18, dd19, x20) → ab_Fr MX12_replyBy (d + 1) Q 63 [some (.ref 205), some (.int a1), some (.int a2), some (.int a3), some (.int a4), some (.int 0), none, none] [] (0, 0) (i17, l18, dd19, x20) (ab_E0 sc))) ∧ (¬ r3 = a2 → ab_Fr MX12_replyBy (d + 1) Q 29 [some (.ref 205), some (.int a1), some (.int a2), some (.int a3), some (.int (a4 + 1)), none, none, none] [] (0, 0) (i7, l8, dd9, x10) (ab_E0 sc))))))) :
    ab_Fr MX12_replyBy (d + 1) Q 29 [some (.ref 205), some (.int a1), some (.int a2), some (.int a3), some (.int a4), none, none, none] [] (0, 0) (i, l, dd, x) (ab_E0 sc) := by
  refine ab_iload dX12_replyBy_29 rfl ?_
  refine ab_aloadn dX12_replyBy_31 rfl ?_
  refine ab_getf (v := .int (i 205 31)) dX12_replyBy_32 fl_X12_309 kd_205 rfl ?_
  refine ab_icmp_ge (tgt := 144) dX12_replyBy_35 (by decide) (fun c1 => ?_) (fun c1 => ?_)
  · refine ab_aloadn dX12_replyBy_144 rfl ?_
    refine ab_getf (v := .ref 225) dX12_replyBy_145 fl_X12_68 kd_205 ff_205_34 ?_
    refine ab_bipush (v := 21) dX12_replyBy_148 (by decide) ?_
    refine ab_iloadn dX12_replyBy_150 rfl ?_
    refine ab_imul dX12_replyBy_151 ?_
    refine ab_iconst (v := 3) dX12_replyBy_152 (by decide) ?_
    refine ab_iloadn dX12_replyBy_153 rfl ?_
    refine ab_imul dX12_replyBy_154 ?_
    refine ab_iadd dX12_replyBy_155 ?_
    refine ab_iloadn dX12_replyBy_156 rfl ?_
    refine ab_iadd dX12_replyBy_157 ?_
    refine ab_iaload (v := (i 225 (((21 * a3) + (3 * a1)) + a2).toNatClampNeg)) dX12_replyBy_158 kd_225 (h.1 c1).1 rfl ?_
    refine ab_istore dX12_replyBy_159 (Nat.le_of_ble_eq_true rfl) (L2 := [some (.ref 205), some (.int a1), some (.int a2), some (.int a3), some (.int (i 225 (((21 * a3) + (3 * a1)) + a2).toNatClampNeg)), none, none, none]) rfl ?_
    refine ab_iload dX12_replyBy_161 rfl ?_
    refine ab_bipush (v := 9) dX12_replyBy_163 (by decide) ?_
    refine ab_icmp_ne (tgt := 175) dX12_replyBy_165 (by decide) (fun c2 => ?_) (fun c2 => ?_)
    · refine ab_iload dX12_replyBy_175 rfl ?_
      refine ab_forget (i := 1) (L2 := [some (.ref 205), none, some (.int a2), some (.int a3), some (.int (i 225 (((21 * a3) + (3 * a1)) + a2).toNatClampNeg)), none, none, none]) rfl ?_
      refine ab_forget (i := 2) (L2 := [some (.ref 205), none, none, some (.int a3), some (.int (i 225 (((21 * a3) + (3 * a1)) + a2).toNatClampNeg)), none, none, none]) rfl ?_
      refine ab_forget (i := 3) (L2 := [some (.ref 205), none, none, none, some (.int (i 225 (((21 * a3) + (3 * a1)) + a2).toNatClampNeg)), none, none, none]) rfl ?_
      refine ab_forget (i := 4) (L2 := [some (.ref 205), none, none, none, none, none, none, none]) rfl ?_
      exact ((h.1 c1).2.1 c2)
    · refine ab_aloadn dX12_replyBy_168 rfl ?_
      refine ab_getf (v := .int (i 205 29)) dX12_replyBy_169 fl_X12_303 kd_205 rfl ?_
      refine ab_goto (tgt := 177) dX12_replyBy_172 (by decide) ?_
      refine ab_forget (i := 1) (L2 := [some (.ref 205), none, some (.int a2), some (.int a3), some (.int (i 225 (((21 * a3) + (3 * a1)) + a2).toNatClampNeg)), none, none, none]) rfl ?_
      refine ab_forget (i := 2) (L2 := [some (.ref 205), none, none, some (.int a3), some (.int (i 225 (((21 * a3) + (3 * a1)) + a2).toNatClampNeg)), none, none, none]) rfl ?_
      refine ab_forget (i := 3) (L2 := [some (.ref 205), none, none, none, some (.int (i 225 (((21 * a3) + (3 * a1)) + a2).toNatClampNeg)), none, none, none]) rfl ?_
      refine ab_forget (i := 4) (L2 := [some (.ref 205), none, none, none, none, none, none, none]) rfl ?_
      exact ((h.1 c1).2.2 c2)
  · refine ab_aloadn dX12_replyBy_38 rfl ?_
    refine ab_iload dX12_replyBy_39 rfl ?_
    refine ab_iloadn dX12_replyBy_41 rfl ?_
    obtain ⟨r3, P4, hs5, hk6⟩ := (h.2 c1)
    refine ab_callV (vs := [.int a4, .int a1]) (st := []) dX12_replyBy_42 okMX12_sign wd_1516 kd_205 rfl rfl rfl (Nat.le_of_ble_eq_true rfl) ⟨Nat.le_of_ble_eq_true rfl, Nat.le_of_ble_eq_true rfl⟩ hs5 ?_
    rintro v9 ⟨i7, l8, dd9, x10⟩ E9 - ⟨rfl, rfl, hp11⟩
    show ab_Fr MX12_replyBy (d + 1) Q 45 [some (.ref 205), some (.int a1), some (.int a2), some (.int a3), some (.int a4), none, none, none] [.int r3] (0, 0) (i7, l8, dd9, x10) (ab_E0 sc)
    refine ab_iloadn dX12_replyBy_45 rfl ?_
    refine ab_icmp_eq (tgt := 52) dX12_replyBy_46 (by decide) (fun c12 => ?_) (fun c12 => ?_)
    · refine ab_aloadn dX12_replyBy_52 rfl ?_
      refine ab_iload dX12_replyBy_53 rfl ?_
      refine ab_iloadn dX12_replyBy_55 rfl ?_
      obtain ⟨r13, P14, hs15, hk16⟩ := ((hk6 i7 l8 dd9 x10 hp11).1 c12)
      refine ab_callV (vs := [.int a4, .int a3]) (st := []) dX12_replyBy_56 okMX12_decideRow wd_1584 kd_205 rfl rfl rfl (Nat.le_of_ble_eq_true rfl) ⟨Nat.le_of_ble_eq_true rfl, Nat.le_of_ble_eq_true rfl⟩ hs15 ?_
      rintro v9 ⟨i17, l18, dd19, x20⟩ E9 - ⟨rfl, rfl, hp21⟩
      show ab_Fr MX12_replyBy (d + 1) Q 59 [some (.ref 205), some (.int a1), some (.int a2), some (.int a3), some (.int a4), none, none, none] [.int r13] (0, 0) (i17, l18, dd19, x20) (ab_E0 sc)
      refine ab_pop dX12_replyBy_59 rfl ?_
      refine ab_iconst (v := 0) dX12_replyBy_60 (by decide) ?_
      refine ab_istore dX12_replyBy_61 (Nat.le_of_ble_eq_true rfl) (L2 := [some (.ref 205), some (.int a1), some (.int a2), some (.int a3), some (.int a4), some (.int 0), none, none]) rfl ?_
      exact (hk16 i17 l18 dd19 x20 hp21)
    · refine ab_goto (tgt := 138) dX12_replyBy_49 (by decide) ?_
      refine ab_iinc (v := (a4 + 1)) dX12_replyBy_138 rfl (by rfl) (Nat.le_of_ble_eq_true rfl) (L2 := [some (.ref 205), some (.int a1), some (.int a2), some (.int a3), some (.int (a4 + 1)), none, none, none]) rfl ?_
      refine ab_goto (tgt := 29) dX12_replyBy_141 (by decide) ?_
      exact ((hk6 i7 l8 dd9 x10 hp11).2 c12)
theorem tMX12_replyBy_63 {d : Nat} {Q : ab_Qt} {sc : Nat × (Nat → Int32)} {i : Nat → Nat → Int32} {l : Nat → Nat → Int64} {dd : Nat → Nat → Value} {x : Nat} {a1 : Int32} {a2 : Int32} {a3 : Int32} {a4 : Int32} {a5 : Int32} 
    (h : (((i 205 29) < a5 → ab_Fr MX12_replyBy (d + 1) Q 29 [some (.ref 205), some (.int a1), some (.int a2), some (.int a3), some (.int (a4 + 1)), none, none, none] [] (0, 0) (i, l, dd, x) (ab_E0 sc)) ∧ (¬ (i 205 29) < a5 → (∃ (r2 : Int32) (P3 : ab_S → Prop), ab_Sp MX12_decideWith d [.ref 205, .int a1, .int a5] (i, l, dd, x) (ab_E0 sc) (some (.int r2)) P3 ∧ ∀ i6 l7 dd8 x9, P3 (i6, l7, dd8, x9) → ab_Fr MX12_replyBy (d + 1) Q 84 [some (.ref 205), some (.int a1), some (.int a2), some (.int a3), some (.int a4), some (.int a5), some (.int r2), some (.int 0)] [] (0, 0) (i6, l7, dd8, x9) (ab_E0 sc))))) :
    ab_Fr MX12_replyBy (d + 1) Q 63 [some (.ref 205), some (.int a1), some (.int a2), some (.int a3), some (.int a4), some (.int a5), none, none] [] (0, 0) (i, l, dd, x) (ab_E0 sc) := by
  refine ab_iload dX12_replyBy_63 rfl ?_
  refine ab_aloadn dX12_replyBy_65 rfl ?_
  refine ab_getf (v := .int (i 205 29)) dX12_replyBy_66 fl_X12_303 kd_205 rfl ?_
  refine ab_icmp_gt (tgt := 138) dX12_replyBy_69 (by decide) (fun c1 => ?_) (fun c1 => ?_)
  · refine ab_iinc (v := (a4 + 1)) dX12_replyBy_138 rfl (by rfl) (Nat.le_of_ble_eq_true rfl) (L2 := [some (.ref 205), some (.int a1), some (.int a2), some (.int a3), some (.int (a4 + 1)), some (.int a5), none, none]) rfl ?_
    refine ab_goto (tgt := 29) dX12_replyBy_141 (by decide) ?_
    refine ab_forget (i := 5) (L2 := [some (.ref 205), some (.int a1), some (.int a2), some (.int a3), some (.int (a4 + 1)), none, none, none]) rfl ?_
    exact (h.1 c1)
  · refine ab_aloadn dX12_replyBy_72 rfl ?_
    refine ab_iloadn dX12_replyBy_73 rfl ?_
    refine ab_iload dX12_replyBy_74 rfl ?_
    obtain ⟨r2, P3, hs4, hk5⟩ := (h.2 c1)
    refine ab_callV (vs := [.int a1, .int a5]) (st := []) dX12_replyBy_76 okMX12_decideWith wd_1632 kd_205 rfl rfl rfl (Nat.le_of_ble_eq_true rfl) ⟨Nat.le_of_ble_eq_true rfl, Nat.le_of_ble_eq_true rfl⟩ hs4 ?_
    rintro v9 ⟨i6, l7, dd8, x9⟩ E9 - ⟨rfl, rfl, hp10⟩
    show ab_Fr MX12_replyBy (d + 1) Q 79 [some (.ref 205), some (.int a1), some (.int a2), some (.int a3), some (.int a4), some (.int a5), none, none] [.int r2] (0, 0) (i6, l7, dd8, x9) (ab_E0 sc)
    refine ab_istore dX12_replyBy_79 (Nat.le_of_ble_eq_true rfl) (L2 := [some (.ref 205), some (.int a1), some (.int a2), some (.int a3), some (.int a4), some (.int a5), some (.int r2), none]) rfl ?_
    refine ab_iconst (v := 0) dX12_replyBy_81 (by decide) ?_
    refine ab_istore dX12_replyBy_82 (Nat.le_of_ble_eq_true rfl) (L2 := [some (.ref 205), some (.int a1), some (.int a2), some (.int a3), some (.int a4), some (.int a5), some (.int r2), some (.int 0)]) rfl ?_
    exact (hk5 i6 l7 dd8 x9 hp10)
theorem tMX12_replyBy_84 {d : Nat} {Q : ab_Qt} {sc : Nat × (Nat → Int32)} {i : Nat → Nat → Int32} {l : Nat → Nat → Int64} {dd : Nat → Nat → Value} {x : Nat} {a1 : Int32} {a2 : Int32} {a3 : Int32} {a4 : Int32} {a5 : Int32} {a6 : Int32} {a7 : Int32} 
    (h : (((i 205 29) ≤ a7 → ab_Fr MX12_replyBy (d + 1) Q 63 [some (.ref 205), some (.int a1), some (.int a2), some (.int a3), some (.int a4), some (.int (a5 + 1)), none, none] [] (0, 0) (i, l, dd, x) (ab_E0 sc)) ∧ (¬ (i 205 29) ≤ a7 → (vp_in a5 4 ∧ vp_in ((3 * a4) + a7) 6561 ∧ ∃ (r2 : Int32) (P3 : ab_S → Prop), ab_Sp MX12_loss d [.ref 205, .int a1, .int a7, .int a6] (i, l, dd, x) (ab_E0 sc) (some (.int r2)) P3 ∧ ∀ i6 l7 dd8 x9, P3 (i6, l7, dd8, x9) → vp_in a5 4 ∧ ∀ l11, l11 = ab_u l7 228 a5.toNatClampNeg ((l 228 a5.toNatClampNeg) + ((l 224 ((3 * a4) + a7).toNatClampNeg) * r2.toInt64)) → ab_Fr MX12_replyBy (d + 1) Q 84 [some (.ref 205), some (.int a1), some (.int a2), some (.int a3), some (.int a4), some (.int a5), some (.int a6), some (.int (a7 + 1))] [] (0, 0) (i6, l11, dd8, x9) (ab_E0 sc))))) :
    ab_Fr MX12_replyBy (d + 1) Q 84 [some (.ref 205), some (.int a1), some (.int a2), some (.int a3), some (.int a4), some (.int a5), some (.int a6), some (.int a7)] [] (0, 0) (i, l, dd, x) (ab_E0 sc) := by
  refine ab_iload dX12_replyBy_84 rfl ?_
  refine ab_aloadn dX12_replyBy_86 rfl ?_
  refine ab_getf (v := .int (i 205 29)) dX12_replyBy_87 fl_X12_303 kd_205 rfl ?_
  refine ab_icmp_ge (tgt := 132) dX12_replyBy_90 (by decide) (fun c1 => ?_) (fun c1 => ?_)
  · refine ab_iinc (v := (a5 + 1)) dX12_replyBy_132 rfl (by rfl) (Nat.le_of_ble_eq_true rfl) (L2 := [some (.ref 205), some (.int a1), some (.int a2), some (.int a3), some (.int a4), some (.int (a5 + 1)), some (.int a6), some (.int a7)]) rfl ?_
    refine ab_goto (tgt := 63) dX12_replyBy_135 (by decide) ?_
    refine ab_forget (i := 6) (L2 := [some (.ref 205), some (.int a1), some (.int a2), some (.int a3), some (.int a4), some (.int (a5 + 1)), none, some (.int a7)]) rfl ?_
    refine ab_forget (i := 7) (L2 := [some (.ref 205), some (.int a1), some (.int a2), some (.int a3), some (.int a4), some (.int (a5 + 1)), none, none]) rfl ?_
    exact (h.1 c1)
  · refine ab_aloadn dX12_replyBy_93 rfl ?_
    refine ab_getf (v := .ref 228) dX12_replyBy_94 fl_X12_77 kd_205 ff_205_37 ?_
    refine ab_iload dX12_replyBy_97 rfl ?_
    refine ab_dup2 dX12_replyBy_99 rfl rfl ?_
    refine ab_laload (v := (l 228 a5.toNatClampNeg)) dX12_replyBy_100 kd_228 (h.2 c1).1 rfl ?_
    refine ab_aloadn dX12_replyBy_101 rfl ?_
    refine ab_getf (v := .ref 224) dX12_replyBy_102 fl_X12_65 kd_205 ff_205_33 ?_
    refine ab_iconst (v := 3) dX12_replyBy_105 (by decide) ?_
    refine ab_iload dX12_replyBy_106 rfl ?_
    refine ab_imul dX12_replyBy_108 ?_
    refine ab_iload dX12_replyBy_109 rfl ?_
    refine ab_iadd dX12_replyBy_111 ?_
    refine ab_laload (v := (l 224 ((3 * a4) + a7).toNatClampNeg)) dX12_replyBy_112 kd_224 (h.2 c1).2.1 rfl ?_
    refine ab_aloadn dX12_replyBy_113 rfl ?_
    refine ab_iloadn dX12_replyBy_114 rfl ?_
    refine ab_iload dX12_replyBy_115 rfl ?_
    refine ab_iload dX12_replyBy_117 rfl ?_
    obtain ⟨r2, P3, hs4, hk5⟩ := (h.2 c1).2.2
    refine ab_callV (vs := [.int a1, .int a7, .int a6]) (st := [.long (l 224 ((3 * a4) + a7).toNatClampNeg), .long (l 228 a5.toNatClampNeg), .int a5, .ref 228]) dX12_replyBy_119 okMX12_loss wd_1534 kd_205 rfl rfl rfl (Nat.le_of_ble_eq_true rfl) ⟨Nat.le_of_ble_eq_true rfl, Nat.le_of_ble_eq_true rfl⟩ hs4 ?_
    rintro v9 ⟨i6, l7, dd8, x9⟩ E9 - ⟨rfl, rfl, hp10⟩
    show ab_Fr MX12_replyBy (d + 1) Q 122 [some (.ref 205), some (.int a1), some (.int a2), some (.int a3), some (.int a4), some (.int a5), some (.int a6), some (.int a7)] [.int r2, .long (l 224 ((3 * a4) + a7).toNatClampNeg), .long (l 228 a5.toNatClampNeg), .int a5, .ref 228] (0, 0) (i6, l7, dd8, x9) (ab_E0 sc)
    refine ab_i2l dX12_replyBy_122 rfl ?_
    refine ab_lmul dX12_replyBy_123 ?_
    refine ab_ladd dX12_replyBy_124 ?_
    refine ab_lastore dX12_replyBy_125 kd_228 (hk5 i6 l7 dd8 x9 hp10).1 ?_
    obtain ⟨l11, e12⟩ : ∃ z, z = ab_u l7 228 a5.toNatClampNeg ((l 228 a5.toNatClampNeg) + ((l 224 ((3 * a4) + a7).toNatClampNeg) * r2.toInt64)) := ⟨_, rfl⟩
    rw [show ab_u l7 228 a5.toNatClampNeg ((l 228 a5.toNatClampNeg) + ((l 224 ((3 * a4) + a7).toNatClampNeg) * r2.toInt64)) = l11 from e12.symm]
    refine ab_iinc (v := (a7 + 1)) dX12_replyBy_126 rfl (by rfl) (Nat.le_of_ble_eq_true rfl) (L2 := [some (.ref 205), some (.int a1), some (.int a2), some (.int a3), some (.int a4), some (.int a5), some (.int a6), some (.int (a7 + 1))]) rfl ?_
    refine ab_goto (tgt := 84) dX12_replyBy_129 (by decide) ?_
    exact ((hk5 i6 l7 dd8 x9 hp10).2 l11 e12)
theorem tMX12_replyBy_177 {d : Nat} {Q : ab_Qt} {sc : Nat × (Nat → Int32)} {i : Nat → Nat → Int32} {l : Nat → Nat → Int64} {dd : Nat → Nat → Value} {x : Nat} {s0 : Int32} 
    (h : ab_Fr MX12_replyBy (d + 1) Q 189 [some (.ref 205), none, none, none, none, some (.int s0), some (.int s0), some (.int (i 205 29))] [] (0, 0) (i, l, dd, x) (ab_E0 sc)) :
    ab_Fr MX12_replyBy (d + 1) Q 177 [some (.ref 205), none, none, none, none, none, none, none] [.int s0] (0, 0) (i, l, dd, x) (ab_E0 sc) := by
  refine ab_istore dX12_replyBy_177 (Nat.le_of_ble_eq_true rfl) (L2 := [some (.ref 205), none, none, none, none, some (.int s0), none, none]) rfl ?_
  refine ab_iload dX12_replyBy_179 rfl ?_
  refine ab_istore dX12_replyBy_181 (Nat.le_of_ble_eq_true rfl) (L2 := [some (.ref 205), none, none, none, none, some (.int s0), some (.int s0), none]) rfl ?_
  refine ab_aloadn dX12_replyBy_183 rfl ?_
  refine ab_getf (v := .int (i 205 29)) dX12_replyBy_184 fl_X12_303 kd_205 rfl ?_
  refine ab_istore dX12_replyBy_187 (Nat.le_of_ble_eq_true rfl) (L2 := [some (.ref 205), none, none, none, none, some (.int s0), some (.int s0), some (.int (i 205 29))]) rfl ?_
  exact h
theorem tMX12_replyBy_189 {d : Nat} {Q : ab_Qt} {sc : Nat × (Nat → Int32)} {i : Nat → Nat → Int32} {l : Nat → Nat → Int64} {dd : Nat → Nat → Value} {x : Nat} {a5 : Int32} {a6 : Int32} {a7 : Int32} 
    (h : ((a7 < 0 → ((¬ a5 = (i 205 29) → Q (some (some (.int a5))) (i, l, dd, x) (ab_E0 sc)) ∧ (a5 = (i 205 29) → Q (some (some (.int 9))) (i, l, dd, x) (ab_E0 sc)))) ∧ (¬ a7 < 0 → (vp_in a7 4 ∧ vp_in a5 4 ∧ (((l 228 a7.toNatClampNeg) < (l 228 a5.toNatClampNeg) → ab_Fr MX12_replyBy (d + 1) Q 189 [some (.ref 205), none, none, none, none, some (.int a7), some (.int a6), some (.int (a7 + (-1)))] [] (0, 0) (i, l, dd, x) (ab_E0 sc)) ∧ (¬ (l 228 a7.toNatClampNeg) < (l 228 a5.toNatClampNeg) → (vp_in a7 4 ∧ vp_in a5 4 ∧ ((¬ (l 228 a7.toNatClampNeg) = (l 228 a5.toNatClampNeg) → ab_Fr MX12_replyBy (d + 1) Q 189 [some (.ref 205), none, none, none, none, some (.int a5), some (.int a6), some (.int (a7 + (-1)))] [] (0, 0) (i, l, dd, x) (ab_E0 sc)) ∧ ((l 228 a7.toNatClampNeg) = (l 228 a5.toNatClampNeg) → ((a5 = a6 → ab_Fr MX12_replyBy (d + 1) Q 189 [some (.ref 205), none, none, none, none, some (.int a5), some (.int a6), some (.int (a7 + (-1)))] [] (0, 0) (i, l, dd, x) (ab_E0 sc)) ∧ (¬ a5 = a6 → ab_Fr MX12_replyBy (d + 1) Q 189 [some (.ref 205), none, none, none, none, some (.int a7), some (.int a6), some (.int (a7 + (-1)))] [] (0, 0) (i, l, dd, x) (ab_E0 sc)))))))))))) :
    ab_Fr MX12_replyBy (d + 1) Q 189 [some (.ref 205), none, none, none, none, some (.int a5), some (.int a6), some (.int a7)] [] (0, 0) (i, l, dd, x) (ab_E0 sc) := by
  refine ab_iload dX12_replyBy_189 rfl ?_
  refine ab_if_lt (tgt := 247) dX12_replyBy_191 (by decide) (fun c1 => ?_) (fun c1 => ?_)
  · refine ab_iload dX12_replyBy_247 rfl ?_
    refine ab_aloadn dX12_replyBy_249 rfl ?_
    refine ab_getf (v := .int (i 205 29)) dX12_replyBy_250 fl_X12_303 kd_205 rfl ?_
    refine ab_icmp_ne (tgt := 261) dX12_replyBy_253 (by decide) (fun c2 => ?_) (fun c2 => ?_)
    · refine ab_iload dX12_replyBy_261 rfl ?_
      exact ab_iret dX12_replyBy_263 rfl ⟨Nat.zero_le _, Nat.zero_le _⟩ ((h.1 c1).1 c2)
    · refine ab_bipush (v := 9) dX12_replyBy_256 (by decide) ?_
      refine ab_goto (tgt := 263) dX12_replyBy_258 (by decide) ?_
      exact ab_iret dX12_replyBy_263 rfl ⟨Nat.zero_le _, Nat.zero_le _⟩ ((h.1 c1).2 c2)
  · refine ab_aloadn dX12_replyBy_194 rfl ?_
    refine ab_getf (v := .ref 228) dX12_replyBy_195 fl_X12_77 kd_205 ff_205_37 ?_
    refine ab_iload dX12_replyBy_198 rfl ?_
    refine ab_laload (v := (l 228 a7.toNatClampNeg)) dX12_replyBy_200 kd_228 (h.2 c1).1 rfl ?_
    refine ab_aloadn dX12_replyBy_201 rfl ?_
    refine ab_getf (v := .ref 228) dX12_replyBy_202 fl_X12_77 kd_205 ff_205_37 ?_
    refine ab_iload dX12_replyBy_205 rfl ?_
    refine ab_laload (v := (l 228 a5.toNatClampNeg)) dX12_replyBy_207 kd_228 (h.2 c1).2.1 rfl ?_
    refine ab_lclt (tgt := 237) dX12_replyBy_208 dX12_replyBy_209 (by decide) (fun c3 => ?_) (fun c3 => ?_)
    · refine ab_iload dX12_replyBy_237 rfl ?_
      refine ab_istore dX12_replyBy_239 (Nat.le_of_ble_eq_true rfl) (L2 := [some (.ref 205), none, none, none, none, some (.int a7), some (.int a6), some (.int a7)]) rfl ?_
      refine ab_iinc (v := (a7 + (-1))) dX12_replyBy_241 rfl (by rfl) (Nat.le_of_ble_eq_true rfl) (L2 := [some (.ref 205), none, none, none, none, some (.int a7), some (.int a6), some (.int (a7 + (-1)))]) rfl ?_
      refine ab_goto (tgt := 189) dX12_replyBy_244 (by decide) ?_
      exact ((h.2 c1).2.2.1 c3)
    · refine ab_aloadn dX12_replyBy_212 rfl ?_
      refine ab_getf (v := .ref 228) dX12_replyBy_213 fl_X12_77 kd_205 ff_205_37 ?_
      refine ab_iload dX12_replyBy_216 rfl ?_
      refine ab_laload (v := (l 228 a7.toNatClampNeg)) dX12_replyBy_218 kd_228 ((h.2 c1).2.2.2 c3).1 rfl ?_
      refine ab_aloadn dX12_replyBy_219 rfl ?_
      refine ab_getf (v := .ref 228) dX12_replyBy_220 fl_X12_77 kd_205 ff_205_37 ?_
      refine ab_iload dX12_replyBy_223 rfl ?_
      refine ab_laload (v := (l 228 a5.toNatClampNeg)) dX12_replyBy_225 kd_228 ((h.2 c1).2.2.2 c3).2.1 rfl ?_
      refine ab_lcne (tgt := 241) dX12_replyBy_226 dX12_replyBy_227 (by decide) (fun c4 => ?_) (fun c4 => ?_)
      · refine ab_iinc (v := (a7 + (-1))) dX12_replyBy_241 rfl (by rfl) (Nat.le_of_ble_eq_true rfl) (L2 := [some (.ref 205), none, none, none, none, some (.int a5), some (.int a6), some (.int (a7 + (-1)))]) rfl ?_
        refine ab_goto (tgt := 189) dX12_replyBy_244 (by decide) ?_
        exact (((h.2 c1).2.2.2 c3).2.2.1 c4)
      · refine ab_iload dX12_replyBy_230 rfl ?_
        refine ab_iload dX12_replyBy_232 rfl ?_
        refine ab_icmp_eq (tgt := 241) dX12_replyBy_234 (by decide) (fun c5 => ?_) (fun c5 => ?_)
        · refine ab_iinc (v := (a7 + (-1))) dX12_replyBy_241 rfl (by rfl) (Nat.le_of_ble_eq_true rfl) (L2 := [some (.ref 205), none, none, none, none, some (.int a5), some (.int a6), some (.int (a7 + (-1)))]) rfl ?_
          refine ab_goto (tgt := 189) dX12_replyBy_244 (by decide) ?_
          exact ((((h.2 c1).2.2.2 c3).2.2.2 c4).1 c5)
        · refine ab_iload dX12_replyBy_237 rfl ?_
          refine ab_istore dX12_replyBy_239 (Nat.le_of_ble_eq_true rfl) (L2 := [some (.ref 205), none, none, none, none, some (.int a7), some (.int a6), some (.int a7)]) rfl ?_
          refine ab_iinc (v := (a7 + (-1))) dX12_replyBy_241 rfl (by rfl) (Nat.le_of_ble_eq_true rfl) (L2 := [some (.ref 205), none, none, none, none, some (.int a7), some (.int a6), some (.int (a7 + (-1)))]) rfl ?_
          refine ab_goto (tgt := 189) dX12_replyBy_244 (by decide) ?_
          exact ((((h.2 c1).2.2.2 c3).2.2.2 c4).2 c5)
theorem tMX12_fit_0 {d : Nat} {Q : ab_Qt} {sc : Nat × (Nat → Int32)} {i : Nat → Nat → Int32} {l : Nat → Nat → Int64} {dd : Nat → Nat → Value} {x : Nat}  
    (h : (∀ i1, i1 = ab_u i 205 0 0 → ((¬ (i1 205 30) = 0 → (∃ (r4 : Int32) (P5 : ab_S → Prop), ab_Sp MX12_isFitBy d [.ref 205, .int 0] (i1, l, dd, x) (ab_E0 sc) (some (.int r4)) P5 ∧ ∀ i8 l9 dd10 x11, P5 (i8, l9, dd10, x11) → ((r4 = 0 → Q (some (some (.int 0))) (i8, l9, dd10, x11) (ab_E0 sc)) ∧ (¬ r4 = 0 → Q (some (some (.int 1))) (i8, l9, dd10, x11) (ab_E0 sc))))) ∧ ((i1 205 30) = 0 → Q (some (some (.int (-1)))) (i1, l, dd, x) (ab_E0 sc))))) :
    ab_Fr MX12_fit (d + 1) Q 0 [some (.ref 205)] [] (0, 0) (i, l, dd, x) (ab_E0 sc) := by
  refine ab_aloadn dX12_fit_0 rfl ?_
  refine ab_iconst (v := 0) dX12_fit_1 (by decide) ?_
  refine ab_putI dX12_fit_2 fl_X12_149 kd_205 rfl ?_
  obtain ⟨i1, e2⟩ : ∃ z, z = ab_u i 205 0 0 := ⟨_, rfl⟩
  show ab_Fr MX12_fit (d + 1) Q 5 [some (.ref 205)] [] (0, 0) (ab_u i 205 0 0, l, dd, x) (ab_E0 sc)
  rw [show ab_u i 205 0 0 = i1 from e2.symm]
  refine ab_aloadn dX12_fit_5 rfl ?_
  refine ab_getf (v := .int (i1 205 30)) dX12_fit_6 fl_X12_306 kd_205 rfl ?_
  refine ab_if_ne (tgt := 16) dX12_fit_9 (by decide) (fun c3 => ?_) (fun c3 => ?_)
  · refine ab_aloadn dX12_fit_16 rfl ?_
    refine ab_iconst (v := 0) dX12_fit_17 (by decide) ?_
    obtain ⟨r4, P5, hs6, hk7⟩ := ((h i1 e2).1 c3)
    refine ab_callV (vs := [.int 0]) (st := []) dX12_fit_18 okMX12_isFitBy wd_1650 kd_205 rfl rfl rfl (Nat.le_of_ble_eq_true rfl) ⟨Nat.le_of_ble_eq_true rfl, Nat.le_of_ble_eq_true rfl⟩ hs6 ?_
    rintro v9 ⟨i8, l9, dd10, x11⟩ E9 - ⟨rfl, rfl, hp12⟩
    show ab_Fr MX12_fit (d + 1) Q 21 [some (.ref 205)] [.int r4] (0, 0) (i8, l9, dd10, x11) (ab_E0 sc)
    refine ab_if_eq (tgt := 28) dX12_fit_21 (by decide) (fun c13 => ?_) (fun c13 => ?_)
    · refine ab_iconst (v := 0) dX12_fit_28 (by decide) ?_
      exact ab_iret dX12_fit_29 rfl ⟨Nat.zero_le _, Nat.zero_le _⟩ ((hk7 i8 l9 dd10 x11 hp12).1 c13)
    · refine ab_iconst (v := 1) dX12_fit_24 (by decide) ?_
      refine ab_goto (tgt := 29) dX12_fit_25 (by decide) ?_
      exact ab_iret dX12_fit_29 rfl ⟨Nat.zero_le _, Nat.zero_le _⟩ ((hk7 i8 l9 dd10 x11 hp12).2 c13)
  · refine ab_iconst (v := (-1)) dX12_fit_12 (by decide) ?_
    refine ab_goto (tgt := 29) dX12_fit_13 (by decide) ?_
    exact ab_iret dX12_fit_29 rfl ⟨Nat.zero_le _, Nat.zero_le _⟩ ((h i1 e2).2 c3)
theorem tMX12_isFitBy_0 {d : Nat} {Q : ab_Qt} {sc : Nat × (Nat → Int32)} {i : Nat → Nat → Int32} {l : Nat → Nat → Int64} {dd : Nat → Nat → Value} {x : Nat} {a1 : Int32} 
    (h : ab_Fr MX12_isFitBy (d + 1) Q 2 [some (.ref 205), some (.int a1), some (.int 0), none] [] (0, 0) (i, l, dd, x) (ab_E0 sc)) :
    ab_Fr MX12_isFitBy (d + 1) Q 0 [some (.ref 205), some (.int a1), none, none] [] (0, 0) (i, l, dd, x) (ab_E0 sc) := by
  refine ab_iconst (v := 0) dX12_isFitBy_0 (by decide) ?_
  refine ab_istoren dX12_isFitBy_1 (Nat.le_of_ble_eq_true rfl) (L2 := [some (.ref 205), some (.int a1), some (.int 0), none]) rfl ?_
  exact h
theorem tMX12_isFitBy_2 {d : Nat} {Q : ab_Qt} {sc : Nat × (Nat → Int32)} {i : Nat → Nat → Int32} {l : Nat → Nat → Int64} {dd : Nat → Nat → Value} {x : Nat} {a1 : Int32} {a2 : Int32} 
    (h : (((i 205 30) ≤ a2 → Q (some (some (.int 1))) (i, l, dd, x) (ab_E0 sc)) ∧ (¬ (i 205 30) ≤ a2 → ab_Fr MX12_isFitBy (d + 1) Q 12 [some (.ref 205), some (.int a1), some (.int a2), some (.int 0)] [] (0, 0) (i, l, dd, x) (ab_E0 sc)))) :
    ab_Fr MX12_isFitBy (d + 1) Q 2 [some (.ref 205), some (.int a1), some (.int a2), none] [] (0, 0) (i, l, dd, x) (ab_E0 sc) := by
  refine ab_iloadn dX12_isFitBy_2 rfl ?_
  refine ab_aloadn dX12_isFitBy_3 rfl ?_
  refine ab_getf (v := .int (i 205 30)) dX12_isFitBy_4 fl_X12_306 kd_205 rfl ?_
  refine ab_icmp_ge (tgt := 61) dX12_isFitBy_7 (by decide) (fun c1 => ?_) (fun c1 => ?_)
  · refine ab_iconst (v := 1) dX12_isFitBy_61 (by decide) ?_
    exact ab_zret dX12_isFitBy_62 rfl (by decide) ⟨Nat.zero_le _, Nat.zero_le _⟩ (h.1 c1)
  · refine ab_iconst (v := 0) dX12_isFitBy_10 (by decide) ?_
    refine ab_istoren dX12_isFitBy_11 (Nat.le_of_ble_eq_true rfl) (L2 := [some (.ref 205), some (.int a1), some (.int a2), some (.int 0)]) rfl ?_
    exact (h.2 c1)
theorem tMX12_isFitBy_12 {d : Nat} {Q : ab_Qt} {sc : Nat × (Nat → Int32)} {i : Nat → Nat → Int32} {l : Nat → Nat → Int64} {dd : Nat → Nat → Value} {x : Nat} {a1 : Int32} {a2 : Int32} {a3 : Int32} 
    (h : (vp_in a2 14 ∧ (((i 212 a2.toNatClampNeg) ≤ a3 → ab_Fr MX12_isFitBy (d + 1) Q 2 [some (.ref 205), some (.int a1), some (.int (a2 + 1)), none] [] (0, 0) (i, l, dd, x) (ab_E0 sc)) ∧ (¬ (i 212 a2.toNatClampNeg) ≤ a3 → (∃ (r2 : Int32) (P3 : ab_S → Prop), ab_Sp MX12_replyBy d [.ref 205, .int a2, .int a3, .int a1] (i, l, dd, x) (ab_E0 sc) (some (.int r2)) P3 ∧ ∀ i6 l7 dd8 x9, P3 (i6, l7, dd8, x9) → vp_in (((21 * a1) + (3 * a2)) + a3) 42 ∧ ((r2 = (i6 225 (((21 * a1) + (3 * a2)) + a3).toNatClampNeg) → ab_Fr MX12_isFitBy (d + 1) Q 12 [some (.ref 205), some (.int a1), some (.int a2), some (.int (a3 + 1))] [] (0, 0) (i6, l7, dd8, x9) (ab_E0 sc)) ∧ (¬ r2 = (i6 225 (((21 * a1) + (3 * a2)) + a3).toNatClampNeg) → Q (some (some (.int 0))) (i6, l7, dd8, x9) (ab_E0 sc)))))))) :
    ab_Fr MX12_isFitBy (d + 1) Q 12 [some (.ref 205), some (.int a1), some (.int a2), some (.int a3)] [] (0, 0) (i, l, dd, x) (ab_E0 sc) := by
  refine ab_iloadn dX12_isFitBy_12 rfl ?_
  refine ab_aloadn dX12_isFitBy_13 rfl ?_
  refine ab_getf (v := .ref 212) dX12_isFitBy_14 fl_X12_29 kd_205 ff_205_16 ?_
  refine ab_iloadn dX12_isFitBy_17 rfl ?_
  refine ab_iaload (v := (i 212 a2.toNatClampNeg)) dX12_isFitBy_18 kd_212 h.1 rfl ?_
  refine ab_icmp_ge (tgt := 55) dX12_isFitBy_19 (by decide) (fun c1 => ?_) (fun c1 => ?_)
  · refine ab_iinc (v := (a2 + 1)) dX12_isFitBy_55 rfl (by rfl) (Nat.le_of_ble_eq_true rfl) (L2 := [some (.ref 205), some (.int a1), some (.int (a2 + 1)), some (.int a3)]) rfl ?_
    refine ab_goto (tgt := 2) dX12_isFitBy_58 (by decide) ?_
    refine ab_forget (i := 3) (L2 := [some (.ref 205), some (.int a1), some (.int (a2 + 1)), none]) rfl ?_
    exact (h.2.1 c1)
  · refine ab_aloadn dX12_isFitBy_22 rfl ?_
    refine ab_iloadn dX12_isFitBy_23 rfl ?_
    refine ab_iloadn dX12_isFitBy_24 rfl ?_
    refine ab_iloadn dX12_isFitBy_25 rfl ?_
    obtain ⟨r2, P3, hs4, hk5⟩ := (h.2.2 c1)
    refine ab_callV (vs := [.int a2, .int a3, .int a1]) (st := []) dX12_isFitBy_26 okMX12_replyBy wd_1643 kd_205 rfl rfl rfl (Nat.le_of_ble_eq_true rfl) ⟨Nat.le_of_ble_eq_true rfl, Nat.le_of_ble_eq_true rfl⟩ hs4 ?_
    rintro v9 ⟨i6, l7, dd8, x9⟩ E9 - ⟨rfl, rfl, hp10⟩
    show ab_Fr MX12_isFitBy (d + 1) Q 29 [some (.ref 205), some (.int a1), some (.int a2), some (.int a3)] [.int r2] (0, 0) (i6, l7, dd8, x9) (ab_E0 sc)
    refine ab_aloadn dX12_isFitBy_29 rfl ?_
    refine ab_getf (v := .ref 225) dX12_isFitBy_30 fl_X12_68 kd_205 ff_205_34 ?_
    refine ab_bipush (v := 21) dX12_isFitBy_33 (by decide) ?_
    refine ab_iloadn dX12_isFitBy_35 rfl ?_
    refine ab_imul dX12_isFitBy_36 ?_
    refine ab_iconst (v := 3) dX12_isFitBy_37 (by decide) ?_
    refine ab_iloadn dX12_isFitBy_38 rfl ?_
    refine ab_imul dX12_isFitBy_39 ?_
    refine ab_iadd dX12_isFitBy_40 ?_
    refine ab_iloadn dX12_isFitBy_41 rfl ?_
    refine ab_iadd dX12_isFitBy_42 ?_
    refine ab_iaload (v := (i6 225 (((21 * a1) + (3 * a2)) + a3).toNatClampNeg)) dX12_isFitBy_43 kd_225 (hk5 i6 l7 dd8 x9 hp10).1 rfl ?_
    refine ab_icmp_eq (tgt := 49) dX12_isFitBy_44 (by decide) (fun c11 => ?_) (fun c11 => ?_)
    · refine ab_iinc (v := (a3 + 1)) dX12_isFitBy_49 rfl (by rfl) (Nat.le_of_ble_eq_true rfl) (L2 := [some (.ref 205), some (.int a1), some (.int a2), some (.int (a3 + 1))]) rfl ?_
      refine ab_goto (tgt := 12) dX12_isFitBy_52 (by decide) ?_
      exact ((hk5 i6 l7 dd8 x9 hp10).2.1 c11)
    · refine ab_iconst (v := 0) dX12_isFitBy_47 (by decide) ?_
      exact ab_zret dX12_isFitBy_48 rfl (by decide) ⟨Nat.zero_le _, Nat.zero_le _⟩ ((hk5 i6 l7 dd8 x9 hp10).2.2 c11)
theorem tMX12_settle_0 {d : Nat} {Q : ab_Qt} {sc : Nat × (Nat → Int32)} {i : Nat → Nat → Int32} {l : Nat → Nat → Int64} {dd : Nat → Nat → Value} {x : Nat}  
    (h : (∀ i1, i1 = ab_u i 205 0 0 → ((¬ (i1 205 30) = 0 → (∃ (P5 : ab_S → Prop), ab_Sp MX12_tryTold d [.ref 205] (i1, l, dd, x) (ab_E0 sc) (none) P5 ∧ ∀ i8 l9 dd10 x11, P5 (i8, l9, dd10, x11) → ab_Fr MX12_settle (d + 1) Q 20 [some (.ref 205), some (.int 1), none, none, none] [] (0, 0) (i8, l9, dd10, x11) (ab_E0 sc))) ∧ ((i1 205 30) = 0 → Q (some (some (.int (-1)))) (i1, l, dd, x) (ab_E0 sc))))) :
    ab_Fr MX12_settle (d + 1) Q 0 [some (.ref 205), none, none, none, none] [] (0, 0) (i, l, dd, x) (ab_E0 sc) := by
  refine ab_aloadn dX12_settle_0 rfl ?_
  refine ab_iconst (v := 0) dX12_settle_1 (by decide) ?_
  refine ab_putI dX12_settle_2 fl_X12_149 kd_205 rfl ?_
  obtain ⟨i1, e2⟩ : ∃ z, z = ab_u i 205 0 0 := ⟨_, rfl⟩
  show ab_Fr MX12_settle (d + 1) Q 5 [some (.ref 205), none, none, none, none] [] (0, 0) (ab_u i 205 0 0, l, dd, x) (ab_E0 sc)
  rw [show ab_u i 205 0 0 = i1 from e2.symm]
  refine ab_aloadn dX12_settle_5 rfl ?_
  refine ab_getf (v := .int (i1 205 30)) dX12_settle_6 fl_X12_306 kd_205 rfl ?_
  refine ab_if_ne (tgt := 14) dX12_settle_9 (by decide) (fun c3 => ?_) (fun c3 => ?_)
  · refine ab_aloadn dX12_settle_14 rfl ?_
    obtain ⟨P5, hs6, hk7⟩ := ((h i1 e2).1 c3)
    refine ab_callV (vs := []) (st := []) dX12_settle_15 okMX12_tryTold wd_1657 kd_205 rfl rfl rfl (Nat.le_of_ble_eq_true rfl) ⟨Nat.le_of_ble_eq_true rfl, Nat.le_of_ble_eq_true rfl⟩ hs6 ?_
    rintro v9 ⟨i8, l9, dd10, x11⟩ E9 - ⟨rfl, rfl, hp12⟩
    show ab_Fr MX12_settle (d + 1) Q 18 [some (.ref 205), none, none, none, none] [] (0, 0) (i8, l9, dd10, x11) (ab_E0 sc)
    refine ab_iconst (v := 1) dX12_settle_18 (by decide) ?_
    refine ab_istoren dX12_settle_19 (Nat.le_of_ble_eq_true rfl) (L2 := [some (.ref 205), some (.int 1), none, none, none]) rfl ?_
    exact (hk7 i8 l9 dd10 x11 hp12)
  · refine ab_iconst (v := (-1)) dX12_settle_12 (by decide) ?_
    exact ab_iret dX12_settle_13 rfl ⟨Nat.zero_le _, Nat.zero_le _⟩ ((h i1 e2).2 c3)
theorem tMX12_settle_20 {d : Nat} {Q : ab_Qt} {sc : Nat × (Nat → Int32)} {i : Nat → Nat → Int32} {l : Nat → Nat → Int64} {dd : Nat → Nat → Value} {x : Nat} {a1 : Int32} 
    (h : ((50 < a1 → Q (some (some (.int (-1)))) (i, l, dd, x) (ab_E0 sc)) ∧ (¬ 50 < a1 → ab_Fr MX12_settle (d + 1) Q 30 [some (.ref 205), some (.int a1), some (.int 0), some (.int 0), none] [] (0, 0) (i, l, dd, x) (ab_E0 sc)))) :
    ab_Fr MX12_settle (d + 1) Q 20 [some (.ref 205), some (.int a1), none, none, none] [] (0, 0) (i, l, dd, x) (ab_E0 sc) := by
  refine ab_iloadn dX12_settle_20 rfl ?_
  refine ab_bipush (v := 50) dX12_settle_21 (by decide) ?_
  refine ab_icmp_gt (tgt := 244) dX12_settle_23 (by decide) (fun c1 => ?_) (fun c1 => ?_)
  · refine ab_iconst (v := (-1)) dX12_settle_244 (by decide) ?_
    exact ab_iret dX12_settle_245 rfl ⟨Nat.zero_le _, Nat.zero_le _⟩ (h.1 c1)
  · refine ab_iconst (v := 0) dX12_settle_26 (by decide) ?_
    refine ab_istoren dX12_settle_27 (Nat.le_of_ble_eq_true rfl) (L2 := [some (.ref 205), some (.int a1), some (.int 0), none, none]) rfl ?_
    refine ab_iconst (v := 0) dX12_settle_28 (by decide) ?_
    refine ab_istoren dX12_settle_29 (Nat.le_of_ble_eq_true rfl) (L2 := [some (.ref 205), some (.int a1), some (.int 0), some (.int 0), none]) rfl ?_
    exact (h.2 c1)
theorem tMX12_settle_30 {d : Nat} {Q : ab_Qt} {sc : Nat × (Nat → Int32)} {i : Nat → Nat → Int32} {l : Nat → Nat → Int64} {dd : Nat → Nat → Value} {x : Nat} {a1 : Int32} {a2 : Int32} {a3 : Int32} 
    (h : (((i 205 30) ≤ a3 → ((a2 = 0 → ab_Fr MX12_settle (d + 1) Q 155 [some (.ref 205), some (.int a1), none, some (.int 0), none] [] (0, 0) (i, l, dd, x) (ab_E0 sc)) ∧ (¬ a2 = 0 → ab_Fr MX12_settle (d + 1) Q 20 [some (.ref 205), some (.int (a1 + 1)), none, none, none] [] (0, 0) (i, l, dd, x) (ab_E0 sc)))) ∧ (¬ (i 205 30) ≤ a3 → ab_Fr MX12_settle (d + 1) Q 41 [some (.ref 205), some (.int a1), some (.int a2), some (.int a3), some (.int 0)] [] (0, 0) (i, l, dd, x) (ab_E0 sc)))) :
    ab_Fr MX12_settle (d + 1) Q 30 [some (.ref 205), some (.int a1), some (.int a2), some (.int a3), none] [] (0, 0) (i, l, dd, x) (ab_E0 sc) := by
  refine ab_iloadn dX12_settle_30 rfl ?_
  refine ab_aloadn dX12_settle_31 rfl ?_
  refine ab_getf (v := .int (i 205 30)) dX12_settle_32 fl_X12_306 kd_205 rfl ?_
  refine ab_icmp_ge (tgt := 146) dX12_settle_35 (by decide) (fun c1 => ?_) (fun c1 => ?_)
  · refine ab_iloadn dX12_settle_146 rfl ?_
    refine ab_if_eq (tgt := 153) dX12_settle_147 (by decide) (fun c2 => ?_) (fun c2 => ?_)
    · refine ab_iconst (v := 0) dX12_settle_153 (by decide) ?_
      refine ab_istoren dX12_settle_154 (Nat.le_of_ble_eq_true rfl) (L2 := [some (.ref 205), some (.int a1), some (.int a2), some (.int 0), none]) rfl ?_
      refine ab_forget (i := 2) (L2 := [some (.ref 205), some (.int a1), none, some (.int 0), none]) rfl ?_
      exact ((h.1 c1).1 c2)
    · refine ab_goto (tgt := 238) dX12_settle_150 (by decide) ?_
      refine ab_iinc (v := (a1 + 1)) dX12_settle_238 rfl (by rfl) (Nat.le_of_ble_eq_true rfl) (L2 := [some (.ref 205), some (.int (a1 + 1)), some (.int a2), some (.int a3), none]) rfl ?_
      refine ab_goto (tgt := 20) dX12_settle_241 (by decide) ?_
      refine ab_forget (i := 2) (L2 := [some (.ref 205), some (.int (a1 + 1)), none, some (.int a3), none]) rfl ?_
      refine ab_forget (i := 3) (L2 := [some (.ref 205), some (.int (a1 + 1)), none, none, none]) rfl ?_
      exact ((h.1 c1).2 c2)
  · refine ab_iconst (v := 0) dX12_settle_38 (by decide) ?_
    refine ab_istore dX12_settle_39 (Nat.le_of_ble_eq_true rfl) (L2 := [some (.ref 205), some (.int a1), some (.int a2), some (.int a3), some (.int 0)]) rfl ?_
    exact (h.2 c1)
theorem tMX12_settle_41 {d : Nat} {Q : ab_Qt} {sc : Nat × (Nat → Int32)} {i : Nat → Nat → Int32} {l : Nat → Nat → Int64} {dd : Nat → Nat → Value} {x : Nat} {a1 : Int32} {a2 : Int32} {a3 : Int32} {a4 : Int32} 
    (h : (vp_in a3 14 ∧ (((i 212 a3.toNatClampNeg) ≤ a4 → ab_Fr MX12_settle (d + 1) Q 76 [some (.ref 205), some (.int a1), some (.int a2), some (.int a3), some (.int 0)] [] (0, 0) (i, l, dd, x) (ab_E0 sc)) ∧ (¬ (i 212 a3.toNatClampNeg) ≤ a4 → (∃ (r2 : Int32) (P3 : ab_S → Prop), ab_Sp MX12_replyBy d [.ref 205, .int a3, .int a4, .int 1] (i, l, dd, x) (ab_E0 sc) (some (.int r2)) P3 ∧ ∀ i6 l7 dd8 x9, P3 (i6, l7, dd8, x9) → vp_in a4 3 ∧ ∀ i11, i11 = ab_u i6 231 a4.toNatClampNeg r2 → ab_Fr MX12_settle (d + 1) Q 41 [some (.ref 205), some (.int a1), some (.int a2), some (.int a3), some (.int (a4 + 1))] [] (0, 0) (i11, l7, dd8, x9) (ab_E0 sc)))))) :
    ab_Fr MX12_settle (d + 1) Q 41 [some (.ref 205), some (.int a1), some (.int a2), some (.int a3), some (.int a4)] [] (0, 0) (i, l, dd, x) (ab_E0 sc) := by
  refine ab_iload dX12_settle_41 rfl ?_
  refine ab_aloadn dX12_settle_43 rfl ?_
  refine ab_getf (v := .ref 212) dX12_settle_44 fl_X12_29 kd_205 ff_205_16 ?_
  refine ab_iloadn dX12_settle_47 rfl ?_
  refine ab_iaload (v := (i 212 a3.toNatClampNeg)) dX12_settle_48 kd_212 h.1 rfl ?_
  refine ab_icmp_ge (tgt := 73) dX12_settle_49 (by decide) (fun c1 => ?_) (fun c1 => ?_)
  · refine ab_iconst (v := 0) dX12_settle_73 (by decide) ?_
    refine ab_istore dX12_settle_74 (Nat.le_of_ble_eq_true rfl) (L2 := [some (.ref 205), some (.int a1), some (.int a2), some (.int a3), some (.int 0)]) rfl ?_
    exact (h.2.1 c1)
  · refine ab_aloadn dX12_settle_52 rfl ?_
    refine ab_getf (v := .ref 231) dX12_settle_53 fl_X12_86 kd_205 ff_205_40 ?_
    refine ab_iload dX12_settle_56 rfl ?_
    refine ab_aloadn dX12_settle_58 rfl ?_
    refine ab_iloadn dX12_settle_59 rfl ?_
    refine ab_iload dX12_settle_60 rfl ?_
    refine ab_iconst (v := 1) dX12_settle_62 (by decide) ?_
    obtain ⟨r2, P3, hs4, hk5⟩ := (h.2.2 c1)
    refine ab_callV (vs := [.int a3, .int a4, .int 1]) (st := [.int a4, .ref 231]) dX12_settle_63 okMX12_replyBy wd_1643 kd_205 rfl rfl rfl (Nat.le_of_ble_eq_true rfl) ⟨Nat.le_of_ble_eq_true rfl, Nat.le_of_ble_eq_true rfl⟩ hs4 ?_
    rintro v9 ⟨i6, l7, dd8, x9⟩ E9 - ⟨rfl, rfl, hp10⟩
    show ab_Fr MX12_settle (d + 1) Q 66 [some (.ref 205), some (.int a1), some (.int a2), some (.int a3), some (.int a4)] [.int r2, .int a4, .ref 231] (0, 0) (i6, l7, dd8, x9) (ab_E0 sc)
    refine ab_iastore dX12_settle_66 kd_231 (hk5 i6 l7 dd8 x9 hp10).1 ?_
    obtain ⟨i11, e12⟩ : ∃ z, z = ab_u i6 231 a4.toNatClampNeg r2 := ⟨_, rfl⟩
    rw [show ab_u i6 231 a4.toNatClampNeg r2 = i11 from e12.symm]
    refine ab_iinc (v := (a4 + 1)) dX12_settle_67 rfl (by rfl) (Nat.le_of_ble_eq_true rfl) (L2 := [some (.ref 205), some (.int a1), some (.int a2), some (.int a3), some (.int (a4 + 1))]) rfl ?_
    refine ab_goto (tgt := 41) dX12_settle_70 (by decide) ?_
    exact ((hk5 i6 l7 dd8 x9 hp10).2 i11 e12)
theorem tMX12_settle_76 {d : Nat} {Q : ab_Qt} {sc : Nat × (Nat → Int32)} {i : Nat → Nat → Int32} {l : Nat → Nat → Int64} {dd : Nat → Nat → Value} {x : Nat} {a1 : Int32} {a2 : Int32} {a3 : Int32} {a4 : Int32} 
    (h : (vp_in a3 14 ∧ (((i 212 a3.toNatClampNeg) ≤ a4 → ab_Fr MX12_settle (d + 1) Q 30 [some (.ref 205), some (.int a1), some (.int a2), some (.int (a3 + 1)), none] [] (0, 0) (i, l, dd, x) (ab_E0 sc)) ∧ (¬ (i 212 a3.toNatClampNeg) ≤ a4 → (vp_in ((21 + (3 * a3)) + a4) 42 ∧ vp_in a4 3 ∧ (((i 225 ((21 + (3 * a3)) + a4).toNatClampNeg) = (i 231 a4.toNatClampNeg) → ab_Fr MX12_settle (d + 1) Q 113 [some (.ref 205), some (.int a1), some (.int a2), some (.int a3), some (.int a4)] [] (0, 0) (i, l, dd, x) (ab_E0 sc)) ∧ (¬ (i 225 ((21 + (3 * a3)) + a4).toNatClampNeg) = (i 231 a4.toNatClampNeg) → ab_Fr MX12_settle (d + 1) Q 113 [some (.ref 205), some (.int a1), some (.int 1), some (.int a3), some (.int a4)] [] (0, 0) (i, l, dd, x) (ab_E0 sc)))))))) :
    ab_Fr MX12_settle (d + 1) Q 76 [some (.ref 205), some (.int a1), some (.int a2), some (.int a3), some (.int a4)] [] (0, 0) (i, l, dd, x) (ab_E0 sc) := by
  refine ab_iload dX12_settle_76 rfl ?_
  refine ab_aloadn dX12_settle_78 rfl ?_
  refine ab_getf (v := .ref 212) dX12_settle_79 fl_X12_29 kd_205 ff_205_16 ?_
  refine ab_iloadn dX12_settle_82 rfl ?_
  refine ab_iaload (v := (i 212 a3.toNatClampNeg)) dX12_settle_83 kd_212 h.1 rfl ?_
  refine ab_icmp_ge (tgt := 140) dX12_settle_84 (by decide) (fun c1 => ?_) (fun c1 => ?_)
  · refine ab_iinc (v := (a3 + 1)) dX12_settle_140 rfl (by rfl) (Nat.le_of_ble_eq_true rfl) (L2 := [some (.ref 205), some (.int a1), some (.int a2), some (.int (a3 + 1)), some (.int a4)]) rfl ?_
    refine ab_goto (tgt := 30) dX12_settle_143 (by decide) ?_
    refine ab_forget (i := 4) (L2 := [some (.ref 205), some (.int a1), some (.int a2), some (.int (a3 + 1)), none]) rfl ?_
    exact (h.2.1 c1)
  · refine ab_aloadn dX12_settle_87 rfl ?_
    refine ab_getf (v := .ref 225) dX12_settle_88 fl_X12_68 kd_205 ff_205_34 ?_
    refine ab_bipush (v := 21) dX12_settle_91 (by decide) ?_
    refine ab_iconst (v := 3) dX12_settle_93 (by decide) ?_
    refine ab_iloadn dX12_settle_94 rfl ?_
    refine ab_imul dX12_settle_95 ?_
    refine ab_iadd dX12_settle_96 ?_
    refine ab_iload dX12_settle_97 rfl ?_
    refine ab_iadd dX12_settle_99 ?_
    refine ab_iaload (v := (i 225 ((21 + (3 * a3)) + a4).toNatClampNeg)) dX12_settle_100 kd_225 (h.2.2 c1).1 rfl ?_
    refine ab_aloadn dX12_settle_101 rfl ?_
    refine ab_getf (v := .ref 231) dX12_settle_102 fl_X12_86 kd_205 ff_205_40 ?_
    refine ab_iload dX12_settle_105 rfl ?_
    refine ab_iaload (v := (i 231 a4.toNatClampNeg)) dX12_settle_107 kd_231 (h.2.2 c1).2.1 rfl ?_
    refine ab_icmp_eq (tgt := 113) dX12_settle_108 (by decide) (fun c2 => ?_) (fun c2 => ?_)
    · exact ((h.2.2 c1).2.2.1 c2)
    · refine ab_iconst (v := 1) dX12_settle_111 (by decide) ?_
      refine ab_istoren dX12_settle_112 (Nat.le_of_ble_eq_true rfl) (L2 := [some (.ref 205), some (.int a1), some (.int 1), some (.int a3), some (.int a4)]) rfl ?_
      exact ((h.2.2 c1).2.2.2 c2)
theorem tMX12_settle_113 {d : Nat} {Q : ab_Qt} {sc : Nat × (Nat → Int32)} {i : Nat → Nat → Int32} {l : Nat → Nat → Int64} {dd : Nat → Nat → Value} {x : Nat} {a1 : Int32} {a2 : Int32} {a3 : Int32} {a4 : Int32} 
    (h : (vp_in a4 3 ∧ vp_in ((21 + (3 * a3)) + a4) 42 ∧ ∀ i1, i1 = ab_u i 225 ((21 + (3 * a3)) + a4).toNatClampNeg (i 231 a4.toNatClampNeg) → ab_Fr MX12_settle (d + 1) Q 76 [some (.ref 205), some (.int a1), some (.int a2), some (.int a3), some (.int (a4 + 1))] [] (0, 0) (i1, l, dd, x) (ab_E0 sc))) :
    ab_Fr MX12_settle (d + 1) Q 113 [some (.ref 205), some (.int a1), some (.int a2), some (.int a3), some (.int a4)] [] (0, 0) (i, l, dd, x) (ab_E0 sc) := by
  refine ab_aloadn dX12_settle_113 rfl ?_
  refine ab_getf (v := .ref 225) dX12_settle_114 fl_X12_68 kd_205 ff_205_34 ?_
  refine ab_bipush (v := 21) dX12_settle_117 (by decide) ?_
  refine ab_iconst (v := 3) dX12_settle_119 (by decide) ?_
  refine ab_iloadn dX12_settle_120 rfl ?_
  refine ab_imul dX12_settle_121 ?_
  refine ab_iadd dX12_settle_122 ?_
  refine ab_iload dX12_settle_123 rfl ?_
  refine ab_iadd dX12_settle_125 ?_
  refine ab_aloadn dX12_settle_126 rfl ?_
  refine ab_getf (v := .ref 231) dX12_settle_127 fl_X12_86 kd_205 ff_205_40 ?_
  refine ab_iload dX12_settle_130 rfl ?_
  refine ab_iaload (v := (i 231 a4.toNatClampNeg)) dX12_settle_132 kd_231 h.1 rfl ?_
  refine ab_iastore dX12_settle_133 kd_225 h.2.1 ?_
  obtain ⟨i1, e2⟩ : ∃ z, z = ab_u i 225 ((21 + (3 * a3)) + a4).toNatClampNeg (i 231 a4.toNatClampNeg) := ⟨_, rfl⟩
  rw [show ab_u i 225 ((21 + (3 * a3)) + a4).toNatClampNeg (i 231 a4.toNatClampNeg) = i1 from e2.symm]
  refine ab_iinc (v := (a4 + 1)) dX12_settle_134 rfl (by rfl) (Nat.le_of_ble_eq_true rfl) (L2 := [some (.ref 205), some (.int a1), some (.int a2), some (.int a3), some (.int (a4 + 1))]) rfl ?_
  refine ab_goto (tgt := 76) dX12_settle_137 (by decide) ?_
  exact (h.2.2 i1 e2)
theorem tMX12_settle_155 {d : Nat} {Q : ab_Qt} {sc : Nat × (Nat → Int32)} {i : Nat → Nat → Int32} {l : Nat → Nat → Int64} {dd : Nat → Nat → Value} {x : Nat} {a1 : Int32} {a3 : Int32} 
    (h : ((21 ≤ a3 → ab_Fr MX12_settle (d + 1) Q 184 [some (.ref 205), some (.int a1), none, some (.int 0), none] [] (0, 0) (i, l, dd, x) (ab_E0 sc)) ∧ (¬ 21 ≤ a3 → (vp_in (21 + a3) 42 ∧ vp_in a3 21 ∧ ∀ i2, i2 = ab_u i 229 a3.toNatClampNeg (i 225 (21 + a3).toNatClampNeg) → ab_Fr MX12_settle (d + 1) Q 155 [some (.ref 205), some (.int a1), none, some (.int (a3 + 1)), none] [] (0, 0) (i2, l, dd, x) (ab_E0 sc))))) :
    ab_Fr MX12_settle (d + 1) Q 155 [some (.ref 205), some (.int a1), none, some (.int a3), none] [] (0, 0) (i, l, dd, x) (ab_E0 sc) := by
  refine ab_iloadn dX12_settle_155 rfl ?_
  refine ab_bipush (v := 21) dX12_settle_156 (by decide) ?_
  refine ab_icmp_ge (tgt := 182) dX12_settle_158 (by decide) (fun c1 => ?_) (fun c1 => ?_)
  · refine ab_iconst (v := 0) dX12_settle_182 (by decide) ?_
    refine ab_istoren dX12_settle_183 (Nat.le_of_ble_eq_true rfl) (L2 := [some (.ref 205), some (.int a1), none, some (.int 0), none]) rfl ?_
    exact (h.1 c1)
  · refine ab_aloadn dX12_settle_161 rfl ?_
    refine ab_getf (v := .ref 229) dX12_settle_162 fl_X12_80 kd_205 ff_205_38 ?_
    refine ab_iloadn dX12_settle_165 rfl ?_
    refine ab_aloadn dX12_settle_166 rfl ?_
    refine ab_getf (v := .ref 225) dX12_settle_167 fl_X12_68 kd_205 ff_205_34 ?_
    refine ab_bipush (v := 21) dX12_settle_170 (by decide) ?_
    refine ab_iloadn dX12_settle_172 rfl ?_
    refine ab_iadd dX12_settle_173 ?_
    refine ab_iaload (v := (i 225 (21 + a3).toNatClampNeg)) dX12_settle_174 kd_225 (h.2 c1).1 rfl ?_
    refine ab_iastore dX12_settle_175 kd_229 (h.2 c1).2.1 ?_
    obtain ⟨i2, e3⟩ : ∃ z, z = ab_u i 229 a3.toNatClampNeg (i 225 (21 + a3).toNatClampNeg) := ⟨_, rfl⟩
    rw [show ab_u i 229 a3.toNatClampNeg (i 225 (21 + a3).toNatClampNeg) = i2 from e3.symm]
    refine ab_iinc (v := (a3 + 1)) dX12_settle_176 rfl (by rfl) (Nat.le_of_ble_eq_true rfl) (L2 := [some (.ref 205), some (.int a1), none, some (.int (a3 + 1)), none]) rfl ?_
    refine ab_goto (tgt := 155) dX12_settle_179 (by decide) ?_
    exact ((h.2 c1).2.2 i2 e3)
theorem tMX12_settle_184 {d : Nat} {Q : ab_Qt} {sc : Nat × (Nat → Int32)} {i : Nat → Nat → Int32} {l : Nat → Nat → Int64} {dd : Nat → Nat → Value} {x : Nat} {a1 : Int32} {a3 : Int32} 
    (h : (((i 205 30) ≤ a3 → (∀ i2, i2 = ab_u i 205 41 (i 205 30) → ∃ (r4 : Int64) (P5 : ab_S → Prop), ab_Sp MX12_rightBy d [.ref 205, .int 1] (i2, l, dd, x) (ab_E0 sc) (some (.long r4)) P5 ∧ ∀ i8 l9 dd10 x11, P5 (i8, l9, dd10, x11) → ∀ l13, l13 = ab_u l9 205 42 r4 → ∃ (r15 : Int64) (P16 : ab_S → Prop), ab_Sp MX12_lostBy d [.ref 205, .int 1] (i8, l13, dd10, x11) (ab_E0 sc) (some (.long r15)) P16 ∧ ∀ i19 l20 dd21 x22, P16 (i19, l20, dd21, x22) → ∀ l24, l24 = ab_u l20 205 43 r15 → Q (some (some (.int a1))) (i19, l24, dd21, x22) (ab_E0 sc))) ∧ (¬ (i 205 30) ≤ a3 → (vp_in a3 14 ∧ vp_in a3 7 ∧ ∀ i26, i26 = ab_u i 230 a3.toNatClampNeg (i 212 a3.toNatClampNeg) → ab_Fr MX12_settle (d + 1) Q 184 [some (.ref 205), some (.int a1), none, some (.int (a3 + 1)), none] [] (0, 0) (i26, l, dd, x) (ab_E0 sc))))) :
    ab_Fr MX12_settle (d + 1) Q 184 [some (.ref 205), some (.int a1), none, some (.int a3), none] [] (0, 0) (i, l, dd, x) (ab_E0 sc) := by
  refine ab_iloadn dX12_settle_184 rfl ?_
  refine ab_aloadn dX12_settle_185 rfl ?_
  refine ab_getf (v := .int (i 205 30)) dX12_settle_186 fl_X12_306 kd_205 rfl ?_
  refine ab_icmp_ge (tgt := 210) dX12_settle_189 (by decide) (fun c1 => ?_) (fun c1 => ?_)
  · refine ab_aloadn dX12_settle_210 rfl ?_
    refine ab_aloadn dX12_settle_211 rfl ?_
    refine ab_getf (v := .int (i 205 30)) dX12_settle_212 fl_X12_306 kd_205 rfl ?_
    refine ab_putI dX12_settle_215 fl_X12_390 kd_205 rfl ?_
    obtain ⟨i2, e3⟩ : ∃ z, z = ab_u i 205 41 (i 205 30) := ⟨_, rfl⟩
    show ab_Fr MX12_settle (d + 1) Q 218 [some (.ref 205), some (.int a1), none, some (.int a3), none] [] (0, 0) (ab_u i 205 41 (i 205 30), l, dd, x) (ab_E0 sc)
    rw [show ab_u i 205 41 (i 205 30) = i2 from e3.symm]
    refine ab_aloadn dX12_settle_218 rfl ?_
    refine ab_aloadn dX12_settle_219 rfl ?_
    refine ab_iconst (v := 1) dX12_settle_220 (by decide) ?_
    obtain ⟨r4, P5, hs6, hk7⟩ := ((h.1 c1) i2 e3)
    refine ab_callV (vs := [.int 1]) (st := [.ref 205]) dX12_settle_221 okMX12_rightBy wd_1594 kd_205 rfl rfl rfl (Nat.le_of_ble_eq_true rfl) ⟨Nat.le_of_ble_eq_true rfl, Nat.le_of_ble_eq_true rfl⟩ hs6 ?_
    rintro v9 ⟨i8, l9, dd10, x11⟩ E9 - ⟨rfl, rfl, hp12⟩
    show ab_Fr MX12_settle (d + 1) Q 224 [some (.ref 205), some (.int a1), none, some (.int a3), none] [.long r4, .ref 205] (0, 0) (i8, l9, dd10, x11) (ab_E0 sc)
    refine ab_putL dX12_settle_224 fl_X12_393 kd_205 rfl ?_
    obtain ⟨l13, e14⟩ : ∃ z, z = ab_u l9 205 42 r4 := ⟨_, rfl⟩
    show ab_Fr MX12_settle (d + 1) Q 227 [some (.ref 205), some (.int a1), none, some (.int a3), none] [] (0, 0) (i8, ab_u l9 205 42 r4, dd10, x11) (ab_E0 sc)
    rw [show ab_u l9 205 42 r4 = l13 from e14.symm]
    refine ab_aloadn dX12_settle_227 rfl ?_
    refine ab_aloadn dX12_settle_228 rfl ?_
    refine ab_iconst (v := 1) dX12_settle_229 (by decide) ?_
    obtain ⟨r15, P16, hs17, hk18⟩ := ((hk7 i8 l9 dd10 x11 hp12) l13 e14)
    refine ab_callV (vs := [.int 1]) (st := [.ref 205]) dX12_settle_230 okMX12_lostBy wd_1601 kd_205 rfl rfl rfl (Nat.le_of_ble_eq_true rfl) ⟨Nat.le_of_ble_eq_true rfl, Nat.le_of_ble_eq_true rfl⟩ hs17 ?_
    rintro v9 ⟨i19, l20, dd21, x22⟩ E9 - ⟨rfl, rfl, hp23⟩
    show ab_Fr MX12_settle (d + 1) Q 233 [some (.ref 205), some (.int a1), none, some (.int a3), none] [.long r15, .ref 205] (0, 0) (i19, l20, dd21, x22) (ab_E0 sc)
    refine ab_putL dX12_settle_233 fl_X12_396 kd_205 rfl ?_
    obtain ⟨l24, e25⟩ : ∃ z, z = ab_u l20 205 43 r15 := ⟨_, rfl⟩
    show ab_Fr MX12_settle (d + 1) Q 236 [some (.ref 205), some (.int a1), none, some (.int a3), none] [] (0, 0) (i19, ab_u l20 205 43 r15, dd21, x22) (ab_E0 sc)
    rw [show ab_u l20 205 43 r15 = l24 from e25.symm]
    refine ab_iloadn dX12_settle_236 rfl ?_
    exact ab_iret dX12_settle_237 rfl ⟨Nat.zero_le _, Nat.zero_le _⟩ ((hk18 i19 l20 dd21 x22 hp23) l24 e25)
  · refine ab_aloadn dX12_settle_192 rfl ?_
    refine ab_getf (v := .ref 230) dX12_settle_193 fl_X12_83 kd_205 ff_205_39 ?_
    refine ab_iloadn dX12_settle_196 rfl ?_
    refine ab_aloadn dX12_settle_197 rfl ?_
    refine ab_getf (v := .ref 212) dX12_settle_198 fl_X12_29 kd_205 ff_205_16 ?_
    refine ab_iloadn dX12_settle_201 rfl ?_
    refine ab_iaload (v := (i 212 a3.toNatClampNeg)) dX12_settle_202 kd_212 (h.2 c1).1 rfl ?_
    refine ab_iastore dX12_settle_203 kd_230 (h.2 c1).2.1 ?_
    obtain ⟨i26, e27⟩ : ∃ z, z = ab_u i 230 a3.toNatClampNeg (i 212 a3.toNatClampNeg) := ⟨_, rfl⟩
    rw [show ab_u i 230 a3.toNatClampNeg (i 212 a3.toNatClampNeg) = i26 from e27.symm]
    refine ab_iinc (v := (a3 + 1)) dX12_settle_204 rfl (by rfl) (Nat.le_of_ble_eq_true rfl) (L2 := [some (.ref 205), some (.int a1), none, some (.int (a3 + 1)), none]) rfl ?_
    refine ab_goto (tgt := 184) dX12_settle_207 (by decide) ?_
    exact ((h.2 c1).2.2 i26 e27)
theorem tMX12_tryTold_0 {d : Nat} {Q : ab_Qt} {sc : Nat × (Nat → Int32)} {i : Nat → Nat → Int32} {l : Nat → Nat → Int64} {dd : Nat → Nat → Value} {x : Nat}  
    (h : ab_Fr MX12_tryTold (d + 1) Q 2 [some (.ref 205), some (.int 0)] [] (0, 0) (i, l, dd, x) (ab_E0 sc)) :
    ab_Fr MX12_tryTold (d + 1) Q 0 [some (.ref 205), none] [] (0, 0) (i, l, dd, x) (ab_E0 sc) := by
  refine ab_iconst (v := 0) dX12_tryTold_0 (by decide) ?_
  refine ab_istoren dX12_tryTold_1 (Nat.le_of_ble_eq_true rfl) (L2 := [some (.ref 205), some (.int 0)]) rfl ?_
  exact h
theorem tMX12_tryTold_2 {d : Nat} {Q : ab_Qt} {sc : Nat × (Nat → Int32)} {i : Nat → Nat → Int32} {l : Nat → Nat → Int64} {dd : Nat → Nat → Value} {x : Nat} {a1 : Int32} 
    (h : ((21 ≤ a1 → Q (some none) (i, l, dd, x) (ab_E0 sc)) ∧ (¬ 21 ≤ a1 → (vp_in a1 42 ∧ vp_in (21 + a1) 42 ∧ ∀ i2, i2 = ab_u i 225 (21 + a1).toNatClampNeg (i 225 a1.toNatClampNeg) → ab_Fr MX12_tryTold (d + 1) Q 2 [some (.ref 205), some (.int (a1 + 1))] [] (0, 0) (i2, l, dd, x) (ab_E0 sc))))) :
    ab_Fr MX12_tryTold (d + 1) Q 2 [some (.ref 205), some (.int a1)] [] (0, 0) (i, l, dd, x) (ab_E0 sc) := by
  refine ab_iloadn dX12_tryTold_2 rfl ?_
  refine ab_bipush (v := 21) dX12_tryTold_3 (by decide) ?_
  refine ab_icmp_ge (tgt := 29) dX12_tryTold_5 (by decide) (fun c1 => ?_) (fun c1 => ?_)
  · exact ab_vret dX12_tryTold_29 rfl ⟨Nat.zero_le _, Nat.zero_le _⟩ (h.1 c1)
  · refine ab_aloadn dX12_tryTold_8 rfl ?_
    refine ab_getf (v := .ref 225) dX12_tryTold_9 fl_X12_68 kd_205 ff_205_34 ?_
    refine ab_bipush (v := 21) dX12_tryTold_12 (by decide) ?_
    refine ab_iloadn dX12_tryTold_14 rfl ?_
    refine ab_iadd dX12_tryTold_15 ?_
    refine ab_aloadn dX12_tryTold_16 rfl ?_
    refine ab_getf (v := .ref 225) dX12_tryTold_17 fl_X12_68 kd_205 ff_205_34 ?_
    refine ab_iloadn dX12_tryTold_20 rfl ?_
    refine ab_iaload (v := (i 225 a1.toNatClampNeg)) dX12_tryTold_21 kd_225 (h.2 c1).1 rfl ?_
    refine ab_iastore dX12_tryTold_22 kd_225 (h.2 c1).2.1 ?_
    obtain ⟨i2, e3⟩ : ∃ z, z = ab_u i 225 (21 + a1).toNatClampNeg (i 225 a1.toNatClampNeg) := ⟨_, rfl⟩
    rw [show ab_u i 225 (21 + a1).toNatClampNeg (i 225 a1.toNatClampNeg) = i2 from e3.symm]
    refine ab_iinc (v := (a1 + 1)) dX12_tryTold_23 rfl (by rfl) (Nat.le_of_ble_eq_true rfl) (L2 := [some (.ref 205), some (.int (a1 + 1))]) rfl ?_
    refine ab_goto (tgt := 2) dX12_tryTold_26 (by decide) ?_
    exact ((h.2 c1).2.2 i2 e3)
theorem tMX12_settled_0 {d : Nat} {Q : ab_Qt} {sc : Nat × (Nat → Int32)} {i : Nat → Nat → Int32} {l : Nat → Nat → Int64} {dd : Nat → Nat → Value} {x : Nat} {a1 : Int32} {a2 : Int32} 
    (h : (∀ i1, i1 = ab_u i 205 0 0 → ((a1 < 0 → Q (some (some (.int (-1)))) (i1, l, dd, x) (ab_E0 sc)) ∧ (¬ a1 < 0 → (((i1 205 41) ≤ a1 → Q (some (some (.int (-1)))) (i1, l, dd, x) (ab_E0 sc)) ∧ (¬ (i1 205 41) ≤ a1 → ((a2 < 0 → Q (some (some (.int (-1)))) (i1, l, dd, x) (ab_E0 sc)) ∧ (¬ a2 < 0 → (vp_in a1 7 ∧ (((i1 230 a1.toNatClampNeg) ≤ a2 → Q (some (some (.int (-1)))) (i1, l, dd, x) (ab_E0 sc)) ∧ (¬ (i1 230 a1.toNatClampNeg) ≤ a2 → (vp_in ((3 * a1) + a2) 21 ∧ Q (some (some (.int (i1 229 ((3 * a1) + a2).toNatClampNeg)))) (i1, l, dd, x) (ab_E0 sc))))))))))))) :
    ab_Fr MX12_settled (d + 1) Q 0 [some (.ref 205), some (.int a1), some (.int a2)] [] (0, 0) (i, l, dd, x) (ab_E0 sc) := by
  refine ab_aloadn dX12_settled_0 rfl ?_
  refine ab_iconst (v := 0) dX12_settled_1 (by decide) ?_
  refine ab_putI dX12_settled_2 fl_X12_149 kd_205 rfl ?_
  obtain ⟨i1, e2⟩ : ∃ z, z = ab_u i 205 0 0 := ⟨_, rfl⟩
  show ab_Fr MX12_settled (d + 1) Q 5 [some (.ref 205), some (.int a1), some (.int a2)] [] (0, 0) (ab_u i 205 0 0, l, dd, x) (ab_E0 sc)
  rw [show ab_u i 205 0 0 = i1 from e2.symm]
  refine ab_iloadn dX12_settled_5 rfl ?_
  refine ab_if_lt (tgt := 44) dX12_settled_6 (by decide) (fun c3 => ?_) (fun c3 => ?_)
  · refine ab_iconst (v := (-1)) dX12_settled_44 (by decide) ?_
    exact ab_iret dX12_settled_45 rfl ⟨Nat.zero_le _, Nat.zero_le _⟩ ((h i1 e2).1 c3)
  · refine ab_iloadn dX12_settled_9 rfl ?_
    refine ab_aloadn dX12_settled_10 rfl ?_
    refine ab_getf (v := .int (i1 205 41)) dX12_settled_11 fl_X12_390 kd_205 rfl ?_
    refine ab_icmp_ge (tgt := 44) dX12_settled_14 (by decide) (fun c4 => ?_) (fun c4 => ?_)
    · refine ab_iconst (v := (-1)) dX12_settled_44 (by decide) ?_
      exact ab_iret dX12_settled_45 rfl ⟨Nat.zero_le _, Nat.zero_le _⟩ (((h i1 e2).2 c3).1 c4)
    · refine ab_iloadn dX12_settled_17 rfl ?_
      refine ab_if_lt (tgt := 44) dX12_settled_18 (by decide) (fun c5 => ?_) (fun c5 => ?_)
      · refine ab_iconst (v := (-1)) dX12_settled_44 (by decide) ?_
        exact ab_iret dX12_settled_45 rfl ⟨Nat.zero_le _, Nat.zero_le _⟩ ((((h i1 e2).2 c3).2 c4).1 c5)
      · refine ab_iloadn dX12_settled_21 rfl ?_
        refine ab_aloadn dX12_settled_22 rfl ?_
        refine ab_getf (v := .ref 230) dX12_settled_23 fl_X12_83 kd_205 ff_205_39 ?_
        refine ab_iloadn dX12_settled_26 rfl ?_
        refine ab_iaload (v := (i1 230 a1.toNatClampNeg)) dX12_settled_27 kd_230 ((((h i1 e2).2 c3).2 c4).2 c5).1 rfl ?_
        refine ab_icmp_ge (tgt := 44) dX12_settled_28 (by decide) (fun c6 => ?_) (fun c6 => ?_)
        · refine ab_iconst (v := (-1)) dX12_settled_44 (by decide) ?_
          exact ab_iret dX12_settled_45 rfl ⟨Nat.zero_le _, Nat.zero_le _⟩ (((((h i1 e2).2 c3).2 c4).2 c5).2.1 c6)
        · refine ab_aloadn dX12_settled_31 rfl ?_
          refine ab_getf (v := .ref 229) dX12_settled_32 fl_X12_80 kd_205 ff_205_38 ?_
          refine ab_iconst (v := 3) dX12_settled_35 (by decide) ?_
          refine ab_iloadn dX12_settled_36 rfl ?_
          refine ab_imul dX12_settled_37 ?_
          refine ab_iloadn dX12_settled_38 rfl ?_
          refine ab_iadd dX12_settled_39 ?_
          refine ab_iaload (v := (i1 229 ((3 * a1) + a2).toNatClampNeg)) dX12_settled_40 kd_229 (((((h i1 e2).2 c3).2 c4).2 c5).2.2 c6).1 rfl ?_
          refine ab_goto (tgt := 45) dX12_settled_41 (by decide) ?_
          exact ab_iret dX12_settled_45 rfl ⟨Nat.zero_le _, Nat.zero_le _⟩ (((((h i1 e2).2 c3).2 c4).2 c5).2.2 c6).2
theorem tMX12_settles_0 {d : Nat} {Q : ab_Qt} {sc : Nat × (Nat → Int32)} {i : Nat → Nat → Int32} {l : Nat → Nat → Int64} {dd : Nat → Nat → Value} {x : Nat} {a1 : Int32} 
    (h : (∀ i1, i1 = ab_u i 205 0 0 → (((i1 205 41) = 0 → Q (some (some (.long (-1)))) (i1, l, dd, x) (ab_E0 sc)) ∧ (¬ (i1 205 41) = 0 → (∃ (r4 : Int32) (P5 : ab_S → Prop), ab_Sp MX12_isIn d [.int a1, .int 0, .int 1] (i1, l, dd, x) (ab_E0 sc) (some (.int r4)) P5 ∧ ∀ i8 l9 dd10 x11, P5 (i8, l9, dd10, x11) → ((¬ r4 = 0 → ((¬ a1 = 0 → Q (some (some (.long (l9 205 43)))) (i8, l9, dd10, x11) (ab_E0 sc)) ∧ (a1 = 0 → Q (some (some (.long (l9 205 42)))) (i8, l9, dd10, x11) (ab_E0 sc)))) ∧ (r4 = 0 → Q (some (some (.long (-1)))) (i8, l9, dd10, x11) (ab_E0 sc)))))))) :
    ab_Fr MX12_settles (d + 1) Q 0 [some (.ref 205), some (.int a1)] [] (0, 0) (i, l, dd, x) (ab_E0 sc) := by
  refine ab_aloadn dX12_settles_0 rfl ?_
  refine ab_iconst (v := 0) dX12_settles_1 (by decide) ?_
  refine ab_putI dX12_settles_2 fl_X12_149 kd_205 rfl ?_
  obtain ⟨i1, e2⟩ : ∃ z, z = ab_u i 205 0 0 := ⟨_, rfl⟩
  show ab_Fr MX12_settles (d + 1) Q 5 [some (.ref 205), some (.int a1)] [] (0, 0) (ab_u i 205 0 0, l, dd, x) (ab_E0 sc)
  rw [show ab_u i 205 0 0 = i1 from e2.symm]
  refine ab_aloadn dX12_settles_5 rfl ?_
  refine ab_getf (v := .int (i1 205 41)) dX12_settles_6 fl_X12_390 kd_205 rfl ?_
  refine ab_if_eq (tgt := 21) dX12_settles_9 (by decide) (fun c3 => ?_) (fun c3 => ?_)
  · refine ab_ldc2 dX12_settles_21 wd_1257 ?_
    refine ab_goto (tgt := 42) dX12_settles_24 (by decide) ?_
    exact ab_lret dX12_settles_42 rfl ⟨Nat.zero_le _, Nat.zero_le _⟩ ((h i1 e2).1 c3)
  · refine ab_iloadn dX12_settles_12 rfl ?_
    refine ab_iconst (v := 0) dX12_settles_13 (by decide) ?_
    refine ab_iconst (v := 1) dX12_settles_14 (by decide) ?_
    obtain ⟨r4, P5, hs6, hk7⟩ := ((h i1 e2).2 c3)
    refine ab_callS (vs := [.int a1, .int 0, .int 1]) (st := []) dX12_settles_15 okMX12_isIn wd_1486 rfl rfl (Nat.le_of_ble_eq_true rfl) ⟨Nat.le_of_ble_eq_true rfl, Nat.le_of_ble_eq_true rfl⟩ hs6 ?_
    rintro v9 ⟨i8, l9, dd10, x11⟩ E9 - ⟨rfl, rfl, hp12⟩
    show ab_Fr MX12_settles (d + 1) Q 18 [some (.ref 205), some (.int a1)] [.int r4] (0, 0) (i8, l9, dd10, x11) (ab_E0 sc)
    refine ab_if_ne (tgt := 27) dX12_settles_18 (by decide) (fun c13 => ?_) (fun c13 => ?_)
    · refine ab_iloadn dX12_settles_27 rfl ?_
      refine ab_if_ne (tgt := 38) dX12_settles_28 (by decide) (fun c14 => ?_) (fun c14 => ?_)
      · refine ab_aloadn dX12_settles_38 rfl ?_
        refine ab_getf (v := .long (l9 205 43)) dX12_settles_39 fl_X12_396 kd_205 rfl ?_
        exact ab_lret dX12_settles_42 rfl ⟨Nat.zero_le _, Nat.zero_le _⟩ (((hk7 i8 l9 dd10 x11 hp12).1 c13).1 c14)
      · refine ab_aloadn dX12_settles_31 rfl ?_
        refine ab_getf (v := .long (l9 205 42)) dX12_settles_32 fl_X12_393 kd_205 rfl ?_
        refine ab_goto (tgt := 42) dX12_settles_35 (by decide) ?_
        exact ab_lret dX12_settles_42 rfl ⟨Nat.zero_le _, Nat.zero_le _⟩ (((hk7 i8 l9 dd10 x11 hp12).1 c13).2 c14)
    · refine ab_ldc2 dX12_settles_21 wd_1257 ?_
      refine ab_goto (tgt := 42) dX12_settles_24 (by decide) ?_
      exact ab_lret dX12_settles_42 rfl ⟨Nat.zero_le _, Nat.zero_le _⟩ ((hk7 i8 l9 dd10 x11 hp12).2 c13)
theorem tMX12_inTurns_0 {d : Nat} {Q : ab_Qt} {sc : Nat × (Nat → Int32)} {i : Nat → Nat → Int32} {l : Nat → Nat → Int64} {dd : Nat → Nat → Value} {x : Nat}  
    (h : (∀ i1, i1 = ab_u i 205 0 0 → ∃ (r3 : Int32) (P4 : ab_S → Prop), ab_Sp MX12_take d [.ref 205] (i1, l, dd, x) (ab_E0 sc) (some (.int r3)) P4 ∧ ∀ i7 l8 dd9 x10, P4 (i7, l8, dd9, x10) → (((i7 205 30) = 0 → Q (some (some (.long (-1)))) (i7, l8, dd9, x10) (ab_E0 sc)) ∧ (¬ (i7 205 30) = 0 → ((r3 = (i7 205 30) → ab_Fr MX12_inTurns (d + 1) Q 33 [some (.ref 205), some (.int r3), some (.int 0), some (.int 0), none, none, none, none] [] (0, 0) (i7, l8, dd9, x10) (ab_E0 sc)) ∧ (¬ r3 = (i7 205 30) → Q (some (some (.long (-1)))) (i7, l8, dd9, x10) (ab_E0 sc))))))) :
    ab_Fr MX12_inTurns (d + 1) Q 0 [some (.ref 205), none, none, none, none, none, none, none] [] (0, 0) (i, l, dd, x) (ab_E0 sc) := by
  refine ab_aloadn dX12_inTurns_0 rfl ?_
  refine ab_iconst (v := 0) dX12_inTurns_1 (by decide) ?_
  refine ab_putI dX12_inTurns_2 fl_X12_149 kd_205 rfl ?_
  obtain ⟨i1, e2⟩ : ∃ z, z = ab_u i 205 0 0 := ⟨_, rfl⟩
  show ab_Fr MX12_inTurns (d + 1) Q 5 [some (.ref 205), none, none, none, none, none, none, none] [] (0, 0) (ab_u i 205 0 0, l, dd, x) (ab_E0 sc)
  rw [show ab_u i 205 0 0 = i1 from e2.symm]
  refine ab_aloadn dX12_inTurns_5 rfl ?_
  obtain ⟨r3, P4, hs5, hk6⟩ := (h i1 e2)
  refine ab_callV (vs := []) (st := []) dX12_inTurns_6 okMX12_take wd_1418 kd_205 rfl rfl rfl (Nat.le_of_ble_eq_true rfl) ⟨Nat.le_of_ble_eq_true rfl, Nat.le_of_ble_eq_true rfl⟩ hs5 ?_
  rintro v9 ⟨i7, l8, dd9, x10⟩ E9 - ⟨rfl, rfl, hp11⟩
  show ab_Fr MX12_inTurns (d + 1) Q 9 [some (.ref 205), none, none, none, none, none, none, none] [.int r3] (0, 0) (i7, l8, dd9, x10) (ab_E0 sc)
  refine ab_istoren dX12_inTurns_9 (Nat.le_of_ble_eq_true rfl) (L2 := [some (.ref 205), some (.int r3), none, none, none, none, none, none]) rfl ?_
  refine ab_aloadn dX12_inTurns_10 rfl ?_
  refine ab_getf (v := .int (i7 205 30)) dX12_inTurns_11 fl_X12_306 kd_205 rfl ?_
  refine ab_if_eq (tgt := 25) dX12_inTurns_14 (by decide) (fun c12 => ?_) (fun c12 => ?_)
  · refine ab_ldc2 dX12_inTurns_25 wd_1257 ?_
    exact ab_lret dX12_inTurns_28 rfl ⟨Nat.zero_le _, Nat.zero_le _⟩ ((hk6 i7 l8 dd9 x10 hp11).1 c12)
  · refine ab_iloadn dX12_inTurns_17 rfl ?_
    refine ab_aloadn dX12_inTurns_18 rfl ?_
    refine ab_getf (v := .int (i7 205 30)) dX12_inTurns_19 fl_X12_306 kd_205 rfl ?_
    refine ab_icmp_eq (tgt := 29) dX12_inTurns_22 (by decide) (fun c13 => ?_) (fun c13 => ?_)
    · refine ab_iconst (v := 0) dX12_inTurns_29 (by decide) ?_
      refine ab_istoren dX12_inTurns_30 (Nat.le_of_ble_eq_true rfl) (L2 := [some (.ref 205), some (.int r3), some (.int 0), none, none, none, none, none]) rfl ?_
      refine ab_iconst (v := 0) dX12_inTurns_31 (by decide) ?_
      refine ab_istoren dX12_inTurns_32 (Nat.le_of_ble_eq_true rfl) (L2 := [some (.ref 205), some (.int r3), some (.int 0), some (.int 0), none, none, none, none]) rfl ?_
      exact (((hk6 i7 l8 dd9 x10 hp11).2 c12).1 c13)
    · refine ab_ldc2 dX12_inTurns_25 wd_1257 ?_
      exact ab_lret dX12_inTurns_28 rfl ⟨Nat.zero_le _, Nat.zero_le _⟩ (((hk6 i7 l8 dd9 x10 hp11).2 c12).2 c13)
theorem tMX12_inTurns_33 {d : Nat} {Q : ab_Qt} {sc : Nat × (Nat → Int32)} {i : Nat → Nat → Int32} {l : Nat → Nat → Int64} {dd : Nat → Nat → Value} {x : Nat} {a1 : Int32} {a2 : Int32} {a3 : Int32} 
    (h : ((a1 ≤ a3 → ((a2 = ((1 <<< ((i 205 30) &&& 31)) - 1) → ab_Fr MX12_inTurns (d + 1) Q 90 [some (.ref 205), some (.int a1), none, some (.int 0), none, none, none, none] [] (0, 0) (i, l, dd, x) (ab_E0 sc)) ∧ (¬ a2 = ((1 <<< ((i 205 30) &&& 31)) - 1) → Q (some (some (.long (-1)))) (i, l, dd, x) (ab_E0 sc)))) ∧ (¬ a1 ≤ a3 → (vp_in a3 740 ∧ (((i 206 a3.toNatClampNeg) < (i 205 30) → (vp_in a3 740 ∧ ab_Fr MX12_inTurns (d + 1) Q 33 [some (.ref 205), some (.int a1), some (.int (a2 ||| (1 <<< ((i 206 a3.toNatClampNeg) &&& 31)))), some (.int (a3 + 1)), none, none, none, none] [] (0, 0) (i, l, dd, x) (ab_E0 sc))) ∧ (¬ (i 206 a3.toNatClampNeg) < (i 205 30) → Q (some (some (.long (-1)))) (i, l, dd, x) (ab_E0 sc))))))) :
    ab_Fr MX12_inTurns (d + 1) Q 33 [some (.ref 205), some (.int a1), some (.int a2), some (.int a3), none, none, none, none] [] (0, 0) (i, l, dd, x) (ab_E0 sc) := by
  refine ab_iloadn dX12_inTurns_33 rfl ?_
  refine ab_iloadn dX12_inTurns_34 rfl ?_
  refine ab_icmp_ge (tgt := 72) dX12_inTurns_35 (by decide) (fun c1 => ?_) (fun c1 => ?_)
  · refine ab_iloadn dX12_inTurns_72 rfl ?_
    refine ab_iconst (v := 1) dX12_inTurns_73 (by decide) ?_
    refine ab_aloadn dX12_inTurns_74 rfl ?_
    refine ab_getf (v := .int (i 205 30)) dX12_inTurns_75 fl_X12_306 kd_205 rfl ?_
    refine ab_ishl dX12_inTurns_78 ?_
    refine ab_iconst (v := 1) dX12_inTurns_79 (by decide) ?_
    refine ab_isub dX12_inTurns_80 ?_
    refine ab_icmp_eq (tgt := 88) dX12_inTurns_81 (by decide) (fun c2 => ?_) (fun c2 => ?_)
    · refine ab_iconst (v := 0) dX12_inTurns_88 (by decide) ?_
      refine ab_istoren dX12_inTurns_89 (Nat.le_of_ble_eq_true rfl) (L2 := [some (.ref 205), some (.int a1), some (.int a2), some (.int 0), none, none, none, none]) rfl ?_
      refine ab_forget (i := 2) (L2 := [some (.ref 205), some (.int a1), none, some (.int 0), none, none, none, none]) rfl ?_
      exact ((h.1 c1).1 c2)
    · refine ab_ldc2 dX12_inTurns_84 wd_1257 ?_
      exact ab_lret dX12_inTurns_87 rfl ⟨Nat.zero_le _, Nat.zero_le _⟩ ((h.1 c1).2 c2)
  · refine ab_aloadn dX12_inTurns_38 rfl ?_
    refine ab_getf (v := .ref 206) dX12_inTurns_39 fl_X12_7 kd_205 ff_205_1 ?_
    refine ab_iloadn dX12_inTurns_42 rfl ?_
    refine ab_iaload (v := (i 206 a3.toNatClampNeg)) dX12_inTurns_43 kd_206 (h.2 c1).1 rfl ?_
    refine ab_aloadn dX12_inTurns_44 rfl ?_
    refine ab_getf (v := .int (i 205 30)) dX12_inTurns_45 fl_X12_306 kd_205 rfl ?_
    refine ab_icmp_lt (tgt := 55) dX12_inTurns_48 (by decide) (fun c3 => ?_) (fun c3 => ?_)
    · refine ab_iloadn dX12_inTurns_55 rfl ?_
      refine ab_iconst (v := 1) dX12_inTurns_56 (by decide) ?_
      refine ab_aloadn dX12_inTurns_57 rfl ?_
      refine ab_getf (v := .ref 206) dX12_inTurns_58 fl_X12_7 kd_205 ff_205_1 ?_
      refine ab_iloadn dX12_inTurns_61 rfl ?_
      refine ab_iaload (v := (i 206 a3.toNatClampNeg)) dX12_inTurns_62 kd_206 ((h.2 c1).2.1 c3).1 rfl ?_
      refine ab_ishl dX12_inTurns_63 ?_
      refine ab_ior dX12_inTurns_64 ?_
      refine ab_istoren dX12_inTurns_65 (Nat.le_of_ble_eq_true rfl) (L2 := [some (.ref 205), some (.int a1), some (.int (a2 ||| (1 <<< ((i 206 a3.toNatClampNeg) &&& 31)))), some (.int a3), none, none, none, none]) rfl ?_
      refine ab_iinc (v := (a3 + 1)) dX12_inTurns_66 rfl (by rfl) (Nat.le_of_ble_eq_true rfl) (L2 := [some (.ref 205), some (.int a1), some (.int (a2 ||| (1 <<< ((i 206 a3.toNatClampNeg) &&& 31)))), some (.int (a3 + 1)), none, none, none, none]) rfl ?_
      refine ab_goto (tgt := 33) dX12_inTurns_69 (by decide) ?_
      exact ((h.2 c1).2.1 c3).2
    · refine ab_ldc2 dX12_inTurns_51 wd_1257 ?_
      exact ab_lret dX12_inTurns_54 rfl ⟨Nat.zero_le _, Nat.zero_le _⟩ ((h.2 c1).2.2 c3)
theorem tMX12_inTurns_90 {d : Nat} {Q : ab_Qt} {sc : Nat × (Nat → Int32)} {i : Nat → Nat → Int32} {l : Nat → Nat → Int64} {dd : Nat → Nat → Value} {x : Nat} {a1 : Int32} {a3 : Int32} 
    (h : ((a1 ≤ a3 → (∀ i2, i2 = ab_u i 205 52 a1 → ∀ i4, i4 = ab_u i2 205 50 a1 → ∃ (P7 : ab_S → Prop), ab_Sp MX12_speak d [.ref 205] (i4, l, dd, x) (ab_E0 sc) (none) P7 ∧ ∀ i10 l11 dd12 x13, P7 (i10, l11, dd12, x13) → ab_Fr MX12_inTurns (d + 1) Q 141 [some (.ref 205), some (.int a1), none, some (.int 0), none, none, none, none] [] (0, 0) (i10, l11, dd12, x13) (ab_E0 sc))) ∧ (¬ a1 ≤ a3 → (vp_in a3 740 ∧ vp_in a3 7 ∧ ∀ i15, i15 = ab_u i 238 a3.toNatClampNeg (i 206 a3.toNatClampNeg) → vp_in a3 740 ∧ vp_in a3 7 ∧ ∀ i17, i17 = ab_u i15 232 a3.toNatClampNeg (i15 206 a3.toNatClampNeg) → ab_Fr MX12_inTurns (d + 1) Q 90 [some (.ref 205), some (.int a1), none, some (.int (a3 + 1)), none, none, none, none] [] (0, 0) (i17, l, dd, x) (ab_E0 sc))))) :
    ab_Fr MX12_inTurns (d + 1) Q 90 [some (.ref 205), some (.int a1), none, some (.int a3), none, none, none, none] [] (0, 0) (i, l, dd, x) (ab_E0 sc) := by
  refine ab_iloadn dX12_inTurns_90 rfl ?_
  refine ab_iloadn dX12_inTurns_91 rfl ?_
  refine ab_icmp_ge (tgt := 125) dX12_inTurns_92 (by decide) (fun c1 => ?_) (fun c1 => ?_)
  · refine ab_aloadn dX12_inTurns_125 rfl ?_
    refine ab_iloadn dX12_inTurns_126 rfl ?_
    refine ab_putI dX12_inTurns_127 fl_X12_405 kd_205 rfl ?_
    obtain ⟨i2, e3⟩ : ∃ z, z = ab_u i 205 52 a1 := ⟨_, rfl⟩
    show ab_Fr MX12_inTurns (d + 1) Q 130 [some (.ref 205), some (.int a1), none, some (.int a3), none, none, none, none] [] (0, 0) (ab_u i 205 52 a1, l, dd, x) (ab_E0 sc)
    rw [show ab_u i 205 52 a1 = i2 from e3.symm]
    refine ab_aloadn dX12_inTurns_130 rfl ?_
    refine ab_iloadn dX12_inTurns_131 rfl ?_
    refine ab_putI dX12_inTurns_132 fl_X12_399 kd_205 rfl ?_
    obtain ⟨i4, e5⟩ : ∃ z, z = ab_u i2 205 50 a1 := ⟨_, rfl⟩
    show ab_Fr MX12_inTurns (d + 1) Q 135 [some (.ref 205), some (.int a1), none, some (.int a3), none, none, none, none] [] (0, 0) (ab_u i2 205 50 a1, l, dd, x) (ab_E0 sc)
    rw [show ab_u i2 205 50 a1 = i4 from e5.symm]
    refine ab_aloadn dX12_inTurns_135 rfl ?_
    obtain ⟨P7, hs8, hk9⟩ := (((h.1 c1) i2 e3) i4 e5)
    refine ab_callV (vs := []) (st := []) dX12_inTurns_136 okMX12_speak wd_1672 kd_205 rfl rfl rfl (Nat.le_of_ble_eq_true rfl) ⟨Nat.le_of_ble_eq_true rfl, Nat.le_of_ble_eq_true rfl⟩ hs8 ?_
    rintro v9 ⟨i10, l11, dd12, x13⟩ E9 - ⟨rfl, rfl, hp14⟩
    show ab_Fr MX12_inTurns (d + 1) Q 139 [some (.ref 205), some (.int a1), none, some (.int a3), none, none, none, none] [] (0, 0) (i10, l11, dd12, x13) (ab_E0 sc)
    refine ab_iconst (v := 0) dX12_inTurns_139 (by decide) ?_
    refine ab_istoren dX12_inTurns_140 (Nat.le_of_ble_eq_true rfl) (L2 := [some (.ref 205), some (.int a1), none, some (.int 0), none, none, none, none]) rfl ?_
    exact (hk9 i10 l11 dd12 x13 hp14)
  · refine ab_aloadn dX12_inTurns_95 rfl ?_
    refine ab_getf (v := .ref 238) dX12_inTurns_96 fl_X12_109 kd_205 ff_205_51 ?_
    refine ab_iloadn dX12_inTurns_99 rfl ?_
    refine ab_aloadn dX12_inTurns_100 rfl ?_
    refine ab_getf (v := .ref 206) dX12_inTurns_101 fl_X12_7 kd_205 ff_205_1 ?_
    refine ab_iloadn dX12_inTurns_104 rfl ?_
    refine ab_iaload (v := (i 206 a3.toNatClampNeg)) dX12_inTurns_105 kd_206 (h.2 c1).1 rfl ?_
    refine ab_iastore dX12_inTurns_106 kd_238 (h.2 c1).2.1 ?_
    obtain ⟨i15, e16⟩ : ∃ z, z = ab_u i 238 a3.toNatClampNeg (i 206 a3.toNatClampNeg) := ⟨_, rfl⟩
    rw [show ab_u i 238 a3.toNatClampNeg (i 206 a3.toNatClampNeg) = i15 from e16.symm]
    refine ab_aloadn dX12_inTurns_107 rfl ?_
    refine ab_getf (v := .ref 232) dX12_inTurns_108 fl_X12_89 kd_205 ff_205_44 ?_
    refine ab_iloadn dX12_inTurns_111 rfl ?_
    refine ab_aloadn dX12_inTurns_112 rfl ?_
    refine ab_getf (v := .ref 206) dX12_inTurns_113 fl_X12_7 kd_205 ff_205_1 ?_
    refine ab_iloadn dX12_inTurns_116 rfl ?_
    refine ab_iaload (v := (i15 206 a3.toNatClampNeg)) dX12_inTurns_117 kd_206 ((h.2 c1).2.2 i15 e16).1 rfl ?_
    refine ab_iastore dX12_inTurns_118 kd_232 ((h.2 c1).2.2 i15 e16).2.1 ?_
    obtain ⟨i17, e18⟩ : ∃ z, z = ab_u i15 232 a3.toNatClampNeg (i15 206 a3.toNatClampNeg) := ⟨_, rfl⟩
    rw [show ab_u i15 232 a3.toNatClampNeg (i15 206 a3.toNatClampNeg) = i17 from e18.symm]
    refine ab_iinc (v := (a3 + 1)) dX12_inTurns_119 rfl (by rfl) (Nat.le_of_ble_eq_true rfl) (L2 := [some (.ref 205), some (.int a1), none, some (.int (a3 + 1)), none, none, none, none]) rfl ?_
    refine ab_goto (tgt := 90) dX12_inTurns_122 (by decide) ?_
    exact (((h.2 c1).2.2 i15 e16).2.2 i17 e18)
theorem tMX12_inTurns_141 {d : Nat} {Q : ab_Qt} {sc : Nat × (Nat → Int32)} {i : Nat → Nat → Int32} {l : Nat → Nat → Int64} {dd : Nat → Nat → Value} {x : Nat} {a1 : Int32} {a3 : Int32} 
    (h : ((45927 ≤ a3 → ab_Fr MX12_inTurns (d + 1) Q 167 [some (.ref 205), some (.int a1), none, some (.int 0), none, none, none, none] [] (0, 0) (i, l, dd, x) (ab_E0 sc)) ∧ (¬ 45927 ≤ a3 → (vp_in a3 45927 ∧ vp_in a3 45927 ∧ ∀ i2, i2 = ab_u i 239 a3.toNatClampNeg (i 235 a3.toNatClampNeg) → ab_Fr MX12_inTurns (d + 1) Q 141 [some (.ref 205), some (.int a1), none, some (.int (a3 + 1)), none, none, none, none] [] (0, 0) (i2, l, dd, x) (ab_E0 sc))))) :
    ab_Fr MX12_inTurns (d + 1) Q 141 [some (.ref 205), some (.int a1), none, some (.int a3), none, none, none, none] [] (0, 0) (i, l, dd, x) (ab_E0 sc) := by
  refine ab_iloadn dX12_inTurns_141 rfl ?_
  refine ab_ldc dX12_inTurns_142 wd_1255 ?_
  refine ab_icmp_ge (tgt := 165) dX12_inTurns_144 (by decide) (fun c1 => ?_) (fun c1 => ?_)
  · refine ab_iconst (v := 0) dX12_inTurns_165 (by decide) ?_
    refine ab_istoren dX12_inTurns_166 (Nat.le_of_ble_eq_true rfl) (L2 := [some (.ref 205), some (.int a1), none, some (.int 0), none, none, none, none]) rfl ?_
    exact (h.1 c1)
  · refine ab_aloadn dX12_inTurns_147 rfl ?_
    refine ab_getf (v := .ref 239) dX12_inTurns_148 fl_X12_112 kd_205 ff_205_56 ?_
    refine ab_iloadn dX12_inTurns_151 rfl ?_
    refine ab_aloadn dX12_inTurns_152 rfl ?_
    refine ab_getf (v := .ref 235) dX12_inTurns_153 fl_X12_99 kd_205 ff_205_47 ?_
    refine ab_iloadn dX12_inTurns_156 rfl ?_
    refine ab_iaload (v := (i 235 a3.toNatClampNeg)) dX12_inTurns_157 kd_235 (h.2 c1).1 rfl ?_
    refine ab_iastore dX12_inTurns_158 kd_239 (h.2 c1).2.1 ?_
    obtain ⟨i2, e3⟩ : ∃ z, z = ab_u i 239 a3.toNatClampNeg (i 235 a3.toNatClampNeg) := ⟨_, rfl⟩
    rw [show ab_u i 239 a3.toNatClampNeg (i 235 a3.toNatClampNeg) = i2 from e3.symm]
    refine ab_iinc (v := (a3 + 1)) dX12_inTurns_159 rfl (by rfl) (Nat.le_of_ble_eq_true rfl) (L2 := [some (.ref 205), some (.int a1), none, some (.int (a3 + 1)), none, none, none, none]) rfl ?_
    refine ab_goto (tgt := 141) dX12_inTurns_162 (by decide) ?_
    exact ((h.2 c1).2.2 i2 e3)
theorem tMX12_inTurns_167 {d : Nat} {Q : ab_Qt} {sc : Nat × (Nat → Int32)} {i : Nat → Nat → Int32} {l : Nat → Nat → Int64} {dd : Nat → Nat → Value} {x : Nat} {a1 : Int32} {a3 : Int32} 
    (h : ((a1 ≤ a3 → (∀ l2, l2 = ab_u l 205 53 0 → ∀ l4, l4 = ab_u l2 205 54 0 → ∀ l6, l6 = ab_u l4 205 55 0 → ab_Fr MX12_inTurns (d + 1) Q 207 [some (.ref 205), some (.int a1), none, some (.int 0), none, none, none, none] [] (0, 0) (i, l6, dd, x) (ab_E0 sc))) ∧ (¬ a1 ≤ a3 → (vp_in a3 14 ∧ vp_in a3 7 ∧ ∀ i8, i8 = ab_u i 240 a3.toNatClampNeg (i 212 a3.toNatClampNeg) → ab_Fr MX12_inTurns (d + 1) Q 167 [some (.ref 205), some (.int a1), none, some (.int (a3 + 1)), none, none, none, none] [] (0, 0) (i8, l, dd, x) (ab_E0 sc))))) :
    ab_Fr MX12_inTurns (d + 1) Q 167 [some (.ref 205), some (.int a1), none, some (.int a3), none, none, none, none] [] (0, 0) (i, l, dd, x) (ab_E0 sc) := by
  refine ab_iloadn dX12_inTurns_167 rfl ?_
  refine ab_iloadn dX12_inTurns_168 rfl ?_
  refine ab_icmp_ge (tgt := 190) dX12_inTurns_169 (by decide) (fun c1 => ?_) (fun c1 => ?_)
  · refine ab_aloadn dX12_inTurns_190 rfl ?_
    refine ab_lconst (v := 0) dX12_inTurns_191 (by decide) ?_
    refine ab_putL dX12_inTurns_192 fl_X12_411 kd_205 rfl ?_
    obtain ⟨l2, e3⟩ : ∃ z, z = ab_u l 205 53 0 := ⟨_, rfl⟩
    show ab_Fr MX12_inTurns (d + 1) Q 195 [some (.ref 205), some (.int a1), none, some (.int a3), none, none, none, none] [] (0, 0) (i, ab_u l 205 53 0, dd, x) (ab_E0 sc)
    rw [show ab_u l 205 53 0 = l2 from e3.symm]
    refine ab_aloadn dX12_inTurns_195 rfl ?_
    refine ab_lconst (v := 0) dX12_inTurns_196 (by decide) ?_
    refine ab_putL dX12_inTurns_197 fl_X12_414 kd_205 rfl ?_
    obtain ⟨l4, e5⟩ : ∃ z, z = ab_u l2 205 54 0 := ⟨_, rfl⟩
    show ab_Fr MX12_inTurns (d + 1) Q 200 [some (.ref 205), some (.int a1), none, some (.int a3), none, none, none, none] [] (0, 0) (i, ab_u l2 205 54 0, dd, x) (ab_E0 sc)
    rw [show ab_u l2 205 54 0 = l4 from e5.symm]
    refine ab_aloadn dX12_inTurns_200 rfl ?_
    refine ab_lconst (v := 0) dX12_inTurns_201 (by decide) ?_
    refine ab_putL dX12_inTurns_202 fl_X12_417 kd_205 rfl ?_
    obtain ⟨l6, e7⟩ : ∃ z, z = ab_u l4 205 55 0 := ⟨_, rfl⟩
    show ab_Fr MX12_inTurns (d + 1) Q 205 [some (.ref 205), some (.int a1), none, some (.int a3), none, none, none, none] [] (0, 0) (i, ab_u l4 205 55 0, dd, x) (ab_E0 sc)
    rw [show ab_u l4 205 55 0 = l6 from e7.symm]
    refine ab_iconst (v := 0) dX12_inTurns_205 (by decide) ?_
    refine ab_istoren dX12_inTurns_206 (Nat.le_of_ble_eq_true rfl) (L2 := [some (.ref 205), some (.int a1), none, some (.int 0), none, none, none, none]) rfl ?_
    exact ((((h.1 c1) l2 e3) l4 e5) l6 e7)
  · refine ab_aloadn dX12_inTurns_172 rfl ?_
    refine ab_getf (v := .ref 240) dX12_inTurns_173 fl_X12_115 kd_205 ff_205_57 ?_
    refine ab_iloadn dX12_inTurns_176 rfl ?_
    refine ab_aloadn dX12_inTurns_177 rfl ?_
    refine ab_getf (v := .ref 212) dX12_inTurns_178 fl_X12_29 kd_205 ff_205_16 ?_
    refine ab_iloadn dX12_inTurns_181 rfl ?_
    refine ab_iaload (v := (i 212 a3.toNatClampNeg)) dX12_inTurns_182 kd_212 (h.2 c1).1 rfl ?_
    refine ab_iastore dX12_inTurns_183 kd_240 (h.2 c1).2.1 ?_
    obtain ⟨i8, e9⟩ : ∃ z, z = ab_u i 240 a3.toNatClampNeg (i 212 a3.toNatClampNeg) := ⟨_, rfl⟩
    rw [show ab_u i 240 a3.toNatClampNeg (i 212 a3.toNatClampNeg) = i8 from e9.symm]
    refine ab_iinc (v := (a3 + 1)) dX12_inTurns_184 rfl (by rfl) (Nat.le_of_ble_eq_true rfl) (L2 := [some (.ref 205), some (.int a1), none, some (.int (a3 + 1)), none, none, none, none]) rfl ?_
    refine ab_goto (tgt := 167) dX12_inTurns_187 (by decide) ?_
    exact ((h.2 c1).2.2 i8 e9)
theorem tMX12_inTurns_207 {d : Nat} {Q : ab_Qt} {sc : Nat × (Nat → Int32)} {i : Nat → Nat → Int32} {l : Nat → Nat → Int64} {dd : Nat → Nat → Value} {x : Nat} {a1 : Int32} {a3 : Int32} 
    (h : (((i 205 31) ≤ a3 → (∃ (r2 : Int64) (P3 : ab_S → Prop), ab_Sp MX12_lostInTurns d [.ref 205] (i, l, dd, x) (ab_E0 sc) (some (.long r2)) P3 ∧ ∀ i6 l7 dd8 x9, P3 (i6, l7, dd8, x9) → Q (some (some (.long r2))) (i6, l7, dd8, x9) (ab_E0 sc))) ∧ (¬ (i 205 31) ≤ a3 → (∃ (r11 : Int32) (P12 : ab_S → Prop), ab_Sp MX12_speakRow d [.ref 205, .int a3] (i, l, dd, x) (ab_E0 sc) (some (.int r11)) P12 ∧ ∀ i15 l16 dd17 x18, P12 (i15, l16, dd17, x18) → ∃ (r20 : Int32) (P21 : ab_S → Prop), ab_Sp MX12_cliffOfSaid d [.ref 205, .int a1] (i15, l16, dd17, x18) (ab_E0 sc) (some (.int r20)) P21 ∧ ∀ i24 l25 dd26 x27, P21 (i24, l25, dd26, x27) → ((r20 = (-1) → ab_Fr MX12_inTurns (d + 1) Q 247 [some (.ref 205), some (.int a1), none, some (.int a3), some (.int r11), none, none, none] [] (0, 0) (i24, l25, dd26, x27) (ab_E0 sc)) ∧ (¬ r20 = (-1) → (((a1 - 1) ≤ r20 → ab_Fr MX12_inTurns (d + 1) Q 247 [some (.ref 205), some (.int a1), none, some (.int a3), some (.int r11), none, none, none] [] (0, 0) (i24, l25, dd26, x27) (ab_E0 sc)) ∧ (¬ (a1 - 1) ≤ r20 → ab_Fr MX12_inTurns (d + 1) Q 248 [some (.ref 205), some (.int a1), none, some (.int a3), some (.int r11), none, none, none] [.int 1] (0, 0) (i24, l25, dd26, x27) (ab_E0 sc))))))))) :
    ab_Fr MX12_inTurns (d + 1) Q 207 [some (.ref 205), some (.int a1), none, some (.int a3), none, none, none, none] [] (0, 0) (i, l, dd, x) (ab_E0 sc) := by
  refine ab_iloadn dX12_inTurns_207 rfl ?_
  refine ab_aloadn dX12_inTurns_208 rfl ?_
  refine ab_getf (v := .int (i 205 31)) dX12_inTurns_209 fl_X12_309 kd_205 rfl ?_
  refine ab_icmp_ge (tgt := 356) dX12_inTurns_212 (by decide) (fun c1 => ?_) (fun c1 => ?_)
  · refine ab_aloadn dX12_inTurns_356 rfl ?_
    obtain ⟨r2, P3, hs4, hk5⟩ := (h.1 c1)
    refine ab_callV (vs := []) (st := []) dX12_inTurns_357 okMX12_lostInTurns wd_1681 kd_205 rfl rfl rfl (Nat.le_of_ble_eq_true rfl) ⟨Nat.le_of_ble_eq_true rfl, Nat.le_of_ble_eq_true rfl⟩ hs4 ?_
    rintro v9 ⟨i6, l7, dd8, x9⟩ E9 - ⟨rfl, rfl, hp10⟩
    show ab_Fr MX12_inTurns (d + 1) Q 360 [some (.ref 205), some (.int a1), none, some (.int a3), none, none, none, none] [.long r2] (0, 0) (i6, l7, dd8, x9) (ab_E0 sc)
    exact ab_lret dX12_inTurns_360 rfl ⟨Nat.zero_le _, Nat.zero_le _⟩ (hk5 i6 l7 dd8 x9 hp10)
  · refine ab_aloadn dX12_inTurns_215 rfl ?_
    refine ab_iloadn dX12_inTurns_216 rfl ?_
    obtain ⟨r11, P12, hs13, hk14⟩ := (h.2 c1)
    refine ab_callV (vs := [.int a3]) (st := []) dX12_inTurns_217 okMX12_speakRow wd_1675 kd_205 rfl rfl rfl (Nat.le_of_ble_eq_true rfl) ⟨Nat.le_of_ble_eq_true rfl, Nat.le_of_ble_eq_true rfl⟩ hs13 ?_
    rintro v9 ⟨i15, l16, dd17, x18⟩ E9 - ⟨rfl, rfl, hp19⟩
    show ab_Fr MX12_inTurns (d + 1) Q 220 [some (.ref 205), some (.int a1), none, some (.int a3), none, none, none, none] [.int r11] (0, 0) (i15, l16, dd17, x18) (ab_E0 sc)
    refine ab_istore dX12_inTurns_220 (Nat.le_of_ble_eq_true rfl) (L2 := [some (.ref 205), some (.int a1), none, some (.int a3), some (.int r11), none, none, none]) rfl ?_
    refine ab_aloadn dX12_inTurns_222 rfl ?_
    refine ab_iloadn dX12_inTurns_223 rfl ?_
    obtain ⟨r20, P21, hs22, hk23⟩ := (hk14 i15 l16 dd17 x18 hp19)
    refine ab_callV (vs := [.int a1]) (st := []) dX12_inTurns_224 okMX12_cliffOfSaid wd_1678 kd_205 rfl rfl rfl (Nat.le_of_ble_eq_true rfl) ⟨Nat.le_of_ble_eq_true rfl, Nat.le_of_ble_eq_true rfl⟩ hs22 ?_
    rintro v9 ⟨i24, l25, dd26, x27⟩ E9 - ⟨rfl, rfl, hp28⟩
    show ab_Fr MX12_inTurns (d + 1) Q 227 [some (.ref 205), some (.int a1), none, some (.int a3), some (.int r11), none, none, none] [.int r20] (0, 0) (i24, l25, dd26, x27) (ab_E0 sc)
    refine ab_istore dX12_inTurns_227 (Nat.le_of_ble_eq_true rfl) (L2 := [some (.ref 205), some (.int a1), none, some (.int a3), some (.int r11), some (.int r20), none, none]) rfl ?_
    refine ab_iload dX12_inTurns_229 rfl ?_
    refine ab_iconst (v := (-1)) dX12_inTurns_231 (by decide) ?_
    refine ab_icmp_eq (tgt := 247) dX12_inTurns_232 (by decide) (fun c29 => ?_) (fun c29 => ?_)
    · refine ab_forget (i := 5) (L2 := [some (.ref 205), some (.int a1), none, some (.int a3), some (.int r11), none, none, none]) rfl ?_
      exact ((hk23 i24 l25 dd26 x27 hp28).1 c29)
    · refine ab_iload dX12_inTurns_235 rfl ?_
      refine ab_iloadn dX12_inTurns_237 rfl ?_
      refine ab_iconst (v := 1) dX12_inTurns_238 (by decide) ?_
      refine ab_isub dX12_inTurns_239 ?_
      refine ab_icmp_ge (tgt := 247) dX12_inTurns_240 (by decide) (fun c30 => ?_) (fun c30 => ?_)
      · refine ab_forget (i := 5) (L2 := [some (.ref 205), some (.int a1), none, some (.int a3), some (.int r11), none, none, none]) rfl ?_
        exact (((hk23 i24 l25 dd26 x27 hp28).2 c29).1 c30)
      · refine ab_iconst (v := 1) dX12_inTurns_243 (by decide) ?_
        refine ab_goto (tgt := 248) dX12_inTurns_244 (by decide) ?_
        refine ab_forget (i := 5) (L2 := [some (.ref 205), some (.int a1), none, some (.int a3), some (.int r11), none, none, none]) rfl ?_
        exact (((hk23 i24 l25 dd26 x27 hp28).2 c29).2 c30)
theorem tMX12_inTurns_247 {d : Nat} {Q : ab_Qt} {sc : Nat × (Nat → Int32)} {i : Nat → Nat → Int32} {l : Nat → Nat → Int64} {dd : Nat → Nat → Value} {x : Nat} {a1 : Int32} {a3 : Int32} {a4 : Int32} 
    (h : ab_Fr MX12_inTurns (d + 1) Q 248 [some (.ref 205), some (.int a1), none, some (.int a3), some (.int a4), none, none, none] [.int 0] (0, 0) (i, l, dd, x) (ab_E0 sc)) :
    ab_Fr MX12_inTurns (d + 1) Q 247 [some (.ref 205), some (.int a1), none, some (.int a3), some (.int a4), none, none, none] [] (0, 0) (i, l, dd, x) (ab_E0 sc) := by
  refine ab_iconst (v := 0) dX12_inTurns_247 (by decide) ?_
  exact h
theorem tMX12_inTurns_248 {d : Nat} {Q : ab_Qt} {sc : Nat × (Nat → Int32)} {i : Nat → Nat → Int32} {l : Nat → Nat → Int64} {dd : Nat → Nat → Value} {x : Nat} {a1 : Int32} {a3 : Int32} {a4 : Int32} {s0 : Int32} 
    (h : ab_Fr MX12_inTurns (d + 1) Q 253 [some (.ref 205), some (.int a1), none, some (.int a3), some (.int a4), none, some (.int s0), some (.int 0)] [] (0, 0) (i, l, dd, x) (ab_E0 sc)) :
    ab_Fr MX12_inTurns (d + 1) Q 248 [some (.ref 205), some (.int a1), none, some (.int a3), some (.int a4), none, none, none] [.int s0] (0, 0) (i, l, dd, x) (ab_E0 sc) := by
  refine ab_istore dX12_inTurns_248 (Nat.le_of_ble_eq_true rfl) (L2 := [some (.ref 205), some (.int a1), none, some (.int a3), some (.int a4), none, some (.int s0), none]) rfl ?_
  refine ab_iconst (v := 0) dX12_inTurns_250 (by decide) ?_
  refine ab_istore dX12_inTurns_251 (Nat.le_of_ble_eq_true rfl) (L2 := [some (.ref 205), some (.int a1), none, some (.int a3), some (.int a4), none, some (.int s0), some (.int 0)]) rfl ?_
  exact h
theorem tMX12_inTurns_253 {d : Nat} {Q : ab_Qt} {sc : Nat × (Nat → Int32)} {i : Nat → Nat → Int32} {l : Nat → Nat → Int64} {dd : Nat → Nat → Value} {x : Nat} {a1 : Int32} {a3 : Int32} {a4 : Int32} {a6 : Int32} {a7 : Int32} 
    (h : (((i 205 29) ≤ a7 → ab_Fr MX12_inTurns (d + 1) Q 207 [some (.ref 205), some (.int a1), none, some (.int (a3 + 1)), none, none, none, none] [] (0, 0) (i, l, dd, x) (ab_E0 sc)) ∧ (¬ (i 205 29) ≤ a7 → ((¬ a7 = a4 → ab_Fr MX12_inTurns (d + 1) Q 289 [some (.ref 205), some (.int a1), none, some (.int a3), some (.int a4), none, some (.int a6), some (.int a7)] [] (0, 0) (i, l, dd, x) (ab_E0 sc)) ∧ (a7 = a4 → (vp_in ((3 * a3) + a7) 6561 ∧ ∀ l3, l3 = ab_u l 205 55 ((l 205 55) + (l 224 ((3 * a3) + a7).toNatClampNeg)) → ab_Fr MX12_inTurns (d + 1) Q 289 [some (.ref 205), some (.int a1), none, some (.int a3), some (.int a4), none, some (.int a6), some (.int a7)] [] (0, 0) (i, l3, dd, x) (ab_E0 sc))))))) :
    ab_Fr MX12_inTurns (d + 1) Q 253 [some (.ref 205), some (.int a1), none, some (.int a3), some (.int a4), none, some (.int a6), some (.int a7)] [] (0, 0) (i, l, dd, x) (ab_E0 sc) := by
  refine ab_iload dX12_inTurns_253 rfl ?_
  refine ab_aloadn dX12_inTurns_255 rfl ?_
  refine ab_getf (v := .int (i 205 29)) dX12_inTurns_256 fl_X12_303 kd_205 rfl ?_
  refine ab_icmp_ge (tgt := 350) dX12_inTurns_259 (by decide) (fun c1 => ?_) (fun c1 => ?_)
  · refine ab_iinc (v := (a3 + 1)) dX12_inTurns_350 rfl (by rfl) (Nat.le_of_ble_eq_true rfl) (L2 := [some (.ref 205), some (.int a1), none, some (.int (a3 + 1)), some (.int a4), none, some (.int a6), some (.int a7)]) rfl ?_
    refine ab_goto (tgt := 207) dX12_inTurns_353 (by decide) ?_
    refine ab_forget (i := 4) (L2 := [some (.ref 205), some (.int a1), none, some (.int (a3 + 1)), none, none, some (.int a6), some (.int a7)]) rfl ?_
    refine ab_forget (i := 6) (L2 := [some (.ref 205), some (.int a1), none, some (.int (a3 + 1)), none, none, none, some (.int a7)]) rfl ?_
    refine ab_forget (i := 7) (L2 := [some (.ref 205), some (.int a1), none, some (.int (a3 + 1)), none, none, none, none]) rfl ?_
    exact (h.1 c1)
  · refine ab_iload dX12_inTurns_262 rfl ?_
    refine ab_iload dX12_inTurns_264 rfl ?_
    refine ab_icmp_ne (tgt := 289) dX12_inTurns_266 (by decide) (fun c2 => ?_) (fun c2 => ?_)
    · exact ((h.2 c1).1 c2)
    · refine ab_aloadn dX12_inTurns_269 rfl ?_
      refine ab_dup dX12_inTurns_270 rfl ?_
      refine ab_getf (v := .long (l 205 55)) dX12_inTurns_271 fl_X12_417 kd_205 rfl ?_
      refine ab_aloadn dX12_inTurns_274 rfl ?_
      refine ab_getf (v := .ref 224) dX12_inTurns_275 fl_X12_65 kd_205 ff_205_33 ?_
      refine ab_iconst (v := 3) dX12_inTurns_278 (by decide) ?_
      refine ab_iloadn dX12_inTurns_279 rfl ?_
      refine ab_imul dX12_inTurns_280 ?_
      refine ab_iload dX12_inTurns_281 rfl ?_
      refine ab_iadd dX12_inTurns_283 ?_
      refine ab_laload (v := (l 224 ((3 * a3) + a7).toNatClampNeg)) dX12_inTurns_284 kd_224 ((h.2 c1).2 c2).1 rfl ?_
      refine ab_ladd dX12_inTurns_285 ?_
      refine ab_putL dX12_inTurns_286 fl_X12_417 kd_205 rfl ?_
      obtain ⟨l3, e4⟩ : ∃ z, z = ab_u l 205 55 ((l 205 55) + (l 224 ((3 * a3) + a7).toNatClampNeg)) := ⟨_, rfl⟩
      show ab_Fr MX12_inTurns (d + 1) Q 289 [some (.ref 205), some (.int a1), none, some (.int a3), some (.int a4), none, some (.int a6), some (.int a7)] [] (0, 0) (i, ab_u l 205 55 ((l 205 55) + (l 224 ((3 * a3) + a7).toNatClampNeg)), dd, x) (ab_E0 sc)
      rw [show ab_u l 205 55 ((l 205 55) + (l 224 ((3 * a3) + a7).toNatClampNeg)) = l3 from e4.symm]
      exact (((h.2 c1).2 c2).2 l3 e4)
theorem tMX12_inTurns_289 {d : Nat} {Q : ab_Qt} {sc : Nat × (Nat → Int32)} {i : Nat → Nat → Int32} {l : Nat → Nat → Int64} {dd : Nat → Nat → Value} {x : Nat} {a1 : Int32} {a3 : Int32} {a4 : Int32} {a6 : Int32} {a7 : Int32} 
    (h : ((¬ a6 = 0 → (vp_in ((3 * a3) + a7) 6561 ∧ ∀ l2, l2 = ab_u l 205 53 ((l 205 53) + (l 224 ((3 * a3) + a7).toNatClampNeg)) → ((a7 = a4 → ab_Fr MX12_inTurns (d + 1) Q 253 [some (.ref 205), some (.int a1), none, some (.int a3), some (.int a4), none, some (.int a6), some (.int (a7 + 1))] [] (0, 0) (i, l2, dd, x) (ab_E0 sc)) ∧ (¬ a7 = a4 → (vp_in ((3 * a3) + a7) 6561 ∧ ∀ l5, l5 = ab_u l2 205 54 ((l2 205 54) + (l2 224 ((3 * a3) + a7).toNatClampNeg)) → ab_Fr MX12_inTurns (d + 1) Q 253 [some (.ref 205), some (.int a1), none, some (.int a3), some (.int a4), none, some (.int a6), some (.int (a7 + 1))] [] (0, 0) (i, l5, dd, x) (ab_E0 sc)))))) ∧ (a6 = 0 → ab_Fr MX12_inTurns (d + 1) Q 253 [some (.ref 205), some (.int a1), none, some (.int a3), some (.int a4), none, some (.int a6), some (.int (a7 + 1))] [] (0, 0) (i, l, dd, x) (ab_E0 sc)))) :
    ab_Fr MX12_inTurns (d + 1) Q 289 [some (.ref 205), some (.int a1), none, some (.int a3), some (.int a4), none, some (.int a6), some (.int a7)] [] (0, 0) (i, l, dd, x) (ab_E0 sc) := by
  refine ab_iload dX12_inTurns_289 rfl ?_
  refine ab_if_ne (tgt := 297) dX12_inTurns_291 (by decide) (fun c1 => ?_) (fun c1 => ?_)
  · refine ab_aloadn dX12_inTurns_297 rfl ?_
    refine ab_dup dX12_inTurns_298 rfl ?_
    refine ab_getf (v := .long (l 205 53)) dX12_inTurns_299 fl_X12_411 kd_205 rfl ?_
    refine ab_aloadn dX12_inTurns_302 rfl ?_
    refine ab_getf (v := .ref 224) dX12_inTurns_303 fl_X12_65 kd_205 ff_205_33 ?_
    refine ab_iconst (v := 3) dX12_inTurns_306 (by decide) ?_
    refine ab_iloadn dX12_inTurns_307 rfl ?_
    refine ab_imul dX12_inTurns_308 ?_
    refine ab_iload dX12_inTurns_309 rfl ?_
    refine ab_iadd dX12_inTurns_311 ?_
    refine ab_laload (v := (l 224 ((3 * a3) + a7).toNatClampNeg)) dX12_inTurns_312 kd_224 (h.1 c1).1 rfl ?_
    refine ab_ladd dX12_inTurns_313 ?_
    refine ab_putL dX12_inTurns_314 fl_X12_411 kd_205 rfl ?_
    obtain ⟨l2, e3⟩ : ∃ z, z = ab_u l 205 53 ((l 205 53) + (l 224 ((3 * a3) + a7).toNatClampNeg)) := ⟨_, rfl⟩
    show ab_Fr MX12_inTurns (d + 1) Q 317 [some (.ref 205), some (.int a1), none, some (.int a3), some (.int a4), none, some (.int a6), some (.int a7)] [] (0, 0) (i, ab_u l 205 53 ((l 205 53) + (l 224 ((3 * a3) + a7).toNatClampNeg)), dd, x) (ab_E0 sc)
    rw [show ab_u l 205 53 ((l 205 53) + (l 224 ((3 * a3) + a7).toNatClampNeg)) = l2 from e3.symm]
    refine ab_iload dX12_inTurns_317 rfl ?_
    refine ab_iload dX12_inTurns_319 rfl ?_
    refine ab_icmp_eq (tgt := 344) dX12_inTurns_321 (by decide) (fun c4 => ?_) (fun c4 => ?_)
    · refine ab_iinc (v := (a7 + 1)) dX12_inTurns_344 rfl (by rfl) (Nat.le_of_ble_eq_true rfl) (L2 := [some (.ref 205), some (.int a1), none, some (.int a3), some (.int a4), none, some (.int a6), some (.int (a7 + 1))]) rfl ?_
      refine ab_goto (tgt := 253) dX12_inTurns_347 (by decide) ?_
      exact (((h.1 c1).2 l2 e3).1 c4)
    · refine ab_aloadn dX12_inTurns_324 rfl ?_
      refine ab_dup dX12_inTurns_325 rfl ?_
      refine ab_getf (v := .long (l2 205 54)) dX12_inTurns_326 fl_X12_414 kd_205 rfl ?_
      refine ab_aloadn dX12_inTurns_329 rfl ?_
      refine ab_getf (v := .ref 224) dX12_inTurns_330 fl_X12_65 kd_205 ff_205_33 ?_
      refine ab_iconst (v := 3) dX12_inTurns_333 (by decide) ?_
      refine ab_iloadn dX12_inTurns_334 rfl ?_
      refine ab_imul dX12_inTurns_335 ?_
      refine ab_iload dX12_inTurns_336 rfl ?_
      refine ab_iadd dX12_inTurns_338 ?_
      refine ab_laload (v := (l2 224 ((3 * a3) + a7).toNatClampNeg)) dX12_inTurns_339 kd_224 (((h.1 c1).2 l2 e3).2 c4).1 rfl ?_
      refine ab_ladd dX12_inTurns_340 ?_
      refine ab_putL dX12_inTurns_341 fl_X12_414 kd_205 rfl ?_
      obtain ⟨l5, e6⟩ : ∃ z, z = ab_u l2 205 54 ((l2 205 54) + (l2 224 ((3 * a3) + a7).toNatClampNeg)) := ⟨_, rfl⟩
      show ab_Fr MX12_inTurns (d + 1) Q 344 [some (.ref 205), some (.int a1), none, some (.int a3), some (.int a4), none, some (.int a6), some (.int a7)] [] (0, 0) (i, ab_u l2 205 54 ((l2 205 54) + (l2 224 ((3 * a3) + a7).toNatClampNeg)), dd, x) (ab_E0 sc)
      rw [show ab_u l2 205 54 ((l2 205 54) + (l2 224 ((3 * a3) + a7).toNatClampNeg)) = l5 from e6.symm]
      refine ab_iinc (v := (a7 + 1)) dX12_inTurns_344 rfl (by rfl) (Nat.le_of_ble_eq_true rfl) (L2 := [some (.ref 205), some (.int a1), none, some (.int a3), some (.int a4), none, some (.int a6), some (.int (a7 + 1))]) rfl ?_
      refine ab_goto (tgt := 253) dX12_inTurns_347 (by decide) ?_
      exact ((((h.1 c1).2 l2 e3).2 c4).2 l5 e6)
  · refine ab_goto (tgt := 344) dX12_inTurns_294 (by decide) ?_
    refine ab_iinc (v := (a7 + 1)) dX12_inTurns_344 rfl (by rfl) (Nat.le_of_ble_eq_true rfl) (L2 := [some (.ref 205), some (.int a1), none, some (.int a3), some (.int a4), none, some (.int a6), some (.int (a7 + 1))]) rfl ?_
    refine ab_goto (tgt := 253) dX12_inTurns_347 (by decide) ?_
    exact (h.2 c1)
theorem tMX12_speak_0 {d : Nat} {Q : ab_Qt} {sc : Nat × (Nat → Int32)} {i : Nat → Nat → Int32} {l : Nat → Nat → Int64} {dd : Nat → Nat → Value} {x : Nat}  
    (h : ab_Fr MX12_speak (d + 1) Q 4 [some (.ref 205), some (.int 1), some (.int 0), none, none, none, none, none, none, none] [] (0, 0) (i, l, dd, x) (ab_E0 sc)) :
    ab_Fr MX12_speak (d + 1) Q 0 [some (.ref 205), none, none, none, none, none, none, none, none, none] [] (0, 0) (i, l, dd, x) (ab_E0 sc) := by
  refine ab_iconst (v := 1) dX12_speak_0 (by decide) ?_
  refine ab_istoren dX12_speak_1 (Nat.le_of_ble_eq_true rfl) (L2 := [some (.ref 205), some (.int 1), none, none, none, none, none, none, none, none]) rfl ?_
  refine ab_iconst (v := 0) dX12_speak_2 (by decide) ?_
  refine ab_istoren dX12_speak_3 (Nat.le_of_ble_eq_true rfl) (L2 := [some (.ref 205), some (.int 1), some (.int 0), none, none, none, none, none, none, none]) rfl ?_
  exact h
theorem tMX12_speak_4 {d : Nat} {Q : ab_Qt} {sc : Nat × (Nat → Int32)} {i : Nat → Nat → Int32} {l : Nat → Nat → Int64} {dd : Nat → Nat → Value} {x : Nat} {a1 : Int32} {a2 : Int32} 
    (h : (((i 205 31) ≤ a2 → ab_Fr MX12_speak (d + 1) Q 27 [some (.ref 205), some (.int a1), some (.int 0), none, none, none, none, none, none, none] [] (0, 0) (i, l, dd, x) (ab_E0 sc)) ∧ (¬ (i 205 31) ≤ a2 → (vp_in a2 2187 ∧ ∀ i2, i2 = ab_u i 233 a2.toNatClampNeg 0 → ab_Fr MX12_speak (d + 1) Q 4 [some (.ref 205), some (.int a1), some (.int (a2 + 1)), none, none, none, none, none, none, none] [] (0, 0) (i2, l, dd, x) (ab_E0 sc))))) :
    ab_Fr MX12_speak (d + 1) Q 4 [some (.ref 205), some (.int a1), some (.int a2), none, none, none, none, none, none, none] [] (0, 0) (i, l, dd, x) (ab_E0 sc) := by
  refine ab_iloadn dX12_speak_4 rfl ?_
  refine ab_aloadn dX12_speak_5 rfl ?_
  refine ab_getf (v := .int (i 205 31)) dX12_speak_6 fl_X12_309 kd_205 rfl ?_
  refine ab_icmp_ge (tgt := 25) dX12_speak_9 (by decide) (fun c1 => ?_) (fun c1 => ?_)
  · refine ab_iconst (v := 0) dX12_speak_25 (by decide) ?_
    refine ab_istoren dX12_speak_26 (Nat.le_of_ble_eq_true rfl) (L2 := [some (.ref 205), some (.int a1), some (.int 0), none, none, none, none, none, none, none]) rfl ?_
    exact (h.1 c1)
  · refine ab_aloadn dX12_speak_12 rfl ?_
    refine ab_getf (v := .ref 233) dX12_speak_13 fl_X12_92 kd_205 ff_205_45 ?_
    refine ab_iloadn dX12_speak_16 rfl ?_
    refine ab_iconst (v := 0) dX12_speak_17 (by decide) ?_
    refine ab_iastore dX12_speak_18 kd_233 (h.2 c1).1 ?_
    obtain ⟨i2, e3⟩ : ∃ z, z = ab_u i 233 a2.toNatClampNeg 0 := ⟨_, rfl⟩
    rw [show ab_u i 233 a2.toNatClampNeg 0 = i2 from e3.symm]
    refine ab_iinc (v := (a2 + 1)) dX12_speak_19 rfl (by rfl) (Nat.le_of_ble_eq_true rfl) (L2 := [some (.ref 205), some (.int a1), some (.int (a2 + 1)), none, none, none, none, none, none, none]) rfl ?_
    refine ab_goto (tgt := 4) dX12_speak_22 (by decide) ?_
    exact ((h.2 c1).2 i2 e3)
theorem tMX12_speak_27 {d : Nat} {Q : ab_Qt} {sc : Nat × (Nat → Int32)} {i : Nat → Nat → Int32} {l : Nat → Nat → Int64} {dd : Nat → Nat → Value} {x : Nat} {a1 : Int32} {a2 : Int32} 
    (h : (((i 205 30) ≤ a2 → Q (some none) (i, l, dd, x) (ab_E0 sc)) ∧ (¬ (i 205 30) ≤ a2 → (vp_in a2 7 ∧ ab_Fr MX12_speak (d + 1) Q 45 [some (.ref 205), some (.int a1), some (.int a2), some (.int (i 232 a2.toNatClampNeg)), some (.int 0), none, none, none, none, none] [] (0, 0) (i, l, dd, x) (ab_E0 sc))))) :
    ab_Fr MX12_speak (d + 1) Q 27 [some (.ref 205), some (.int a1), some (.int a2), none, none, none, none, none, none, none] [] (0, 0) (i, l, dd, x) (ab_E0 sc) := by
  refine ab_iloadn dX12_speak_27 rfl ?_
  refine ab_aloadn dX12_speak_28 rfl ?_
  refine ab_getf (v := .int (i 205 30)) dX12_speak_29 fl_X12_306 kd_205 rfl ?_
  refine ab_icmp_ge (tgt := 512) dX12_speak_32 (by decide) (fun c1 => ?_) (fun c1 => ?_)
  · exact ab_vret dX12_speak_512 rfl ⟨Nat.zero_le _, Nat.zero_le _⟩ (h.1 c1)
  · refine ab_aloadn dX12_speak_35 rfl ?_
    refine ab_getf (v := .ref 232) dX12_speak_36 fl_X12_89 kd_205 ff_205_44 ?_
    refine ab_iloadn dX12_speak_39 rfl ?_
    refine ab_iaload (v := (i 232 a2.toNatClampNeg)) dX12_speak_40 kd_232 (h.2 c1).1 rfl ?_
    refine ab_istoren dX12_speak_41 (Nat.le_of_ble_eq_true rfl) (L2 := [some (.ref 205), some (.int a1), some (.int a2), some (.int (i 232 a2.toNatClampNeg)), none, none, none, none, none, none]) rfl ?_
    refine ab_iconst (v := 0) dX12_speak_42 (by decide) ?_
    refine ab_istore dX12_speak_43 (Nat.le_of_ble_eq_true rfl) (L2 := [some (.ref 205), some (.int a1), some (.int a2), some (.int (i 232 a2.toNatClampNeg)), some (.int 0), none, none, none, none, none]) rfl ?_
    exact (h.2 c1).2
theorem tMX12_speak_45 {d : Nat} {Q : ab_Qt} {sc : Nat × (Nat → Int32)} {i : Nat → Nat → Int32} {l : Nat → Nat → Int64} {dd : Nat → Nat → Value} {x : Nat} {a1 : Int32} {a2 : Int32} {a3 : Int32} {a4 : Int32} 
    (h : (((9 * a1) ≤ a4 → ab_Fr MX12_speak (d + 1) Q 71 [some (.ref 205), some (.int a1), some (.int a2), some (.int a3), some (.int 0), none, none, none, none, none] [] (0, 0) (i, l, dd, x) (ab_E0 sc)) ∧ (¬ (9 * a1) ≤ a4 → (vp_in a4 19683 ∧ ∀ l2, l2 = ab_u l 236 a4.toNatClampNeg 0 → ab_Fr MX12_speak (d + 1) Q 45 [some (.ref 205), some (.int a1), some (.int a2), some (.int a3), some (.int (a4 + 1)), none, none, none, none, none] [] (0, 0) (i, l2, dd, x) (ab_E0 sc))))) :
    ab_Fr MX12_speak (d + 1) Q 45 [some (.ref 205), some (.int a1), some (.int a2), some (.int a3), some (.int a4), none, none, none, none, none] [] (0, 0) (i, l, dd, x) (ab_E0 sc) := by
  refine ab_iload dX12_speak_45 rfl ?_
  refine ab_bipush (v := 9) dX12_speak_47 (by decide) ?_
  refine ab_iloadn dX12_speak_49 rfl ?_
  refine ab_imul dX12_speak_50 ?_
  refine ab_icmp_ge (tgt := 68) dX12_speak_51 (by decide) (fun c1 => ?_) (fun c1 => ?_)
  · refine ab_iconst (v := 0) dX12_speak_68 (by decide) ?_
    refine ab_istore dX12_speak_69 (Nat.le_of_ble_eq_true rfl) (L2 := [some (.ref 205), some (.int a1), some (.int a2), some (.int a3), some (.int 0), none, none, none, none, none]) rfl ?_
    exact (h.1 c1)
  · refine ab_aloadn dX12_speak_54 rfl ?_
    refine ab_getf (v := .ref 236) dX12_speak_55 fl_X12_102 kd_205 ff_205_48 ?_
    refine ab_iload dX12_speak_58 rfl ?_
    refine ab_lconst (v := 0) dX12_speak_60 (by decide) ?_
    refine ab_lastore dX12_speak_61 kd_236 (h.2 c1).1 ?_
    obtain ⟨l2, e3⟩ : ∃ z, z = ab_u l 236 a4.toNatClampNeg 0 := ⟨_, rfl⟩
    rw [show ab_u l 236 a4.toNatClampNeg 0 = l2 from e3.symm]
    refine ab_iinc (v := (a4 + 1)) dX12_speak_62 rfl (by rfl) (Nat.le_of_ble_eq_true rfl) (L2 := [some (.ref 205), some (.int a1), some (.int a2), some (.int a3), some (.int (a4 + 1)), none, none, none, none, none]) rfl ?_
    refine ab_goto (tgt := 45) dX12_speak_65 (by decide) ?_
    exact ((h.2 c1).2 l2 e3)
theorem tMX12_speak_71 {d : Nat} {Q : ab_Qt} {sc : Nat × (Nat → Int32)} {i : Nat → Nat → Int32} {l : Nat → Nat → Int64} {dd : Nat → Nat → Value} {x : Nat} {a1 : Int32} {a2 : Int32} {a3 : Int32} {a4 : Int32} 
    (h : (((3 * a1) ≤ a4 → ab_Fr MX12_speak (d + 1) Q 96 [some (.ref 205), some (.int a1), some (.int a2), some (.int a3), some (.int 0), none, none, none, none, none] [] (0, 0) (i, l, dd, x) (ab_E0 sc)) ∧ (¬ (3 * a1) ≤ a4 → (vp_in a4 6561 ∧ ∀ i2, i2 = ab_u i 237 a4.toNatClampNeg 0 → ab_Fr MX12_speak (d + 1) Q 71 [some (.ref 205), some (.int a1), some (.int a2), some (.int a3), some (.int (a4 + 1)), none, none, none, none, none] [] (0, 0) (i2, l, dd, x) (ab_E0 sc))))) :
    ab_Fr MX12_speak (d + 1) Q 71 [some (.ref 205), some (.int a1), some (.int a2), some (.int a3), some (.int a4), none, none, none, none, none] [] (0, 0) (i, l, dd, x) (ab_E0 sc) := by
  refine ab_iload dX12_speak_71 rfl ?_
  refine ab_iconst (v := 3) dX12_speak_73 (by decide) ?_
  refine ab_iloadn dX12_speak_74 rfl ?_
  refine ab_imul dX12_speak_75 ?_
  refine ab_icmp_ge (tgt := 93) dX12_speak_76 (by decide) (fun c1 => ?_) (fun c1 => ?_)
  · refine ab_iconst (v := 0) dX12_speak_93 (by decide) ?_
    refine ab_istore dX12_speak_94 (Nat.le_of_ble_eq_true rfl) (L2 := [some (.ref 205), some (.int a1), some (.int a2), some (.int a3), some (.int 0), none, none, none, none, none]) rfl ?_
    exact (h.1 c1)
  · refine ab_aloadn dX12_speak_79 rfl ?_
    refine ab_getf (v := .ref 237) dX12_speak_80 fl_X12_105 kd_205 ff_205_49 ?_
    refine ab_iload dX12_speak_83 rfl ?_
    refine ab_iconst (v := 0) dX12_speak_85 (by decide) ?_
    refine ab_bastore dX12_speak_86 kd_237 (h.2 c1).1 (by decide) ?_
    obtain ⟨i2, e3⟩ : ∃ z, z = ab_u i 237 a4.toNatClampNeg 0 := ⟨_, rfl⟩
    rw [show ab_u i 237 a4.toNatClampNeg 0 = i2 from e3.symm]
    refine ab_iinc (v := (a4 + 1)) dX12_speak_87 rfl (by rfl) (Nat.le_of_ble_eq_true rfl) (L2 := [some (.ref 205), some (.int a1), some (.int a2), some (.int a3), some (.int (a4 + 1)), none, none, none, none, none]) rfl ?_
    refine ab_goto (tgt := 71) dX12_speak_90 (by decide) ?_
    exact ((h.2 c1).2 i2 e3)
theorem tMX12_speak_96 {d : Nat} {Q : ab_Qt} {sc : Nat × (Nat → Int32)} {i : Nat → Nat → Int32} {l : Nat → Nat → Int64} {dd : Nat → Nat → Value} {x : Nat} {a1 : Int32} {a2 : Int32} {a3 : Int32} {a4 : Int32} 
    (h : (((i 205 31) ≤ a4 → ab_Fr MX12_speak (d + 1) Q 235 [some (.ref 205), some (.int a1), some (.int a2), some (.int a3), some (.int 0), none, none, none, none, none] [] (0, 0) (i, l, dd, x) (ab_E0 sc)) ∧ (¬ (i 205 31) ≤ a4 → (vp_in a4 2187 ∧ ∃ (r2 : Int32) (P3 : ab_S → Prop), ab_Sp MX12_sign d [.ref 205, .int a4, .int a3] (i, l, dd, x) (ab_E0 sc) (some (.int r2)) P3 ∧ ∀ i6 l7 dd8 x9, P3 (i6, l7, dd8, x9) → ab_Fr MX12_speak (d + 1) Q 127 [some (.ref 205), some (.int a1), some (.int a2), some (.int a3), some (.int a4), some (.int ((3 * (i 233 a4.toNatClampNeg)) + r2)), some (.int 0), none, none, none] [] (0, 0) (i6, l7, dd8, x9) (ab_E0 sc))))) :
    ab_Fr MX12_speak (d + 1) Q 96 [some (.ref 205), some (.int a1), some (.int a2), some (.int a3), some (.int a4), none, none, none, none, none] [] (0, 0) (i, l, dd, x) (ab_E0 sc) := by
  refine ab_iload dX12_speak_96 rfl ?_
  refine ab_aloadn dX12_speak_98 rfl ?_
  refine ab_getf (v := .int (i 205 31)) dX12_speak_99 fl_X12_309 kd_205 rfl ?_
  refine ab_icmp_ge (tgt := 232) dX12_speak_102 (by decide) (fun c1 => ?_) (fun c1 => ?_)
  · refine ab_iconst (v := 0) dX12_speak_232 (by decide) ?_
    refine ab_istore dX12_speak_233 (Nat.le_of_ble_eq_true rfl) (L2 := [some (.ref 205), some (.int a1), some (.int a2), some (.int a3), some (.int 0), none, none, none, none, none]) rfl ?_
    exact (h.1 c1)
  · refine ab_iconst (v := 3) dX12_speak_105 (by decide) ?_
    refine ab_aloadn dX12_speak_106 rfl ?_
    refine ab_getf (v := .ref 233) dX12_speak_107 fl_X12_92 kd_205 ff_205_45 ?_
    refine ab_iload dX12_speak_110 rfl ?_
    refine ab_iaload (v := (i 233 a4.toNatClampNeg)) dX12_speak_112 kd_233 (h.2 c1).1 rfl ?_
    refine ab_imul dX12_speak_113 ?_
    refine ab_aloadn dX12_speak_114 rfl ?_
    refine ab_iload dX12_speak_115 rfl ?_
    refine ab_iloadn dX12_speak_117 rfl ?_
    obtain ⟨r2, P3, hs4, hk5⟩ := (h.2 c1).2
    refine ab_callV (vs := [.int a4, .int a3]) (st := [.int (3 * (i 233 a4.toNatClampNeg))]) dX12_speak_118 okMX12_sign wd_1516 kd_205 rfl rfl rfl (Nat.le_of_ble_eq_true rfl) ⟨Nat.le_of_ble_eq_true rfl, Nat.le_of_ble_eq_true rfl⟩ hs4 ?_
    rintro v9 ⟨i6, l7, dd8, x9⟩ E9 - ⟨rfl, rfl, hp10⟩
    show ab_Fr MX12_speak (d + 1) Q 121 [some (.ref 205), some (.int a1), some (.int a2), some (.int a3), some (.int a4), none, none, none, none, none] [.int r2, .int (3 * (i 233 a4.toNatClampNeg))] (0, 0) (i6, l7, dd8, x9) (ab_E0 sc)
    refine ab_iadd dX12_speak_121 ?_
    refine ab_istore dX12_speak_122 (Nat.le_of_ble_eq_true rfl) (L2 := [some (.ref 205), some (.int a1), some (.int a2), some (.int a3), some (.int a4), some (.int ((3 * (i 233 a4.toNatClampNeg)) + r2)), none, none, none, none]) rfl ?_
    refine ab_iconst (v := 0) dX12_speak_124 (by decide) ?_
    refine ab_istore dX12_speak_125 (Nat.le_of_ble_eq_true rfl) (L2 := [some (.ref 205), some (.int a1), some (.int a2), some (.int a3), some (.int a4), some (.int ((3 * (i 233 a4.toNatClampNeg)) + r2)), some (.int 0), none, none, none]) rfl ?_
    exact (hk5 i6 l7 dd8 x9 hp10)
theorem tMX12_speak_127 {d : Nat} {Q : ab_Qt} {sc : Nat × (Nat → Int32)} {i : Nat → Nat → Int32} {l : Nat → Nat → Int64} {dd : Nat → Nat → Value} {x : Nat} {a1 : Int32} {a2 : Int32} {a3 : Int32} {a4 : Int32} {a5 : Int32} {a6 : Int32} 
    (h : (((i 205 29) ≤ a6 → ab_Fr MX12_speak (d + 1) Q 96 [some (.ref 205), some (.int a1), some (.int a2), some (.int a3), some (.int (a4 + 1)), none, none, none, none, none] [] (0, 0) (i, l, dd, x) (ab_E0 sc)) ∧ (¬ (i 205 29) ≤ a6 → (vp_in ((3 * a4) + a6) 6561 ∧ ((¬ (l 224 ((3 * a4) + a6).toNatClampNeg) = 0 → (vp_in a5 6561 ∧ ∀ i3, i3 = ab_u i 237 a5.toNatClampNeg 1 → ab_Fr MX12_speak (d + 1) Q 167 [some (.ref 205), some (.int a1), some (.int a2), some (.int a3), some (.int a4), some (.int a5), some (.int a6), some (.int 0), none, none] [] (0, 0) (i3, l, dd, x) (ab_E0 sc))) ∧ ((l 224 ((3 * a4) + a6).toNatClampNeg) = 0 → ab_Fr MX12_speak (d + 1) Q 127 [some (.ref 205), some (.int a1), some (.int a2), some (.int a3), some (.int a4), some (.int a5), some (.int (a6 + 1)), none, none, none] [] (0, 0) (i, l, dd, x) (ab_E0 sc))))))) :
    ab_Fr MX12_speak (d + 1) Q 127 [some (.ref 205), some (.int a1), some (.int a2), some (.int a3), some (.int a4), some (.int a5), some (.int a6), none, none, none] [] (0, 0) (i, l, dd, x) (ab_E0 sc) := by
  refine ab_iload dX12_speak_127 rfl ?_
  refine ab_aloadn dX12_speak_129 rfl ?_
  refine ab_getf (v := .int (i 205 29)) dX12_speak_130 fl_X12_303 kd_205 rfl ?_
  refine ab_icmp_ge (tgt := 226) dX12_speak_133 (by decide) (fun c1 => ?_) (fun c1 => ?_)
  · refine ab_iinc (v := (a4 + 1)) dX12_speak_226 rfl (by rfl) (Nat.le_of_ble_eq_true rfl) (L2 := [some (.ref 205), some (.int a1), some (.int a2), some (.int a3), some (.int (a4 + 1)), some (.int a5), some (.int a6), none, none, none]) rfl ?_
    refine ab_goto (tgt := 96) dX12_speak_229 (by decide) ?_
    refine ab_forget (i := 5) (L2 := [some (.ref 205), some (.int a1), some (.int a2), some (.int a3), some (.int (a4 + 1)), none, some (.int a6), none, none, none]) rfl ?_
    refine ab_forget (i := 6) (L2 := [some (.ref 205), some (.int a1), some (.int a2), some (.int a3), some (.int (a4 + 1)), none, none, none, none, none]) rfl ?_
    exact (h.1 c1)
  · refine ab_aloadn dX12_speak_136 rfl ?_
    refine ab_getf (v := .ref 224) dX12_speak_137 fl_X12_65 kd_205 ff_205_33 ?_
    refine ab_iconst (v := 3) dX12_speak_140 (by decide) ?_
    refine ab_iload dX12_speak_141 rfl ?_
    refine ab_imul dX12_speak_143 ?_
    refine ab_iload dX12_speak_144 rfl ?_
    refine ab_iadd dX12_speak_146 ?_
    refine ab_laload (v := (l 224 ((3 * a4) + a6).toNatClampNeg)) dX12_speak_147 kd_224 (h.2 c1).1 rfl ?_
    refine ab_lconst (v := 0) dX12_speak_148 (by decide) ?_
    refine ab_lcne (tgt := 156) dX12_speak_149 dX12_speak_150 (by decide) (fun c2 => ?_) (fun c2 => ?_)
    · refine ab_aloadn dX12_speak_156 rfl ?_
      refine ab_getf (v := .ref 237) dX12_speak_157 fl_X12_105 kd_205 ff_205_49 ?_
      refine ab_iload dX12_speak_160 rfl ?_
      refine ab_iconst (v := 1) dX12_speak_162 (by decide) ?_
      refine ab_bastore dX12_speak_163 kd_237 ((h.2 c1).2.1 c2).1 (by decide) ?_
      obtain ⟨i3, e4⟩ : ∃ z, z = ab_u i 237 a5.toNatClampNeg 1 := ⟨_, rfl⟩
      rw [show ab_u i 237 a5.toNatClampNeg 1 = i3 from e4.symm]
      refine ab_iconst (v := 0) dX12_speak_164 (by decide) ?_
      refine ab_istore dX12_speak_165 (Nat.le_of_ble_eq_true rfl) (L2 := [some (.ref 205), some (.int a1), some (.int a2), some (.int a3), some (.int a4), some (.int a5), some (.int a6), some (.int 0), none, none]) rfl ?_
      exact (((h.2 c1).2.1 c2).2 i3 e4)
    · refine ab_goto (tgt := 220) dX12_speak_153 (by decide) ?_
      refine ab_iinc (v := (a6 + 1)) dX12_speak_220 rfl (by rfl) (Nat.le_of_ble_eq_true rfl) (L2 := [some (.ref 205), some (.int a1), some (.int a2), some (.int a3), some (.int a4), some (.int a5), some (.int (a6 + 1)), none, none, none]) rfl ?_
      refine ab_goto (tgt := 127) dX12_speak_223 (by decide) ?_
      exact ((h.2 c1).2.2 c2)
theorem tMX12_speak_167 {d : Nat} {Q : ab_Qt} {sc : Nat × (Nat → Int32)} {i : Nat → Nat → Int32} {l : Nat → Nat → Int64} {dd : Nat → Nat → Value} {x : Nat} {a1 : Int32} {a2 : Int32} {a3 : Int32} {a4 : Int32} {a5 : Int32} {a6 : Int32} {a7 : Int32} 
    (h : (((i 205 29) ≤ a7 → ab_Fr MX12_speak (d + 1) Q 127 [some (.ref 205), some (.int a1), some (.int a2), some (.int a3), some (.int a4), some (.int a5), some (.int (a6 + 1)), none, none, none] [] (0, 0) (i, l, dd, x) (ab_E0 sc)) ∧ (¬ (i 205 29) ≤ a7 → (vp_in ((3 * a5) + a7) 19683 ∧ vp_in ((3 * a4) + a6) 6561 ∧ ∃ (r2 : Int32) (P3 : ab_S → Prop), ab_Sp MX12_loss d [.ref 205, .int a3, .int a6, .int a7] (i, l, dd, x) (ab_E0 sc) (some (.int r2)) P3 ∧ ∀ i6 l7 dd8 x9, P3 (i6, l7, dd8, x9) → vp_in ((3 * a5) + a7) 19683 ∧ ∀ l11, l11 = ab_u l7 236 ((3 * a5) + a7).toNatClampNeg ((l 236 ((3 * a5) + a7).toNatClampNeg) + ((l 224 ((3 * a4) + a6).toNatClampNeg) * r2.toInt64)) → ab_Fr MX12_speak (d + 1) Q 167 [some (.ref 205), some (.int a1), some (.int a2), some (.int a3), some (.int a4), some (.int a5), some (.int a6), some (.int (a7 + 1)), none, none] [] (0, 0) (i6, l11, dd8, x9) (ab_E0 sc))))) :
    ab_Fr MX12_speak (d + 1) Q 167 [some (.ref 205), some (.int a1), some (.int a2), some (.int a3), some (.int a4), some (.int a5), some (.int a6), some (.int a7), none, none] [] (0, 0) (i, l, dd, x) (ab_E0 sc) := by
  refine ab_iload dX12_speak_167 rfl ?_
  refine ab_aloadn dX12_speak_169 rfl ?_
  refine ab_getf (v := .int (i 205 29)) dX12_speak_170 fl_X12_303 kd_205 rfl ?_
  refine ab_icmp_ge (tgt := 220) dX12_speak_173 (by decide) (fun c1 => ?_) (fun c1 => ?_)
  · refine ab_iinc (v := (a6 + 1)) dX12_speak_220 rfl (by rfl) (Nat.le_of_ble_eq_true rfl) (L2 := [some (.ref 205), some (.int a1), some (.int a2), some (.int a3), some (.int a4), some (.int a5), some (.int (a6 + 1)), some (.int a7), none, none]) rfl ?_
    refine ab_goto (tgt := 127) dX12_speak_223 (by decide) ?_
    refine ab_forget (i := 7) (L2 := [some (.ref 205), some (.int a1), some (.int a2), some (.int a3), some (.int a4), some (.int a5), some (.int (a6 + 1)), none, none, none]) rfl ?_
    exact (h.1 c1)
  · refine ab_aloadn dX12_speak_176 rfl ?_
    refine ab_getf (v := .ref 236) dX12_speak_177 fl_X12_102 kd_205 ff_205_48 ?_
    refine ab_iconst (v := 3) dX12_speak_180 (by decide) ?_
    refine ab_iload dX12_speak_181 rfl ?_
    refine ab_imul dX12_speak_183 ?_
    refine ab_iload dX12_speak_184 rfl ?_
    refine ab_iadd dX12_speak_186 ?_
    refine ab_dup2 dX12_speak_187 rfl rfl ?_
    refine ab_laload (v := (l 236 ((3 * a5) + a7).toNatClampNeg)) dX12_speak_188 kd_236 (h.2 c1).1 rfl ?_
    refine ab_aloadn dX12_speak_189 rfl ?_
    refine ab_getf (v := .ref 224) dX12_speak_190 fl_X12_65 kd_205 ff_205_33 ?_
    refine ab_iconst (v := 3) dX12_speak_193 (by decide) ?_
    refine ab_iload dX12_speak_194 rfl ?_
    refine ab_imul dX12_speak_196 ?_
    refine ab_iload dX12_speak_197 rfl ?_
    refine ab_iadd dX12_speak_199 ?_
    refine ab_laload (v := (l 224 ((3 * a4) + a6).toNatClampNeg)) dX12_speak_200 kd_224 (h.2 c1).2.1 rfl ?_
    refine ab_aloadn dX12_speak_201 rfl ?_
    refine ab_iloadn dX12_speak_202 rfl ?_
    refine ab_iload dX12_speak_203 rfl ?_
    refine ab_iload dX12_speak_205 rfl ?_
    obtain ⟨r2, P3, hs4, hk5⟩ := (h.2 c1).2.2
    refine ab_callV (vs := [.int a3, .int a6, .int a7]) (st := [.long (l 224 ((3 * a4) + a6).toNatClampNeg), .long (l 236 ((3 * a5) + a7).toNatClampNeg), .int ((3 * a5) + a7), .ref 236]) dX12_speak_207 okMX12_loss wd_1534 kd_205 rfl rfl rfl (Nat.le_of_ble_eq_true rfl) ⟨Nat.le_of_ble_eq_true rfl, Nat.le_of_ble_eq_true rfl⟩ hs4 ?_
    rintro v9 ⟨i6, l7, dd8, x9⟩ E9 - ⟨rfl, rfl, hp10⟩
    show ab_Fr MX12_speak (d + 1) Q 210 [some (.ref 205), some (.int a1), some (.int a2), some (.int a3), some (.int a4), some (.int a5), some (.int a6), some (.int a7), none, none] [.int r2, .long (l 224 ((3 * a4) + a6).toNatClampNeg), .long (l 236 ((3 * a5) + a7).toNatClampNeg), .int ((3 * a5) + a7), .ref 236] (0, 0) (i6, l7, dd8, x9) (ab_E0 sc)
    refine ab_i2l dX12_speak_210 rfl ?_
    refine ab_lmul dX12_speak_211 ?_
    refine ab_ladd dX12_speak_212 ?_
    refine ab_lastore dX12_speak_213 kd_236 (hk5 i6 l7 dd8 x9 hp10).1 ?_
    obtain ⟨l11, e12⟩ : ∃ z, z = ab_u l7 236 ((3 * a5) + a7).toNatClampNeg ((l 236 ((3 * a5) + a7).toNatClampNeg) + ((l 224 ((3 * a4) + a6).toNatClampNeg) * r2.toInt64)) := ⟨_, rfl⟩
    rw [show ab_u l7 236 ((3 * a5) + a7).toNatClampNeg ((l 236 ((3 * a5) + a7).toNatClampNeg) + ((l 224 ((3 * a4) + a6).toNatClampNeg) * r2.toInt64)) = l11 from e12.symm]
    refine ab_iinc (v := (a7 + 1)) dX12_speak_214 rfl (by rfl) (Nat.le_of_ble_eq_true rfl) (L2 := [some (.ref 205), some (.int a1), some (.int a2), some (.int a3), some (.int a4), some (.int a5), some (.int a6), some (.int (a7 + 1)), none, none]) rfl ?_
    refine ab_goto (tgt := 167) dX12_speak_217 (by decide) ?_
    exact ((hk5 i6 l7 dd8 x9 hp10).2 l11 e12)
theorem tMX12_speak_235 {d : Nat} {Q : ab_Qt} {sc : Nat × (Nat → Int32)} {i : Nat → Nat → Int32} {l : Nat → Nat → Int64} {dd : Nat → Nat → Value} {x : Nat} {a1 : Int32} {a2 : Int32} {a3 : Int32} {a4 : Int32} 
    (h : ((a1 ≤ a4 → ab_Fr MX12_speak (d + 1) Q 439 [some (.ref 205), some (.int a1), some (.int a2), some (.int a3), some (.int 0), none, none, none, none, none] [] (0, 0) (i, l, dd, x) (ab_E0 sc)) ∧ (¬ a1 ≤ a4 → ab_Fr MX12_speak (d + 1) Q 250 [some (.ref 205), some (.int a1), some (.int a2), some (.int a3), some (.int a4), some (.int (-1)), some (.int 1), some (.int 0), none, none] [] (0, 0) (i, l, dd, x) (ab_E0 sc)))) :
    ab_Fr MX12_speak (d + 1) Q 235 [some (.ref 205), some (.int a1), some (.int a2), some (.int a3), some (.int a4), none, none, none, none, none] [] (0, 0) (i, l, dd, x) (ab_E0 sc) := by
  refine ab_iload dX12_speak_235 rfl ?_
  refine ab_iloadn dX12_speak_237 rfl ?_
  refine ab_icmp_ge (tgt := 436) dX12_speak_238 (by decide) (fun c1 => ?_) (fun c1 => ?_)
  · refine ab_iconst (v := 0) dX12_speak_436 (by decide) ?_
    refine ab_istore dX12_speak_437 (Nat.le_of_ble_eq_true rfl) (L2 := [some (.ref 205), some (.int a1), some (.int a2), some (.int a3), some (.int 0), none, none, none, none, none]) rfl ?_
    exact (h.1 c1)
  · refine ab_iconst (v := (-1)) dX12_speak_241 (by decide) ?_
    refine ab_istore dX12_speak_242 (Nat.le_of_ble_eq_true rfl) (L2 := [some (.ref 205), some (.int a1), some (.int a2), some (.int a3), some (.int a4), some (.int (-1)), none, none, none, none]) rfl ?_
    refine ab_iconst (v := 1) dX12_speak_244 (by decide) ?_
    refine ab_istore dX12_speak_245 (Nat.le_of_ble_eq_true rfl) (L2 := [some (.ref 205), some (.int a1), some (.int a2), some (.int a3), some (.int a4), some (.int (-1)), some (.int 1), none, none, none]) rfl ?_
    refine ab_iconst (v := 0) dX12_speak_247 (by decide) ?_
    refine ab_istore dX12_speak_248 (Nat.le_of_ble_eq_true rfl) (L2 := [some (.ref 205), some (.int a1), some (.int a2), some (.int a3), some (.int a4), some (.int (-1)), some (.int 1), some (.int 0), none, none]) rfl ?_
    exact (h.2 c1)
theorem tMX12_speak_250 {d : Nat} {Q : ab_Qt} {sc : Nat × (Nat → Int32)} {i : Nat → Nat → Int32} {l : Nat → Nat → Int64} {dd : Nat → Nat → Value} {x : Nat} {a1 : Int32} {a2 : Int32} {a3 : Int32} {a4 : Int32} {a5 : Int32} {a6 : Int32} {a7 : Int32} 
    (h : (vp_in a3 14 ∧ (((i 212 a3.toNatClampNeg) ≤ a7 → ((¬ a6 = 0 → ab_Fr MX12_speak (d + 1) Q 235 [some (.ref 205), some (.int a1), some (.int a2), some (.int a3), some (.int (a4 + 1)), none, none, none, none, none] [] (0, 0) (i, l, dd, x) (ab_E0 sc)) ∧ (a6 = 0 → ab_Fr MX12_speak (d + 1) Q 395 [some (.ref 205), some (.int a1), some (.int a2), some (.int a3), some (.int a4), none, none, some (.int 0), none, none] [] (0, 0) (i, l, dd, x) (ab_E0 sc)))) ∧ (¬ (i 212 a3.toNatClampNeg) ≤ a7 → (vp_in ((3 * a4) + a7) 6561 ∧ (((i 237 ((3 * a4) + a7).toNatClampNeg) = 0 → ab_Fr MX12_speak (d + 1) Q 331 [some (.ref 205), some (.int a1), some (.int a2), some (.int a3), some (.int a4), some (.int a5), some (.int a6), some (.int a7), some (.int ((3 * a4) + a7)), none] [.int 0] (0, 0) (i, l, dd, x) (ab_E0 sc)) ∧ (¬ (i 237 ((3 * a4) + a7).toNatClampNeg) = 0 → (vp_in (3 * ((3 * a4) + a7)) 19683 ∧ vp_in ((3 * ((3 * a4) + a7)) + 1) 19683 ∧ ((¬ (i 205 29) = 3 → ab_Fr MX12_speak (d + 1) Q 324 [some (.ref 205), some (.int a1), some (.int a2), some (.int a3), some (.int a4), some (.int a5), some (.int a6), some (.int a7), some (.int ((3 * a4) + a7)), none] [.long 0, .long (l 236 ((3 * ((3 * a4) + a7)) + 1).toNatClampNeg), .long (l 236 (3 * ((3 * a4) + a7)).toNatClampNeg), .ref 205] (0, 0) (i, l, dd, x) (ab_E0 sc)) ∧ ((i 205 29) = 3 → (vp_in ((3 * ((3 * a4) + a7)) + 2) 19683 ∧ ab_Fr MX12_speak (d + 1) Q 324 [some (.ref 205), some (.int a1), some (.int a2), some (.int a3), some (.int a4), some (.int a5), some (.int a6), some (.int a7), some (.int ((3 * a4) + a7)), none] [.long (l 236 ((3 * ((3 * a4) + a7)) + 2).toNatClampNeg), .long (l 236 ((3 * ((3 * a4) + a7)) + 1).toNatClampNeg), .long (l 236 (3 * ((3 * a4) + a7)).toNatClampNeg), .ref 205] (0, 0) (i, l, dd, x) (ab_E0 sc)))))))))))) :
    ab_Fr MX12_speak (d + 1) Q 250 [some (.ref 205), some (.int a1), some (.int a2), some (.int a3), some (.int a4), some (.int a5), some (.int a6), some (.int a7), none, none] [] (0, 0) (i, l, dd, x) (ab_E0 sc) := by
  refine ab_iload dX12_speak_250 rfl ?_
  refine ab_aloadn dX12_speak_252 rfl ?_
  refine ab_getf (v := .ref 212) dX12_speak_253 fl_X12_29 kd_205 ff_205_16 ?_
  refine ab_iloadn dX12_speak_256 rfl ?_
  refine ab_iaload (v := (i 212 a3.toNatClampNeg)) dX12_speak_257 kd_212 h.1 rfl ?_
  refine ab_icmp_ge (tgt := 387) dX12_speak_258 (by decide) (fun c1 => ?_) (fun c1 => ?_)
  · refine ab_iload dX12_speak_387 rfl ?_
    refine ab_if_ne (tgt := 430) dX12_speak_389 (by decide) (fun c2 => ?_) (fun c2 => ?_)
    · refine ab_iinc (v := (a4 + 1)) dX12_speak_430 rfl (by rfl) (Nat.le_of_ble_eq_true rfl) (L2 := [some (.ref 205), some (.int a1), some (.int a2), some (.int a3), some (.int (a4 + 1)), some (.int a5), some (.int a6), some (.int a7), none, none]) rfl ?_
      refine ab_goto (tgt := 235) dX12_speak_433 (by decide) ?_
      refine ab_forget (i := 5) (L2 := [some (.ref 205), some (.int a1), some (.int a2), some (.int a3), some (.int (a4 + 1)), none, some (.int a6), some (.int a7), none, none]) rfl ?_
      refine ab_forget (i := 6) (L2 := [some (.ref 205), some (.int a1), some (.int a2), some (.int a3), some (.int (a4 + 1)), none, none, some (.int a7), none, none]) rfl ?_
      refine ab_forget (i := 7) (L2 := [some (.ref 205), some (.int a1), some (.int a2), some (.int a3), some (.int (a4 + 1)), none, none, none, none, none]) rfl ?_
      exact ((h.2.1 c1).1 c2)
    · refine ab_iconst (v := 0) dX12_speak_392 (by decide) ?_
      refine ab_istore dX12_speak_393 (Nat.le_of_ble_eq_true rfl) (L2 := [some (.ref 205), some (.int a1), some (.int a2), some (.int a3), some (.int a4), some (.int a5), some (.int a6), some (.int 0), none, none]) rfl ?_
      refine ab_forget (i := 5) (L2 := [some (.ref 205), some (.int a1), some (.int a2), some (.int a3), some (.int a4), none, some (.int a6), some (.int 0), none, none]) rfl ?_
      refine ab_forget (i := 6) (L2 := [some (.ref 205), some (.int a1), some (.int a2), some (.int a3), some (.int a4), none, none, some (.int 0), none, none]) rfl ?_
      exact ((h.2.1 c1).2 c2)
  · refine ab_iconst (v := 3) dX12_speak_261 (by decide) ?_
    refine ab_iload dX12_speak_262 rfl ?_
    refine ab_imul dX12_speak_264 ?_
    refine ab_iload dX12_speak_265 rfl ?_
    refine ab_iadd dX12_speak_267 ?_
    refine ab_istore dX12_speak_268 (Nat.le_of_ble_eq_true rfl) (L2 := [some (.ref 205), some (.int a1), some (.int a2), some (.int a3), some (.int a4), some (.int a5), some (.int a6), some (.int a7), some (.int ((3 * a4) + a7)), none]) rfl ?_
    refine ab_aloadn dX12_speak_270 rfl ?_
    refine ab_getf (v := .ref 237) dX12_speak_271 fl_X12_105 kd_205 ff_205_49 ?_
    refine ab_iload dX12_speak_274 rfl ?_
    refine ab_baload (v := (i 237 ((3 * a4) + a7).toNatClampNeg)) dX12_speak_276 kd_237 (h.2.2 c1).1 rfl ?_
    refine ab_if_eq (tgt := 330) dX12_speak_277 (by decide) (fun c3 => ?_) (fun c3 => ?_)
    · refine ab_iconst (v := 0) dX12_speak_330 (by decide) ?_
      exact ((h.2.2 c1).2.1 c3)
    · refine ab_aloadn dX12_speak_280 rfl ?_
      refine ab_aloadn dX12_speak_281 rfl ?_
      refine ab_getf (v := .ref 236) dX12_speak_282 fl_X12_102 kd_205 ff_205_48 ?_
      refine ab_iconst (v := 3) dX12_speak_285 (by decide) ?_
      refine ab_iload dX12_speak_286 rfl ?_
      refine ab_imul dX12_speak_288 ?_
      refine ab_laload (v := (l 236 (3 * ((3 * a4) + a7)).toNatClampNeg)) dX12_speak_289 kd_236 ((h.2.2 c1).2.2 c3).1 rfl ?_
      refine ab_aloadn dX12_speak_290 rfl ?_
      refine ab_getf (v := .ref 236) dX12_speak_291 fl_X12_102 kd_205 ff_205_48 ?_
      refine ab_iconst (v := 3) dX12_speak_294 (by decide) ?_
      refine ab_iload dX12_speak_295 rfl ?_
      refine ab_imul dX12_speak_297 ?_
      refine ab_iconst (v := 1) dX12_speak_298 (by decide) ?_
      refine ab_iadd dX12_speak_299 ?_
      refine ab_laload (v := (l 236 ((3 * ((3 * a4) + a7)) + 1).toNatClampNeg)) dX12_speak_300 kd_236 ((h.2.2 c1).2.2 c3).2.1 rfl ?_
      refine ab_aloadn dX12_speak_301 rfl ?_
      refine ab_getf (v := .int (i 205 29)) dX12_speak_302 fl_X12_303 kd_205 rfl ?_
      refine ab_iconst (v := 3) dX12_speak_305 (by decide) ?_
      refine ab_icmp_ne (tgt := 323) dX12_speak_306 (by decide) (fun c4 => ?_) (fun c4 => ?_)
      · refine ab_lconst (v := 0) dX12_speak_323 (by decide) ?_
        exact (((h.2.2 c1).2.2 c3).2.2.1 c4)
      · refine ab_aloadn dX12_speak_309 rfl ?_
        refine ab_getf (v := .ref 236) dX12_speak_310 fl_X12_102 kd_205 ff_205_48 ?_
        refine ab_iconst (v := 3) dX12_speak_313 (by decide) ?_
        refine ab_iload dX12_speak_314 rfl ?_
        refine ab_imul dX12_speak_316 ?_
        refine ab_iconst (v := 2) dX12_speak_317 (by decide) ?_
        refine ab_iadd dX12_speak_318 ?_
        refine ab_laload (v := (l 236 ((3 * ((3 * a4) + a7)) + 2).toNatClampNeg)) dX12_speak_319 kd_236 (((h.2.2 c1).2.2 c3).2.2.2 c4).1 rfl ?_
        refine ab_goto (tgt := 324) dX12_speak_320 (by decide) ?_
        exact (((h.2.2 c1).2.2 c3).2.2.2 c4).2
theorem tMX12_speak_324 {d : Nat} {Q : ab_Qt} {sc : Nat × (Nat → Int32)} {i : Nat → Nat → Int32} {l : Nat → Nat → Int64} {dd : Nat → Nat → Value} {x : Nat} {a1 : Int32} {a2 : Int32} {a3 : Int32} {a4 : Int32} {a5 : Int32} {a6 : Int32} {a7 : Int32} {a8 : Int32} {s1 : Int64} {s2 : Int64} {s3 : Int64} 
    (h : (∃ (r1 : Int32) (P2 : ab_S → Prop), ab_Sp MX12_least d [.ref 205, .long s1, .long s2, .long s3] (i, l, dd, x) (ab_E0 sc) (some (.int r1)) P2 ∧ ∀ i5 l6 dd7 x8, P2 (i5, l6, dd7, x8) → ab_Fr MX12_speak (d + 1) Q 331 [some (.ref 205), some (.int a1), some (.int a2), some (.int a3), some (.int a4), some (.int a5), some (.int a6), some (.int a7), some (.int a8), none] [.int r1] (0, 0) (i5, l6, dd7, x8) (ab_E0 sc))) :
    ab_Fr MX12_speak (d + 1) Q 324 [some (.ref 205), some (.int a1), some (.int a2), some (.int a3), some (.int a4), some (.int a5), some (.int a6), some (.int a7), some (.int a8), none] [.long s3, .long s2, .long s1, .ref 205] (0, 0) (i, l, dd, x) (ab_E0 sc) := by
  obtain ⟨r1, P2, hs3, hk4⟩ := h
  refine ab_callV (vs := [.long s1, .long s2, .long s3]) (st := []) dX12_speak_324 okMX12_least wd_1537 kd_205 rfl rfl rfl (Nat.le_of_ble_eq_true rfl) ⟨Nat.le_of_ble_eq_true rfl, Nat.le_of_ble_eq_true rfl⟩ hs3 ?_
  rintro v9 ⟨i5, l6, dd7, x8⟩ E9 - ⟨rfl, rfl, hp9⟩
  show ab_Fr MX12_speak (d + 1) Q 327 [some (.ref 205), some (.int a1), some (.int a2), some (.int a3), some (.int a4), some (.int a5), some (.int a6), some (.int a7), some (.int a8), none] [.int r1] (0, 0) (i5, l6, dd7, x8) (ab_E0 sc)
  refine ab_goto (tgt := 331) dX12_speak_327 (by decide) ?_
  exact (hk4 i5 l6 dd7 x8 hp9)
theorem tMX12_speak_331 {d : Nat} {Q : ab_Qt} {sc : Nat × (Nat → Int32)} {i : Nat → Nat → Int32} {l : Nat → Nat → Int64} {dd : Nat → Nat → Value} {x : Nat} {a1 : Int32} {a2 : Int32} {a3 : Int32} {a4 : Int32} {a5 : Int32} {a6 : Int32} {a7 : Int32} {a8 : Int32} {s0 : Int32} 
    (h : (vp_in ((6561 * a2) + a8) 45927 ∧ ∀ i1, i1 = ab_u i 235 ((6561 * a2) + a8).toNatClampNeg s0 → vp_in a8 6561 ∧ ((¬ (i1 237 a8.toNatClampNeg) = 0 → ((a5 = (-1) → ab_Fr MX12_speak (d + 1) Q 250 [some (.ref 205), some (.int a1), some (.int a2), some (.int a3), some (.int a4), some (.int s0), some (.int a6), some (.int (a7 + 1)), none, none] [] (0, 0) (i1, l, dd, x) (ab_E0 sc)) ∧ (¬ a5 = (-1) → ((a5 = s0 → ab_Fr MX12_speak (d + 1) Q 250 [some (.ref 205), some (.int a1), some (.int a2), some (.int a3), some (.int a4), some (.int s0), some (.int a6), some (.int (a7 + 1)), none, none] [] (0, 0) (i1, l, dd, x) (ab_E0 sc)) ∧ (¬ a5 = s0 → ab_Fr MX12_speak (d + 1) Q 250 [some (.ref 205), some (.int a1), some (.int a2), some (.int a3), some (.int a4), some (.int s0), some (.int 0), some (.int (a7 + 1)), none, none] [] (0, 0) (i1, l, dd, x) (ab_E0 sc)))))) ∧ ((i1 237 a8.toNatClampNeg) = 0 → ab_Fr MX12_speak (d + 1) Q 250 [some (.ref 205), some (.int a1), some (.int a2), some (.int a3), some (.int a4), some (.int a5), some (.int a6), some (.int (a7 + 1)), none, none] [] (0, 0) (i1, l, dd, x) (ab_E0 sc))))) :
    ab_Fr MX12_speak (d + 1) Q 331 [some (.ref 205), some (.int a1), some (.int a2), some (.int a3), some (.int a4), some (.int a5), some (.int a6), some (.int a7), some (.int a8), none] [.int s0] (0, 0) (i, l, dd, x) (ab_E0 sc) := by
  refine ab_istore dX12_speak_331 (Nat.le_of_ble_eq_true rfl) (L2 := [some (.ref 205), some (.int a1), some (.int a2), some (.int a3), some (.int a4), some (.int a5), some (.int a6), some (.int a7), some (.int a8), some (.int s0)]) rfl ?_
  refine ab_aloadn dX12_speak_333 rfl ?_
  refine ab_getf (v := .ref 235) dX12_speak_334 fl_X12_99 kd_205 ff_205_47 ?_
  refine ab_sipush (v := 6561) dX12_speak_337 (by decide) ?_
  refine ab_iloadn dX12_speak_340 rfl ?_
  refine ab_imul dX12_speak_341 ?_
  refine ab_iload dX12_speak_342 rfl ?_
  refine ab_iadd dX12_speak_344 ?_
  refine ab_iload dX12_speak_345 rfl ?_
  refine ab_iastore dX12_speak_347 kd_235 h.1 ?_
  obtain ⟨i1, e2⟩ : ∃ z, z = ab_u i 235 ((6561 * a2) + a8).toNatClampNeg s0 := ⟨_, rfl⟩
  rw [show ab_u i 235 ((6561 * a2) + a8).toNatClampNeg s0 = i1 from e2.symm]
  refine ab_aloadn dX12_speak_348 rfl ?_
  refine ab_getf (v := .ref 237) dX12_speak_349 fl_X12_105 kd_205 ff_205_49 ?_
  refine ab_iload dX12_speak_352 rfl ?_
  refine ab_baload (v := (i1 237 a8.toNatClampNeg)) dX12_speak_354 kd_237 (h.2 i1 e2).1 rfl ?_
  refine ab_if_ne (tgt := 361) dX12_speak_355 (by decide) (fun c3 => ?_) (fun c3 => ?_)
  · refine ab_iload dX12_speak_361 rfl ?_
    refine ab_iconst (v := (-1)) dX12_speak_363 (by decide) ?_
    refine ab_icmp_eq (tgt := 377) dX12_speak_364 (by decide) (fun c4 => ?_) (fun c4 => ?_)
    · refine ab_iload dX12_speak_377 rfl ?_
      refine ab_istore dX12_speak_379 (Nat.le_of_ble_eq_true rfl) (L2 := [some (.ref 205), some (.int a1), some (.int a2), some (.int a3), some (.int a4), some (.int s0), some (.int a6), some (.int a7), some (.int a8), some (.int s0)]) rfl ?_
      refine ab_iinc (v := (a7 + 1)) dX12_speak_381 rfl (by rfl) (Nat.le_of_ble_eq_true rfl) (L2 := [some (.ref 205), some (.int a1), some (.int a2), some (.int a3), some (.int a4), some (.int s0), some (.int a6), some (.int (a7 + 1)), some (.int a8), some (.int s0)]) rfl ?_
      refine ab_goto (tgt := 250) dX12_speak_384 (by decide) ?_
      refine ab_forget (i := 8) (L2 := [some (.ref 205), some (.int a1), some (.int a2), some (.int a3), some (.int a4), some (.int s0), some (.int a6), some (.int (a7 + 1)), none, some (.int s0)]) rfl ?_
      refine ab_forget (i := 9) (L2 := [some (.ref 205), some (.int a1), some (.int a2), some (.int a3), some (.int a4), some (.int s0), some (.int a6), some (.int (a7 + 1)), none, none]) rfl ?_
      exact (((h.2 i1 e2).2.1 c3).1 c4)
    · refine ab_iload dX12_speak_367 rfl ?_
      refine ab_iload dX12_speak_369 rfl ?_
      refine ab_icmp_eq (tgt := 377) dX12_speak_371 (by decide) (fun c5 => ?_) (fun c5 => ?_)
      · refine ab_iload dX12_speak_377 rfl ?_
        refine ab_istore dX12_speak_379 (Nat.le_of_ble_eq_true rfl) (L2 := [some (.ref 205), some (.int a1), some (.int a2), some (.int a3), some (.int a4), some (.int s0), some (.int a6), some (.int a7), some (.int a8), some (.int s0)]) rfl ?_
        refine ab_iinc (v := (a7 + 1)) dX12_speak_381 rfl (by rfl) (Nat.le_of_ble_eq_true rfl) (L2 := [some (.ref 205), some (.int a1), some (.int a2), some (.int a3), some (.int a4), some (.int s0), some (.int a6), some (.int (a7 + 1)), some (.int a8), some (.int s0)]) rfl ?_
        refine ab_goto (tgt := 250) dX12_speak_384 (by decide) ?_
        refine ab_forget (i := 8) (L2 := [some (.ref 205), some (.int a1), some (.int a2), some (.int a3), some (.int a4), some (.int s0), some (.int a6), some (.int (a7 + 1)), none, some (.int s0)]) rfl ?_
        refine ab_forget (i := 9) (L2 := [some (.ref 205), some (.int a1), some (.int a2), some (.int a3), some (.int a4), some (.int s0), some (.int a6), some (.int (a7 + 1)), none, none]) rfl ?_
        exact ((((h.2 i1 e2).2.1 c3).2 c4).1 c5)
      · refine ab_iconst (v := 0) dX12_speak_374 (by decide) ?_
        refine ab_istore dX12_speak_375 (Nat.le_of_ble_eq_true rfl) (L2 := [some (.ref 205), some (.int a1), some (.int a2), some (.int a3), some (.int a4), some (.int a5), some (.int 0), some (.int a7), some (.int a8), some (.int s0)]) rfl ?_
        refine ab_iload dX12_speak_377 rfl ?_
        refine ab_istore dX12_speak_379 (Nat.le_of_ble_eq_true rfl) (L2 := [some (.ref 205), some (.int a1), some (.int a2), some (.int a3), some (.int a4), some (.int s0), some (.int 0), some (.int a7), some (.int a8), some (.int s0)]) rfl ?_
        refine ab_iinc (v := (a7 + 1)) dX12_speak_381 rfl (by rfl) (Nat.le_of_ble_eq_true rfl) (L2 := [some (.ref 205), some (.int a1), some (.int a2), some (.int a3), some (.int a4), some (.int s0), some (.int 0), some (.int (a7 + 1)), some (.int a8), some (.int s0)]) rfl ?_
        refine ab_goto (tgt := 250) dX12_speak_384 (by decide) ?_
        refine ab_forget (i := 8) (L2 := [some (.ref 205), some (.int a1), some (.int a2), some (.int a3), some (.int a4), some (.int s0), some (.int 0), some (.int (a7 + 1)), none, some (.int s0)]) rfl ?_
        refine ab_forget (i := 9) (L2 := [some (.ref 205), some (.int a1), some (.int a2), some (.int a3), some (.int a4), some (.int s0), some (.int 0), some (.int (a7 + 1)), none, none]) rfl ?_
        exact ((((h.2 i1 e2).2.1 c3).2 c4).2 c5)
  · refine ab_goto (tgt := 381) dX12_speak_358 (by decide) ?_
    refine ab_iinc (v := (a7 + 1)) dX12_speak_381 rfl (by rfl) (Nat.le_of_ble_eq_true rfl) (L2 := [some (.ref 205), some (.int a1), some (.int a2), some (.int a3), some (.int a4), some (.int a5), some (.int a6), some (.int (a7 + 1)), some (.int a8), some (.int s0)]) rfl ?_
    refine ab_goto (tgt := 250) dX12_speak_384 (by decide) ?_
    refine ab_forget (i := 8) (L2 := [some (.ref 205), some (.int a1), some (.int a2), some (.int a3), some (.int a4), some (.int a5), some (.int a6), some (.int (a7 + 1)), none, some (.int s0)]) rfl ?_
    refine ab_forget (i := 9) (L2 := [some (.ref 205), some (.int a1), some (.int a2), some (.int a3), some (.int a4), some (.int a5), some (.int a6), some (.int (a7 + 1)), none, none]) rfl ?_
    exact ((h.2 i1 e2).2.2 c3)
theorem tMX12_speak_395 {d : Nat} {Q : ab_Qt} {sc : Nat × (Nat → Int32)} {i : Nat → Nat → Int32} {l : Nat → Nat → Int64} {dd : Nat → Nat → Value} {x : Nat} {a1 : Int32} {a2 : Int32} {a3 : Int32} {a4 : Int32} {a7 : Int32} 
    (h : ((3 ≤ a7 → ab_Fr MX12_speak (d + 1) Q 235 [some (.ref 205), some (.int a1), some (.int a2), some (.int a3), some (.int (a4 + 1)), none, none, none, none, none] [] (0, 0) (i, l, dd, x) (ab_E0 sc)) ∧ (¬ 3 ≤ a7 → (vp_in (((6561 * a2) + (3 * a4)) + a7) 45927 ∧ vp_in (((6561 * a2) + (3 * a4)) + a7) 45927 ∧ ∀ i2, i2 = ab_u i 235 (((6561 * a2) + (3 * a4)) + a7).toNatClampNeg ((i 235 (((6561 * a2) + (3 * a4)) + a7).toNatClampNeg) ||| 8) → ab_Fr MX12_speak (d + 1) Q 395 [some (.ref 205), some (.int a1), some (.int a2), some (.int a3), some (.int a4), none, none, some (.int (a7 + 1)), none, none] [] (0, 0) (i2, l, dd, x) (ab_E0 sc))))) :
    ab_Fr MX12_speak (d + 1) Q 395 [some (.ref 205), some (.int a1), some (.int a2), some (.int a3), some (.int a4), none, none, some (.int a7), none, none] [] (0, 0) (i, l, dd, x) (ab_E0 sc) := by
  refine ab_iload dX12_speak_395 rfl ?_
  refine ab_iconst (v := 3) dX12_speak_397 (by decide) ?_
  refine ab_icmp_ge (tgt := 430) dX12_speak_398 (by decide) (fun c1 => ?_) (fun c1 => ?_)
  · refine ab_iinc (v := (a4 + 1)) dX12_speak_430 rfl (by rfl) (Nat.le_of_ble_eq_true rfl) (L2 := [some (.ref 205), some (.int a1), some (.int a2), some (.int a3), some (.int (a4 + 1)), none, none, some (.int a7), none, none]) rfl ?_
    refine ab_goto (tgt := 235) dX12_speak_433 (by decide) ?_
    refine ab_forget (i := 7) (L2 := [some (.ref 205), some (.int a1), some (.int a2), some (.int a3), some (.int (a4 + 1)), none, none, none, none, none]) rfl ?_
    exact (h.1 c1)
  · refine ab_aloadn dX12_speak_401 rfl ?_
    refine ab_getf (v := .ref 235) dX12_speak_402 fl_X12_99 kd_205 ff_205_47 ?_
    refine ab_sipush (v := 6561) dX12_speak_405 (by decide) ?_
    refine ab_iloadn dX12_speak_408 rfl ?_
    refine ab_imul dX12_speak_409 ?_
    refine ab_iconst (v := 3) dX12_speak_410 (by decide) ?_
    refine ab_iload dX12_speak_411 rfl ?_
    refine ab_imul dX12_speak_413 ?_
    refine ab_iadd dX12_speak_414 ?_
    refine ab_iload dX12_speak_415 rfl ?_
    refine ab_iadd dX12_speak_417 ?_
    refine ab_dup2 dX12_speak_418 rfl rfl ?_
    refine ab_iaload (v := (i 235 (((6561 * a2) + (3 * a4)) + a7).toNatClampNeg)) dX12_speak_419 kd_235 (h.2 c1).1 rfl ?_
    refine ab_bipush (v := 8) dX12_speak_420 (by decide) ?_
    refine ab_ior dX12_speak_422 ?_
    refine ab_iastore dX12_speak_423 kd_235 (h.2 c1).2.1 ?_
    obtain ⟨i2, e3⟩ : ∃ z, z = ab_u i 235 (((6561 * a2) + (3 * a4)) + a7).toNatClampNeg ((i 235 (((6561 * a2) + (3 * a4)) + a7).toNatClampNeg) ||| 8) := ⟨_, rfl⟩
    rw [show ab_u i 235 (((6561 * a2) + (3 * a4)) + a7).toNatClampNeg ((i 235 (((6561 * a2) + (3 * a4)) + a7).toNatClampNeg) ||| 8) = i2 from e3.symm]
    refine ab_iinc (v := (a7 + 1)) dX12_speak_424 rfl (by rfl) (Nat.le_of_ble_eq_true rfl) (L2 := [some (.ref 205), some (.int a1), some (.int a2), some (.int a3), some (.int a4), none, none, some (.int (a7 + 1)), none, none]) rfl ?_
    refine ab_goto (tgt := 395) dX12_speak_427 (by decide) ?_
    exact ((h.2 c1).2.2 i2 e3)
theorem tMX12_speak_439 {d : Nat} {Q : ab_Qt} {sc : Nat × (Nat → Int32)} {i : Nat → Nat → Int32} {l : Nat → Nat → Int64} {dd : Nat → Nat → Value} {x : Nat} {a1 : Int32} {a2 : Int32} {a3 : Int32} {a4 : Int32} 
    (h : (((i 205 31) ≤ a4 → ab_Fr MX12_speak (d + 1) Q 27 [some (.ref 205), some (.int (a1 * 3)), some (.int (a2 + 1)), none, none, none, none, none, none, none] [] (0, 0) (i, l, dd, x) (ab_E0 sc)) ∧ (¬ (i 205 31) ≤ a4 → (vp_in a4 2187 ∧ vp_in a4 2187 ∧ ∃ (r2 : Int32) (P3 : ab_S → Prop), ab_Sp MX12_sign d [.ref 205, .int a4, .int a3] (i, l, dd, x) (ab_E0 sc) (some (.int r2)) P3 ∧ ∀ i6 l7 dd8 x9, P3 (i6, l7, dd8, x9) → vp_in (((6561 * a2) + (3 * (i 233 a4.toNatClampNeg))) + r2) 45927 ∧ vp_in a4 2187 ∧ ∀ i11, i11 = ab_u i6 233 a4.toNatClampNeg ((3 * (i 233 a4.toNatClampNeg)) + ((i6 235 (((6561 * a2) + (3 * (i 233 a4.toNatClampNeg))) + r2).toNatClampNeg) &&& 7)) → ab_Fr MX12_speak (d + 1) Q 439 [some (.ref 205), some (.int a1), some (.int a2), some (.int a3), some (.int (a4 + 1)), none, none, none, none, none] [] (0, 0) (i11, l7, dd8, x9) (ab_E0 sc))))) :
    ab_Fr MX12_speak (d + 1) Q 439 [some (.ref 205), some (.int a1), some (.int a2), some (.int a3), some (.int a4), none, none, none, none, none] [] (0, 0) (i, l, dd, x) (ab_E0 sc) := by
  refine ab_iload dX12_speak_439 rfl ?_
  refine ab_aloadn dX12_speak_441 rfl ?_
  refine ab_getf (v := .int (i 205 31)) dX12_speak_442 fl_X12_309 kd_205 rfl ?_
  refine ab_icmp_ge (tgt := 502) dX12_speak_445 (by decide) (fun c1 => ?_) (fun c1 => ?_)
  · refine ab_iloadn dX12_speak_502 rfl ?_
    refine ab_iconst (v := 3) dX12_speak_503 (by decide) ?_
    refine ab_imul dX12_speak_504 ?_
    refine ab_istoren dX12_speak_505 (Nat.le_of_ble_eq_true rfl) (L2 := [some (.ref 205), some (.int (a1 * 3)), some (.int a2), some (.int a3), some (.int a4), none, none, none, none, none]) rfl ?_
    refine ab_iinc (v := (a2 + 1)) dX12_speak_506 rfl (by rfl) (Nat.le_of_ble_eq_true rfl) (L2 := [some (.ref 205), some (.int (a1 * 3)), some (.int (a2 + 1)), some (.int a3), some (.int a4), none, none, none, none, none]) rfl ?_
    refine ab_goto (tgt := 27) dX12_speak_509 (by decide) ?_
    refine ab_forget (i := 3) (L2 := [some (.ref 205), some (.int (a1 * 3)), some (.int (a2 + 1)), none, some (.int a4), none, none, none, none, none]) rfl ?_
    refine ab_forget (i := 4) (L2 := [some (.ref 205), some (.int (a1 * 3)), some (.int (a2 + 1)), none, none, none, none, none, none, none]) rfl ?_
    exact (h.1 c1)
  · refine ab_aloadn dX12_speak_448 rfl ?_
    refine ab_getf (v := .ref 233) dX12_speak_449 fl_X12_92 kd_205 ff_205_45 ?_
    refine ab_iload dX12_speak_452 rfl ?_
    refine ab_iconst (v := 3) dX12_speak_454 (by decide) ?_
    refine ab_aloadn dX12_speak_455 rfl ?_
    refine ab_getf (v := .ref 233) dX12_speak_456 fl_X12_92 kd_205 ff_205_45 ?_
    refine ab_iload dX12_speak_459 rfl ?_
    refine ab_iaload (v := (i 233 a4.toNatClampNeg)) dX12_speak_461 kd_233 (h.2 c1).1 rfl ?_
    refine ab_imul dX12_speak_462 ?_
    refine ab_aloadn dX12_speak_463 rfl ?_
    refine ab_getf (v := .ref 235) dX12_speak_464 fl_X12_99 kd_205 ff_205_47 ?_
    refine ab_sipush (v := 6561) dX12_speak_467 (by decide) ?_
    refine ab_iloadn dX12_speak_470 rfl ?_
    refine ab_imul dX12_speak_471 ?_
    refine ab_iconst (v := 3) dX12_speak_472 (by decide) ?_
    refine ab_aloadn dX12_speak_473 rfl ?_
    refine ab_getf (v := .ref 233) dX12_speak_474 fl_X12_92 kd_205 ff_205_45 ?_
    refine ab_iload dX12_speak_477 rfl ?_
    refine ab_iaload (v := (i 233 a4.toNatClampNeg)) dX12_speak_479 kd_233 (h.2 c1).2.1 rfl ?_
    refine ab_imul dX12_speak_480 ?_
    refine ab_iadd dX12_speak_481 ?_
    refine ab_aloadn dX12_speak_482 rfl ?_
    refine ab_iload dX12_speak_483 rfl ?_
    refine ab_iloadn dX12_speak_485 rfl ?_
    obtain ⟨r2, P3, hs4, hk5⟩ := (h.2 c1).2.2
    refine ab_callV (vs := [.int a4, .int a3]) (st := [.int ((6561 * a2) + (3 * (i 233 a4.toNatClampNeg))), .ref 235, .int (3 * (i 233 a4.toNatClampNeg)), .int a4, .ref 233]) dX12_speak_486 okMX12_sign wd_1516 kd_205 rfl rfl rfl (Nat.le_of_ble_eq_true rfl) ⟨Nat.le_of_ble_eq_true rfl, Nat.le_of_ble_eq_true rfl⟩ hs4 ?_
    rintro v9 ⟨i6, l7, dd8, x9⟩ E9 - ⟨rfl, rfl, hp10⟩
    show ab_Fr MX12_speak (d + 1) Q 489 [some (.ref 205), some (.int a1), some (.int a2), some (.int a3), some (.int a4), none, none, none, none, none] [.int r2, .int ((6561 * a2) + (3 * (i 233 a4.toNatClampNeg))), .ref 235, .int (3 * (i 233 a4.toNatClampNeg)), .int a4, .ref 233] (0, 0) (i6, l7, dd8, x9) (ab_E0 sc)
    refine ab_iadd dX12_speak_489 ?_
    refine ab_iaload (v := (i6 235 (((6561 * a2) + (3 * (i 233 a4.toNatClampNeg))) + r2).toNatClampNeg)) dX12_speak_490 kd_235 (hk5 i6 l7 dd8 x9 hp10).1 rfl ?_
    refine ab_bipush (v := 7) dX12_speak_491 (by decide) ?_
    refine ab_iand dX12_speak_493 ?_
    refine ab_iadd dX12_speak_494 ?_
    refine ab_iastore dX12_speak_495 kd_233 (hk5 i6 l7 dd8 x9 hp10).2.1 ?_
    obtain ⟨i11, e12⟩ : ∃ z, z = ab_u i6 233 a4.toNatClampNeg ((3 * (i 233 a4.toNatClampNeg)) + ((i6 235 (((6561 * a2) + (3 * (i 233 a4.toNatClampNeg))) + r2).toNatClampNeg) &&& 7)) := ⟨_, rfl⟩
    rw [show ab_u i6 233 a4.toNatClampNeg ((3 * (i 233 a4.toNatClampNeg)) + ((i6 235 (((6561 * a2) + (3 * (i 233 a4.toNatClampNeg))) + r2).toNatClampNeg) &&& 7)) = i11 from e12.symm]
    refine ab_iinc (v := (a4 + 1)) dX12_speak_496 rfl (by rfl) (Nat.le_of_ble_eq_true rfl) (L2 := [some (.ref 205), some (.int a1), some (.int a2), some (.int a3), some (.int (a4 + 1)), none, none, none, none, none]) rfl ?_
    refine ab_goto (tgt := 439) dX12_speak_499 (by decide) ?_
    exact ((hk5 i6 l7 dd8 x9 hp10).2.2 i11 e12)
theorem tMX12_speakRow_0 {d : Nat} {Q : ab_Qt} {sc : Nat × (Nat → Int32)} {i : Nat → Nat → Int32} {l : Nat → Nat → Int64} {dd : Nat → Nat → Value} {x : Nat} {a1 : Int32} 
    (h : ab_Fr MX12_speakRow (d + 1) Q 7 [some (.ref 205), some (.int a1), some (.int 0), some (.int 0), some (.int 0)] [] (0, 0) (i, l, dd, x) (ab_E0 sc)) :
    ab_Fr MX12_speakRow (d + 1) Q 0 [some (.ref 205), some (.int a1), none, none, none] [] (0, 0) (i, l, dd, x) (ab_E0 sc) := by
  refine ab_iconst (v := 0) dX12_speakRow_0 (by decide) ?_
  refine ab_istoren dX12_speakRow_1 (Nat.le_of_ble_eq_true rfl) (L2 := [some (.ref 205), some (.int a1), some (.int 0), none, none]) rfl ?_
  refine ab_iconst (v := 0) dX12_speakRow_2 (by decide) ?_
  refine ab_istoren dX12_speakRow_3 (Nat.le_of_ble_eq_true rfl) (L2 := [some (.ref 205), some (.int a1), some (.int 0), some (.int 0), none]) rfl ?_
  refine ab_iconst (v := 0) dX12_speakRow_4 (by decide) ?_
  refine ab_istore dX12_speakRow_5 (Nat.le_of_ble_eq_true rfl) (L2 := [some (.ref 205), some (.int a1), some (.int 0), some (.int 0), some (.int 0)]) rfl ?_
  exact h
theorem tMX12_speakRow_7 {d : Nat} {Q : ab_Qt} {sc : Nat × (Nat → Int32)} {i : Nat → Nat → Int32} {l : Nat → Nat → Int64} {dd : Nat → Nat → Value} {x : Nat} {a1 : Int32} {a2 : Int32} {a3 : Int32} {a4 : Int32} 
    (h : (((i 205 50) ≤ a4 → Q (some (some (.int a3))) (i, l, dd, x) (ab_E0 sc)) ∧ (¬ (i 205 50) ≤ a4 → (vp_in a4 7 ∧ ∃ (r2 : Int32) (P3 : ab_S → Prop), ab_Sp MX12_sign d [.ref 205, .int a1, .int (i 232 a4.toNatClampNeg)] (i, l, dd, x) (ab_E0 sc) (some (.int r2)) P3 ∧ ∀ i6 l7 dd8 x9, P3 (i6, l7, dd8, x9) → vp_in (((6561 * a4) + (3 * a2)) + r2) 45927 ∧ vp_in a4 21 ∧ ∀ i11, i11 = ab_u i6 234 a4.toNatClampNeg (i6 235 (((6561 * a4) + (3 * a2)) + r2).toNatClampNeg) → vp_in a4 21 ∧ ab_Fr MX12_speakRow (d + 1) Q 7 [some (.ref 205), some (.int a1), some (.int ((3 * a2) + ((i11 234 a4.toNatClampNeg) &&& 7))), some (.int ((i11 234 a4.toNatClampNeg) &&& 7)), some (.int (a4 + 1))] [] (0, 0) (i11, l7, dd8, x9) (ab_E0 sc))))) :
    ab_Fr MX12_speakRow (d + 1) Q 7 [some (.ref 205), some (.int a1), some (.int a2), some (.int a3), some (.int a4)] [] (0, 0) (i, l, dd, x) (ab_E0 sc) := by
  refine ab_iload dX12_speakRow_7 rfl ?_
  refine ab_aloadn dX12_speakRow_9 rfl ?_
  refine ab_getf (v := .int (i 205 50)) dX12_speakRow_10 fl_X12_399 kd_205 rfl ?_
  refine ab_icmp_ge (tgt := 74) dX12_speakRow_13 (by decide) (fun c1 => ?_) (fun c1 => ?_)
  · refine ab_iloadn dX12_speakRow_74 rfl ?_
    exact ab_iret dX12_speakRow_75 rfl ⟨Nat.zero_le _, Nat.zero_le _⟩ (h.1 c1)
  · refine ab_aloadn dX12_speakRow_16 rfl ?_
    refine ab_getf (v := .ref 234) dX12_speakRow_17 fl_X12_95 kd_205 ff_205_46 ?_
    refine ab_iload dX12_speakRow_20 rfl ?_
    refine ab_aloadn dX12_speakRow_22 rfl ?_
    refine ab_getf (v := .ref 235) dX12_speakRow_23 fl_X12_99 kd_205 ff_205_47 ?_
    refine ab_sipush (v := 6561) dX12_speakRow_26 (by decide) ?_
    refine ab_iload dX12_speakRow_29 rfl ?_
    refine ab_imul dX12_speakRow_31 ?_
    refine ab_iconst (v := 3) dX12_speakRow_32 (by decide) ?_
    refine ab_iloadn dX12_speakRow_33 rfl ?_
    refine ab_imul dX12_speakRow_34 ?_
    refine ab_iadd dX12_speakRow_35 ?_
    refine ab_aloadn dX12_speakRow_36 rfl ?_
    refine ab_iloadn dX12_speakRow_37 rfl ?_
    refine ab_aloadn dX12_speakRow_38 rfl ?_
    refine ab_getf (v := .ref 232) dX12_speakRow_39 fl_X12_89 kd_205 ff_205_44 ?_
    refine ab_iload dX12_speakRow_42 rfl ?_
    refine ab_iaload (v := (i 232 a4.toNatClampNeg)) dX12_speakRow_44 kd_232 (h.2 c1).1 rfl ?_
    obtain ⟨r2, P3, hs4, hk5⟩ := (h.2 c1).2
    refine ab_callV (vs := [.int a1, .int (i 232 a4.toNatClampNeg)]) (st := [.int ((6561 * a4) + (3 * a2)), .ref 235, .int a4, .ref 234]) dX12_speakRow_45 okMX12_sign wd_1516 kd_205 rfl rfl rfl (Nat.le_of_ble_eq_true rfl) ⟨Nat.le_of_ble_eq_true rfl, Nat.le_of_ble_eq_true rfl⟩ hs4 ?_
    rintro v9 ⟨i6, l7, dd8, x9⟩ E9 - ⟨rfl, rfl, hp10⟩
    show ab_Fr MX12_speakRow (d + 1) Q 48 [some (.ref 205), some (.int a1), some (.int a2), some (.int a3), some (.int a4)] [.int r2, .int ((6561 * a4) + (3 * a2)), .ref 235, .int a4, .ref 234] (0, 0) (i6, l7, dd8, x9) (ab_E0 sc)
    refine ab_iadd dX12_speakRow_48 ?_
    refine ab_iaload (v := (i6 235 (((6561 * a4) + (3 * a2)) + r2).toNatClampNeg)) dX12_speakRow_49 kd_235 (hk5 i6 l7 dd8 x9 hp10).1 rfl ?_
    refine ab_iastore dX12_speakRow_50 kd_234 (hk5 i6 l7 dd8 x9 hp10).2.1 ?_
    obtain ⟨i11, e12⟩ : ∃ z, z = ab_u i6 234 a4.toNatClampNeg (i6 235 (((6561 * a4) + (3 * a2)) + r2).toNatClampNeg) := ⟨_, rfl⟩
    rw [show ab_u i6 234 a4.toNatClampNeg (i6 235 (((6561 * a4) + (3 * a2)) + r2).toNatClampNeg) = i11 from e12.symm]
    refine ab_aloadn dX12_speakRow_51 rfl ?_
    refine ab_getf (v := .ref 234) dX12_speakRow_52 fl_X12_95 kd_205 ff_205_46 ?_
    refine ab_iload dX12_speakRow_55 rfl ?_
    refine ab_iaload (v := (i11 234 a4.toNatClampNeg)) dX12_speakRow_57 kd_234 ((hk5 i6 l7 dd8 x9 hp10).2.2 i11 e12).1 rfl ?_
    refine ab_bipush (v := 7) dX12_speakRow_58 (by decide) ?_
    refine ab_iand dX12_speakRow_60 ?_
    refine ab_istoren dX12_speakRow_61 (Nat.le_of_ble_eq_true rfl) (L2 := [some (.ref 205), some (.int a1), some (.int a2), some (.int ((i11 234 a4.toNatClampNeg) &&& 7)), some (.int a4)]) rfl ?_
    refine ab_iconst (v := 3) dX12_speakRow_62 (by decide) ?_
    refine ab_iloadn dX12_speakRow_63 rfl ?_
    refine ab_imul dX12_speakRow_64 ?_
    refine ab_iloadn dX12_speakRow_65 rfl ?_
    refine ab_iadd dX12_speakRow_66 ?_
    refine ab_istoren dX12_speakRow_67 (Nat.le_of_ble_eq_true rfl) (L2 := [some (.ref 205), some (.int a1), some (.int ((3 * a2) + ((i11 234 a4.toNatClampNeg) &&& 7))), some (.int ((i11 234 a4.toNatClampNeg) &&& 7)), some (.int a4)]) rfl ?_
    refine ab_iinc (v := (a4 + 1)) dX12_speakRow_68 rfl (by rfl) (Nat.le_of_ble_eq_true rfl) (L2 := [some (.ref 205), some (.int a1), some (.int ((3 * a2) + ((i11 234 a4.toNatClampNeg) &&& 7))), some (.int ((i11 234 a4.toNatClampNeg) &&& 7)), some (.int (a4 + 1))]) rfl ?_
    refine ab_goto (tgt := 7) dX12_speakRow_71 (by decide) ?_
    exact ((hk5 i6 l7 dd8 x9 hp10).2.2 i11 e12).2
theorem tMX12_cliffOfSaid_0 {d : Nat} {Q : ab_Qt} {sc : Nat × (Nat → Int32)} {i : Nat → Nat → Int32} {l : Nat → Nat → Int64} {dd : Nat → Nat → Value} {x : Nat} {a1 : Int32} 
    (h : ab_Fr MX12_cliffOfSaid (d + 1) Q 2 [some (.ref 205), some (.int a1), some (.int a1)] [] (0, 0) (i, l, dd, x) (ab_E0 sc)) :
    ab_Fr MX12_cliffOfSaid (d + 1) Q 0 [some (.ref 205), some (.int a1), none] [] (0, 0) (i, l, dd, x) (ab_E0 sc) := by
  refine ab_iloadn dX12_cliffOfSaid_0 rfl ?_
  refine ab_istoren dX12_cliffOfSaid_1 (Nat.le_of_ble_eq_true rfl) (L2 := [some (.ref 205), some (.int a1), some (.int a1)]) rfl ?_
  exact h
theorem tMX12_cliffOfSaid_2 {d : Nat} {Q : ab_Qt} {sc : Nat × (Nat → Int32)} {i : Nat → Nat → Int32} {l : Nat → Nat → Int64} {dd : Nat → Nat → Value} {x : Nat} {a1 : Int32} {a2 : Int32} 
    (h : ((a2 ≤ 0 → ab_Fr MX12_cliffOfSaid (d + 1) Q 25 [none, some (.int a1), some (.int a2)] [] (0, 0) (i, l, dd, x) (ab_E0 sc)) ∧ (¬ a2 ≤ 0 → (vp_in (a2 - 1) 21 ∧ ((8 ≤ (i 234 (a2 - 1).toNatClampNeg) → ab_Fr MX12_cliffOfSaid (d + 1) Q 25 [none, some (.int a1), some (.int a2)] [] (0, 0) (i, l, dd, x) (ab_E0 sc)) ∧ (¬ 8 ≤ (i 234 (a2 - 1).toNatClampNeg) → ab_Fr MX12_cliffOfSaid (d + 1) Q 2 [some (.ref 205), some (.int a1), some (.int (a2 + (-1)))] [] (0, 0) (i, l, dd, x) (ab_E0 sc))))))) :
    ab_Fr MX12_cliffOfSaid (d + 1) Q 2 [some (.ref 205), some (.int a1), some (.int a2)] [] (0, 0) (i, l, dd, x) (ab_E0 sc) := by
  refine ab_iloadn dX12_cliffOfSaid_2 rfl ?_
  refine ab_if_le (tgt := 25) dX12_cliffOfSaid_3 (by decide) (fun c1 => ?_) (fun c1 => ?_)
  · refine ab_forget (i := 0) (L2 := [none, some (.int a1), some (.int a2)]) rfl ?_
    exact (h.1 c1)
  · refine ab_aloadn dX12_cliffOfSaid_6 rfl ?_
    refine ab_getf (v := .ref 234) dX12_cliffOfSaid_7 fl_X12_95 kd_205 ff_205_46 ?_
    refine ab_iloadn dX12_cliffOfSaid_10 rfl ?_
    refine ab_iconst (v := 1) dX12_cliffOfSaid_11 (by decide) ?_
    refine ab_isub dX12_cliffOfSaid_12 ?_
    refine ab_iaload (v := (i 234 (a2 - 1).toNatClampNeg)) dX12_cliffOfSaid_13 kd_234 (h.2 c1).1 rfl ?_
    refine ab_bipush (v := 8) dX12_cliffOfSaid_14 (by decide) ?_
    refine ab_icmp_ge (tgt := 25) dX12_cliffOfSaid_16 (by decide) (fun c2 => ?_) (fun c2 => ?_)
    · refine ab_forget (i := 0) (L2 := [none, some (.int a1), some (.int a2)]) rfl ?_
      exact ((h.2 c1).2.1 c2)
    · refine ab_iinc (v := (a2 + (-1))) dX12_cliffOfSaid_19 rfl (by rfl) (Nat.le_of_ble_eq_true rfl) (L2 := [some (.ref 205), some (.int a1), some (.int (a2 + (-1)))]) rfl ?_
      refine ab_goto (tgt := 2) dX12_cliffOfSaid_22 (by decide) ?_
      exact ((h.2 c1).2.2 c2)
theorem tMX12_cliffOfSaid_25 {d : Nat} {Q : ab_Qt} {sc : Nat × (Nat → Int32)} {i : Nat → Nat → Int32} {l : Nat → Nat → Int64} {dd : Nat → Nat → Value} {x : Nat} {a1 : Int32} {a2 : Int32} 
    (h : ((¬ a2 = a1 → Q (some (some (.int a2))) (i, l, dd, x) (ab_E0 sc)) ∧ (a2 = a1 → Q (some (some (.int (-1)))) (i, l, dd, x) (ab_E0 sc)))) :
    ab_Fr MX12_cliffOfSaid (d + 1) Q 25 [none, some (.int a1), some (.int a2)] [] (0, 0) (i, l, dd, x) (ab_E0 sc) := by
  refine ab_iloadn dX12_cliffOfSaid_25 rfl ?_
  refine ab_iloadn dX12_cliffOfSaid_26 rfl ?_
  refine ab_icmp_ne (tgt := 34) dX12_cliffOfSaid_27 (by decide) (fun c1 => ?_) (fun c1 => ?_)
  · refine ab_iloadn dX12_cliffOfSaid_34 rfl ?_
    exact ab_iret dX12_cliffOfSaid_35 rfl ⟨Nat.zero_le _, Nat.zero_le _⟩ (h.1 c1)
  · refine ab_iconst (v := (-1)) dX12_cliffOfSaid_30 (by decide) ?_
    refine ab_goto (tgt := 35) dX12_cliffOfSaid_31 (by decide) ?_
    exact ab_iret dX12_cliffOfSaid_35 rfl ⟨Nat.zero_le _, Nat.zero_le _⟩ (h.2 c1)
