theorem tMX11_feed_0 {d : Nat} {Q : ab_Qt} {sc : Nat × (Nat → Int32)} {i : Nat → Nat → Int32} {l : Nat → Nat → Int64} {dd : Nat → Nat → Value} {x : Nat} {a1 : Int32} {a2 : Int32} {a3 : Int32} {a4 : Int32} {a5 : Int32} 
    (h : (∃ (r1 : Int32) (P2 : ab_S → Prop), ab_Sp MX7_take d [.ref 4, .int a1, .int a2, .int a3, .int a4, .int a5] (i, l, dd, x) (ab_E0 sc) (some (.int r1)) P2 ∧ ∀ i5 l6 dd7 x8, P2 (i5, l6, dd7, x8) → Q (some (some (.int r1))) (i5, l6, dd7, x8) (ab_E0 sc))) :
    ab_Fr MX11_feed (d + 1) Q 0 [some (.ref 3), some (.int a1), some (.int a2), some (.int a3), some (.int a4), some (.int a5)] [] (0, 0) (i, l, dd, x) (ab_E0 sc) := by
  refine ab_aloadn dX11_feed_0 rfl ?_
  refine ab_getf (v := .ref 4) dX11_feed_1 fl_X11_10 kd_3 ff_3_0 ?_
  refine ab_iloadn dX11_feed_4 rfl ?_
  refine ab_iloadn dX11_feed_5 rfl ?_
  refine ab_iloadn dX11_feed_6 rfl ?_
  refine ab_iload dX11_feed_7 rfl ?_
  refine ab_iload dX11_feed_9 rfl ?_
  obtain ⟨r1, P2, hs3, hk4⟩ := h
  refine ab_callV (vs := [.int a1, .int a2, .int a3, .int a4, .int a5]) (st := []) dX11_feed_11 okMX7_take wd_526 kd_4 rfl rfl rfl (Nat.le_of_ble_eq_true rfl) ⟨Nat.le_of_ble_eq_true rfl, Nat.le_of_ble_eq_true rfl⟩ hs3 ?_
  rintro v9 ⟨i5, l6, dd7, x8⟩ E9 - ⟨rfl, rfl, hp9⟩
  show ab_Fr MX11_feed (d + 1) Q 14 [some (.ref 3), some (.int a1), some (.int a2), some (.int a3), some (.int a4), some (.int a5)] [.int r1] (0, 0) (i5, l6, dd7, x8) (ab_E0 sc)
  exact ab_iret dX11_feed_14 rfl ⟨Nat.zero_le _, Nat.zero_le _⟩ (hk4 i5 l6 dd7 x8 hp9)
theorem tMX11_end_0 {d : Nat} {Q : ab_Qt} {sc : Nat × (Nat → Int32)} {i : Nat → Nat → Int32} {l : Nat → Nat → Int64} {dd : Nat → Nat → Value} {x : Nat} {a1 : Int32} 
    (h : (∃ (r1 : Int32) (P2 : ab_S → Prop), ab_Sp MX7_cut d [.ref 4, .int a1] (i, l, dd, x) (ab_E0 sc) (some (.int r1)) P2 ∧ ∀ i5 l6 dd7 x8, P2 (i5, l6, dd7, x8) → (r1 = 0 ∨ r1 = 1) ∧ Q (some (some (.int r1))) (i5, l6, dd7, x8) (ab_E0 sc))) :
    ab_Fr MX11_end (d + 1) Q 0 [some (.ref 3), some (.int a1)] [] (0, 0) (i, l, dd, x) (ab_E0 sc) := by
  refine ab_aloadn dX11_end_0 rfl ?_
  refine ab_getf (v := .ref 4) dX11_end_1 fl_X11_10 kd_3 ff_3_0 ?_
  refine ab_iloadn dX11_end_4 rfl ?_
  obtain ⟨r1, P2, hs3, hk4⟩ := h
  refine ab_callV (vs := [.int a1]) (st := []) dX11_end_5 okMX7_cut wd_537 kd_4 rfl rfl rfl (Nat.le_of_ble_eq_true rfl) ⟨Nat.le_of_ble_eq_true rfl, Nat.le_of_ble_eq_true rfl⟩ hs3 ?_
  rintro v9 ⟨i5, l6, dd7, x8⟩ E9 - ⟨rfl, rfl, hp9⟩
  show ab_Fr MX11_end (d + 1) Q 8 [some (.ref 3), some (.int a1)] [.int r1] (0, 0) (i5, l6, dd7, x8) (ab_E0 sc)
  exact ab_zret dX11_end_8 rfl (hk4 i5 l6 dd7 x8 hp9).1 ⟨Nat.zero_le _, Nat.zero_le _⟩ (hk4 i5 l6 dd7 x8 hp9).2
theorem tMX11_matter_0 {d : Nat} {Q : ab_Qt} {sc : Nat × (Nat → Int32)} {i : Nat → Nat → Int32} {l : Nat → Nat → Int64} {dd : Nat → Nat → Value} {x : Nat}  
    (h : (∃ (r1 : Nat) (P2 : ab_S → Prop), ab_isM r1 ∧ ab_Sp MX11_spareMatter d [.ref 3] (i, l, dd, x) (ab_E0 sc) (some (.ref r1)) P2 ∧ ∀ i5 l6 dd7 x8, P2 (i5, l6, dd7, x8) → ∃ (r10 : Int32) (P11 : ab_S → Prop), ab_Sp MX2_read d [.ref 157, .ref r1] (i5, l6, dd7, x8) (ab_E0 sc) (some (.int r10)) P11 ∧ ∀ i14 l15 dd16 x17, P11 (i14, l15, dd16, x17) → ((r10 < 0 → ab_Fr MX11_matter (d + 1) Q 27 [some (.ref 3), none, some (.int r10)] [] (0, 0) (i14, l15, dd16, x17) (ab_E0 sc)) ∧ (¬ r10 < 0 → (∃ (P21 : ab_S → Prop), ab_Sp MX1_finish d [.ref r1] (i14, l15, dd16, x17) (ab_E0 sc) (none) P21 ∧ ∀ i24 l25 dd26 x27, P21 (i24, l25, dd26, x27) → ∀ dd29, dd29 = ab_u dd26 3 11 (.ref r1) → ab_Fr MX11_matter (d + 1) Q 27 [some (.ref 3), none, some (.int r10)] [] (0, 0) (i24, l25, dd29, x27) (ab_E0 sc)))))) :
    ab_Fr MX11_matter (d + 1) Q 0 [some (.ref 3), none, none] [] (0, 0) (i, l, dd, x) (ab_E0 sc) := by
  refine ab_aloadn dX11_matter_0 rfl ?_
  obtain ⟨r1, P2, hs3q, hs3, hk4⟩ := h
  refine ab_callV (vs := []) (st := []) dX11_matter_1 okMX11_spareMatter wd_545 kd_3 rfl rfl rfl (Nat.le_of_ble_eq_true rfl) ⟨Nat.le_of_ble_eq_true rfl, Nat.le_of_ble_eq_true rfl⟩ hs3 ?_
  rintro v9 ⟨i5, l6, dd7, x8⟩ E9 - ⟨rfl, rfl, hp9⟩
  show ab_Fr MX11_matter (d + 1) Q 4 [some (.ref 3), none, none] [.ref r1] (0, 0) (i5, l6, dd7, x8) (ab_E0 sc)
  refine ab_astoren dX11_matter_4 (Nat.le_of_ble_eq_true rfl) (L2 := [some (.ref 3), some (.ref r1), none]) rfl ?_
  refine ab_aloadn dX11_matter_5 rfl ?_
  refine ab_getf (v := .ref 157) dX11_matter_6 fl_X11_32 kd_3 ff_3_2 ?_
  refine ab_aloadn dX11_matter_9 rfl ?_
  obtain ⟨r10, P11, hs12, hk13⟩ := (hk4 i5 l6 dd7 x8 hp9)
  refine ab_callV (vs := [.ref r1]) (st := []) dX11_matter_10 okMX2_read wd_548 kd_157 rfl rfl rfl (Nat.le_of_ble_eq_true rfl) ⟨Nat.le_of_ble_eq_true rfl, Nat.le_of_ble_eq_true rfl⟩ hs12 ?_
  rintro v9 ⟨i14, l15, dd16, x17⟩ E9 - ⟨rfl, rfl, hp18⟩
  show ab_Fr MX11_matter (d + 1) Q 13 [some (.ref 3), some (.ref r1), none] [.int r10] (0, 0) (i14, l15, dd16, x17) (ab_E0 sc)
  refine ab_istoren dX11_matter_13 (Nat.le_of_ble_eq_true rfl) (L2 := [some (.ref 3), some (.ref r1), some (.int r10)]) rfl ?_
  refine ab_iloadn dX11_matter_14 rfl ?_
  refine ab_if_lt (tgt := 27) dX11_matter_15 (by decide) (fun c19 => ?_) (fun c19 => ?_)
  · refine ab_forget (i := 1) (L2 := [some (.ref 3), none, some (.int r10)]) rfl ?_
    exact ((hk13 i14 l15 dd16 x17 hp18).1 c19)
  · refine ab_aloadn dX11_matter_18 rfl ?_
    obtain ⟨P21, hs22, hk23⟩ := ((hk13 i14 l15 dd16 x17 hp18).2 c19)
    refine ab_callV (vs := []) (st := []) dX11_matter_19 okMX1_finish wd_629 (kM hs3q) rfl rfl rfl (Nat.le_of_ble_eq_true rfl) ⟨Nat.le_of_ble_eq_true rfl, Nat.le_of_ble_eq_true rfl⟩ hs22 ?_
    rintro v9 ⟨i24, l25, dd26, x27⟩ E9 - ⟨rfl, rfl, hp28⟩
    show ab_Fr MX11_matter (d + 1) Q 22 [some (.ref 3), some (.ref r1), some (.int r10)] [] (0, 0) (i24, l25, dd26, x27) (ab_E0 sc)
    refine ab_aloadn dX11_matter_22 rfl ?_
    refine ab_aloadn dX11_matter_23 rfl ?_
    refine ab_putR dX11_matter_24 fl_X11_23 kd_3 rfl ?_
    obtain ⟨dd29, e30⟩ : ∃ z, z = ab_u dd26 3 11 (.ref r1) := ⟨_, rfl⟩
    show ab_Fr MX11_matter (d + 1) Q 27 [some (.ref 3), some (.ref r1), some (.int r10)] [] (0, 0) (i24, l25, ab_u dd26 3 11 (.ref r1), x27) (ab_E0 sc)
    rw [show ab_u dd26 3 11 (.ref r1) = dd29 from e30.symm]
    refine ab_forget (i := 1) (L2 := [some (.ref 3), none, some (.int r10)]) rfl ?_
    exact ((hk23 i24 l25 dd26 x27 hp28) dd29 e30)
theorem tMX11_matter_27 {d : Nat} {Q : ab_Qt} {sc : Nat × (Nat → Int32)} {i : Nat → Nat → Int32} {l : Nat → Nat → Int64} {dd : Nat → Nat → Value} {x : Nat} {a2 : Int32} 
    (h : (∃ (P2 : ab_S → Prop), ab_Sp MX7_clear d [.ref 4] (i, l, dd, x) (ab_E0 sc) (none) P2 ∧ ∀ i5 l6 dd7 x8, P2 (i5, l6, dd7, x8) → Q (some (some (.int a2))) (i5, l6, dd7, x8) (ab_E0 sc))) :
    ab_Fr MX11_matter (d + 1) Q 27 [some (.ref 3), none, some (.int a2)] [] (0, 0) (i, l, dd, x) (ab_E0 sc) := by
  refine ab_aloadn dX11_matter_27 rfl ?_
  refine ab_getf (v := .ref 4) dX11_matter_28 fl_X11_10 kd_3 ff_3_0 ?_
  obtain ⟨P2, hs3, hk4⟩ := h
  refine ab_callV (vs := []) (st := []) dX11_matter_31 okMX7_clear wd_659 kd_4 rfl rfl rfl (Nat.le_of_ble_eq_true rfl) ⟨Nat.le_of_ble_eq_true rfl, Nat.le_of_ble_eq_true rfl⟩ hs3 ?_
  rintro v9 ⟨i5, l6, dd7, x8⟩ E9 - ⟨rfl, rfl, hp9⟩
  show ab_Fr MX11_matter (d + 1) Q 34 [some (.ref 3), none, some (.int a2)] [] (0, 0) (i5, l6, dd7, x8) (ab_E0 sc)
  refine ab_iloadn dX11_matter_34 rfl ?_
  exact ab_iret dX11_matter_35 rfl ⟨Nat.zero_le _, Nat.zero_le _⟩ (hk4 i5 l6 dd7 x8 hp9)
theorem tMX11_spareMatter_0 {d : Nat} {Q : ab_Qt} {sc : Nat × (Nat → Int32)} {i : Nat → Nat → Int32} {l : Nat → Nat → Int64} {dd : Nat → Nat → Value} {x : Nat}  
    (h : ab_Fr MX11_spareMatter (d + 1) Q 2 [some (.ref 3), some (.int 0)] [] (0, 0) (i, l, dd, x) (ab_E0 sc)) :
    ab_Fr MX11_spareMatter (d + 1) Q 0 [some (.ref 3), none] [] (0, 0) (i, l, dd, x) (ab_E0 sc) := by
  refine ab_iconst (v := 0) dX11_spareMatter_0 (by decide) ?_
  refine ab_istoren dX11_spareMatter_1 (Nat.le_of_ble_eq_true rfl) (L2 := [some (.ref 3), some (.int 0)]) rfl ?_
  exact h
theorem tMX11_spareMatter_2 {d : Nat} {Q : ab_Qt} {sc : Nat × (Nat → Int32)} {i : Nat → Nat → Int32} {l : Nat → Nat → Int64} {dd : Nat → Nat → Value} {x : Nat} {a1 : Int32} 
    (h : ((2 ≤ a1 → Q (some (some (.ref (7 + 50 * 2)))) (i, l, dd, x) (ab_E0 sc)) ∧ (¬ 2 ≤ a1 → (vp_in a1 3 ∧ ∃ m2, dd 3 11 = .ref m2 ∧ ab_isM m2 ∧ (((7 + 50 * a1.toNatClampNeg) = m2 → ab_Fr MX11_spareMatter (d + 1) Q 2 [some (.ref 3), some (.int (a1 + 1))] [] (0, 0) (i, l, dd, x) (ab_E0 sc)) ∧ (¬ (7 + 50 * a1.toNatClampNeg) = m2 → (vp_in a1 3 ∧ ∃ m5, dd 179 0 = .ref m5 ∧ ab_isM m5 ∧ (((7 + 50 * a1.toNatClampNeg) = m5 → ab_Fr MX11_spareMatter (d + 1) Q 2 [some (.ref 3), some (.int (a1 + 1))] [] (0, 0) (i, l, dd, x) (ab_E0 sc)) ∧ (¬ (7 + 50 * a1.toNatClampNeg) = m5 → (vp_in a1 3 ∧ Q (some (some (.ref (7 + 50 * a1.toNatClampNeg)))) (i, l, dd, x) (ab_E0 sc))))))))))) :
    ab_Fr MX11_spareMatter (d + 1) Q 2 [some (.ref 3), some (.int a1)] [] (0, 0) (i, l, dd, x) (ab_E0 sc) := by
  refine ab_iloadn dX11_spareMatter_2 rfl ?_
  refine ab_iconst (v := 2) dX11_spareMatter_3 (by decide) ?_
  refine ab_icmp_ge (tgt := 49) dX11_spareMatter_4 (by decide) (fun c1 => ?_) (fun c1 => ?_)
  · refine ab_aloadn dX11_spareMatter_49 rfl ?_
    refine ab_getf (v := .ref 6) dX11_spareMatter_50 fl_X11_18 kd_3 ff_3_1 ?_
    refine ab_iconst (v := 2) dX11_spareMatter_53 (by decide) ?_
    refine ab_aaload (a := (7 + 50 * 2)) dX11_spareMatter_54 (Or.inr rfl) kd_6 (ab_vp (by decide)) (fPool (ab_vp (by decide))) ?_
    exact ab_aret dX11_spareMatter_55 rfl ⟨Nat.zero_le _, Nat.zero_le _⟩ (h.1 c1)
  · refine ab_aloadn dX11_spareMatter_7 rfl ?_
    refine ab_getf (v := .ref 6) dX11_spareMatter_8 fl_X11_18 kd_3 ff_3_1 ?_
    refine ab_iloadn dX11_spareMatter_11 rfl ?_
    refine ab_aaload (a := (7 + 50 * a1.toNatClampNeg)) dX11_spareMatter_12 (Or.inr rfl) kd_6 (h.2 c1).1 (fPool (h.2 c1).1) ?_
    refine ab_aloadn dX11_spareMatter_13 rfl ?_
    obtain ⟨m2, hm3d, hm3, hm3t⟩ := (h.2 c1).2
    refine ab_getf (v := .ref m2) dX11_spareMatter_14 fl_X11_23 kd_3 hm3d ?_
    refine ab_acmpeq (tgt := 43) (x := (7 + 50 * a1.toNatClampNeg)) (y := m2) dX11_spareMatter_17 (by decide) (isM3 (isMof (h.2 c1).1)) (isM3 hm3) (fun c4 => ?_) (fun c4 => ?_)
    · refine ab_iinc (v := (a1 + 1)) dX11_spareMatter_43 rfl (by rfl) (Nat.le_of_ble_eq_true rfl) (L2 := [some (.ref 3), some (.int (a1 + 1))]) rfl ?_
      refine ab_goto (tgt := 2) dX11_spareMatter_46 (by decide) ?_
      exact (hm3t.1 c4)
    · refine ab_aloadn dX11_spareMatter_20 rfl ?_
      refine ab_getf (v := .ref 6) dX11_spareMatter_21 fl_X11_18 kd_3 ff_3_1 ?_
      refine ab_iloadn dX11_spareMatter_24 rfl ?_
      refine ab_aaload (a := (7 + 50 * a1.toNatClampNeg)) dX11_spareMatter_25 (Or.inr rfl) kd_6 (hm3t.2 c4).1 (fPool (hm3t.2 c4).1) ?_
      refine ab_aloadn dX11_spareMatter_26 rfl ?_
      refine ab_getf (v := .ref 179) dX11_spareMatter_27 fl_X11_57 kd_3 ff_3_5 ?_
      obtain ⟨m5, hm6d, hm6, hm6t⟩ := (hm3t.2 c4).2
      refine ab_getf (v := .ref m5) dX11_spareMatter_30 fl_X11_329 (kT isT_179) hm6d ?_
      refine ab_acmpeq (tgt := 43) (x := (7 + 50 * a1.toNatClampNeg)) (y := m5) dX11_spareMatter_33 (by decide) (isM3 (isMof (hm3t.2 c4).1)) (isM3 hm6) (fun c7 => ?_) (fun c7 => ?_)
      · refine ab_iinc (v := (a1 + 1)) dX11_spareMatter_43 rfl (by rfl) (Nat.le_of_ble_eq_true rfl) (L2 := [some (.ref 3), some (.int (a1 + 1))]) rfl ?_
        refine ab_goto (tgt := 2) dX11_spareMatter_46 (by decide) ?_
        exact (hm6t.1 c7)
      · refine ab_aloadn dX11_spareMatter_36 rfl ?_
        refine ab_getf (v := .ref 6) dX11_spareMatter_37 fl_X11_18 kd_3 ff_3_1 ?_
        refine ab_iloadn dX11_spareMatter_40 rfl ?_
        refine ab_aaload (a := (7 + 50 * a1.toNatClampNeg)) dX11_spareMatter_41 (Or.inr rfl) kd_6 (hm6t.2 c7).1 (fPool (hm6t.2 c7).1) ?_
        exact ab_aret dX11_spareMatter_42 rfl ⟨Nat.zero_le _, Nat.zero_le _⟩ (hm6t.2 c7).2
theorem tMX11_fault_0 {d : Nat} {Q : ab_Qt} {sc : Nat × (Nat → Int32)} {i : Nat → Nat → Int32} {l : Nat → Nat → Int64} {dd : Nat → Nat → Value} {x : Nat}  
    (h : Q (some (some (.int (i 157 0)))) (i, l, dd, x) (ab_E0 sc)) :
    ab_Fr MX11_fault (d + 1) Q 0 [some (.ref 3)] [] (0, 0) (i, l, dd, x) (ab_E0 sc) := by
  refine ab_aloadn dX11_fault_0 rfl ?_
  refine ab_getf (v := .ref 157) dX11_fault_1 fl_X11_32 kd_3 ff_3_2 ?_
  refine ab_getf (v := .int (i 157 0)) dX11_fault_4 fl_X11_113 kd_157 rfl ?_
  exact ab_iret dX11_fault_7 rfl ⟨Nat.zero_le _, Nat.zero_le _⟩ h
theorem tMX11_count_0 {d : Nat} {Q : ab_Qt} {sc : Nat × (Nat → Int32)} {i : Nat → Nat → Int32} {l : Nat → Nat → Int64} {dd : Nat → Nat → Value} {x : Nat} {a1 : Int32} 
    (h : ((a1.toInt < 0 ∨ 2 < a1.toInt → Q (some (some (.int (-1)))) (i, l, dd, x) (ab_E0 sc)) ∧ (a1.toInt = 0 → (∃ m2, dd 3 11 = .ref m2 ∧ ab_isM m2 ∧ Q (some (some (.int (i m2 0)))) (i, l, dd, x) (ab_E0 sc))) ∧ (a1.toInt = 1 → (∃ m4, dd 3 11 = .ref m4 ∧ ab_isM m4 ∧ Q (some (some (.int (i m4 1)))) (i, l, dd, x) (ab_E0 sc))) ∧ (a1.toInt = 2 → Q (some (some (.int (i 4 1)))) (i, l, dd, x) (ab_E0 sc)))) :
    ab_Fr MX11_count (d + 1) Q 0 [some (.ref 3), some (.int a1)] [] (0, 0) (i, l, dd, x) (ab_E0 sc) := by
  refine ab_iloadn dX11_count_0 rfl ?_
  rcases ab_tabsplit a1 0 3 with c1 | ⟨q, hq, c1⟩
  · refine ab_tabOut (tgt := 52) dX11_count_1 (by simpa using c1) (by decide) ?_
    refine ab_iconst (v := (-1)) dX11_count_52 (by decide) ?_
    exact ab_iret dX11_count_53 rfl ⟨Nat.zero_le _, Nat.zero_le _⟩ (h.1 c1)
  · match q, hq with
    | 0, _ =>
        have c1 : a1.toInt = 0 := by simpa using c1
        refine ab_tabIn (tgt := 28) dX11_count_1 (by rw [c1]; decide) (by rw [c1]; decide) (off := 27) (by rw [c1]; rfl) (by decide) ?_
        refine ab_aloadn dX11_count_28 rfl ?_
        obtain ⟨m2, hm3d, hm3, hm3t⟩ := (h.2.1 c1)
        refine ab_getf (v := .ref m2) dX11_count_29 fl_X11_23 kd_3 hm3d ?_
        refine ab_getf (v := .int (i m2 0)) dX11_count_32 fl_X11_117 (kM hm3) rfl ?_
        exact ab_iret dX11_count_35 rfl ⟨Nat.zero_le _, Nat.zero_le _⟩ hm3t
    | 1, _ =>
        have c1 : a1.toInt = 1 := by simpa using c1
        refine ab_tabIn (tgt := 36) dX11_count_1 (by rw [c1]; decide) (by rw [c1]; decide) (off := 35) (by rw [c1]; rfl) (by decide) ?_
        refine ab_aloadn dX11_count_36 rfl ?_
        obtain ⟨m4, hm5d, hm5, hm5t⟩ := (h.2.2.1 c1)
        refine ab_getf (v := .ref m4) dX11_count_37 fl_X11_23 kd_3 hm5d ?_
        refine ab_getf (v := .int (i m4 1)) dX11_count_40 fl_X11_120 (kM hm5) rfl ?_
        exact ab_iret dX11_count_43 rfl ⟨Nat.zero_le _, Nat.zero_le _⟩ hm5t
    | 2, _ =>
        have c1 : a1.toInt = 2 := by simpa using c1
        refine ab_tabIn (tgt := 44) dX11_count_1 (by rw [c1]; decide) (by rw [c1]; decide) (off := 43) (by rw [c1]; rfl) (by decide) ?_
        refine ab_aloadn dX11_count_44 rfl ?_
        refine ab_getf (v := .ref 4) dX11_count_45 fl_X11_10 kd_3 ff_3_0 ?_
        refine ab_getf (v := .int (i 4 1)) dX11_count_48 fl_X11_123 kd_4 rfl ?_
        exact ab_iret dX11_count_51 rfl ⟨Nat.zero_le _, Nat.zero_le _⟩ (h.2.2.2 c1)
    | n + 3, hq => exact absurd hq (by omega)
theorem tMX11_signs_0 {d : Nat} {Q : ab_Qt} {sc : Nat × (Nat → Int32)} {i : Nat → Nat → Int32} {l : Nat → Nat → Int64} {dd : Nat → Nat → Value} {x : Nat} {a1 : Int32} 
    (h : (∃ m1, dd 3 11 = .ref m1 ∧ ab_isM m1 ∧ ∃ (r3 : Int32) (P4 : ab_S → Prop), ab_Sp MX1_hasVoter d [.ref m1, .int a1] (i, l, dd, x) (ab_E0 sc) (some (.int r3)) P4 ∧ ∀ i7 l8 dd9 x10, P4 (i7, l8, dd9, x10) → ((r3 = 0 → Q (some (some (.int (-1)))) (i7, l8, dd9, x10) (ab_E0 sc)) ∧ (¬ r3 = 0 → (∃ m13, dd9 3 11 = .ref m13 ∧ ab_isM m13 ∧ vp_in a1 7 ∧ Q (some (some (.int (i7 (m13 + 5 + 6 * a1.toNatClampNeg) 0)))) (i7, l8, dd9, x10) (ab_E0 sc)))))) :
    ab_Fr MX11_signs (d + 1) Q 0 [some (.ref 3), some (.int a1)] [] (0, 0) (i, l, dd, x) (ab_E0 sc) := by
  refine ab_aloadn dX11_signs_0 rfl ?_
  obtain ⟨m1, hm2d, hm2, hm2t⟩ := h
  refine ab_getf (v := .ref m1) dX11_signs_1 fl_X11_23 kd_3 hm2d ?_
  refine ab_iloadn dX11_signs_4 rfl ?_
  obtain ⟨r3, P4, hs5, hk6⟩ := hm2t
  refine ab_callV (vs := [.int a1]) (st := []) dX11_signs_5 okMX1_hasVoter wd_675 (kM hm2) rfl rfl rfl (Nat.le_of_ble_eq_true rfl) ⟨Nat.le_of_ble_eq_true rfl, Nat.le_of_ble_eq_true rfl⟩ hs5 ?_
  rintro v9 ⟨i7, l8, dd9, x10⟩ E9 - ⟨rfl, rfl, hp11⟩
  show ab_Fr MX11_signs (d + 1) Q 8 [some (.ref 3), some (.int a1)] [.int r3] (0, 0) (i7, l8, dd9, x10) (ab_E0 sc)
  refine ab_if_eq (tgt := 26) dX11_signs_8 (by decide) (fun c12 => ?_) (fun c12 => ?_)
  · refine ab_iconst (v := (-1)) dX11_signs_26 (by decide) ?_
    exact ab_iret dX11_signs_27 rfl ⟨Nat.zero_le _, Nat.zero_le _⟩ ((hk6 i7 l8 dd9 x10 hp11).1 c12)
  · refine ab_aloadn dX11_signs_11 rfl ?_
    obtain ⟨m13, hm14d, hm14, hm14t⟩ := ((hk6 i7 l8 dd9 x10 hp11).2 c12)
    refine ab_getf (v := .ref m13) dX11_signs_12 fl_X11_23 kd_3 hm14d ?_
    refine ab_getf (v := .ref (m13 + 4)) dX11_signs_15 fl_X11_129 (kM hm14) (fM_8 hm14) ?_
    refine ab_iloadn dX11_signs_18 rfl ?_
    refine ab_aaload (a := (m13 + 5 + 6 * a1.toNatClampNeg)) dX11_signs_19 (Or.inl rfl) (kM_4 hm14) hm14t.1 (fMv hm14 hm14t.1) ?_
    refine ab_getf (v := .int (i7 (m13 + 5 + 6 * a1.toNatClampNeg) 0)) dX11_signs_20 fl_X11_133 (kV (isVof hm14 hm14t.1)) rfl ?_
    refine ab_goto (tgt := 27) dX11_signs_23 (by decide) ?_
    exact ab_iret dX11_signs_27 rfl ⟨Nat.zero_le _, Nat.zero_le _⟩ hm14t.2
theorem tMX11_all_0 {d : Nat} {Q : ab_Qt} {sc : Nat × (Nat → Int32)} {i : Nat → Nat → Int32} {l : Nat → Nat → Int64} {dd : Nat → Nat → Value} {x : Nat}  
    (h : (∃ m1, dd 3 11 = .ref m1 ∧ ab_isM m1 ∧ ∃ (r3 : Int32) (P4 : ab_S → Prop), ab_Sp MX1_isEmpty d [.ref m1] (i, l, dd, x) (ab_E0 sc) (some (.int r3)) P4 ∧ ∀ i7 l8 dd9 x10, P4 (i7, l8, dd9, x10) → ((r3 = 0 → (∃ m13, dd9 3 11 = .ref m13 ∧ ab_isM m13 ∧ ∃ (r15 : Int64) (P16 : ab_S → Prop), ab_Sp MX11_power d [.int 20, .int ((i7 m13 1) + 1)] (i7, l8, dd9, x10) (ab_E0 sc) (some (.long r15)) P16 ∧ ∀ i19 l20 dd21 x22, P16 (i19, l20, dd21, x22) → Q (some (some (.long r15))) (i19, l20, dd21, x22) (ab_E0 sc))) ∧ (¬ r3 = 0 → Q (some (some (.long 0))) (i7, l8, dd9, x10) (ab_E0 sc))))) :
    ab_Fr MX11_all (d + 1) Q 0 [some (.ref 3)] [] (0, 0) (i, l, dd, x) (ab_E0 sc) := by
  refine ab_aloadn dX11_all_0 rfl ?_
  obtain ⟨m1, hm2d, hm2, hm2t⟩ := h
  refine ab_getf (v := .ref m1) dX11_all_1 fl_X11_23 kd_3 hm2d ?_
  obtain ⟨r3, P4, hs5, hk6⟩ := hm2t
  refine ab_callV (vs := []) (st := []) dX11_all_4 okMX1_isEmpty wd_683 (kM hm2) rfl rfl rfl (Nat.le_of_ble_eq_true rfl) ⟨Nat.le_of_ble_eq_true rfl, Nat.le_of_ble_eq_true rfl⟩ hs5 ?_
  rintro v9 ⟨i7, l8, dd9, x10⟩ E9 - ⟨rfl, rfl, hp11⟩
  show ab_Fr MX11_all (d + 1) Q 7 [some (.ref 3)] [.int r3] (0, 0) (i7, l8, dd9, x10) (ab_E0 sc)
  refine ab_if_eq (tgt := 12) dX11_all_7 (by decide) (fun c12 => ?_) (fun c12 => ?_)
  · refine ab_bipush (v := 20) dX11_all_12 (by decide) ?_
    refine ab_aloadn dX11_all_14 rfl ?_
    obtain ⟨m13, hm14d, hm14, hm14t⟩ := ((hk6 i7 l8 dd9 x10 hp11).1 c12)
    refine ab_getf (v := .ref m13) dX11_all_15 fl_X11_23 kd_3 hm14d ?_
    refine ab_getf (v := .int (i7 m13 1)) dX11_all_18 fl_X11_120 (kM hm14) rfl ?_
    refine ab_iconst (v := 1) dX11_all_21 (by decide) ?_
    refine ab_iadd dX11_all_22 ?_
    obtain ⟨r15, P16, hs17, hk18⟩ := hm14t
    refine ab_callS (vs := [.int 20, .int ((i7 m13 1) + 1)]) (st := []) dX11_all_23 okMX11_power wd_684 rfl rfl (Nat.le_of_ble_eq_true rfl) ⟨Nat.le_of_ble_eq_true rfl, Nat.le_of_ble_eq_true rfl⟩ hs17 ?_
    rintro v9 ⟨i19, l20, dd21, x22⟩ E9 - ⟨rfl, rfl, hp23⟩
    show ab_Fr MX11_all (d + 1) Q 26 [some (.ref 3)] [.long r15] (0, 0) (i19, l20, dd21, x22) (ab_E0 sc)
    exact ab_lret dX11_all_26 rfl ⟨Nat.zero_le _, Nat.zero_le _⟩ (hk18 i19 l20 dd21 x22 hp23)
  · refine ab_lconst (v := 0) dX11_all_10 (by decide) ?_
    exact ab_lret dX11_all_11 rfl ⟨Nat.zero_le _, Nat.zero_le _⟩ ((hk6 i7 l8 dd9 x10 hp11).2 c12)
theorem tMX11_power_0 {d : Nat} {Q : ab_Qt} {sc : Nat × (Nat → Int32)} {i : Nat → Nat → Int32} {l : Nat → Nat → Int64} {dd : Nat → Nat → Value} {x : Nat} {a0 : Int32} {a1 : Int32} 
    (h : ab_Fr MX11_power (d + 1) Q 5 [some (.int a0), some (.int a1), some (.long 1), none, some (.int 0)] [] (0, 0) (i, l, dd, x) (ab_E0 sc)) :
    ab_Fr MX11_power (d + 1) Q 0 [some (.int a0), some (.int a1), none, none, none] [] (0, 0) (i, l, dd, x) (ab_E0 sc) := by
  refine ab_lconst (v := 1) dX11_power_0 (by decide) ?_
  refine ab_lstoren dX11_power_1 (Nat.le_of_ble_eq_true rfl) (L2 := [some (.int a0), some (.int a1), some (.long 1), none, none]) rfl ?_
  refine ab_iconst (v := 0) dX11_power_2 (by decide) ?_
  refine ab_istore dX11_power_3 (Nat.le_of_ble_eq_true rfl) (L2 := [some (.int a0), some (.int a1), some (.long 1), none, some (.int 0)]) rfl ?_
  exact h
theorem tMX11_power_5 {d : Nat} {Q : ab_Qt} {sc : Nat × (Nat → Int32)} {i : Nat → Nat → Int32} {l : Nat → Nat → Int64} {dd : Nat → Nat → Value} {x : Nat} {a0 : Int32} {a1 : Int32} {a2 : Int64} {a4 : Int32} 
    (h : ((a1 ≤ a4 → Q (some (some (.long a2))) (i, l, dd, x) (ab_E0 sc)) ∧ (¬ a1 ≤ a4 → ab_Fr MX11_power (d + 1) Q 5 [some (.int a0), some (.int a1), some (.long (a2 * a0.toInt64)), none, some (.int (a4 + 1))] [] (0, 0) (i, l, dd, x) (ab_E0 sc)))) :
    ab_Fr MX11_power (d + 1) Q 5 [some (.int a0), some (.int a1), some (.long a2), none, some (.int a4)] [] (0, 0) (i, l, dd, x) (ab_E0 sc) := by
  refine ab_iload dX11_power_5 rfl ?_
  refine ab_iloadn dX11_power_7 rfl ?_
  refine ab_icmp_ge (tgt := 22) dX11_power_8 (by decide) (fun c1 => ?_) (fun c1 => ?_)
  · refine ab_lloadn dX11_power_22 rfl ?_
    exact ab_lret dX11_power_23 rfl ⟨Nat.zero_le _, Nat.zero_le _⟩ (h.1 c1)
  · refine ab_lloadn dX11_power_11 rfl ?_
    refine ab_iloadn dX11_power_12 rfl ?_
    refine ab_i2l dX11_power_13 rfl ?_
    refine ab_lmul dX11_power_14 ?_
    refine ab_lstoren dX11_power_15 (Nat.le_of_ble_eq_true rfl) (L2 := [some (.int a0), some (.int a1), some (.long (a2 * a0.toInt64)), none, some (.int a4)]) rfl ?_
    refine ab_iinc (v := (a4 + 1)) dX11_power_16 rfl (by rfl) (Nat.le_of_ble_eq_true rfl) (L2 := [some (.int a0), some (.int a1), some (.long (a2 * a0.toInt64)), none, some (.int (a4 + 1))]) rfl ?_
    refine ab_goto (tgt := 5) dX11_power_19 (by decide) ?_
    exact (h.2 c1)
theorem tMX11_vote_0 {d : Nat} {Q : ab_Qt} {sc : Nat × (Nat → Int32)} {i : Nat → Nat → Int32} {l : Nat → Nat → Int64} {dd : Nat → Nat → Value} {x : Nat} {a1 : Int32} {a2 : Int32} 
    (h : (∃ m1, dd 3 11 = .ref m1 ∧ ab_isM m1 ∧ ∃ (r3 : Int32) (P4 : ab_S → Prop), ab_Sp MX1_hasSign d [.ref m1, .int a1, .int a2] (i, l, dd, x) (ab_E0 sc) (some (.int r3)) P4 ∧ ∀ i7 l8 dd9 x10, P4 (i7, l8, dd9, x10) → ((r3 = 0 → Q (some (some (.int (-1)))) (i7, l8, dd9, x10) (ab_E0 sc)) ∧ (¬ r3 = 0 → (∃ m13, dd9 3 11 = .ref m13 ∧ ab_isM m13 ∧ vp_in ((a1 * 3) + a2) 21 ∧ Q (some (some (.int (i7 (m13 + 47) ((a1 * 3) + a2).toNatClampNeg)))) (i7, l8, dd9, x10) (ab_E0 sc)))))) :
    ab_Fr MX11_vote (d + 1) Q 0 [some (.ref 3), some (.int a1), some (.int a2)] [] (0, 0) (i, l, dd, x) (ab_E0 sc) := by
  refine ab_aloadn dX11_vote_0 rfl ?_
  obtain ⟨m1, hm2d, hm2, hm2t⟩ := h
  refine ab_getf (v := .ref m1) dX11_vote_1 fl_X11_23 kd_3 hm2d ?_
  refine ab_iloadn dX11_vote_4 rfl ?_
  refine ab_iloadn dX11_vote_5 rfl ?_
  obtain ⟨r3, P4, hs5, hk6⟩ := hm2t
  refine ab_callV (vs := [.int a1, .int a2]) (st := []) dX11_vote_6 okMX1_hasSign wd_691 (kM hm2) rfl rfl rfl (Nat.le_of_ble_eq_true rfl) ⟨Nat.le_of_ble_eq_true rfl, Nat.le_of_ble_eq_true rfl⟩ hs5 ?_
  rintro v9 ⟨i7, l8, dd9, x10⟩ E9 - ⟨rfl, rfl, hp11⟩
  show ab_Fr MX11_vote (d + 1) Q 9 [some (.ref 3), some (.int a1), some (.int a2)] [.int r3] (0, 0) (i7, l8, dd9, x10) (ab_E0 sc)
  refine ab_if_eq (tgt := 28) dX11_vote_9 (by decide) (fun c12 => ?_) (fun c12 => ?_)
  · refine ab_iconst (v := (-1)) dX11_vote_28 (by decide) ?_
    exact ab_iret dX11_vote_29 rfl ⟨Nat.zero_le _, Nat.zero_le _⟩ ((hk6 i7 l8 dd9 x10 hp11).1 c12)
  · refine ab_aloadn dX11_vote_12 rfl ?_
    obtain ⟨m13, hm14d, hm14, hm14t⟩ := ((hk6 i7 l8 dd9 x10 hp11).2 c12)
    refine ab_getf (v := .ref m13) dX11_vote_13 fl_X11_23 kd_3 hm14d ?_
    refine ab_getf (v := .ref (m13 + 47)) dX11_vote_16 fl_X11_168 (kM hm14) (fM_9 hm14) ?_
    refine ab_iloadn dX11_vote_19 rfl ?_
    refine ab_iconst (v := 3) dX11_vote_20 (by decide) ?_
    refine ab_imul dX11_vote_21 ?_
    refine ab_iloadn dX11_vote_22 rfl ?_
    refine ab_iadd dX11_vote_23 ?_
    refine ab_iaload (v := (i7 (m13 + 47) ((a1 * 3) + a2).toNatClampNeg)) dX11_vote_24 (kM_47 hm14) hm14t.1 rfl ?_
    refine ab_goto (tgt := 29) dX11_vote_25 (by decide) ?_
    exact ab_iret dX11_vote_29 rfl ⟨Nat.zero_le _, Nat.zero_le _⟩ hm14t.2
theorem tMX11_decided_0 {d : Nat} {Q : ab_Qt} {sc : Nat × (Nat → Int32)} {i : Nat → Nat → Int32} {l : Nat → Nat → Int64} {dd : Nat → Nat → Value} {x : Nat}  
    (h : (∃ m1, dd 3 11 = .ref m1 ∧ ab_isM m1 ∧ ∃ (r3 : Int32) (P4 : ab_S → Prop), ab_Sp MX1_hasSigns d [.ref m1, .ref 4] (i, l, dd, x) (ab_E0 sc) (some (.int r3)) P4 ∧ ∀ i7 l8 dd9 x10, P4 (i7, l8, dd9, x10) → ((r3 = 0 → ab_Fr MX11_decided (d + 1) Q 32 [some (.ref 3), none] [.int (-1)] (0, 0) (i7, l8, dd9, x10) (ab_E0 sc)) ∧ (¬ r3 = 0 → (∃ m13, dd9 3 11 = .ref m13 ∧ ab_isM m13 ∧ ∃ (r15 : Int32) (P16 : ab_S → Prop), ab_Sp MX1_decidesWithSigns d [.ref m13, .ref 5] (i7, l8, dd9, x10) (ab_E0 sc) (some (.int r15)) P16 ∧ ∀ i19 l20 dd21 x22, P16 (i19, l20, dd21, x22) → ab_Fr MX11_decided (d + 1) Q 32 [some (.ref 3), none] [.int r15] (0, 0) (i19, l20, dd21, x22) (ab_E0 sc)))))) :
    ab_Fr MX11_decided (d + 1) Q 0 [some (.ref 3), none] [] (0, 0) (i, l, dd, x) (ab_E0 sc) := by
  refine ab_aloadn dX11_decided_0 rfl ?_
  obtain ⟨m1, hm2d, hm2, hm2t⟩ := h
  refine ab_getf (v := .ref m1) dX11_decided_1 fl_X11_23 kd_3 hm2d ?_
  refine ab_aloadn dX11_decided_4 rfl ?_
  refine ab_getf (v := .ref 4) dX11_decided_5 fl_X11_10 kd_3 ff_3_0 ?_
  obtain ⟨r3, P4, hs5, hk6⟩ := hm2t
  refine ab_callV (vs := [.ref 4]) (st := []) dX11_decided_8 okMX1_hasSigns wd_700 (kM hm2) rfl rfl rfl (Nat.le_of_ble_eq_true rfl) ⟨Nat.le_of_ble_eq_true rfl, Nat.le_of_ble_eq_true rfl⟩ hs5 ?_
  rintro v9 ⟨i7, l8, dd9, x10⟩ E9 - ⟨rfl, rfl, hp11⟩
  show ab_Fr MX11_decided (d + 1) Q 11 [some (.ref 3), none] [.int r3] (0, 0) (i7, l8, dd9, x10) (ab_E0 sc)
  refine ab_if_eq (tgt := 31) dX11_decided_11 (by decide) (fun c12 => ?_) (fun c12 => ?_)
  · refine ab_iconst (v := (-1)) dX11_decided_31 (by decide) ?_
    exact ((hk6 i7 l8 dd9 x10 hp11).1 c12)
  · refine ab_aloadn dX11_decided_14 rfl ?_
    obtain ⟨m13, hm14d, hm14, hm14t⟩ := ((hk6 i7 l8 dd9 x10 hp11).2 c12)
    refine ab_getf (v := .ref m13) dX11_decided_15 fl_X11_23 kd_3 hm14d ?_
    refine ab_aloadn dX11_decided_18 rfl ?_
    refine ab_getf (v := .ref 4) dX11_decided_19 fl_X11_10 kd_3 ff_3_0 ?_
    refine ab_getf (v := .ref 5) dX11_decided_22 fl_X11_148 kd_4 ff_4_0 ?_
    obtain ⟨r15, P16, hs17, hk18⟩ := hm14t
    refine ab_callV (vs := [.ref 5]) (st := []) dX11_decided_25 okMX1_decidesWithSigns wd_706 (kM hm14) rfl rfl rfl (Nat.le_of_ble_eq_true rfl) ⟨Nat.le_of_ble_eq_true rfl, Nat.le_of_ble_eq_true rfl⟩ hs17 ?_
    rintro v9 ⟨i19, l20, dd21, x22⟩ E9 - ⟨rfl, rfl, hp23⟩
    show ab_Fr MX11_decided (d + 1) Q 28 [some (.ref 3), none] [.int r15] (0, 0) (i19, l20, dd21, x22) (ab_E0 sc)
    refine ab_goto (tgt := 32) dX11_decided_28 (by decide) ?_
    exact (hk18 i19 l20 dd21 x22 hp23)
theorem tMX11_decided_32 {d : Nat} {Q : ab_Qt} {sc : Nat × (Nat → Int32)} {i : Nat → Nat → Int32} {l : Nat → Nat → Int64} {dd : Nat → Nat → Value} {x : Nat} {s0 : Int32} 
    (h : (∃ (P2 : ab_S → Prop), ab_Sp MX7_clear d [.ref 4] (i, l, dd, x) (ab_E0 sc) (none) P2 ∧ ∀ i5 l6 dd7 x8, P2 (i5, l6, dd7, x8) → Q (some (some (.int s0))) (i5, l6, dd7, x8) (ab_E0 sc))) :
    ab_Fr MX11_decided (d + 1) Q 32 [some (.ref 3), none] [.int s0] (0, 0) (i, l, dd, x) (ab_E0 sc) := by
  refine ab_istoren dX11_decided_32 (Nat.le_of_ble_eq_true rfl) (L2 := [some (.ref 3), some (.int s0)]) rfl ?_
  refine ab_aloadn dX11_decided_33 rfl ?_
  refine ab_getf (v := .ref 4) dX11_decided_34 fl_X11_10 kd_3 ff_3_0 ?_
  obtain ⟨P2, hs3, hk4⟩ := h
  refine ab_callV (vs := []) (st := []) dX11_decided_37 okMX7_clear wd_659 kd_4 rfl rfl rfl (Nat.le_of_ble_eq_true rfl) ⟨Nat.le_of_ble_eq_true rfl, Nat.le_of_ble_eq_true rfl⟩ hs3 ?_
  rintro v9 ⟨i5, l6, dd7, x8⟩ E9 - ⟨rfl, rfl, hp9⟩
  show ab_Fr MX11_decided (d + 1) Q 40 [some (.ref 3), some (.int s0)] [] (0, 0) (i5, l6, dd7, x8) (ab_E0 sc)
  refine ab_iloadn dX11_decided_40 rfl ?_
  exact ab_iret dX11_decided_41 rfl ⟨Nat.zero_le _, Nat.zero_le _⟩ (hk4 i5 l6 dd7 x8 hp9)
theorem tMX11_right_0 {d : Nat} {Q : ab_Qt} {sc : Nat × (Nat → Int32)} {i : Nat → Nat → Int32} {l : Nat → Nat → Int64} {dd : Nat → Nat → Value} {x : Nat}  
    (h : (∃ m1, dd 3 11 = .ref m1 ∧ ab_isM m1 ∧ ∃ (r3 : Int32) (P4 : ab_S → Prop), ab_Sp MX1_isEmpty d [.ref m1] (i, l, dd, x) (ab_E0 sc) (some (.int r3)) P4 ∧ ∀ i7 l8 dd9 x10, P4 (i7, l8, dd9, x10) → ((r3 = 0 → (∃ m13, dd9 3 11 = .ref m13 ∧ ab_isM m13 ∧ ∃ (P16 : ab_S → Prop), ab_Sp MX4_voting d [.ref 160, .ref m13, .ref (m13 + 47)] (i7, l8, dd9, x10) (ab_E0 sc) (none) P16 ∧ ∀ i19 l20 dd21 x22, P16 (i19, l20, dd21, x22) → ∃ (P25 : ab_S → Prop), ab_Sp MX4_sumUp d [.ref 160, .ref 204] (i19, l20, dd21, x22) (ab_E0 sc) (none) P25 ∧ ∀ i28 l29 dd30 x31, P25 (i28, l29, dd30, x31) → ∃ (r33 : Int64) (P34 : ab_S → Prop), ab_Sp MX11_rightOf d [.ref 204] (i28, l29, dd30, x31) (ab_E0 sc) (some (.long r33)) P34 ∧ ∀ i37 l38 dd39 x40, P34 (i37, l38, dd39, x40) → Q (some (some (.long r33))) (i37, l38, dd39, x40) (ab_E0 sc))) ∧ (¬ r3 = 0 → Q (some (some (.long 0))) (i7, l8, dd9, x10) (ab_E0 sc))))) :
    ab_Fr MX11_right (d + 1) Q 0 [some (.ref 3)] [] (0, 0) (i, l, dd, x) (ab_E0 sc) := by
  refine ab_aloadn dX11_right_0 rfl ?_
  obtain ⟨m1, hm2d, hm2, hm2t⟩ := h
  refine ab_getf (v := .ref m1) dX11_right_1 fl_X11_23 kd_3 hm2d ?_
  obtain ⟨r3, P4, hs5, hk6⟩ := hm2t
  refine ab_callV (vs := []) (st := []) dX11_right_4 okMX1_isEmpty wd_683 (kM hm2) rfl rfl rfl (Nat.le_of_ble_eq_true rfl) ⟨Nat.le_of_ble_eq_true rfl, Nat.le_of_ble_eq_true rfl⟩ hs5 ?_
  rintro v9 ⟨i7, l8, dd9, x10⟩ E9 - ⟨rfl, rfl, hp11⟩
  show ab_Fr MX11_right (d + 1) Q 7 [some (.ref 3)] [.int r3] (0, 0) (i7, l8, dd9, x10) (ab_E0 sc)
  refine ab_if_eq (tgt := 12) dX11_right_7 (by decide) (fun c12 => ?_) (fun c12 => ?_)
  · refine ab_aloadn dX11_right_12 rfl ?_
    refine ab_getf (v := .ref 160) dX11_right_13 fl_X11_41 kd_3 ff_3_3 ?_
    refine ab_aloadn dX11_right_16 rfl ?_
    obtain ⟨m13, hm14d, hm14, hm14t⟩ := ((hk6 i7 l8 dd9 x10 hp11).1 c12)
    refine ab_getf (v := .ref m13) dX11_right_17 fl_X11_23 kd_3 hm14d ?_
    refine ab_aloadn dX11_right_20 rfl ?_
    refine ab_getf (v := .ref m13) dX11_right_21 fl_X11_23 kd_3 hm14d ?_
    refine ab_getf (v := .ref (m13 + 47)) dX11_right_24 fl_X11_168 (kM hm14) (fM_9 hm14) ?_
    obtain ⟨P16, hs17, hk18⟩ := hm14t
    refine ab_callV (vs := [.ref m13, .ref (m13 + 47)]) (st := []) dX11_right_27 okMX4_voting wd_725 kd_160 rfl rfl rfl (Nat.le_of_ble_eq_true rfl) ⟨Nat.le_of_ble_eq_true rfl, Nat.le_of_ble_eq_true rfl⟩ hs17 ?_
    rintro v9 ⟨i19, l20, dd21, x22⟩ E9 - ⟨rfl, rfl, hp23⟩
    show ab_Fr MX11_right (d + 1) Q 30 [some (.ref 3)] [] (0, 0) (i19, l20, dd21, x22) (ab_E0 sc)
    refine ab_aloadn dX11_right_30 rfl ?_
    refine ab_getf (v := .ref 160) dX11_right_31 fl_X11_41 kd_3 ff_3_3 ?_
    refine ab_aloadn dX11_right_34 rfl ?_
    refine ab_getf (v := .ref 204) dX11_right_35 fl_X11_87 kd_3 ff_3_10 ?_
    obtain ⟨P25, hs26, hk27⟩ := (hk18 i19 l20 dd21 x22 hp23)
    refine ab_callV (vs := [.ref 204]) (st := []) dX11_right_38 okMX4_sumUp wd_735 kd_160 rfl rfl rfl (Nat.le_of_ble_eq_true rfl) ⟨Nat.le_of_ble_eq_true rfl, Nat.le_of_ble_eq_true rfl⟩ hs26 ?_
    rintro v9 ⟨i28, l29, dd30, x31⟩ E9 - ⟨rfl, rfl, hp32⟩
    show ab_Fr MX11_right (d + 1) Q 41 [some (.ref 3)] [] (0, 0) (i28, l29, dd30, x31) (ab_E0 sc)
    refine ab_aloadn dX11_right_41 rfl ?_
    refine ab_getf (v := .ref 204) dX11_right_42 fl_X11_87 kd_3 ff_3_10 ?_
    obtain ⟨r33, P34, hs35, hk36⟩ := (hk27 i28 l29 dd30 x31 hp32)
    refine ab_callS (vs := [.ref 204]) (st := []) dX11_right_45 okMX11_rightOf wd_766 rfl rfl (Nat.le_of_ble_eq_true rfl) ⟨Nat.le_of_ble_eq_true rfl, Nat.le_of_ble_eq_true rfl⟩ hs35 ?_
    rintro v9 ⟨i37, l38, dd39, x40⟩ E9 - ⟨rfl, rfl, hp41⟩
    show ab_Fr MX11_right (d + 1) Q 48 [some (.ref 3)] [.long r33] (0, 0) (i37, l38, dd39, x40) (ab_E0 sc)
    exact ab_lret dX11_right_48 rfl ⟨Nat.zero_le _, Nat.zero_le _⟩ (hk36 i37 l38 dd39 x40 hp41)
  · refine ab_lconst (v := 0) dX11_right_10 (by decide) ?_
    exact ab_lret dX11_right_11 rfl ⟨Nat.zero_le _, Nat.zero_le _⟩ ((hk6 i7 l8 dd9 x10 hp11).2 c12)
theorem tMX11_empty_0 {d : Nat} {Q : ab_Qt} {sc : Nat × (Nat → Int32)} {i : Nat → Nat → Int32} {l : Nat → Nat → Int64} {dd : Nat → Nat → Value} {x : Nat} {a0 : Nat} {n_a0 : Nat} (k_a0 : (ab_E0 sc).1 a0 = .inr (1, n_a0))
    (h : ab_Fr MX11_empty (d + 1) Q 2 [some (.ref a0), some (.int 0)] [] (0, 0) (i, l, dd, x) (ab_E0 sc)) :
    ab_Fr MX11_empty (d + 1) Q 0 [some (.ref a0), none] [] (0, 0) (i, l, dd, x) (ab_E0 sc) := by
  refine ab_iconst (v := 0) dX11_empty_0 (by decide) ?_
  refine ab_istoren dX11_empty_1 (Nat.le_of_ble_eq_true rfl) (L2 := [some (.ref a0), some (.int 0)]) rfl ?_
  exact h
theorem tMX11_empty_2 {d : Nat} {Q : ab_Qt} {sc : Nat × (Nat → Int32)} {i : Nat → Nat → Int32} {l : Nat → Nat → Int64} {dd : Nat → Nat → Value} {x : Nat} {a0 : Nat} {n_a0 : Nat} {a1 : Int32} (k_a0 : (ab_E0 sc).1 a0 = .inr (1, n_a0))
    (h : (((Int32.ofNat n_a0) ≤ a1 → Q (some none) (i, l, dd, x) (ab_E0 sc)) ∧ (¬ (Int32.ofNat n_a0) ≤ a1 → (vp_in a1 n_a0 ∧ ∀ l2, l2 = ab_u l a0 a1.toNatClampNeg 0 → ab_Fr MX11_empty (d + 1) Q 2 [some (.ref a0), some (.int (a1 + 1))] [] (0, 0) (i, l2, dd, x) (ab_E0 sc))))) :
    ab_Fr MX11_empty (d + 1) Q 2 [some (.ref a0), some (.int a1)] [] (0, 0) (i, l, dd, x) (ab_E0 sc) := by
  refine ab_iloadn dX11_empty_2 rfl ?_
  refine ab_aloadn dX11_empty_3 rfl ?_
  refine ab_alen (v := (Int32.ofNat n_a0)) dX11_empty_4 (by decide) k_a0 (by rfl) ?_
  refine ab_icmp_ge (tgt := 18) dX11_empty_5 (by decide) (fun c1 => ?_) (fun c1 => ?_)
  · exact ab_vret dX11_empty_18 rfl ⟨Nat.zero_le _, Nat.zero_le _⟩ (h.1 c1)
  · refine ab_aloadn dX11_empty_8 rfl ?_
    refine ab_iloadn dX11_empty_9 rfl ?_
    refine ab_lconst (v := 0) dX11_empty_10 (by decide) ?_
    refine ab_lastore dX11_empty_11 k_a0 (h.2 c1).1 ?_
    obtain ⟨l2, e3⟩ : ∃ z, z = ab_u l a0 a1.toNatClampNeg 0 := ⟨_, rfl⟩
    rw [show ab_u l a0 a1.toNatClampNeg 0 = l2 from e3.symm]
    refine ab_iinc (v := (a1 + 1)) dX11_empty_12 rfl (by rfl) (Nat.le_of_ble_eq_true rfl) (L2 := [some (.ref a0), some (.int (a1 + 1))]) rfl ?_
    refine ab_goto (tgt := 2) dX11_empty_15 (by decide) ?_
    exact ((h.2 c1).2 l2 e3)
theorem tMX11_rightOf_0 {d : Nat} {Q : ab_Qt} {sc : Nat × (Nat → Int32)} {i : Nat → Nat → Int32} {l : Nat → Nat → Int64} {dd : Nat → Nat → Value} {x : Nat} {a0 : Nat} {n_a0 : Nat} (k_a0 : (ab_E0 sc).1 a0 = .inr (1, n_a0))
    (h : (vp_in (0 : Int32) n_a0 ∧ vp_in (4 : Int32) n_a0 ∧ vp_in (8 : Int32) n_a0 ∧ Q (some (some (.long (((l a0 0) + (l a0 4)) + (l a0 8))))) (i, l, dd, x) (ab_E0 sc))) :
    ab_Fr MX11_rightOf (d + 1) Q 0 [some (.ref a0)] [] (0, 0) (i, l, dd, x) (ab_E0 sc) := by
  refine ab_aloadn dX11_rightOf_0 rfl ?_
  refine ab_iconst (v := 0) dX11_rightOf_1 (by decide) ?_
  refine ab_laload (v := (l a0 0)) dX11_rightOf_2 k_a0 h.1 rfl ?_
  refine ab_aloadn dX11_rightOf_3 rfl ?_
  refine ab_iconst (v := 4) dX11_rightOf_4 (by decide) ?_
  refine ab_laload (v := (l a0 4)) dX11_rightOf_5 k_a0 h.2.1 rfl ?_
  refine ab_ladd dX11_rightOf_6 ?_
  refine ab_aloadn dX11_rightOf_7 rfl ?_
  refine ab_bipush (v := 8) dX11_rightOf_8 (by decide) ?_
  refine ab_laload (v := (l a0 8)) dX11_rightOf_10 k_a0 h.2.2.1 rfl ?_
  refine ab_ladd dX11_rightOf_11 ?_
  exact ab_lret dX11_rightOf_12 rfl ⟨Nat.zero_le _, Nat.zero_le _⟩ h.2.2.2
theorem tMX11_lost_0 {d : Nat} {Q : ab_Qt} {sc : Nat × (Nat → Int32)} {i : Nat → Nat → Int32} {l : Nat → Nat → Int64} {dd : Nat → Nat → Value} {x : Nat}  
    (h : (∃ m1, dd 3 11 = .ref m1 ∧ ab_isM m1 ∧ ∃ (r3 : Int32) (P4 : ab_S → Prop), ab_Sp MX1_isEmpty d [.ref m1] (i, l, dd, x) (ab_E0 sc) (some (.int r3)) P4 ∧ ∀ i7 l8 dd9 x10, P4 (i7, l8, dd9, x10) → ((r3 = 0 → (∃ (r13 : Int64) (P14 : ab_S → Prop), ab_Sp MX11_lostWithout d [.ref 3, .int (-1), .int (-1)] (i7, l8, dd9, x10) (ab_E0 sc) (some (.long r13)) P14 ∧ ∀ i17 l18 dd19 x20, P14 (i17, l18, dd19, x20) → Q (some (some (.long r13))) (i17, l18, dd19, x20) (ab_E0 sc))) ∧ (¬ r3 = 0 → Q (some (some (.long 0))) (i7, l8, dd9, x10) (ab_E0 sc))))) :
    ab_Fr MX11_lost (d + 1) Q 0 [some (.ref 3)] [] (0, 0) (i, l, dd, x) (ab_E0 sc) := by
  refine ab_aloadn dX11_lost_0 rfl ?_
  obtain ⟨m1, hm2d, hm2, hm2t⟩ := h
  refine ab_getf (v := .ref m1) dX11_lost_1 fl_X11_23 kd_3 hm2d ?_
  obtain ⟨r3, P4, hs5, hk6⟩ := hm2t
  refine ab_callV (vs := []) (st := []) dX11_lost_4 okMX1_isEmpty wd_683 (kM hm2) rfl rfl rfl (Nat.le_of_ble_eq_true rfl) ⟨Nat.le_of_ble_eq_true rfl, Nat.le_of_ble_eq_true rfl⟩ hs5 ?_
  rintro v9 ⟨i7, l8, dd9, x10⟩ E9 - ⟨rfl, rfl, hp11⟩
  show ab_Fr MX11_lost (d + 1) Q 7 [some (.ref 3)] [.int r3] (0, 0) (i7, l8, dd9, x10) (ab_E0 sc)
  refine ab_if_eq (tgt := 14) dX11_lost_7 (by decide) (fun c12 => ?_) (fun c12 => ?_)
  · refine ab_aloadn dX11_lost_14 rfl ?_
    refine ab_iconst (v := (-1)) dX11_lost_15 (by decide) ?_
    refine ab_iconst (v := (-1)) dX11_lost_16 (by decide) ?_
    obtain ⟨r13, P14, hs15, hk16⟩ := ((hk6 i7 l8 dd9 x10 hp11).1 c12)
    refine ab_callV (vs := [.int (-1), .int (-1)]) (st := []) dX11_lost_17 okMX11_lostWithout wd_773 kd_3 rfl rfl rfl (Nat.le_of_ble_eq_true rfl) ⟨Nat.le_of_ble_eq_true rfl, Nat.le_of_ble_eq_true rfl⟩ hs15 ?_
    rintro v9 ⟨i17, l18, dd19, x20⟩ E9 - ⟨rfl, rfl, hp21⟩
    show ab_Fr MX11_lost (d + 1) Q 20 [some (.ref 3)] [.long r13] (0, 0) (i17, l18, dd19, x20) (ab_E0 sc)
    exact ab_lret dX11_lost_20 rfl ⟨Nat.zero_le _, Nat.zero_le _⟩ (hk16 i17 l18 dd19 x20 hp21)
  · refine ab_lconst (v := 0) dX11_lost_10 (by decide) ?_
    refine ab_goto (tgt := 20) dX11_lost_11 (by decide) ?_
    exact ab_lret dX11_lost_20 rfl ⟨Nat.zero_le _, Nat.zero_le _⟩ ((hk6 i7 l8 dd9 x10 hp11).2 c12)
theorem tMX11_lostWithout_0 {d : Nat} {Q : ab_Qt} {sc : Nat × (Nat → Int32)} {i : Nat → Nat → Int32} {l : Nat → Nat → Int64} {dd : Nat → Nat → Value} {x : Nat} {a1 : Int32} {a2 : Int32} 
    (h : (∃ m1, dd 3 11 = .ref m1 ∧ ab_isM m1 ∧ ∃ (P4 : ab_S → Prop), ab_Sp MX4_voting d [.ref 160, .ref m1, .ref (m1 + 47)] (i, l, dd, x) (ab_E0 sc) (none) P4 ∧ ∀ i7 l8 dd9 x10, P4 (i7, l8, dd9, x10) → ∃ m12, dd9 3 11 = .ref m12 ∧ ab_isM m12 ∧ ∃ (r14 : Int32) (P15 : ab_S → Prop), ab_Sp MX1_hasVoter d [.ref m12, .int a1] (i7, l8, dd9, x10) (ab_E0 sc) (some (.int r14)) P15 ∧ ∀ i18 l19 dd20 x21, P15 (i18, l19, dd20, x21) → ((r14 = 0 → ab_Fr MX11_lostWithout (d + 1) Q 37 [some (.ref 3), none, some (.int a2)] [] (0, 0) (i18, l19, dd20, x21) (ab_E0 sc)) ∧ (¬ r14 = 0 → (∃ (P25 : ab_S → Prop), ab_Sp MX4_silence d [.ref 160, .int a1] (i18, l19, dd20, x21) (ab_E0 sc) (none) P25 ∧ ∀ i28 l29 dd30 x31, P25 (i28, l29, dd30, x31) → ab_Fr MX11_lostWithout (d + 1) Q 37 [some (.ref 3), none, some (.int a2)] [] (0, 0) (i28, l29, dd30, x31) (ab_E0 sc)))))) :
    ab_Fr MX11_lostWithout (d + 1) Q 0 [some (.ref 3), some (.int a1), some (.int a2)] [] (0, 0) (i, l, dd, x) (ab_E0 sc) := by
  refine ab_aloadn dX11_lostWithout_0 rfl ?_
  refine ab_getf (v := .ref 160) dX11_lostWithout_1 fl_X11_41 kd_3 ff_3_3 ?_
  refine ab_aloadn dX11_lostWithout_4 rfl ?_
  obtain ⟨m1, hm2d, hm2, hm2t⟩ := h
  refine ab_getf (v := .ref m1) dX11_lostWithout_5 fl_X11_23 kd_3 hm2d ?_
  refine ab_aloadn dX11_lostWithout_8 rfl ?_
  refine ab_getf (v := .ref m1) dX11_lostWithout_9 fl_X11_23 kd_3 hm2d ?_
  refine ab_getf (v := .ref (m1 + 47)) dX11_lostWithout_12 fl_X11_168 (kM hm2) (fM_9 hm2) ?_
  obtain ⟨P4, hs5, hk6⟩ := hm2t
  refine ab_callV (vs := [.ref m1, .ref (m1 + 47)]) (st := []) dX11_lostWithout_15 okMX4_voting wd_725 kd_160 rfl rfl rfl (Nat.le_of_ble_eq_true rfl) ⟨Nat.le_of_ble_eq_true rfl, Nat.le_of_ble_eq_true rfl⟩ hs5 ?_
  rintro v9 ⟨i7, l8, dd9, x10⟩ E9 - ⟨rfl, rfl, hp11⟩
  show ab_Fr MX11_lostWithout (d + 1) Q 18 [some (.ref 3), some (.int a1), some (.int a2)] [] (0, 0) (i7, l8, dd9, x10) (ab_E0 sc)
  refine ab_aloadn dX11_lostWithout_18 rfl ?_
  obtain ⟨m12, hm13d, hm13, hm13t⟩ := (hk6 i7 l8 dd9 x10 hp11)
  refine ab_getf (v := .ref m12) dX11_lostWithout_19 fl_X11_23 kd_3 hm13d ?_
  refine ab_iloadn dX11_lostWithout_22 rfl ?_
  obtain ⟨r14, P15, hs16, hk17⟩ := hm13t
  refine ab_callV (vs := [.int a1]) (st := []) dX11_lostWithout_23 okMX1_hasVoter wd_675 (kM hm13) rfl rfl rfl (Nat.le_of_ble_eq_true rfl) ⟨Nat.le_of_ble_eq_true rfl, Nat.le_of_ble_eq_true rfl⟩ hs16 ?_
  rintro v9 ⟨i18, l19, dd20, x21⟩ E9 - ⟨rfl, rfl, hp22⟩
  show ab_Fr MX11_lostWithout (d + 1) Q 26 [some (.ref 3), some (.int a1), some (.int a2)] [.int r14] (0, 0) (i18, l19, dd20, x21) (ab_E0 sc)
  refine ab_if_eq (tgt := 37) dX11_lostWithout_26 (by decide) (fun c23 => ?_) (fun c23 => ?_)
  · refine ab_forget (i := 1) (L2 := [some (.ref 3), none, some (.int a2)]) rfl ?_
    exact ((hk17 i18 l19 dd20 x21 hp22).1 c23)
  · refine ab_aloadn dX11_lostWithout_29 rfl ?_
    refine ab_getf (v := .ref 160) dX11_lostWithout_30 fl_X11_41 kd_3 ff_3_3 ?_
    refine ab_iloadn dX11_lostWithout_33 rfl ?_
    obtain ⟨P25, hs26, hk27⟩ := ((hk17 i18 l19 dd20 x21 hp22).2 c23)
    refine ab_callV (vs := [.int a1]) (st := []) dX11_lostWithout_34 okMX4_silence wd_776 kd_160 rfl rfl rfl (Nat.le_of_ble_eq_true rfl) ⟨Nat.le_of_ble_eq_true rfl, Nat.le_of_ble_eq_true rfl⟩ hs26 ?_
    rintro v9 ⟨i28, l29, dd30, x31⟩ E9 - ⟨rfl, rfl, hp32⟩
    show ab_Fr MX11_lostWithout (d + 1) Q 37 [some (.ref 3), some (.int a1), some (.int a2)] [] (0, 0) (i28, l29, dd30, x31) (ab_E0 sc)
    refine ab_forget (i := 1) (L2 := [some (.ref 3), none, some (.int a2)]) rfl ?_
    exact (hk27 i28 l29 dd30 x31 hp32)
theorem tMX11_lostWithout_37 {d : Nat} {Q : ab_Qt} {sc : Nat × (Nat → Int32)} {i : Nat → Nat → Int32} {l : Nat → Nat → Int64} {dd : Nat → Nat → Value} {x : Nat} {a2 : Int32} 
    (h : (∃ m1, dd 3 11 = .ref m1 ∧ ab_isM m1 ∧ ∃ (r3 : Int32) (P4 : ab_S → Prop), ab_Sp MX1_hasVoter d [.ref m1, .int a2] (i, l, dd, x) (ab_E0 sc) (some (.int r3)) P4 ∧ ∀ i7 l8 dd9 x10, P4 (i7, l8, dd9, x10) → ((r3 = 0 → ab_Fr MX11_lostWithout (d + 1) Q 56 [some (.ref 3), none, none] [] (0, 0) (i7, l8, dd9, x10) (ab_E0 sc)) ∧ (¬ r3 = 0 → (∃ (P14 : ab_S → Prop), ab_Sp MX4_silence d [.ref 160, .int a2] (i7, l8, dd9, x10) (ab_E0 sc) (none) P14 ∧ ∀ i17 l18 dd19 x20, P14 (i17, l18, dd19, x20) → ab_Fr MX11_lostWithout (d + 1) Q 56 [some (.ref 3), none, none] [] (0, 0) (i17, l18, dd19, x20) (ab_E0 sc)))))) :
    ab_Fr MX11_lostWithout (d + 1) Q 37 [some (.ref 3), none, some (.int a2)] [] (0, 0) (i, l, dd, x) (ab_E0 sc) := by
  refine ab_aloadn dX11_lostWithout_37 rfl ?_
  obtain ⟨m1, hm2d, hm2, hm2t⟩ := h
  refine ab_getf (v := .ref m1) dX11_lostWithout_38 fl_X11_23 kd_3 hm2d ?_
  refine ab_iloadn dX11_lostWithout_41 rfl ?_
  obtain ⟨r3, P4, hs5, hk6⟩ := hm2t
  refine ab_callV (vs := [.int a2]) (st := []) dX11_lostWithout_42 okMX1_hasVoter wd_675 (kM hm2) rfl rfl rfl (Nat.le_of_ble_eq_true rfl) ⟨Nat.le_of_ble_eq_true rfl, Nat.le_of_ble_eq_true rfl⟩ hs5 ?_
  rintro v9 ⟨i7, l8, dd9, x10⟩ E9 - ⟨rfl, rfl, hp11⟩
  show ab_Fr MX11_lostWithout (d + 1) Q 45 [some (.ref 3), none, some (.int a2)] [.int r3] (0, 0) (i7, l8, dd9, x10) (ab_E0 sc)
  refine ab_if_eq (tgt := 56) dX11_lostWithout_45 (by decide) (fun c12 => ?_) (fun c12 => ?_)
  · refine ab_forget (i := 2) (L2 := [some (.ref 3), none, none]) rfl ?_
    exact ((hk6 i7 l8 dd9 x10 hp11).1 c12)
  · refine ab_aloadn dX11_lostWithout_48 rfl ?_
    refine ab_getf (v := .ref 160) dX11_lostWithout_49 fl_X11_41 kd_3 ff_3_3 ?_
    refine ab_iloadn dX11_lostWithout_52 rfl ?_
    obtain ⟨P14, hs15, hk16⟩ := ((hk6 i7 l8 dd9 x10 hp11).2 c12)
    refine ab_callV (vs := [.int a2]) (st := []) dX11_lostWithout_53 okMX4_silence wd_776 kd_160 rfl rfl rfl (Nat.le_of_ble_eq_true rfl) ⟨Nat.le_of_ble_eq_true rfl, Nat.le_of_ble_eq_true rfl⟩ hs15 ?_
    rintro v9 ⟨i17, l18, dd19, x20⟩ E9 - ⟨rfl, rfl, hp21⟩
    show ab_Fr MX11_lostWithout (d + 1) Q 56 [some (.ref 3), none, some (.int a2)] [] (0, 0) (i17, l18, dd19, x20) (ab_E0 sc)
    refine ab_forget (i := 2) (L2 := [some (.ref 3), none, none]) rfl ?_
    exact (hk16 i17 l18 dd19 x20 hp21)
theorem tMX11_lostWithout_56 {d : Nat} {Q : ab_Qt} {sc : Nat × (Nat → Int32)} {i : Nat → Nat → Int32} {l : Nat → Nat → Int64} {dd : Nat → Nat → Value} {x : Nat}  
    (h : (∃ (P2 : ab_S → Prop), ab_Sp MX4_sumUp d [.ref 160, .ref 204] (i, l, dd, x) (ab_E0 sc) (none) P2 ∧ ∀ i5 l6 dd7 x8, P2 (i5, l6, dd7, x8) → ∃ m10, dd7 3 11 = .ref m10 ∧ ab_isM m10 ∧ ∃ (r12 : Int64) (P13 : ab_S → Prop), ab_Sp MX0_lostBy d [.ref (m10 + 2), .ref 204] (i5, l6, dd7, x8) (ab_E0 sc) (some (.long r12)) P13 ∧ ∀ i16 l17 dd18 x19, P13 (i16, l17, dd18, x19) → Q (some (some (.long r12))) (i16, l17, dd18, x19) (ab_E0 sc))) :
    ab_Fr MX11_lostWithout (d + 1) Q 56 [some (.ref 3), none, none] [] (0, 0) (i, l, dd, x) (ab_E0 sc) := by
  refine ab_aloadn dX11_lostWithout_56 rfl ?_
  refine ab_getf (v := .ref 160) dX11_lostWithout_57 fl_X11_41 kd_3 ff_3_3 ?_
  refine ab_aloadn dX11_lostWithout_60 rfl ?_
  refine ab_getf (v := .ref 204) dX11_lostWithout_61 fl_X11_87 kd_3 ff_3_10 ?_
  obtain ⟨P2, hs3, hk4⟩ := h
  refine ab_callV (vs := [.ref 204]) (st := []) dX11_lostWithout_64 okMX4_sumUp wd_735 kd_160 rfl rfl rfl (Nat.le_of_ble_eq_true rfl) ⟨Nat.le_of_ble_eq_true rfl, Nat.le_of_ble_eq_true rfl⟩ hs3 ?_
  rintro v9 ⟨i5, l6, dd7, x8⟩ E9 - ⟨rfl, rfl, hp9⟩
  show ab_Fr MX11_lostWithout (d + 1) Q 67 [some (.ref 3), none, none] [] (0, 0) (i5, l6, dd7, x8) (ab_E0 sc)
  refine ab_aloadn dX11_lostWithout_67 rfl ?_
  obtain ⟨m10, hm11d, hm11, hm11t⟩ := (hk4 i5 l6 dd7 x8 hp9)
  refine ab_getf (v := .ref m10) dX11_lostWithout_68 fl_X11_23 kd_3 hm11d ?_
  refine ab_getf (v := .ref (m10 + 2)) dX11_lostWithout_71 fl_X11_199 (kM hm11) (fM_7 hm11) ?_
  refine ab_aloadn dX11_lostWithout_74 rfl ?_
  refine ab_getf (v := .ref 204) dX11_lostWithout_75 fl_X11_87 kd_3 ff_3_10 ?_
  obtain ⟨r12, P13, hs14, hk15⟩ := hm11t
  refine ab_callV (vs := [.ref 204]) (st := []) dX11_lostWithout_78 okMX0_lostBy wd_780 (kLo (isM_2 hm11)) rfl rfl rfl (Nat.le_of_ble_eq_true rfl) ⟨Nat.le_of_ble_eq_true rfl, Nat.le_of_ble_eq_true rfl⟩ hs14 ?_
  rintro v9 ⟨i16, l17, dd18, x19⟩ E9 - ⟨rfl, rfl, hp20⟩
  show ab_Fr MX11_lostWithout (d + 1) Q 81 [some (.ref 3), none, none] [.long r12] (0, 0) (i16, l17, dd18, x19) (ab_E0 sc)
  exact ab_lret dX11_lostWithout_81 rfl ⟨Nat.zero_le _, Nat.zero_le _⟩ (hk15 i16 l17 dd18 x19 hp20)
theorem tMX11_known_0 {d : Nat} {Q : ab_Qt} {sc : Nat × (Nat → Int32)} {i : Nat → Nat → Int32} {l : Nat → Nat → Int64} {dd : Nat → Nat → Value} {x : Nat}  
    (h : (∃ m1, dd 3 11 = .ref m1 ∧ ab_isM m1 ∧ ∃ (r3 : Int32) (P4 : ab_S → Prop), ab_Sp MX1_hasSigns d [.ref m1, .ref 4] (i, l, dd, x) (ab_E0 sc) (some (.int r3)) P4 ∧ ∀ i7 l8 dd9 x10, P4 (i7, l8, dd9, x10) → ((r3 = 0 → ab_Fr MX11_known (d + 1) Q 32 [some (.ref 3), none] [.int (-1)] (0, 0) (i7, l8, dd9, x10) (ab_E0 sc)) ∧ (¬ r3 = 0 → (∃ m13, dd9 3 11 = .ref m13 ∧ ab_isM m13 ∧ ∃ (r15 : Int32) (P16 : ab_S → Prop), ab_Sp MX1_knownBy d [.ref m13, .ref 5] (i7, l8, dd9, x10) (ab_E0 sc) (some (.int r15)) P16 ∧ ∀ i19 l20 dd21 x22, P16 (i19, l20, dd21, x22) → ab_Fr MX11_known (d + 1) Q 32 [some (.ref 3), none] [.int r15] (0, 0) (i19, l20, dd21, x22) (ab_E0 sc)))))) :
    ab_Fr MX11_known (d + 1) Q 0 [some (.ref 3), none] [] (0, 0) (i, l, dd, x) (ab_E0 sc) := by
  refine ab_aloadn dX11_known_0 rfl ?_
  obtain ⟨m1, hm2d, hm2, hm2t⟩ := h
  refine ab_getf (v := .ref m1) dX11_known_1 fl_X11_23 kd_3 hm2d ?_
  refine ab_aloadn dX11_known_4 rfl ?_
  refine ab_getf (v := .ref 4) dX11_known_5 fl_X11_10 kd_3 ff_3_0 ?_
  obtain ⟨r3, P4, hs5, hk6⟩ := hm2t
  refine ab_callV (vs := [.ref 4]) (st := []) dX11_known_8 okMX1_hasSigns wd_700 (kM hm2) rfl rfl rfl (Nat.le_of_ble_eq_true rfl) ⟨Nat.le_of_ble_eq_true rfl, Nat.le_of_ble_eq_true rfl⟩ hs5 ?_
  rintro v9 ⟨i7, l8, dd9, x10⟩ E9 - ⟨rfl, rfl, hp11⟩
  show ab_Fr MX11_known (d + 1) Q 11 [some (.ref 3), none] [.int r3] (0, 0) (i7, l8, dd9, x10) (ab_E0 sc)
  refine ab_if_eq (tgt := 31) dX11_known_11 (by decide) (fun c12 => ?_) (fun c12 => ?_)
  · refine ab_iconst (v := (-1)) dX11_known_31 (by decide) ?_
    exact ((hk6 i7 l8 dd9 x10 hp11).1 c12)
  · refine ab_aloadn dX11_known_14 rfl ?_
    obtain ⟨m13, hm14d, hm14, hm14t⟩ := ((hk6 i7 l8 dd9 x10 hp11).2 c12)
    refine ab_getf (v := .ref m13) dX11_known_15 fl_X11_23 kd_3 hm14d ?_
    refine ab_aloadn dX11_known_18 rfl ?_
    refine ab_getf (v := .ref 4) dX11_known_19 fl_X11_10 kd_3 ff_3_0 ?_
    refine ab_getf (v := .ref 5) dX11_known_22 fl_X11_148 kd_4 ff_4_0 ?_
    obtain ⟨r15, P16, hs17, hk18⟩ := hm14t
    refine ab_callV (vs := [.ref 5]) (st := []) dX11_known_25 okMX1_knownBy wd_788 (kM hm14) rfl rfl rfl (Nat.le_of_ble_eq_true rfl) ⟨Nat.le_of_ble_eq_true rfl, Nat.le_of_ble_eq_true rfl⟩ hs17 ?_
    rintro v9 ⟨i19, l20, dd21, x22⟩ E9 - ⟨rfl, rfl, hp23⟩
    show ab_Fr MX11_known (d + 1) Q 28 [some (.ref 3), none] [.int r15] (0, 0) (i19, l20, dd21, x22) (ab_E0 sc)
    refine ab_goto (tgt := 32) dX11_known_28 (by decide) ?_
    exact (hk18 i19 l20 dd21 x22 hp23)
theorem tMX11_known_32 {d : Nat} {Q : ab_Qt} {sc : Nat × (Nat → Int32)} {i : Nat → Nat → Int32} {l : Nat → Nat → Int64} {dd : Nat → Nat → Value} {x : Nat} {s0 : Int32} 
    (h : (∃ (P2 : ab_S → Prop), ab_Sp MX7_clear d [.ref 4] (i, l, dd, x) (ab_E0 sc) (none) P2 ∧ ∀ i5 l6 dd7 x8, P2 (i5, l6, dd7, x8) → Q (some (some (.int s0))) (i5, l6, dd7, x8) (ab_E0 sc))) :
    ab_Fr MX11_known (d + 1) Q 32 [some (.ref 3), none] [.int s0] (0, 0) (i, l, dd, x) (ab_E0 sc) := by
  refine ab_istoren dX11_known_32 (Nat.le_of_ble_eq_true rfl) (L2 := [some (.ref 3), some (.int s0)]) rfl ?_
  refine ab_aloadn dX11_known_33 rfl ?_
  refine ab_getf (v := .ref 4) dX11_known_34 fl_X11_10 kd_3 ff_3_0 ?_
  obtain ⟨P2, hs3, hk4⟩ := h
  refine ab_callV (vs := []) (st := []) dX11_known_37 okMX7_clear wd_659 kd_4 rfl rfl rfl (Nat.le_of_ble_eq_true rfl) ⟨Nat.le_of_ble_eq_true rfl, Nat.le_of_ble_eq_true rfl⟩ hs3 ?_
  rintro v9 ⟨i5, l6, dd7, x8⟩ E9 - ⟨rfl, rfl, hp9⟩
  show ab_Fr MX11_known (d + 1) Q 40 [some (.ref 3), some (.int s0)] [] (0, 0) (i5, l6, dd7, x8) (ab_E0 sc)
  refine ab_iloadn dX11_known_40 rfl ?_
  exact ab_iret dX11_known_41 rfl ⟨Nat.zero_le _, Nat.zero_le _⟩ (hk4 i5 l6 dd7 x8 hp9)
theorem tMX11_reply_0 {d : Nat} {Q : ab_Qt} {sc : Nat × (Nat → Int32)} {i : Nat → Nat → Int32} {l : Nat → Nat → Int64} {dd : Nat → Nat → Value} {x : Nat} {a1 : Int32} {a2 : Int32} 
    (h : (∃ m1, dd 3 11 = .ref m1 ∧ ab_isM m1 ∧ ∃ (r3 : Int32) (P4 : ab_S → Prop), ab_Sp MX1_hasSign d [.ref m1, .int a1, .int a2] (i, l, dd, x) (ab_E0 sc) (some (.int r3)) P4 ∧ ∀ i7 l8 dd9 x10, P4 (i7, l8, dd9, x10) → ((¬ r3 = 0 → (∃ m13, dd9 3 11 = .ref m13 ∧ ab_isM m13 ∧ ∃ (P16 : ab_S → Prop), ab_Sp MX3_hearOthers d [.ref 169, .ref m13, .ref (m13 + 47), .int a1] (i7, l8, dd9, x10) (ab_E0 sc) (none) P16 ∧ ∀ i19 l20 dd21 x22, P16 (i19, l20, dd21, x22) → ∃ m24, dd21 3 11 = .ref m24 ∧ ab_isM m24 ∧ vp_in ((a1 * 3) + a2) 21 ∧ ∃ (r26 : Int32) (P27 : ab_S → Prop), ab_Sp MX3_best d [.ref 169, .int a1, .int a2, .int (i19 (m24 + 47) ((a1 * 3) + a2).toNatClampNeg)] (i19, l20, dd21, x22) (ab_E0 sc) (some (.int r26)) P27 ∧ ∀ i30 l31 dd32 x33, P27 (i30, l31, dd32, x33) → Q (some (some (.int r26))) (i30, l31, dd32, x33) (ab_E0 sc))) ∧ (r3 = 0 → Q (some (some (.int (-1)))) (i7, l8, dd9, x10) (ab_E0 sc))))) :
    ab_Fr MX11_reply (d + 1) Q 0 [some (.ref 3), some (.int a1), some (.int a2)] [] (0, 0) (i, l, dd, x) (ab_E0 sc) := by
  refine ab_aloadn dX11_reply_0 rfl ?_
  obtain ⟨m1, hm2d, hm2, hm2t⟩ := h
  refine ab_getf (v := .ref m1) dX11_reply_1 fl_X11_23 kd_3 hm2d ?_
  refine ab_iloadn dX11_reply_4 rfl ?_
  refine ab_iloadn dX11_reply_5 rfl ?_
  obtain ⟨r3, P4, hs5, hk6⟩ := hm2t
  refine ab_callV (vs := [.int a1, .int a2]) (st := []) dX11_reply_6 okMX1_hasSign wd_691 (kM hm2) rfl rfl rfl (Nat.le_of_ble_eq_true rfl) ⟨Nat.le_of_ble_eq_true rfl, Nat.le_of_ble_eq_true rfl⟩ hs5 ?_
  rintro v9 ⟨i7, l8, dd9, x10⟩ E9 - ⟨rfl, rfl, hp11⟩
  show ab_Fr MX11_reply (d + 1) Q 9 [some (.ref 3), some (.int a1), some (.int a2)] [.int r3] (0, 0) (i7, l8, dd9, x10) (ab_E0 sc)
  refine ab_if_ne (tgt := 14) dX11_reply_9 (by decide) (fun c12 => ?_) (fun c12 => ?_)
  · refine ab_aloadn dX11_reply_14 rfl ?_
    refine ab_getf (v := .ref 169) dX11_reply_15 fl_X11_50 kd_3 ff_3_4 ?_
    refine ab_aloadn dX11_reply_18 rfl ?_
    obtain ⟨m13, hm14d, hm14, hm14t⟩ := ((hk6 i7 l8 dd9 x10 hp11).1 c12)
    refine ab_getf (v := .ref m13) dX11_reply_19 fl_X11_23 kd_3 hm14d ?_
    refine ab_aloadn dX11_reply_22 rfl ?_
    refine ab_getf (v := .ref m13) dX11_reply_23 fl_X11_23 kd_3 hm14d ?_
    refine ab_getf (v := .ref (m13 + 47)) dX11_reply_26 fl_X11_168 (kM hm14) (fM_9 hm14) ?_
    refine ab_iloadn dX11_reply_29 rfl ?_
    obtain ⟨P16, hs17, hk18⟩ := hm14t
    refine ab_callV (vs := [.ref m13, .ref (m13 + 47), .int a1]) (st := []) dX11_reply_30 okMX3_hearOthers wd_800 kd_169 rfl rfl rfl (Nat.le_of_ble_eq_true rfl) ⟨Nat.le_of_ble_eq_true rfl, Nat.le_of_ble_eq_true rfl⟩ hs17 ?_
    rintro v9 ⟨i19, l20, dd21, x22⟩ E9 - ⟨rfl, rfl, hp23⟩
    show ab_Fr MX11_reply (d + 1) Q 33 [some (.ref 3), some (.int a1), some (.int a2)] [] (0, 0) (i19, l20, dd21, x22) (ab_E0 sc)
    refine ab_aloadn dX11_reply_33 rfl ?_
    refine ab_getf (v := .ref 169) dX11_reply_34 fl_X11_50 kd_3 ff_3_4 ?_
    refine ab_iloadn dX11_reply_37 rfl ?_
    refine ab_iloadn dX11_reply_38 rfl ?_
    refine ab_aloadn dX11_reply_39 rfl ?_
    obtain ⟨m24, hm25d, hm25, hm25t⟩ := (hk18 i19 l20 dd21 x22 hp23)
    refine ab_getf (v := .ref m24) dX11_reply_40 fl_X11_23 kd_3 hm25d ?_
    refine ab_getf (v := .ref (m24 + 47)) dX11_reply_43 fl_X11_168 (kM hm25) (fM_9 hm25) ?_
    refine ab_iloadn dX11_reply_46 rfl ?_
    refine ab_iconst (v := 3) dX11_reply_47 (by decide) ?_
    refine ab_imul dX11_reply_48 ?_
    refine ab_iloadn dX11_reply_49 rfl ?_
    refine ab_iadd dX11_reply_50 ?_
    refine ab_iaload (v := (i19 (m24 + 47) ((a1 * 3) + a2).toNatClampNeg)) dX11_reply_51 (kM_47 hm25) hm25t.1 rfl ?_
    obtain ⟨r26, P27, hs28, hk29⟩ := hm25t.2
    refine ab_callV (vs := [.int a1, .int a2, .int (i19 (m24 + 47) ((a1 * 3) + a2).toNatClampNeg)]) (st := []) dX11_reply_52 okMX3_best wd_823 kd_169 rfl rfl rfl (Nat.le_of_ble_eq_true rfl) ⟨Nat.le_of_ble_eq_true rfl, Nat.le_of_ble_eq_true rfl⟩ hs28 ?_
    rintro v9 ⟨i30, l31, dd32, x33⟩ E9 - ⟨rfl, rfl, hp34⟩
    show ab_Fr MX11_reply (d + 1) Q 55 [some (.ref 3), some (.int a1), some (.int a2)] [.int r26] (0, 0) (i30, l31, dd32, x33) (ab_E0 sc)
    exact ab_iret dX11_reply_55 rfl ⟨Nat.zero_le _, Nat.zero_le _⟩ (hk29 i30 l31 dd32 x33 hp34)
  · refine ab_iconst (v := (-1)) dX11_reply_12 (by decide) ?_
    exact ab_iret dX11_reply_13 rfl ⟨Nat.zero_le _, Nat.zero_le _⟩ ((hk6 i7 l8 dd9 x10 hp11).2 c12)
theorem tMX11_fit_0 {d : Nat} {Q : ab_Qt} {sc : Nat × (Nat → Int32)} {i : Nat → Nat → Int32} {l : Nat → Nat → Int64} {dd : Nat → Nat → Value} {x : Nat}  
    (h : (∃ m1, dd 3 11 = .ref m1 ∧ ab_isM m1 ∧ ∃ (r3 : Int32) (P4 : ab_S → Prop), ab_Sp MX1_isEmpty d [.ref m1] (i, l, dd, x) (ab_E0 sc) (some (.int r3)) P4 ∧ ∀ i7 l8 dd9 x10, P4 (i7, l8, dd9, x10) → ((r3 = 0 → (∃ m13, dd9 3 11 = .ref m13 ∧ ab_isM m13 ∧ ∃ (r15 : Int32) (P16 : ab_S → Prop), ab_Sp MX3_isFit d [.ref 169, .ref m13, .ref (m13 + 47)] (i7, l8, dd9, x10) (ab_E0 sc) (some (.int r15)) P16 ∧ ∀ i19 l20 dd21 x22, P16 (i19, l20, dd21, x22) → ((r15 = 0 → Q (some (some (.int 0))) (i19, l20, dd21, x22) (ab_E0 sc)) ∧ (¬ r15 = 0 → Q (some (some (.int 1))) (i19, l20, dd21, x22) (ab_E0 sc))))) ∧ (¬ r3 = 0 → Q (some (some (.int (-1)))) (i7, l8, dd9, x10) (ab_E0 sc))))) :
    ab_Fr MX11_fit (d + 1) Q 0 [some (.ref 3)] [] (0, 0) (i, l, dd, x) (ab_E0 sc) := by
  refine ab_aloadn dX11_fit_0 rfl ?_
  obtain ⟨m1, hm2d, hm2, hm2t⟩ := h
  refine ab_getf (v := .ref m1) dX11_fit_1 fl_X11_23 kd_3 hm2d ?_
  obtain ⟨r3, P4, hs5, hk6⟩ := hm2t
  refine ab_callV (vs := []) (st := []) dX11_fit_4 okMX1_isEmpty wd_683 (kM hm2) rfl rfl rfl (Nat.le_of_ble_eq_true rfl) ⟨Nat.le_of_ble_eq_true rfl, Nat.le_of_ble_eq_true rfl⟩ hs5 ?_
  rintro v9 ⟨i7, l8, dd9, x10⟩ E9 - ⟨rfl, rfl, hp11⟩
  show ab_Fr MX11_fit (d + 1) Q 7 [some (.ref 3)] [.int r3] (0, 0) (i7, l8, dd9, x10) (ab_E0 sc)
  refine ab_if_eq (tgt := 12) dX11_fit_7 (by decide) (fun c12 => ?_) (fun c12 => ?_)
  · refine ab_aloadn dX11_fit_12 rfl ?_
    refine ab_getf (v := .ref 169) dX11_fit_13 fl_X11_50 kd_3 ff_3_4 ?_
    refine ab_aloadn dX11_fit_16 rfl ?_
    obtain ⟨m13, hm14d, hm14, hm14t⟩ := ((hk6 i7 l8 dd9 x10 hp11).1 c12)
    refine ab_getf (v := .ref m13) dX11_fit_17 fl_X11_23 kd_3 hm14d ?_
    refine ab_aloadn dX11_fit_20 rfl ?_
    refine ab_getf (v := .ref m13) dX11_fit_21 fl_X11_23 kd_3 hm14d ?_
    refine ab_getf (v := .ref (m13 + 47)) dX11_fit_24 fl_X11_168 (kM hm14) (fM_9 hm14) ?_
    obtain ⟨r15, P16, hs17, hk18⟩ := hm14t
    refine ab_callV (vs := [.ref m13, .ref (m13 + 47)]) (st := []) dX11_fit_27 okMX3_isFit wd_838 kd_169 rfl rfl rfl (Nat.le_of_ble_eq_true rfl) ⟨Nat.le_of_ble_eq_true rfl, Nat.le_of_ble_eq_true rfl⟩ hs17 ?_
    rintro v9 ⟨i19, l20, dd21, x22⟩ E9 - ⟨rfl, rfl, hp23⟩
    show ab_Fr MX11_fit (d + 1) Q 30 [some (.ref 3)] [.int r15] (0, 0) (i19, l20, dd21, x22) (ab_E0 sc)
    refine ab_if_eq (tgt := 37) dX11_fit_30 (by decide) (fun c24 => ?_) (fun c24 => ?_)
    · refine ab_iconst (v := 0) dX11_fit_37 (by decide) ?_
      exact ab_iret dX11_fit_38 rfl ⟨Nat.zero_le _, Nat.zero_le _⟩ ((hk18 i19 l20 dd21 x22 hp23).1 c24)
    · refine ab_iconst (v := 1) dX11_fit_33 (by decide) ?_
      refine ab_goto (tgt := 38) dX11_fit_34 (by decide) ?_
      exact ab_iret dX11_fit_38 rfl ⟨Nat.zero_le _, Nat.zero_le _⟩ ((hk18 i19 l20 dd21 x22 hp23).2 c24)
  · refine ab_iconst (v := (-1)) dX11_fit_10 (by decide) ?_
    exact ab_iret dX11_fit_11 rfl ⟨Nat.zero_le _, Nat.zero_le _⟩ ((hk6 i7 l8 dd9 x10 hp11).2 c12)
theorem tMX11_settle_0 {d : Nat} {Q : ab_Qt} {sc : Nat × (Nat → Int32)} {i : Nat → Nat → Int32} {l : Nat → Nat → Int64} {dd : Nat → Nat → Value} {x : Nat}  
    (h : (∃ m1, dd 3 11 = .ref m1 ∧ ab_isM m1 ∧ ∃ (r3 : Int32) (P4 : ab_S → Prop), ab_Sp MX1_isEmpty d [.ref m1] (i, l, dd, x) (ab_E0 sc) (some (.int r3)) P4 ∧ ∀ i7 l8 dd9 x10, P4 (i7, l8, dd9, x10) → ((r3 = 0 → (∃ m13, dd9 3 11 = .ref m13 ∧ ab_isM m13 ∧ ∃ (r15 : Int32) (P16 : ab_S → Prop), ab_Sp MX3_settleVotes d [.ref 169, .ref m13] (i7, l8, dd9, x10) (ab_E0 sc) (some (.int r15)) P16 ∧ ∀ i19 l20 dd21 x22, P16 (i19, l20, dd21, x22) → Q (some (some (.int r15))) (i19, l20, dd21, x22) (ab_E0 sc))) ∧ (¬ r3 = 0 → Q (some (some (.int (-1)))) (i7, l8, dd9, x10) (ab_E0 sc))))) :
    ab_Fr MX11_settle (d + 1) Q 0 [some (.ref 3)] [] (0, 0) (i, l, dd, x) (ab_E0 sc) := by
  refine ab_aloadn dX11_settle_0 rfl ?_
  obtain ⟨m1, hm2d, hm2, hm2t⟩ := h
  refine ab_getf (v := .ref m1) dX11_settle_1 fl_X11_23 kd_3 hm2d ?_
  obtain ⟨r3, P4, hs5, hk6⟩ := hm2t
  refine ab_callV (vs := []) (st := []) dX11_settle_4 okMX1_isEmpty wd_683 (kM hm2) rfl rfl rfl (Nat.le_of_ble_eq_true rfl) ⟨Nat.le_of_ble_eq_true rfl, Nat.le_of_ble_eq_true rfl⟩ hs5 ?_
  rintro v9 ⟨i7, l8, dd9, x10⟩ E9 - ⟨rfl, rfl, hp11⟩
  show ab_Fr MX11_settle (d + 1) Q 7 [some (.ref 3)] [.int r3] (0, 0) (i7, l8, dd9, x10) (ab_E0 sc)
  refine ab_if_eq (tgt := 14) dX11_settle_7 (by decide) (fun c12 => ?_) (fun c12 => ?_)
  · refine ab_aloadn dX11_settle_14 rfl ?_
    refine ab_getf (v := .ref 169) dX11_settle_15 fl_X11_50 kd_3 ff_3_4 ?_
    refine ab_aloadn dX11_settle_18 rfl ?_
    obtain ⟨m13, hm14d, hm14, hm14t⟩ := ((hk6 i7 l8 dd9 x10 hp11).1 c12)
    refine ab_getf (v := .ref m13) dX11_settle_19 fl_X11_23 kd_3 hm14d ?_
    obtain ⟨r15, P16, hs17, hk18⟩ := hm14t
    refine ab_callV (vs := [.ref m13]) (st := []) dX11_settle_22 okMX3_settleVotes wd_848 kd_169 rfl rfl rfl (Nat.le_of_ble_eq_true rfl) ⟨Nat.le_of_ble_eq_true rfl, Nat.le_of_ble_eq_true rfl⟩ hs17 ?_
    rintro v9 ⟨i19, l20, dd21, x22⟩ E9 - ⟨rfl, rfl, hp23⟩
    show ab_Fr MX11_settle (d + 1) Q 25 [some (.ref 3)] [.int r15] (0, 0) (i19, l20, dd21, x22) (ab_E0 sc)
    exact ab_iret dX11_settle_25 rfl ⟨Nat.zero_le _, Nat.zero_le _⟩ (hk18 i19 l20 dd21 x22 hp23)
  · refine ab_iconst (v := (-1)) dX11_settle_10 (by decide) ?_
    refine ab_goto (tgt := 25) dX11_settle_11 (by decide) ?_
    exact ab_iret dX11_settle_25 rfl ⟨Nat.zero_le _, Nat.zero_le _⟩ ((hk6 i7 l8 dd9 x10 hp11).2 c12)
theorem tMX11_settled_0 {d : Nat} {Q : ab_Qt} {sc : Nat × (Nat → Int32)} {i : Nat → Nat → Int32} {l : Nat → Nat → Int64} {dd : Nat → Nat → Value} {x : Nat} {a1 : Int32} {a2 : Int32} 
    (h : (∃ (r1 : Int32) (P2 : ab_S → Prop), ab_Sp MX11_inTable d [.int a1, .int a2] (i, l, dd, x) (ab_E0 sc) (some (.int r1)) P2 ∧ ∀ i5 l6 dd7 x8, P2 (i5, l6, dd7, x8) → ((r1 = 0 → Q (some (some (.int (-1)))) (i5, l6, dd7, x8) (ab_E0 sc)) ∧ (¬ r1 = 0 → (vp_in ((a1 * 3) + a2) 21 ∧ Q (some (some (.int (i5 174 ((a1 * 3) + a2).toNatClampNeg)))) (i5, l6, dd7, x8) (ab_E0 sc)))))) :
    ab_Fr MX11_settled (d + 1) Q 0 [some (.ref 3), some (.int a1), some (.int a2)] [] (0, 0) (i, l, dd, x) (ab_E0 sc) := by
  refine ab_iloadn dX11_settled_0 rfl ?_
  refine ab_iloadn dX11_settled_1 rfl ?_
  obtain ⟨r1, P2, hs3, hk4⟩ := h
  refine ab_callS (vs := [.int a1, .int a2]) (st := []) dX11_settled_2 okMX11_inTable wd_868 rfl rfl (Nat.le_of_ble_eq_true rfl) ⟨Nat.le_of_ble_eq_true rfl, Nat.le_of_ble_eq_true rfl⟩ hs3 ?_
  rintro v9 ⟨i5, l6, dd7, x8⟩ E9 - ⟨rfl, rfl, hp9⟩
  show ab_Fr MX11_settled (d + 1) Q 5 [some (.ref 3), some (.int a1), some (.int a2)] [.int r1] (0, 0) (i5, l6, dd7, x8) (ab_E0 sc)
  refine ab_if_eq (tgt := 24) dX11_settled_5 (by decide) (fun c10 => ?_) (fun c10 => ?_)
  · refine ab_iconst (v := (-1)) dX11_settled_24 (by decide) ?_
    exact ab_iret dX11_settled_25 rfl ⟨Nat.zero_le _, Nat.zero_le _⟩ ((hk4 i5 l6 dd7 x8 hp9).1 c10)
  · refine ab_aloadn dX11_settled_8 rfl ?_
    refine ab_getf (v := .ref 169) dX11_settled_9 fl_X11_50 kd_3 ff_3_4 ?_
    refine ab_getf (v := .ref 174) dX11_settled_12 fl_X11_233 kd_169 ff_169_6 ?_
    refine ab_iloadn dX11_settled_15 rfl ?_
    refine ab_iconst (v := 3) dX11_settled_16 (by decide) ?_
    refine ab_imul dX11_settled_17 ?_
    refine ab_iloadn dX11_settled_18 rfl ?_
    refine ab_iadd dX11_settled_19 ?_
    refine ab_iaload (v := (i5 174 ((a1 * 3) + a2).toNatClampNeg)) dX11_settled_20 kd_174 ((hk4 i5 l6 dd7 x8 hp9).2 c10).1 rfl ?_
    refine ab_goto (tgt := 25) dX11_settled_21 (by decide) ?_
    exact ab_iret dX11_settled_25 rfl ⟨Nat.zero_le _, Nat.zero_le _⟩ ((hk4 i5 l6 dd7 x8 hp9).2 c10).2
theorem tMX11_inTable_0 {d : Nat} {Q : ab_Qt} {sc : Nat × (Nat → Int32)} {i : Nat → Nat → Int32} {l : Nat → Nat → Int64} {dd : Nat → Nat → Value} {x : Nat} {a0 : Int32} {a1 : Int32} 
    (h : ((a0 < 0 → Q (some (some (.int 0))) (i, l, dd, x) (ab_E0 sc)) ∧ (¬ a0 < 0 → ((7 ≤ a0 → Q (some (some (.int 0))) (i, l, dd, x) (ab_E0 sc)) ∧ (¬ 7 ≤ a0 → ((a1 < 0 → Q (some (some (.int 0))) (i, l, dd, x) (ab_E0 sc)) ∧ (¬ a1 < 0 → ((3 ≤ a1 → Q (some (some (.int 0))) (i, l, dd, x) (ab_E0 sc)) ∧ (¬ 3 ≤ a1 → Q (some (some (.int 1))) (i, l, dd, x) (ab_E0 sc)))))))))) :
    ab_Fr MX11_inTable (d + 1) Q 0 [some (.int a0), some (.int a1)] [] (0, 0) (i, l, dd, x) (ab_E0 sc) := by
  refine ab_iloadn dX11_inTable_0 rfl ?_
  refine ab_if_lt (tgt := 23) dX11_inTable_1 (by decide) (fun c1 => ?_) (fun c1 => ?_)
  · refine ab_iconst (v := 0) dX11_inTable_23 (by decide) ?_
    exact ab_zret dX11_inTable_24 rfl (by decide) ⟨Nat.zero_le _, Nat.zero_le _⟩ (h.1 c1)
  · refine ab_iloadn dX11_inTable_4 rfl ?_
    refine ab_bipush (v := 7) dX11_inTable_5 (by decide) ?_
    refine ab_icmp_ge (tgt := 23) dX11_inTable_7 (by decide) (fun c2 => ?_) (fun c2 => ?_)
    · refine ab_iconst (v := 0) dX11_inTable_23 (by decide) ?_
      exact ab_zret dX11_inTable_24 rfl (by decide) ⟨Nat.zero_le _, Nat.zero_le _⟩ ((h.2 c1).1 c2)
    · refine ab_iloadn dX11_inTable_10 rfl ?_
      refine ab_if_lt (tgt := 23) dX11_inTable_11 (by decide) (fun c3 => ?_) (fun c3 => ?_)
      · refine ab_iconst (v := 0) dX11_inTable_23 (by decide) ?_
        exact ab_zret dX11_inTable_24 rfl (by decide) ⟨Nat.zero_le _, Nat.zero_le _⟩ (((h.2 c1).2 c2).1 c3)
      · refine ab_iloadn dX11_inTable_14 rfl ?_
        refine ab_iconst (v := 3) dX11_inTable_15 (by decide) ?_
        refine ab_icmp_ge (tgt := 23) dX11_inTable_16 (by decide) (fun c4 => ?_) (fun c4 => ?_)
        · refine ab_iconst (v := 0) dX11_inTable_23 (by decide) ?_
          exact ab_zret dX11_inTable_24 rfl (by decide) ⟨Nat.zero_le _, Nat.zero_le _⟩ ((((h.2 c1).2 c2).2 c3).1 c4)
        · refine ab_iconst (v := 1) dX11_inTable_19 (by decide) ?_
          refine ab_goto (tgt := 24) dX11_inTable_20 (by decide) ?_
          exact ab_zret dX11_inTable_24 rfl (by decide) ⟨Nat.zero_le _, Nat.zero_le _⟩ ((((h.2 c1).2 c2).2 c3).2 c4)
theorem tMX11_settles_0 {d : Nat} {Q : ab_Qt} {sc : Nat × (Nat → Int32)} {i : Nat → Nat → Int32} {l : Nat → Nat → Int64} {dd : Nat → Nat → Value} {x : Nat} {a1 : Int32} 
    (h : ((a1.toInt = 0 → Q (some (some (.long (l 169 7)))) (i, l, dd, x) (ab_E0 sc)) ∧ (¬ a1.toInt = 0 → ((a1.toInt = 1 → Q (some (some (.long (l 169 8)))) (i, l, dd, x) (ab_E0 sc)) ∧ (¬ a1.toInt = 1 → Q (some (some (.long (-1)))) (i, l, dd, x) (ab_E0 sc)))))) :
    ab_Fr MX11_settles (d + 1) Q 0 [some (.ref 3), some (.int a1)] [] (0, 0) (i, l, dd, x) (ab_E0 sc) := by
  refine ab_iloadn dX11_settles_0 rfl ?_
  by_cases c1 : a1.toInt = 0
  · refine ab_lookup (tgt := 28) dX11_settles_1 (by decide) (off := 27) (by rw [c1]; rfl) (by decide) ?_
    refine ab_aloadn dX11_settles_28 rfl ?_
    refine ab_getf (v := .ref 169) dX11_settles_29 fl_X11_50 kd_3 ff_3_4 ?_
    refine ab_getf (v := .long (l 169 7)) dX11_settles_32 fl_X11_236 kd_169 rfl ?_
    exact ab_lret dX11_settles_35 rfl ⟨Nat.zero_le _, Nat.zero_le _⟩ (h.1 c1)
  by_cases c2 : a1.toInt = 1
  · refine ab_lookup (tgt := 36) dX11_settles_1 (by decide) (off := 35) (by rw [c2]; rfl) (by decide) ?_
    refine ab_aloadn dX11_settles_36 rfl ?_
    refine ab_getf (v := .ref 169) dX11_settles_37 fl_X11_50 kd_3 ff_3_4 ?_
    refine ab_getf (v := .long (l 169 8)) dX11_settles_40 fl_X11_240 kd_169 rfl ?_
    exact ab_lret dX11_settles_43 rfl ⟨Nat.zero_le _, Nat.zero_le _⟩ ((h.2 c1).1 c2)
  refine ab_lookup (tgt := 44) dX11_settles_1 (by decide) (off := 43) (by simp [Op.lookupswitch.offset, show ¬ (0 : Int) = a1.toInt from fun z => c1 z.symm, show ¬ (1 : Int) = a1.toInt from fun z => c2 z.symm]) (by decide) ?_
  refine ab_ldc2 dX11_settles_44 wd_875 ?_
  exact ab_lret dX11_settles_47 rfl ⟨Nat.zero_le _, Nat.zero_le _⟩ ((h.2 c1).2 c2)
theorem tMX11_inTurns_0 {d : Nat} {Q : ab_Qt} {sc : Nat × (Nat → Int32)} {i : Nat → Nat → Int32} {l : Nat → Nat → Int64} {dd : Nat → Nat → Value} {x : Nat}  
    (h : (∃ m1, dd 3 11 = .ref m1 ∧ ab_isM m1 ∧ ∃ (r3 : Int32) (P4 : ab_S → Prop), ab_Sp MX1_hasOrder d [.ref m1, .ref 4] (i, l, dd, x) (ab_E0 sc) (some (.int r3)) P4 ∧ ∀ i7 l8 dd9 x10, P4 (i7, l8, dd9, x10) → ((r3 = 0 → ab_Fr MX11_inTurns (d + 1) Q 54 [some (.ref 3), some (.long (-1)), none] [] (0, 0) (i7, l8, dd9, x10) (ab_E0 sc)) ∧ (¬ r3 = 0 → (∃ m13, dd9 3 11 = .ref m13 ∧ ab_isM m13 ∧ ∃ (P16 : ab_S → Prop), ab_Sp MX8_speakAll d [.ref 179, .ref m13, .ref 5] (i7, l8, dd9, x10) (ab_E0 sc) (none) P16 ∧ ∀ i19 l20 dd21 x22, P16 (i19, l20, dd21, x22) → ∃ m24, dd21 3 11 = .ref m24 ∧ ab_isM m24 ∧ ∃ (r26 : Int64) (P27 : ab_S → Prop), ab_Sp MX0_lostBy d [.ref (m24 + 2), .ref (179 + 5)] (i19, l20, dd21, x22) (ab_E0 sc) (some (.long r26)) P27 ∧ ∀ i30 l31 dd32 x33, P27 (i30, l31, dd32, x33) → ab_Fr MX11_inTurns (d + 1) Q 54 [some (.ref 3), some (.long r26), none] [] (0, 0) (i30, l31, dd32, x33) (ab_E0 sc)))))) :
    ab_Fr MX11_inTurns (d + 1) Q 0 [some (.ref 3), none, none] [] (0, 0) (i, l, dd, x) (ab_E0 sc) := by
  refine ab_ldc2 dX11_inTurns_0 wd_875 ?_
  refine ab_lstoren dX11_inTurns_3 (Nat.le_of_ble_eq_true rfl) (L2 := [some (.ref 3), some (.long (-1)), none]) rfl ?_
  refine ab_aloadn dX11_inTurns_4 rfl ?_
  obtain ⟨m1, hm2d, hm2, hm2t⟩ := h
  refine ab_getf (v := .ref m1) dX11_inTurns_5 fl_X11_23 kd_3 hm2d ?_
  refine ab_aloadn dX11_inTurns_8 rfl ?_
  refine ab_getf (v := .ref 4) dX11_inTurns_9 fl_X11_10 kd_3 ff_3_0 ?_
  obtain ⟨r3, P4, hs5, hk6⟩ := hm2t
  refine ab_callV (vs := [.ref 4]) (st := []) dX11_inTurns_12 okMX1_hasOrder wd_880 (kM hm2) rfl rfl rfl (Nat.le_of_ble_eq_true rfl) ⟨Nat.le_of_ble_eq_true rfl, Nat.le_of_ble_eq_true rfl⟩ hs5 ?_
  rintro v9 ⟨i7, l8, dd9, x10⟩ E9 - ⟨rfl, rfl, hp11⟩
  show ab_Fr MX11_inTurns (d + 1) Q 15 [some (.ref 3), some (.long (-1)), none] [.int r3] (0, 0) (i7, l8, dd9, x10) (ab_E0 sc)
  refine ab_if_eq (tgt := 54) dX11_inTurns_15 (by decide) (fun c12 => ?_) (fun c12 => ?_)
  · exact ((hk6 i7 l8 dd9 x10 hp11).1 c12)
  · refine ab_aloadn dX11_inTurns_18 rfl ?_
    refine ab_getf (v := .ref 179) dX11_inTurns_19 fl_X11_57 kd_3 ff_3_5 ?_
    refine ab_aloadn dX11_inTurns_22 rfl ?_
    obtain ⟨m13, hm14d, hm14, hm14t⟩ := ((hk6 i7 l8 dd9 x10 hp11).2 c12)
    refine ab_getf (v := .ref m13) dX11_inTurns_23 fl_X11_23 kd_3 hm14d ?_
    refine ab_aloadn dX11_inTurns_26 rfl ?_
    refine ab_getf (v := .ref 4) dX11_inTurns_27 fl_X11_10 kd_3 ff_3_0 ?_
    refine ab_getf (v := .ref 5) dX11_inTurns_30 fl_X11_148 kd_4 ff_4_0 ?_
    obtain ⟨P16, hs17, hk18⟩ := hm14t
    refine ab_callV (vs := [.ref m13, .ref 5]) (st := []) dX11_inTurns_33 okMX8_speakAll wd_884 (kT isT_179) rfl rfl rfl (Nat.le_of_ble_eq_true rfl) ⟨Nat.le_of_ble_eq_true rfl, Nat.le_of_ble_eq_true rfl⟩ hs17 ?_
    rintro v9 ⟨i19, l20, dd21, x22⟩ E9 - ⟨rfl, rfl, hp23⟩
    show ab_Fr MX11_inTurns (d + 1) Q 36 [some (.ref 3), some (.long (-1)), none] [] (0, 0) (i19, l20, dd21, x22) (ab_E0 sc)
    refine ab_aloadn dX11_inTurns_36 rfl ?_
    obtain ⟨m24, hm25d, hm25, hm25t⟩ := (hk18 i19 l20 dd21 x22 hp23)
    refine ab_getf (v := .ref m24) dX11_inTurns_37 fl_X11_23 kd_3 hm25d ?_
    refine ab_getf (v := .ref (m24 + 2)) dX11_inTurns_40 fl_X11_199 (kM hm25) (fM_7 hm25) ?_
    refine ab_aloadn dX11_inTurns_43 rfl ?_
    refine ab_getf (v := .ref 179) dX11_inTurns_44 fl_X11_57 kd_3 ff_3_5 ?_
    refine ab_getf (v := .ref (179 + 5)) dX11_inTurns_47 fl_X11_251 (kT isT_179) (fT_5 isT_179) ?_
    obtain ⟨r26, P27, hs28, hk29⟩ := hm25t
    refine ab_callV (vs := [.ref (179 + 5)]) (st := []) dX11_inTurns_50 okMX0_lostBy wd_780 (kLo (isM_2 hm25)) rfl rfl rfl (Nat.le_of_ble_eq_true rfl) ⟨Nat.le_of_ble_eq_true rfl, Nat.le_of_ble_eq_true rfl⟩ hs28 ?_
    rintro v9 ⟨i30, l31, dd32, x33⟩ E9 - ⟨rfl, rfl, hp34⟩
    show ab_Fr MX11_inTurns (d + 1) Q 53 [some (.ref 3), some (.long (-1)), none] [.long r26] (0, 0) (i30, l31, dd32, x33) (ab_E0 sc)
    refine ab_lstoren dX11_inTurns_53 (Nat.le_of_ble_eq_true rfl) (L2 := [some (.ref 3), some (.long r26), none]) rfl ?_
    exact (hk29 i30 l31 dd32 x33 hp34)
theorem tMX11_inTurns_54 {d : Nat} {Q : ab_Qt} {sc : Nat × (Nat → Int32)} {i : Nat → Nat → Int32} {l : Nat → Nat → Int64} {dd : Nat → Nat → Value} {x : Nat} {a1 : Int64} 
    (h : (∃ (P2 : ab_S → Prop), ab_Sp MX7_clear d [.ref 4] (i, l, dd, x) (ab_E0 sc) (none) P2 ∧ ∀ i5 l6 dd7 x8, P2 (i5, l6, dd7, x8) → Q (some (some (.long a1))) (i5, l6, dd7, x8) (ab_E0 sc))) :
    ab_Fr MX11_inTurns (d + 1) Q 54 [some (.ref 3), some (.long a1), none] [] (0, 0) (i, l, dd, x) (ab_E0 sc) := by
  refine ab_aloadn dX11_inTurns_54 rfl ?_
  refine ab_getf (v := .ref 4) dX11_inTurns_55 fl_X11_10 kd_3 ff_3_0 ?_
  obtain ⟨P2, hs3, hk4⟩ := h
  refine ab_callV (vs := []) (st := []) dX11_inTurns_58 okMX7_clear wd_659 kd_4 rfl rfl rfl (Nat.le_of_ble_eq_true rfl) ⟨Nat.le_of_ble_eq_true rfl, Nat.le_of_ble_eq_true rfl⟩ hs3 ?_
  rintro v9 ⟨i5, l6, dd7, x8⟩ E9 - ⟨rfl, rfl, hp9⟩
  show ab_Fr MX11_inTurns (d + 1) Q 61 [some (.ref 3), some (.long a1), none] [] (0, 0) (i5, l6, dd7, x8) (ab_E0 sc)
  refine ab_lloadn dX11_inTurns_61 rfl ?_
  exact ab_lret dX11_inTurns_62 rfl ⟨Nat.zero_le _, Nat.zero_le _⟩ (hk4 i5 l6 dd7 x8 hp9)
theorem tMX11_herd_0 {d : Nat} {Q : ab_Qt} {sc : Nat × (Nat → Int32)} {i : Nat → Nat → Int32} {l : Nat → Nat → Int64} {dd : Nat → Nat → Value} {x : Nat} {a1 : Int32} 
    (h : (∃ (r1 : Int32) (P2 : ab_S → Prop), ab_Sp MX8_isSilent d [.ref 179] (i, l, dd, x) (ab_E0 sc) (some (.int r1)) P2 ∧ ∀ i5 l6 dd7 x8, P2 (i5, l6, dd7, x8) → ((r1 = 0 → ((a1.toInt < 0 ∨ 2 < a1.toInt → Q (some (some (.long (-1)))) (i5, l6, dd7, x8) (ab_E0 sc)) ∧ (a1.toInt = 0 → Q (some (some (.long (l6 179 6)))) (i5, l6, dd7, x8) (ab_E0 sc)) ∧ (a1.toInt = 1 → Q (some (some (.long (l6 179 7)))) (i5, l6, dd7, x8) (ab_E0 sc)) ∧ (a1.toInt = 2 → (∃ (r12 : Int64) (P13 : ab_S → Prop), ab_Sp MX11_rightOf d [.ref (179 + 5)] (i5, l6, dd7, x8) (ab_E0 sc) (some (.long r12)) P13 ∧ ∀ i16 l17 dd18 x19, P13 (i16, l17, dd18, x19) → Q (some (some (.long r12))) (i16, l17, dd18, x19) (ab_E0 sc))))) ∧ (¬ r1 = 0 → Q (some (some (.long (-1)))) (i5, l6, dd7, x8) (ab_E0 sc))))) :
    ab_Fr MX11_herd (d + 1) Q 0 [some (.ref 3), some (.int a1)] [] (0, 0) (i, l, dd, x) (ab_E0 sc) := by
  refine ab_aloadn dX11_herd_0 rfl ?_
  refine ab_getf (v := .ref 179) dX11_herd_1 fl_X11_57 kd_3 ff_3_5 ?_
  obtain ⟨r1, P2, hs3, hk4⟩ := h
  refine ab_callV (vs := []) (st := []) dX11_herd_4 okMX8_isSilent wd_920 (kT isT_179) rfl rfl rfl (Nat.le_of_ble_eq_true rfl) ⟨Nat.le_of_ble_eq_true rfl, Nat.le_of_ble_eq_true rfl⟩ hs3 ?_
  rintro v9 ⟨i5, l6, dd7, x8⟩ E9 - ⟨rfl, rfl, hp9⟩
  show ab_Fr MX11_herd (d + 1) Q 7 [some (.ref 3), some (.int a1)] [.int r1] (0, 0) (i5, l6, dd7, x8) (ab_E0 sc)
  refine ab_if_eq (tgt := 14) dX11_herd_7 (by decide) (fun c10 => ?_) (fun c10 => ?_)
  · refine ab_iloadn dX11_herd_14 rfl ?_
    rcases ab_tabsplit a1 0 3 with c11 | ⟨q, hq, c11⟩
    · refine ab_tabOut (tgt := 67) dX11_herd_15 (by simpa using c11) (by decide) ?_
      refine ab_ldc2 dX11_herd_67 wd_875 ?_
      exact ab_lret dX11_herd_70 rfl ⟨Nat.zero_le _, Nat.zero_le _⟩ (((hk4 i5 l6 dd7 x8 hp9).1 c10).1 c11)
    · match q, hq with
      | 0, _ =>
          have c11 : a1.toInt = 0 := by simpa using c11
          refine ab_tabIn (tgt := 40) dX11_herd_15 (by rw [c11]; decide) (by rw [c11]; decide) (off := 25) (by rw [c11]; rfl) (by decide) ?_
          refine ab_aloadn dX11_herd_40 rfl ?_
          refine ab_getf (v := .ref 179) dX11_herd_41 fl_X11_57 kd_3 ff_3_5 ?_
          refine ab_getf (v := .long (l6 179 6)) dX11_herd_44 fl_X11_255 (kT isT_179) rfl ?_
          exact ab_lret dX11_herd_47 rfl ⟨Nat.zero_le _, Nat.zero_le _⟩ (((hk4 i5 l6 dd7 x8 hp9).1 c10).2.1 c11)
      | 1, _ =>
          have c11 : a1.toInt = 1 := by simpa using c11
          refine ab_tabIn (tgt := 48) dX11_herd_15 (by rw [c11]; decide) (by rw [c11]; decide) (off := 33) (by rw [c11]; rfl) (by decide) ?_
          refine ab_aloadn dX11_herd_48 rfl ?_
          refine ab_getf (v := .ref 179) dX11_herd_49 fl_X11_57 kd_3 ff_3_5 ?_
          refine ab_getf (v := .long (l6 179 7)) dX11_herd_52 fl_X11_258 (kT isT_179) rfl ?_
          exact ab_lret dX11_herd_55 rfl ⟨Nat.zero_le _, Nat.zero_le _⟩ (((hk4 i5 l6 dd7 x8 hp9).1 c10).2.2.1 c11)
      | 2, _ =>
          have c11 : a1.toInt = 2 := by simpa using c11
          refine ab_tabIn (tgt := 56) dX11_herd_15 (by rw [c11]; decide) (by rw [c11]; decide) (off := 41) (by rw [c11]; rfl) (by decide) ?_
          refine ab_aloadn dX11_herd_56 rfl ?_
          refine ab_getf (v := .ref 179) dX11_herd_57 fl_X11_57 kd_3 ff_3_5 ?_
          refine ab_getf (v := .ref (179 + 5)) dX11_herd_60 fl_X11_251 (kT isT_179) (fT_5 isT_179) ?_
          obtain ⟨r12, P13, hs14, hk15⟩ := (((hk4 i5 l6 dd7 x8 hp9).1 c10).2.2.2 c11)
          refine ab_callS (vs := [.ref (179 + 5)]) (st := []) dX11_herd_63 okMX11_rightOf wd_766 rfl rfl (Nat.le_of_ble_eq_true rfl) ⟨Nat.le_of_ble_eq_true rfl, Nat.le_of_ble_eq_true rfl⟩ hs14 ?_
          rintro v9 ⟨i16, l17, dd18, x19⟩ E9 - ⟨rfl, rfl, hp20⟩
          show ab_Fr MX11_herd (d + 1) Q 66 [some (.ref 3), some (.int a1)] [.long r12] (0, 0) (i16, l17, dd18, x19) (ab_E0 sc)
          exact ab_lret dX11_herd_66 rfl ⟨Nat.zero_le _, Nat.zero_le _⟩ (hk15 i16 l17 dd18 x19 hp20)
      | n + 3, hq => exact absurd hq (by omega)
  · refine ab_ldc2 dX11_herd_10 wd_875 ?_
    exact ab_lret dX11_herd_13 rfl ⟨Nat.zero_le _, Nat.zero_le _⟩ ((hk4 i5 l6 dd7 x8 hp9).2 c10)
theorem tMX11_says_0 {d : Nat} {Q : ab_Qt} {sc : Nat × (Nat → Int32)} {i : Nat → Nat → Int32} {l : Nat → Nat → Int64} {dd : Nat → Nat → Value} {x : Nat}  
    (h : (∃ (r1 : Int32) (P2 : ab_S → Prop), ab_Sp MX8_hasSigns d [.ref 179, .ref 4] (i, l, dd, x) (ab_E0 sc) (some (.int r1)) P2 ∧ ∀ i5 l6 dd7 x8, P2 (i5, l6, dd7, x8) → ((r1 = 0 → ab_Fr MX11_says (d + 1) Q 32 [some (.ref 3), none] [.int (-1)] (0, 0) (i5, l6, dd7, x8) (ab_E0 sc)) ∧ (¬ r1 = 0 → (∃ (r11 : Int32) (P12 : ab_S → Prop), ab_Sp MX8_said d [.ref 179, .ref 5] (i5, l6, dd7, x8) (ab_E0 sc) (some (.int r11)) P12 ∧ ∀ i15 l16 dd17 x18, P12 (i15, l16, dd17, x18) → ab_Fr MX11_says (d + 1) Q 32 [some (.ref 3), none] [.int r11] (0, 0) (i15, l16, dd17, x18) (ab_E0 sc)))))) :
    ab_Fr MX11_says (d + 1) Q 0 [some (.ref 3), none] [] (0, 0) (i, l, dd, x) (ab_E0 sc) := by
  refine ab_aloadn dX11_says_0 rfl ?_
  refine ab_getf (v := .ref 179) dX11_says_1 fl_X11_57 kd_3 ff_3_5 ?_
  refine ab_aloadn dX11_says_4 rfl ?_
  refine ab_getf (v := .ref 4) dX11_says_5 fl_X11_10 kd_3 ff_3_0 ?_
  obtain ⟨r1, P2, hs3, hk4⟩ := h
  refine ab_callV (vs := [.ref 4]) (st := []) dX11_says_8 okMX8_hasSigns wd_929 (kT isT_179) rfl rfl rfl (Nat.le_of_ble_eq_true rfl) ⟨Nat.le_of_ble_eq_true rfl, Nat.le_of_ble_eq_true rfl⟩ hs3 ?_
  rintro v9 ⟨i5, l6, dd7, x8⟩ E9 - ⟨rfl, rfl, hp9⟩
  show ab_Fr MX11_says (d + 1) Q 11 [some (.ref 3), none] [.int r1] (0, 0) (i5, l6, dd7, x8) (ab_E0 sc)
  refine ab_if_eq (tgt := 31) dX11_says_11 (by decide) (fun c10 => ?_) (fun c10 => ?_)
  · refine ab_iconst (v := (-1)) dX11_says_31 (by decide) ?_
    exact ((hk4 i5 l6 dd7 x8 hp9).1 c10)
  · refine ab_aloadn dX11_says_14 rfl ?_
    refine ab_getf (v := .ref 179) dX11_says_15 fl_X11_57 kd_3 ff_3_5 ?_
    refine ab_aloadn dX11_says_18 rfl ?_
    refine ab_getf (v := .ref 4) dX11_says_19 fl_X11_10 kd_3 ff_3_0 ?_
    refine ab_getf (v := .ref 5) dX11_says_22 fl_X11_148 kd_4 ff_4_0 ?_
    obtain ⟨r11, P12, hs13, hk14⟩ := ((hk4 i5 l6 dd7 x8 hp9).2 c10)
    refine ab_callV (vs := [.ref 5]) (st := []) dX11_says_25 okMX8_said wd_934 (kT isT_179) rfl rfl rfl (Nat.le_of_ble_eq_true rfl) ⟨Nat.le_of_ble_eq_true rfl, Nat.le_of_ble_eq_true rfl⟩ hs13 ?_
    rintro v9 ⟨i15, l16, dd17, x18⟩ E9 - ⟨rfl, rfl, hp19⟩
    show ab_Fr MX11_says (d + 1) Q 28 [some (.ref 3), none] [.int r11] (0, 0) (i15, l16, dd17, x18) (ab_E0 sc)
    refine ab_goto (tgt := 32) dX11_says_28 (by decide) ?_
    exact (hk14 i15 l16 dd17 x18 hp19)
theorem tMX11_says_32 {d : Nat} {Q : ab_Qt} {sc : Nat × (Nat → Int32)} {i : Nat → Nat → Int32} {l : Nat → Nat → Int64} {dd : Nat → Nat → Value} {x : Nat} {s0 : Int32} 
    (h : (∃ (P2 : ab_S → Prop), ab_Sp MX7_clear d [.ref 4] (i, l, dd, x) (ab_E0 sc) (none) P2 ∧ ∀ i5 l6 dd7 x8, P2 (i5, l6, dd7, x8) → Q (some (some (.int s0))) (i5, l6, dd7, x8) (ab_E0 sc))) :
    ab_Fr MX11_says (d + 1) Q 32 [some (.ref 3), none] [.int s0] (0, 0) (i, l, dd, x) (ab_E0 sc) := by
  refine ab_istoren dX11_says_32 (Nat.le_of_ble_eq_true rfl) (L2 := [some (.ref 3), some (.int s0)]) rfl ?_
  refine ab_aloadn dX11_says_33 rfl ?_
  refine ab_getf (v := .ref 4) dX11_says_34 fl_X11_10 kd_3 ff_3_0 ?_
  obtain ⟨P2, hs3, hk4⟩ := h
  refine ab_callV (vs := []) (st := []) dX11_says_37 okMX7_clear wd_659 kd_4 rfl rfl rfl (Nat.le_of_ble_eq_true rfl) ⟨Nat.le_of_ble_eq_true rfl, Nat.le_of_ble_eq_true rfl⟩ hs3 ?_
  rintro v9 ⟨i5, l6, dd7, x8⟩ E9 - ⟨rfl, rfl, hp9⟩
  show ab_Fr MX11_says (d + 1) Q 40 [some (.ref 3), some (.int s0)] [] (0, 0) (i5, l6, dd7, x8) (ab_E0 sc)
  refine ab_iloadn dX11_says_40 rfl ?_
  exact ab_iret dX11_says_41 rfl ⟨Nat.zero_le _, Nat.zero_le _⟩ (hk4 i5 l6 dd7 x8 hp9)
theorem tMX11_cliff_0 {d : Nat} {Q : ab_Qt} {sc : Nat × (Nat → Int32)} {i : Nat → Nat → Int32} {l : Nat → Nat → Int64} {dd : Nat → Nat → Value} {x : Nat}  
    (h : (∃ (r1 : Int32) (P2 : ab_S → Prop), ab_Sp MX8_hasSigns d [.ref 179, .ref 4] (i, l, dd, x) (ab_E0 sc) (some (.int r1)) P2 ∧ ∀ i5 l6 dd7 x8, P2 (i5, l6, dd7, x8) → ((r1 = 0 → ab_Fr MX11_cliff (d + 1) Q 32 [some (.ref 3), none] [.int (-1)] (0, 0) (i5, l6, dd7, x8) (ab_E0 sc)) ∧ (¬ r1 = 0 → (∃ (r11 : Int32) (P12 : ab_S → Prop), ab_Sp MX8_cliffWith d [.ref 179, .ref 5] (i5, l6, dd7, x8) (ab_E0 sc) (some (.int r11)) P12 ∧ ∀ i15 l16 dd17 x18, P12 (i15, l16, dd17, x18) → ab_Fr MX11_cliff (d + 1) Q 32 [some (.ref 3), none] [.int r11] (0, 0) (i15, l16, dd17, x18) (ab_E0 sc)))))) :
    ab_Fr MX11_cliff (d + 1) Q 0 [some (.ref 3), none] [] (0, 0) (i, l, dd, x) (ab_E0 sc) := by
  refine ab_aloadn dX11_cliff_0 rfl ?_
  refine ab_getf (v := .ref 179) dX11_cliff_1 fl_X11_57 kd_3 ff_3_5 ?_
  refine ab_aloadn dX11_cliff_4 rfl ?_
  refine ab_getf (v := .ref 4) dX11_cliff_5 fl_X11_10 kd_3 ff_3_0 ?_
  obtain ⟨r1, P2, hs3, hk4⟩ := h
  refine ab_callV (vs := [.ref 4]) (st := []) dX11_cliff_8 okMX8_hasSigns wd_929 (kT isT_179) rfl rfl rfl (Nat.le_of_ble_eq_true rfl) ⟨Nat.le_of_ble_eq_true rfl, Nat.le_of_ble_eq_true rfl⟩ hs3 ?_
  rintro v9 ⟨i5, l6, dd7, x8⟩ E9 - ⟨rfl, rfl, hp9⟩
  show ab_Fr MX11_cliff (d + 1) Q 11 [some (.ref 3), none] [.int r1] (0, 0) (i5, l6, dd7, x8) (ab_E0 sc)
  refine ab_if_eq (tgt := 31) dX11_cliff_11 (by decide) (fun c10 => ?_) (fun c10 => ?_)
  · refine ab_iconst (v := (-1)) dX11_cliff_31 (by decide) ?_
    exact ((hk4 i5 l6 dd7 x8 hp9).1 c10)
  · refine ab_aloadn dX11_cliff_14 rfl ?_
    refine ab_getf (v := .ref 179) dX11_cliff_15 fl_X11_57 kd_3 ff_3_5 ?_
    refine ab_aloadn dX11_cliff_18 rfl ?_
    refine ab_getf (v := .ref 4) dX11_cliff_19 fl_X11_10 kd_3 ff_3_0 ?_
    refine ab_getf (v := .ref 5) dX11_cliff_22 fl_X11_148 kd_4 ff_4_0 ?_
    obtain ⟨r11, P12, hs13, hk14⟩ := ((hk4 i5 l6 dd7 x8 hp9).2 c10)
    refine ab_callV (vs := [.ref 5]) (st := []) dX11_cliff_25 okMX8_cliffWith wd_945 (kT isT_179) rfl rfl rfl (Nat.le_of_ble_eq_true rfl) ⟨Nat.le_of_ble_eq_true rfl, Nat.le_of_ble_eq_true rfl⟩ hs13 ?_
    rintro v9 ⟨i15, l16, dd17, x18⟩ E9 - ⟨rfl, rfl, hp19⟩
    show ab_Fr MX11_cliff (d + 1) Q 28 [some (.ref 3), none] [.int r11] (0, 0) (i15, l16, dd17, x18) (ab_E0 sc)
    refine ab_goto (tgt := 32) dX11_cliff_28 (by decide) ?_
    exact (hk14 i15 l16 dd17 x18 hp19)
theorem tMX11_cliff_32 {d : Nat} {Q : ab_Qt} {sc : Nat × (Nat → Int32)} {i : Nat → Nat → Int32} {l : Nat → Nat → Int64} {dd : Nat → Nat → Value} {x : Nat} {s0 : Int32} 
    (h : (∃ (P2 : ab_S → Prop), ab_Sp MX7_clear d [.ref 4] (i, l, dd, x) (ab_E0 sc) (none) P2 ∧ ∀ i5 l6 dd7 x8, P2 (i5, l6, dd7, x8) → Q (some (some (.int s0))) (i5, l6, dd7, x8) (ab_E0 sc))) :
    ab_Fr MX11_cliff (d + 1) Q 32 [some (.ref 3), none] [.int s0] (0, 0) (i, l, dd, x) (ab_E0 sc) := by
  refine ab_istoren dX11_cliff_32 (Nat.le_of_ble_eq_true rfl) (L2 := [some (.ref 3), some (.int s0)]) rfl ?_
  refine ab_aloadn dX11_cliff_33 rfl ?_
  refine ab_getf (v := .ref 4) dX11_cliff_34 fl_X11_10 kd_3 ff_3_0 ?_
  obtain ⟨P2, hs3, hk4⟩ := h
  refine ab_callV (vs := []) (st := []) dX11_cliff_37 okMX7_clear wd_659 kd_4 rfl rfl rfl (Nat.le_of_ble_eq_true rfl) ⟨Nat.le_of_ble_eq_true rfl, Nat.le_of_ble_eq_true rfl⟩ hs3 ?_
  rintro v9 ⟨i5, l6, dd7, x8⟩ E9 - ⟨rfl, rfl, hp9⟩
  show ab_Fr MX11_cliff (d + 1) Q 40 [some (.ref 3), some (.int s0)] [] (0, 0) (i5, l6, dd7, x8) (ab_E0 sc)
  refine ab_iloadn dX11_cliff_40 rfl ?_
  exact ab_iret dX11_cliff_41 rfl ⟨Nat.zero_le _, Nat.zero_le _⟩ (hk4 i5 l6 dd7 x8 hp9)
theorem tMX11_bestOrder_0 {d : Nat} {Q : ab_Qt} {sc : Nat × (Nat → Int32)} {i : Nat → Nat → Int32} {l : Nat → Nat → Int64} {dd : Nat → Nat → Value} {x : Nat}  
    (h : (∃ m1, dd 3 11 = .ref m1 ∧ ab_isM m1 ∧ ∃ (r3 : Int32) (P4 : ab_S → Prop), ab_Sp MX1_isEmpty d [.ref m1] (i, l, dd, x) (ab_E0 sc) (some (.int r3)) P4 ∧ ∀ i7 l8 dd9 x10, P4 (i7, l8, dd9, x10) → ((¬ r3 = 0 → Q (some (some (.int (-1)))) (i7, l8, dd9, x10) (ab_E0 sc)) ∧ (r3 = 0 → (∃ m13, dd9 3 11 = .ref m13 ∧ ab_isM m13 ∧ (((i7 m13 1) ≤ 5 → (∃ (r16 : Int32) (P17 : ab_S → Prop), ab_Sp MX8_tryOrders d [.ref 185, .ref m13] (i7, l8, dd9, x10) (ab_E0 sc) (some (.int r16)) P17 ∧ ∀ i20 l21 dd22 x23, P17 (i20, l21, dd22, x23) → Q (some (some (.int r16))) (i20, l21, dd22, x23) (ab_E0 sc))) ∧ (¬ (i7 m13 1) ≤ 5 → Q (some (some (.int (-1)))) (i7, l8, dd9, x10) (ab_E0 sc)))))))) :
    ab_Fr MX11_bestOrder (d + 1) Q 0 [some (.ref 3)] [] (0, 0) (i, l, dd, x) (ab_E0 sc) := by
  refine ab_aloadn dX11_bestOrder_0 rfl ?_
  obtain ⟨m1, hm2d, hm2, hm2t⟩ := h
  refine ab_getf (v := .ref m1) dX11_bestOrder_1 fl_X11_23 kd_3 hm2d ?_
  obtain ⟨r3, P4, hs5, hk6⟩ := hm2t
  refine ab_callV (vs := []) (st := []) dX11_bestOrder_4 okMX1_isEmpty wd_683 (kM hm2) rfl rfl rfl (Nat.le_of_ble_eq_true rfl) ⟨Nat.le_of_ble_eq_true rfl, Nat.le_of_ble_eq_true rfl⟩ hs5 ?_
  rintro v9 ⟨i7, l8, dd9, x10⟩ E9 - ⟨rfl, rfl, hp11⟩
  show ab_Fr MX11_bestOrder (d + 1) Q 7 [some (.ref 3)] [.int r3] (0, 0) (i7, l8, dd9, x10) (ab_E0 sc)
  refine ab_if_ne (tgt := 21) dX11_bestOrder_7 (by decide) (fun c12 => ?_) (fun c12 => ?_)
  · refine ab_iconst (v := (-1)) dX11_bestOrder_21 (by decide) ?_
    exact ab_iret dX11_bestOrder_22 rfl ⟨Nat.zero_le _, Nat.zero_le _⟩ ((hk6 i7 l8 dd9 x10 hp11).1 c12)
  · refine ab_aloadn dX11_bestOrder_10 rfl ?_
    obtain ⟨m13, hm14d, hm14, hm14t⟩ := ((hk6 i7 l8 dd9 x10 hp11).2 c12)
    refine ab_getf (v := .ref m13) dX11_bestOrder_11 fl_X11_23 kd_3 hm14d ?_
    refine ab_getf (v := .int (i7 m13 1)) dX11_bestOrder_14 fl_X11_120 (kM hm14) rfl ?_
    refine ab_iconst (v := 5) dX11_bestOrder_17 (by decide) ?_
    refine ab_icmp_le (tgt := 23) dX11_bestOrder_18 (by decide) (fun c15 => ?_) (fun c15 => ?_)
    · refine ab_aloadn dX11_bestOrder_23 rfl ?_
      refine ab_getf (v := .ref 185) dX11_bestOrder_24 fl_X11_61 kd_3 ff_3_6 ?_
      refine ab_aloadn dX11_bestOrder_27 rfl ?_
      refine ab_getf (v := .ref m13) dX11_bestOrder_28 fl_X11_23 kd_3 hm14d ?_
      obtain ⟨r16, P17, hs18, hk19⟩ := (hm14t.1 c15)
      refine ab_callV (vs := [.ref m13]) (st := []) dX11_bestOrder_31 okMX8_tryOrders wd_953 (kT isT_185) rfl rfl rfl (Nat.le_of_ble_eq_true rfl) ⟨Nat.le_of_ble_eq_true rfl, Nat.le_of_ble_eq_true rfl⟩ hs18 ?_
      rintro v9 ⟨i20, l21, dd22, x23⟩ E9 - ⟨rfl, rfl, hp24⟩
      show ab_Fr MX11_bestOrder (d + 1) Q 34 [some (.ref 3)] [.int r16] (0, 0) (i20, l21, dd22, x23) (ab_E0 sc)
      exact ab_iret dX11_bestOrder_34 rfl ⟨Nat.zero_le _, Nat.zero_le _⟩ (hk19 i20 l21 dd22 x23 hp24)
    · refine ab_iconst (v := (-1)) dX11_bestOrder_21 (by decide) ?_
      exact ab_iret dX11_bestOrder_22 rfl ⟨Nat.zero_le _, Nat.zero_le _⟩ (hm14t.2 c15)
theorem tMX11_bar_0 {d : Nat} {Q : ab_Qt} {sc : Nat × (Nat → Int32)} {i : Nat → Nat → Int32} {l : Nat → Nat → Int64} {dd : Nat → Nat → Value} {x : Nat} {a1 : Int32} {a2 : Int32} 
    (h : (∃ m1, dd 3 11 = .ref m1 ∧ ab_isM m1 ∧ ∃ (r3 : Int32) (P4 : ab_S → Prop), ab_Sp MX1_hasTruth d [.ref m1, .int a1] (i, l, dd, x) (ab_E0 sc) (some (.int r3)) P4 ∧ ∀ i7 l8 dd9 x10, P4 (i7, l8, dd9, x10) → ((r3 = 0 → Q (some (some (.int (-1)))) (i7, l8, dd9, x10) (ab_E0 sc)) ∧ (¬ r3 = 0 → (∃ m13, dd9 3 11 = .ref m13 ∧ ab_isM m13 ∧ ∃ (r15 : Int32) (P16 : ab_S → Prop), ab_Sp MX1_hasTruth d [.ref m13, .int a2] (i7, l8, dd9, x10) (ab_E0 sc) (some (.int r15)) P16 ∧ ∀ i19 l20 dd21 x22, P16 (i19, l20, dd21, x22) → ((r15 = 0 → Q (some (some (.int (-1)))) (i19, l20, dd21, x22) (ab_E0 sc)) ∧ (¬ r15 = 0 → ((¬ a1 = a2 → (∃ m26, dd21 3 11 = .ref m26 ∧ ab_isM m26 ∧ ∃ (r28 : Int32) (P29 : ab_S → Prop), ab_Sp MX5_bestBar d [.ref 191, .ref m26, .int a1, .int a2] (i19, l20, dd21, x22) (ab_E0 sc) (some (.int r28)) P29 ∧ ∀ i32 l33 dd34 x35, P29 (i32, l33, dd34, x35) → Q (some (some (.int r28))) (i32, l33, dd34, x35) (ab_E0 sc))) ∧ (a1 = a2 → Q (some (some (.int (-1)))) (i19, l20, dd21, x22) (ab_E0 sc)))))))))) :
    ab_Fr MX11_bar (d + 1) Q 0 [some (.ref 3), some (.int a1), some (.int a2)] [] (0, 0) (i, l, dd, x) (ab_E0 sc) := by
  refine ab_aloadn dX11_bar_0 rfl ?_
  obtain ⟨m1, hm2d, hm2, hm2t⟩ := h
  refine ab_getf (v := .ref m1) dX11_bar_1 fl_X11_23 kd_3 hm2d ?_
  refine ab_iloadn dX11_bar_4 rfl ?_
  obtain ⟨r3, P4, hs5, hk6⟩ := hm2t
  refine ab_callV (vs := [.int a1]) (st := []) dX11_bar_5 okMX1_hasTruth wd_972 (kM hm2) rfl rfl rfl (Nat.le_of_ble_eq_true rfl) ⟨Nat.le_of_ble_eq_true rfl, Nat.le_of_ble_eq_true rfl⟩ hs5 ?_
  rintro v9 ⟨i7, l8, dd9, x10⟩ E9 - ⟨rfl, rfl, hp11⟩
  show ab_Fr MX11_bar (d + 1) Q 8 [some (.ref 3), some (.int a1), some (.int a2)] [.int r3] (0, 0) (i7, l8, dd9, x10) (ab_E0 sc)
  refine ab_if_eq (tgt := 27) dX11_bar_8 (by decide) (fun c12 => ?_) (fun c12 => ?_)
  · refine ab_iconst (v := (-1)) dX11_bar_27 (by decide) ?_
    exact ab_iret dX11_bar_28 rfl ⟨Nat.zero_le _, Nat.zero_le _⟩ ((hk6 i7 l8 dd9 x10 hp11).1 c12)
  · refine ab_aloadn dX11_bar_11 rfl ?_
    obtain ⟨m13, hm14d, hm14, hm14t⟩ := ((hk6 i7 l8 dd9 x10 hp11).2 c12)
    refine ab_getf (v := .ref m13) dX11_bar_12 fl_X11_23 kd_3 hm14d ?_
    refine ab_iloadn dX11_bar_15 rfl ?_
    obtain ⟨r15, P16, hs17, hk18⟩ := hm14t
    refine ab_callV (vs := [.int a2]) (st := []) dX11_bar_16 okMX1_hasTruth wd_972 (kM hm14) rfl rfl rfl (Nat.le_of_ble_eq_true rfl) ⟨Nat.le_of_ble_eq_true rfl, Nat.le_of_ble_eq_true rfl⟩ hs17 ?_
    rintro v9 ⟨i19, l20, dd21, x22⟩ E9 - ⟨rfl, rfl, hp23⟩
    show ab_Fr MX11_bar (d + 1) Q 19 [some (.ref 3), some (.int a1), some (.int a2)] [.int r15] (0, 0) (i19, l20, dd21, x22) (ab_E0 sc)
    refine ab_if_eq (tgt := 27) dX11_bar_19 (by decide) (fun c24 => ?_) (fun c24 => ?_)
    · refine ab_iconst (v := (-1)) dX11_bar_27 (by decide) ?_
      exact ab_iret dX11_bar_28 rfl ⟨Nat.zero_le _, Nat.zero_le _⟩ ((hk18 i19 l20 dd21 x22 hp23).1 c24)
    · refine ab_iloadn dX11_bar_22 rfl ?_
      refine ab_iloadn dX11_bar_23 rfl ?_
      refine ab_icmp_ne (tgt := 29) dX11_bar_24 (by decide) (fun c25 => ?_) (fun c25 => ?_)
      · refine ab_aloadn dX11_bar_29 rfl ?_
        refine ab_getf (v := .ref 191) dX11_bar_30 fl_X11_69 kd_3 ff_3_7 ?_
        refine ab_aloadn dX11_bar_33 rfl ?_
        obtain ⟨m26, hm27d, hm27, hm27t⟩ := (((hk18 i19 l20 dd21 x22 hp23).2 c24).1 c25)
        refine ab_getf (v := .ref m26) dX11_bar_34 fl_X11_23 kd_3 hm27d ?_
        refine ab_iloadn dX11_bar_37 rfl ?_
        refine ab_iloadn dX11_bar_38 rfl ?_
        obtain ⟨r28, P29, hs30, hk31⟩ := hm27t
        refine ab_callV (vs := [.ref m26, .int a1, .int a2]) (st := []) dX11_bar_39 okMX5_bestBar wd_973 kd_191 rfl rfl rfl (Nat.le_of_ble_eq_true rfl) ⟨Nat.le_of_ble_eq_true rfl, Nat.le_of_ble_eq_true rfl⟩ hs30 ?_
        rintro v9 ⟨i32, l33, dd34, x35⟩ E9 - ⟨rfl, rfl, hp36⟩
        show ab_Fr MX11_bar (d + 1) Q 42 [some (.ref 3), some (.int a1), some (.int a2)] [.int r28] (0, 0) (i32, l33, dd34, x35) (ab_E0 sc)
        exact ab_iret dX11_bar_42 rfl ⟨Nat.zero_le _, Nat.zero_le _⟩ (hk31 i32 l33 dd34 x35 hp36)
      · refine ab_iconst (v := (-1)) dX11_bar_27 (by decide) ?_
        exact ab_iret dX11_bar_28 rfl ⟨Nat.zero_le _, Nat.zero_le _⟩ (((hk18 i19 l20 dd21 x22 hp23).2 c24).2 c25)
theorem tMX11_barLost_0 {d : Nat} {Q : ab_Qt} {sc : Nat × (Nat → Int32)} {i : Nat → Nat → Int32} {l : Nat → Nat → Int64} {dd : Nat → Nat → Value} {x : Nat}  
    (h : Q (some (some (.long (l 191 3)))) (i, l, dd, x) (ab_E0 sc)) :
    ab_Fr MX11_barLost (d + 1) Q 0 [some (.ref 3)] [] (0, 0) (i, l, dd, x) (ab_E0 sc) := by
  refine ab_aloadn dX11_barLost_0 rfl ?_
  refine ab_getf (v := .ref 191) dX11_barLost_1 fl_X11_69 kd_3 ff_3_7 ?_
  refine ab_getf (v := .long (l 191 3)) dX11_barLost_4 fl_X11_275 kd_191 rfl ?_
  exact ab_lret dX11_barLost_7 rfl ⟨Nat.zero_le _, Nat.zero_le _⟩ h
theorem tMX11_silent_0 {d : Nat} {Q : ab_Qt} {sc : Nat × (Nat → Int32)} {i : Nat → Nat → Int32} {l : Nat → Nat → Int64} {dd : Nat → Nat → Value} {x : Nat}  
    (h : (∃ (r1 : Int64) (P2 : ab_S → Prop), ab_Sp MX11_lost d [.ref 3] (i, l, dd, x) (ab_E0 sc) (some (.long r1)) P2 ∧ ∀ i5 l6 dd7 x8, P2 (i5, l6, dd7, x8) → ab_Fr MX11_silent (d + 1) Q 10 [some (.ref 3), some (.int (-1)), some (.long r1), none, some (.int 0), none, none] [] (0, 0) (i5, l6, dd7, x8) (ab_E0 sc))) :
    ab_Fr MX11_silent (d + 1) Q 0 [some (.ref 3), none, none, none, none, none, none] [] (0, 0) (i, l, dd, x) (ab_E0 sc) := by
  refine ab_iconst (v := (-1)) dX11_silent_0 (by decide) ?_
  refine ab_istoren dX11_silent_1 (Nat.le_of_ble_eq_true rfl) (L2 := [some (.ref 3), some (.int (-1)), none, none, none, none, none]) rfl ?_
  refine ab_aloadn dX11_silent_2 rfl ?_
  obtain ⟨r1, P2, hs3, hk4⟩ := h
  refine ab_callV (vs := []) (st := []) dX11_silent_3 okMX11_lost wd_1000 kd_3 rfl rfl rfl (Nat.le_of_ble_eq_true rfl) ⟨Nat.le_of_ble_eq_true rfl, Nat.le_of_ble_eq_true rfl⟩ hs3 ?_
  rintro v9 ⟨i5, l6, dd7, x8⟩ E9 - ⟨rfl, rfl, hp9⟩
  show ab_Fr MX11_silent (d + 1) Q 6 [some (.ref 3), some (.int (-1)), none, none, none, none, none] [.long r1] (0, 0) (i5, l6, dd7, x8) (ab_E0 sc)
  refine ab_lstoren dX11_silent_6 (Nat.le_of_ble_eq_true rfl) (L2 := [some (.ref 3), some (.int (-1)), some (.long r1), none, none, none, none]) rfl ?_
  refine ab_iconst (v := 0) dX11_silent_7 (by decide) ?_
  refine ab_istore dX11_silent_8 (Nat.le_of_ble_eq_true rfl) (L2 := [some (.ref 3), some (.int (-1)), some (.long r1), none, some (.int 0), none, none]) rfl ?_
  exact (hk4 i5 l6 dd7 x8 hp9)
theorem tMX11_silent_10 {d : Nat} {Q : ab_Qt} {sc : Nat × (Nat → Int32)} {i : Nat → Nat → Int32} {l : Nat → Nat → Int64} {dd : Nat → Nat → Value} {x : Nat} {a1 : Int32} {a2 : Int64} {a4 : Int32} 
    (h : (∃ m1, dd 3 11 = .ref m1 ∧ ab_isM m1 ∧ (((i m1 1) ≤ a4 → Q (some (some (.int a1))) (i, l, dd, x) (ab_E0 sc)) ∧ (¬ (i m1 1) ≤ a4 → (∃ (r4 : Int64) (P5 : ab_S → Prop), ab_Sp MX11_lostWithout d [.ref 3, .int a4, .int (-1)] (i, l, dd, x) (ab_E0 sc) (some (.long r4)) P5 ∧ ∀ i8 l9 dd10 x11, P5 (i8, l9, dd10, x11) → ((¬ r4 < a2 → ab_Fr MX11_silent (d + 1) Q 10 [some (.ref 3), some (.int a1), some (.long a2), none, some (.int (a4 + 1)), none, none] [] (0, 0) (i8, l9, dd10, x11) (ab_E0 sc)) ∧ (r4 < a2 → ab_Fr MX11_silent (d + 1) Q 10 [some (.ref 3), some (.int a4), some (.long r4), none, some (.int (a4 + 1)), none, none] [] (0, 0) (i8, l9, dd10, x11) (ab_E0 sc)))))))) :
    ab_Fr MX11_silent (d + 1) Q 10 [some (.ref 3), some (.int a1), some (.long a2), none, some (.int a4), none, none] [] (0, 0) (i, l, dd, x) (ab_E0 sc) := by
  refine ab_iload dX11_silent_10 rfl ?_
  refine ab_aloadn dX11_silent_12 rfl ?_
  obtain ⟨m1, hm2d, hm2, hm2t⟩ := h
  refine ab_getf (v := .ref m1) dX11_silent_13 fl_X11_23 kd_3 hm2d ?_
  refine ab_getf (v := .int (i m1 1)) dX11_silent_16 fl_X11_120 (kM hm2) rfl ?_
  refine ab_icmp_ge (tgt := 50) dX11_silent_19 (by decide) (fun c3 => ?_) (fun c3 => ?_)
  · refine ab_iloadn dX11_silent_50 rfl ?_
    exact ab_iret dX11_silent_51 rfl ⟨Nat.zero_le _, Nat.zero_le _⟩ (hm2t.1 c3)
  · refine ab_aloadn dX11_silent_22 rfl ?_
    refine ab_iload dX11_silent_23 rfl ?_
    refine ab_iconst (v := (-1)) dX11_silent_25 (by decide) ?_
    obtain ⟨r4, P5, hs6, hk7⟩ := (hm2t.2 c3)
    refine ab_callV (vs := [.int a4, .int (-1)]) (st := []) dX11_silent_26 okMX11_lostWithout wd_773 kd_3 rfl rfl rfl (Nat.le_of_ble_eq_true rfl) ⟨Nat.le_of_ble_eq_true rfl, Nat.le_of_ble_eq_true rfl⟩ hs6 ?_
    rintro v9 ⟨i8, l9, dd10, x11⟩ E9 - ⟨rfl, rfl, hp12⟩
    show ab_Fr MX11_silent (d + 1) Q 29 [some (.ref 3), some (.int a1), some (.long a2), none, some (.int a4), none, none] [.long r4] (0, 0) (i8, l9, dd10, x11) (ab_E0 sc)
    refine ab_lstore dX11_silent_29 (Nat.le_of_ble_eq_true rfl) (L2 := [some (.ref 3), some (.int a1), some (.long a2), none, some (.int a4), some (.long r4), none]) rfl ?_
    refine ab_lload dX11_silent_31 rfl ?_
    refine ab_lloadn dX11_silent_33 rfl ?_
    refine ab_lcge (tgt := 44) dX11_silent_34 dX11_silent_35 (by decide) (fun c13 => ?_) (fun c13 => ?_)
    · refine ab_iinc (v := (a4 + 1)) dX11_silent_44 rfl (by rfl) (Nat.le_of_ble_eq_true rfl) (L2 := [some (.ref 3), some (.int a1), some (.long a2), none, some (.int (a4 + 1)), some (.long r4), none]) rfl ?_
      refine ab_goto (tgt := 10) dX11_silent_47 (by decide) ?_
      refine ab_forget (i := 5) (L2 := [some (.ref 3), some (.int a1), some (.long a2), none, some (.int (a4 + 1)), none, none]) rfl ?_
      exact ((hk7 i8 l9 dd10 x11 hp12).1 c13)
    · refine ab_lload dX11_silent_38 rfl ?_
      refine ab_lstoren dX11_silent_40 (Nat.le_of_ble_eq_true rfl) (L2 := [some (.ref 3), some (.int a1), some (.long r4), none, some (.int a4), some (.long r4), none]) rfl ?_
      refine ab_iload dX11_silent_41 rfl ?_
      refine ab_istoren dX11_silent_43 (Nat.le_of_ble_eq_true rfl) (L2 := [some (.ref 3), some (.int a4), some (.long r4), none, some (.int a4), some (.long r4), none]) rfl ?_
      refine ab_iinc (v := (a4 + 1)) dX11_silent_44 rfl (by rfl) (Nat.le_of_ble_eq_true rfl) (L2 := [some (.ref 3), some (.int a4), some (.long r4), none, some (.int (a4 + 1)), some (.long r4), none]) rfl ?_
      refine ab_goto (tgt := 10) dX11_silent_47 (by decide) ?_
      refine ab_forget (i := 5) (L2 := [some (.ref 3), some (.int a4), some (.long r4), none, some (.int (a4 + 1)), none, none]) rfl ?_
      exact ((hk7 i8 l9 dd10 x11 hp12).2 c13)
theorem tMX11_helps_0 {d : Nat} {Q : ab_Qt} {sc : Nat × (Nat → Int32)} {i : Nat → Nat → Int32} {l : Nat → Nat → Int64} {dd : Nat → Nat → Value} {x : Nat} {a1 : Int32} {a2 : Int32} 
    (h : (∃ m1, dd 3 11 = .ref m1 ∧ ab_isM m1 ∧ ∃ (r3 : Int32) (P4 : ab_S → Prop), ab_Sp MX1_hasVoter d [.ref m1, .int a1] (i, l, dd, x) (ab_E0 sc) (some (.int r3)) P4 ∧ ∀ i7 l8 dd9 x10, P4 (i7, l8, dd9, x10) → ((r3 = 0 → Q (some (some (.int (-1)))) (i7, l8, dd9, x10) (ab_E0 sc)) ∧ (¬ r3 = 0 → (∃ m13, dd9 3 11 = .ref m13 ∧ ab_isM m13 ∧ ∃ (r15 : Int32) (P16 : ab_S → Prop), ab_Sp MX1_hasVoter d [.ref m13, .int a2] (i7, l8, dd9, x10) (ab_E0 sc) (some (.int r15)) P16 ∧ ∀ i19 l20 dd21 x22, P16 (i19, l20, dd21, x22) → ((r15 = 0 → Q (some (some (.int (-1)))) (i19, l20, dd21, x22) (ab_E0 sc)) ∧ (¬ r15 = 0 → ((¬ a1 = a2 → (∃ (r26 : Int64) (P27 : ab_S → Prop), ab_Sp MX11_lostWithout d [.ref 3, .int (-1), .int (-1)] (i19, l20, dd21, x22) (ab_E0 sc) (some (.long r26)) P27 ∧ ∀ i30 l31 dd32 x33, P27 (i30, l31, dd32, x33) → ∃ (r35 : Int64) (P36 : ab_S → Prop), ab_Sp MX11_lostWithout d [.ref 3, .int a1, .int (-1)] (i30, l31, dd32, x33) (ab_E0 sc) (some (.long r35)) P36 ∧ ∀ i39 l40 dd41 x42, P36 (i39, l40, dd41, x42) → ((¬ r26 < r35 → ab_Fr MX11_helps (d + 1) Q 50 [some (.ref 3), some (.int a1), some (.int a2), none, none] [.int 0] (0, 0) (i39, l40, dd41, x42) (ab_E0 sc)) ∧ (r26 < r35 → ab_Fr MX11_helps (d + 1) Q 50 [some (.ref 3), some (.int a1), some (.int a2), none, none] [.int 1] (0, 0) (i39, l40, dd41, x42) (ab_E0 sc))))) ∧ (a1 = a2 → Q (some (some (.int (-1)))) (i19, l20, dd21, x22) (ab_E0 sc)))))))))) :
    ab_Fr MX11_helps (d + 1) Q 0 [some (.ref 3), some (.int a1), some (.int a2), none, none] [] (0, 0) (i, l, dd, x) (ab_E0 sc) := by
  refine ab_aloadn dX11_helps_0 rfl ?_
  obtain ⟨m1, hm2d, hm2, hm2t⟩ := h
  refine ab_getf (v := .ref m1) dX11_helps_1 fl_X11_23 kd_3 hm2d ?_
  refine ab_iloadn dX11_helps_4 rfl ?_
  obtain ⟨r3, P4, hs5, hk6⟩ := hm2t
  refine ab_callV (vs := [.int a1]) (st := []) dX11_helps_5 okMX1_hasVoter wd_675 (kM hm2) rfl rfl rfl (Nat.le_of_ble_eq_true rfl) ⟨Nat.le_of_ble_eq_true rfl, Nat.le_of_ble_eq_true rfl⟩ hs5 ?_
  rintro v9 ⟨i7, l8, dd9, x10⟩ E9 - ⟨rfl, rfl, hp11⟩
  show ab_Fr MX11_helps (d + 1) Q 8 [some (.ref 3), some (.int a1), some (.int a2), none, none] [.int r3] (0, 0) (i7, l8, dd9, x10) (ab_E0 sc)
  refine ab_if_eq (tgt := 27) dX11_helps_8 (by decide) (fun c12 => ?_) (fun c12 => ?_)
  · refine ab_iconst (v := (-1)) dX11_helps_27 (by decide) ?_
    exact ab_iret dX11_helps_28 rfl ⟨Nat.zero_le _, Nat.zero_le _⟩ ((hk6 i7 l8 dd9 x10 hp11).1 c12)
  · refine ab_aloadn dX11_helps_11 rfl ?_
    obtain ⟨m13, hm14d, hm14, hm14t⟩ := ((hk6 i7 l8 dd9 x10 hp11).2 c12)
    refine ab_getf (v := .ref m13) dX11_helps_12 fl_X11_23 kd_3 hm14d ?_
    refine ab_iloadn dX11_helps_15 rfl ?_
    obtain ⟨r15, P16, hs17, hk18⟩ := hm14t
    refine ab_callV (vs := [.int a2]) (st := []) dX11_helps_16 okMX1_hasVoter wd_675 (kM hm14) rfl rfl rfl (Nat.le_of_ble_eq_true rfl) ⟨Nat.le_of_ble_eq_true rfl, Nat.le_of_ble_eq_true rfl⟩ hs17 ?_
    rintro v9 ⟨i19, l20, dd21, x22⟩ E9 - ⟨rfl, rfl, hp23⟩
    show ab_Fr MX11_helps (d + 1) Q 19 [some (.ref 3), some (.int a1), some (.int a2), none, none] [.int r15] (0, 0) (i19, l20, dd21, x22) (ab_E0 sc)
    refine ab_if_eq (tgt := 27) dX11_helps_19 (by decide) (fun c24 => ?_) (fun c24 => ?_)
    · refine ab_iconst (v := (-1)) dX11_helps_27 (by decide) ?_
      exact ab_iret dX11_helps_28 rfl ⟨Nat.zero_le _, Nat.zero_le _⟩ ((hk18 i19 l20 dd21 x22 hp23).1 c24)
    · refine ab_iloadn dX11_helps_22 rfl ?_
      refine ab_iloadn dX11_helps_23 rfl ?_
      refine ab_icmp_ne (tgt := 29) dX11_helps_24 (by decide) (fun c25 => ?_) (fun c25 => ?_)
      · refine ab_aloadn dX11_helps_29 rfl ?_
        refine ab_iconst (v := (-1)) dX11_helps_30 (by decide) ?_
        refine ab_iconst (v := (-1)) dX11_helps_31 (by decide) ?_
        obtain ⟨r26, P27, hs28, hk29⟩ := (((hk18 i19 l20 dd21 x22 hp23).2 c24).1 c25)
        refine ab_callV (vs := [.int (-1), .int (-1)]) (st := []) dX11_helps_32 okMX11_lostWithout wd_773 kd_3 rfl rfl rfl (Nat.le_of_ble_eq_true rfl) ⟨Nat.le_of_ble_eq_true rfl, Nat.le_of_ble_eq_true rfl⟩ hs28 ?_
        rintro v9 ⟨i30, l31, dd32, x33⟩ E9 - ⟨rfl, rfl, hp34⟩
        show ab_Fr MX11_helps (d + 1) Q 35 [some (.ref 3), some (.int a1), some (.int a2), none, none] [.long r26] (0, 0) (i30, l31, dd32, x33) (ab_E0 sc)
        refine ab_aloadn dX11_helps_35 rfl ?_
        refine ab_iloadn dX11_helps_36 rfl ?_
        refine ab_iconst (v := (-1)) dX11_helps_37 (by decide) ?_
        obtain ⟨r35, P36, hs37, hk38⟩ := (hk29 i30 l31 dd32 x33 hp34)
        refine ab_callV (vs := [.int a1, .int (-1)]) (st := [.long r26]) dX11_helps_38 okMX11_lostWithout wd_773 kd_3 rfl rfl rfl (Nat.le_of_ble_eq_true rfl) ⟨Nat.le_of_ble_eq_true rfl, Nat.le_of_ble_eq_true rfl⟩ hs37 ?_
        rintro v9 ⟨i39, l40, dd41, x42⟩ E9 - ⟨rfl, rfl, hp43⟩
        show ab_Fr MX11_helps (d + 1) Q 41 [some (.ref 3), some (.int a1), some (.int a2), none, none] [.long r35, .long r26] (0, 0) (i39, l40, dd41, x42) (ab_E0 sc)
        refine ab_lcge (tgt := 49) dX11_helps_41 dX11_helps_42 (by decide) (fun c44 => ?_) (fun c44 => ?_)
        · refine ab_iconst (v := 0) dX11_helps_49 (by decide) ?_
          exact ((hk38 i39 l40 dd41 x42 hp43).1 c44)
        · refine ab_iconst (v := 1) dX11_helps_45 (by decide) ?_
          refine ab_goto (tgt := 50) dX11_helps_46 (by decide) ?_
          exact ((hk38 i39 l40 dd41 x42 hp43).2 c44)
      · refine ab_iconst (v := (-1)) dX11_helps_27 (by decide) ?_
        exact ab_iret dX11_helps_28 rfl ⟨Nat.zero_le _, Nat.zero_le _⟩ (((hk18 i19 l20 dd21 x22 hp23).2 c24).2 c25)
theorem tMX11_helps_50 {d : Nat} {Q : ab_Qt} {sc : Nat × (Nat → Int32)} {i : Nat → Nat → Int32} {l : Nat → Nat → Int64} {dd : Nat → Nat → Value} {x : Nat} {a1 : Int32} {a2 : Int32} {s0 : Int32} 
    (h : (∃ (r1 : Int64) (P2 : ab_S → Prop), ab_Sp MX11_lostWithout d [.ref 3, .int a2, .int (-1)] (i, l, dd, x) (ab_E0 sc) (some (.long r1)) P2 ∧ ∀ i5 l6 dd7 x8, P2 (i5, l6, dd7, x8) → ∃ (r10 : Int64) (P11 : ab_S → Prop), ab_Sp MX11_lostWithout d [.ref 3, .int a1, .int a2] (i5, l6, dd7, x8) (ab_E0 sc) (some (.long r10)) P11 ∧ ∀ i14 l15 dd16 x17, P11 (i14, l15, dd16, x17) → ((¬ r1 < r10 → ab_Fr MX11_helps (d + 1) Q 72 [none, none, none, some (.int s0), none] [.int 0] (0, 0) (i14, l15, dd16, x17) (ab_E0 sc)) ∧ (r1 < r10 → ab_Fr MX11_helps (d + 1) Q 72 [none, none, none, some (.int s0), none] [.int 1] (0, 0) (i14, l15, dd16, x17) (ab_E0 sc))))) :
    ab_Fr MX11_helps (d + 1) Q 50 [some (.ref 3), some (.int a1), some (.int a2), none, none] [.int s0] (0, 0) (i, l, dd, x) (ab_E0 sc) := by
  refine ab_istoren dX11_helps_50 (Nat.le_of_ble_eq_true rfl) (L2 := [some (.ref 3), some (.int a1), some (.int a2), some (.int s0), none]) rfl ?_
  refine ab_aloadn dX11_helps_51 rfl ?_
  refine ab_iloadn dX11_helps_52 rfl ?_
  refine ab_iconst (v := (-1)) dX11_helps_53 (by decide) ?_
  obtain ⟨r1, P2, hs3, hk4⟩ := h
  refine ab_callV (vs := [.int a2, .int (-1)]) (st := []) dX11_helps_54 okMX11_lostWithout wd_773 kd_3 rfl rfl rfl (Nat.le_of_ble_eq_true rfl) ⟨Nat.le_of_ble_eq_true rfl, Nat.le_of_ble_eq_true rfl⟩ hs3 ?_
  rintro v9 ⟨i5, l6, dd7, x8⟩ E9 - ⟨rfl, rfl, hp9⟩
  show ab_Fr MX11_helps (d + 1) Q 57 [some (.ref 3), some (.int a1), some (.int a2), some (.int s0), none] [.long r1] (0, 0) (i5, l6, dd7, x8) (ab_E0 sc)
  refine ab_aloadn dX11_helps_57 rfl ?_
  refine ab_iloadn dX11_helps_58 rfl ?_
  refine ab_iloadn dX11_helps_59 rfl ?_
  obtain ⟨r10, P11, hs12, hk13⟩ := (hk4 i5 l6 dd7 x8 hp9)
  refine ab_callV (vs := [.int a1, .int a2]) (st := [.long r1]) dX11_helps_60 okMX11_lostWithout wd_773 kd_3 rfl rfl rfl (Nat.le_of_ble_eq_true rfl) ⟨Nat.le_of_ble_eq_true rfl, Nat.le_of_ble_eq_true rfl⟩ hs12 ?_
  rintro v9 ⟨i14, l15, dd16, x17⟩ E9 - ⟨rfl, rfl, hp18⟩
  show ab_Fr MX11_helps (d + 1) Q 63 [some (.ref 3), some (.int a1), some (.int a2), some (.int s0), none] [.long r10, .long r1] (0, 0) (i14, l15, dd16, x17) (ab_E0 sc)
  refine ab_lcge (tgt := 71) dX11_helps_63 dX11_helps_64 (by decide) (fun c19 => ?_) (fun c19 => ?_)
  · refine ab_iconst (v := 0) dX11_helps_71 (by decide) ?_
    refine ab_forget (i := 0) (L2 := [none, some (.int a1), some (.int a2), some (.int s0), none]) rfl ?_
    refine ab_forget (i := 1) (L2 := [none, none, some (.int a2), some (.int s0), none]) rfl ?_
    refine ab_forget (i := 2) (L2 := [none, none, none, some (.int s0), none]) rfl ?_
    exact ((hk13 i14 l15 dd16 x17 hp18).1 c19)
  · refine ab_iconst (v := 1) dX11_helps_67 (by decide) ?_
    refine ab_goto (tgt := 72) dX11_helps_68 (by decide) ?_
    refine ab_forget (i := 0) (L2 := [none, some (.int a1), some (.int a2), some (.int s0), none]) rfl ?_
    refine ab_forget (i := 1) (L2 := [none, none, some (.int a2), some (.int s0), none]) rfl ?_
    refine ab_forget (i := 2) (L2 := [none, none, none, some (.int s0), none]) rfl ?_
    exact ((hk13 i14 l15 dd16 x17 hp18).2 c19)
theorem tMX11_helps_72 {d : Nat} {Q : ab_Qt} {sc : Nat × (Nat → Int32)} {i : Nat → Nat → Int32} {l : Nat → Nat → Int64} {dd : Nat → Nat → Value} {x : Nat} {a3 : Int32} {s0 : Int32} 
    (h : ((a3 = 0 → Q (some (some (.int 0))) (i, l, dd, x) (ab_E0 sc)) ∧ (¬ a3 = 0 → ((¬ s0 = 0 → Q (some (some (.int 0))) (i, l, dd, x) (ab_E0 sc)) ∧ (s0 = 0 → Q (some (some (.int 1))) (i, l, dd, x) (ab_E0 sc)))))) :
    ab_Fr MX11_helps (d + 1) Q 72 [none, none, none, some (.int a3), none] [.int s0] (0, 0) (i, l, dd, x) (ab_E0 sc) := by
  refine ab_istore dX11_helps_72 (Nat.le_of_ble_eq_true rfl) (L2 := [none, none, none, some (.int a3), some (.int s0)]) rfl ?_
  refine ab_iloadn dX11_helps_74 rfl ?_
  refine ab_if_eq (tgt := 87) dX11_helps_75 (by decide) (fun c1 => ?_) (fun c1 => ?_)
  · refine ab_iconst (v := 0) dX11_helps_87 (by decide) ?_
    exact ab_iret dX11_helps_88 rfl ⟨Nat.zero_le _, Nat.zero_le _⟩ (h.1 c1)
  · refine ab_iload dX11_helps_78 rfl ?_
    refine ab_if_ne (tgt := 87) dX11_helps_80 (by decide) (fun c2 => ?_) (fun c2 => ?_)
    · refine ab_iconst (v := 0) dX11_helps_87 (by decide) ?_
      exact ab_iret dX11_helps_88 rfl ⟨Nat.zero_le _, Nat.zero_le _⟩ ((h.2 c1).1 c2)
    · refine ab_iconst (v := 1) dX11_helps_83 (by decide) ?_
      refine ab_goto (tgt := 88) dX11_helps_84 (by decide) ?_
      exact ab_iret dX11_helps_88 rfl ⟨Nat.zero_le _, Nat.zero_le _⟩ ((h.2 c1).2 c2)
theorem tMX11_believed_0 {d : Nat} {Q : ab_Qt} {sc : Nat × (Nat → Int32)} {i : Nat → Nat → Int32} {l : Nat → Nat → Int64} {dd : Nat → Nat → Value} {x : Nat} {a1 : Int32} {a2 : Int32} {a3 : Int32} 
    (h : (∃ m1, dd 3 11 = .ref m1 ∧ ab_isM m1 ∧ ∃ (r3 : Int32) (P4 : ab_S → Prop), ab_Sp MX1_hasVoter d [.ref m1, .int a1] (i, l, dd, x) (ab_E0 sc) (some (.int r3)) P4 ∧ ∀ i7 l8 dd9 x10, P4 (i7, l8, dd9, x10) → ((r3 = 0 → Q (some (some (.int (-1)))) (i7, l8, dd9, x10) (ab_E0 sc)) ∧ (¬ r3 = 0 → (∃ m13, dd9 3 11 = .ref m13 ∧ ab_isM m13 ∧ ∃ (r15 : Int32) (P16 : ab_S → Prop), ab_Sp MX1_hasVoter d [.ref m13, .int a2] (i7, l8, dd9, x10) (ab_E0 sc) (some (.int r15)) P16 ∧ ∀ i19 l20 dd21 x22, P16 (i19, l20, dd21, x22) → ((r15 = 0 → Q (some (some (.int (-1)))) (i19, l20, dd21, x22) (ab_E0 sc)) ∧ (¬ r15 = 0 → ((¬ a1 = a2 → ((a3 < 0 → Q (some (some (.int (-1)))) (i19, l20, dd21, x22) (ab_E0 sc)) ∧ (¬ a3 < 0 → (∃ m27, dd21 3 11 = .ref m27 ∧ ab_isM m27 ∧ vp_in a1 7 ∧ ∃ (r29 : Int32) (P30 : ab_S → Prop), ab_Sp MX10_lastPart d [.int (i19 (m27 + 5 + 6 * a1.toNatClampNeg) 0)] (i19, l20, dd21, x22) (ab_E0 sc) (some (.int r29)) P30 ∧ ∀ i33 l34 dd35 x36, P30 (i33, l34, dd35, x36) → ((a3 ≤ r29 → (∃ m39, dd35 3 11 = .ref m39 ∧ ab_isM m39 ∧ ∃ (r41 : Int32) (P42 : ab_S → Prop), ab_Sp MX10_areBelieved d [.ref 199, .ref m39, .int a1, .int a2, .int a3] (i33, l34, dd35, x36) (ab_E0 sc) (some (.int r41)) P42 ∧ ∀ i45 l46 dd47 x48, P42 (i45, l46, dd47, x48) → ((r41 = 0 → Q (some (some (.int 0))) (i45, l46, dd47, x48) (ab_E0 sc)) ∧ (¬ r41 = 0 → Q (some (some (.int 1))) (i45, l46, dd47, x48) (ab_E0 sc))))) ∧ (¬ a3 ≤ r29 → Q (some (some (.int (-1)))) (i33, l34, dd35, x36) (ab_E0 sc))))))) ∧ (a1 = a2 → Q (some (some (.int (-1)))) (i19, l20, dd21, x22) (ab_E0 sc)))))))))) :
    ab_Fr MX11_believed (d + 1) Q 0 [some (.ref 3), some (.int a1), some (.int a2), some (.int a3)] [] (0, 0) (i, l, dd, x) (ab_E0 sc) := by
  refine ab_aloadn dX11_believed_0 rfl ?_
  obtain ⟨m1, hm2d, hm2, hm2t⟩ := h
  refine ab_getf (v := .ref m1) dX11_believed_1 fl_X11_23 kd_3 hm2d ?_
  refine ab_iloadn dX11_believed_4 rfl ?_
  obtain ⟨r3, P4, hs5, hk6⟩ := hm2t
  refine ab_callV (vs := [.int a1]) (st := []) dX11_believed_5 okMX1_hasVoter wd_675 (kM hm2) rfl rfl rfl (Nat.le_of_ble_eq_true rfl) ⟨Nat.le_of_ble_eq_true rfl, Nat.le_of_ble_eq_true rfl⟩ hs5 ?_
  rintro v9 ⟨i7, l8, dd9, x10⟩ E9 - ⟨rfl, rfl, hp11⟩
  show ab_Fr MX11_believed (d + 1) Q 8 [some (.ref 3), some (.int a1), some (.int a2), some (.int a3)] [.int r3] (0, 0) (i7, l8, dd9, x10) (ab_E0 sc)
  refine ab_if_eq (tgt := 27) dX11_believed_8 (by decide) (fun c12 => ?_) (fun c12 => ?_)
  · refine ab_iconst (v := (-1)) dX11_believed_27 (by decide) ?_
    exact ab_iret dX11_believed_28 rfl ⟨Nat.zero_le _, Nat.zero_le _⟩ ((hk6 i7 l8 dd9 x10 hp11).1 c12)
  · refine ab_aloadn dX11_believed_11 rfl ?_
    obtain ⟨m13, hm14d, hm14, hm14t⟩ := ((hk6 i7 l8 dd9 x10 hp11).2 c12)
    refine ab_getf (v := .ref m13) dX11_believed_12 fl_X11_23 kd_3 hm14d ?_
    refine ab_iloadn dX11_believed_15 rfl ?_
    obtain ⟨r15, P16, hs17, hk18⟩ := hm14t
    refine ab_callV (vs := [.int a2]) (st := []) dX11_believed_16 okMX1_hasVoter wd_675 (kM hm14) rfl rfl rfl (Nat.le_of_ble_eq_true rfl) ⟨Nat.le_of_ble_eq_true rfl, Nat.le_of_ble_eq_true rfl⟩ hs17 ?_
    rintro v9 ⟨i19, l20, dd21, x22⟩ E9 - ⟨rfl, rfl, hp23⟩
    show ab_Fr MX11_believed (d + 1) Q 19 [some (.ref 3), some (.int a1), some (.int a2), some (.int a3)] [.int r15] (0, 0) (i19, l20, dd21, x22) (ab_E0 sc)
    refine ab_if_eq (tgt := 27) dX11_believed_19 (by decide) (fun c24 => ?_) (fun c24 => ?_)
    · refine ab_iconst (v := (-1)) dX11_believed_27 (by decide) ?_
      exact ab_iret dX11_believed_28 rfl ⟨Nat.zero_le _, Nat.zero_le _⟩ ((hk18 i19 l20 dd21 x22 hp23).1 c24)
    · refine ab_iloadn dX11_believed_22 rfl ?_
      refine ab_iloadn dX11_believed_23 rfl ?_
      refine ab_icmp_ne (tgt := 29) dX11_believed_24 (by decide) (fun c25 => ?_) (fun c25 => ?_)
      · refine ab_iloadn dX11_believed_29 rfl ?_
        refine ab_if_lt (tgt := 52) dX11_believed_30 (by decide) (fun c26 => ?_) (fun c26 => ?_)
        · refine ab_iconst (v := (-1)) dX11_believed_52 (by decide) ?_
          exact ab_iret dX11_believed_53 rfl ⟨Nat.zero_le _, Nat.zero_le _⟩ ((((hk18 i19 l20 dd21 x22 hp23).2 c24).1 c25).1 c26)
        · refine ab_iloadn dX11_believed_33 rfl ?_
          refine ab_aloadn dX11_believed_34 rfl ?_
          obtain ⟨m27, hm28d, hm28, hm28t⟩ := ((((hk18 i19 l20 dd21 x22 hp23).2 c24).1 c25).2 c26)
          refine ab_getf (v := .ref m27) dX11_believed_35 fl_X11_23 kd_3 hm28d ?_
          refine ab_getf (v := .ref (m27 + 4)) dX11_believed_38 fl_X11_129 (kM hm28) (fM_8 hm28) ?_
          refine ab_iloadn dX11_believed_41 rfl ?_
          refine ab_aaload (a := (m27 + 5 + 6 * a1.toNatClampNeg)) dX11_believed_42 (Or.inl rfl) (kM_4 hm28) hm28t.1 (fMv hm28 hm28t.1) ?_
          refine ab_getf (v := .int (i19 (m27 + 5 + 6 * a1.toNatClampNeg) 0)) dX11_believed_43 fl_X11_133 (kV (isVof hm28 hm28t.1)) rfl ?_
          obtain ⟨r29, P30, hs31, hk32⟩ := hm28t.2
          refine ab_callS (vs := [.int (i19 (m27 + 5 + 6 * a1.toNatClampNeg) 0)]) (st := [.int a3]) dX11_believed_46 okMX10_lastPart wd_1009 rfl rfl (Nat.le_of_ble_eq_true rfl) ⟨Nat.le_of_ble_eq_true rfl, Nat.le_of_ble_eq_true rfl⟩ hs31 ?_
          rintro v9 ⟨i33, l34, dd35, x36⟩ E9 - ⟨rfl, rfl, hp37⟩
          show ab_Fr MX11_believed (d + 1) Q 49 [some (.ref 3), some (.int a1), some (.int a2), some (.int a3)] [.int r29, .int a3] (0, 0) (i33, l34, dd35, x36) (ab_E0 sc)
          refine ab_icmp_le (tgt := 54) dX11_believed_49 (by decide) (fun c38 => ?_) (fun c38 => ?_)
          · refine ab_aloadn dX11_believed_54 rfl ?_
            refine ab_getf (v := .ref 199) dX11_believed_55 fl_X11_76 kd_3 ff_3_8 ?_
            refine ab_aloadn dX11_believed_58 rfl ?_
            obtain ⟨m39, hm40d, hm40, hm40t⟩ := ((hk32 i33 l34 dd35 x36 hp37).1 c38)
            refine ab_getf (v := .ref m39) dX11_believed_59 fl_X11_23 kd_3 hm40d ?_
            refine ab_iloadn dX11_believed_62 rfl ?_
            refine ab_iloadn dX11_believed_63 rfl ?_
            refine ab_iloadn dX11_believed_64 rfl ?_
            obtain ⟨r41, P42, hs43, hk44⟩ := hm40t
            refine ab_callV (vs := [.ref m39, .int a1, .int a2, .int a3]) (st := []) dX11_believed_65 okMX10_areBelieved wd_1012 kd_199 rfl rfl rfl (Nat.le_of_ble_eq_true rfl) ⟨Nat.le_of_ble_eq_true rfl, Nat.le_of_ble_eq_true rfl⟩ hs43 ?_
            rintro v9 ⟨i45, l46, dd47, x48⟩ E9 - ⟨rfl, rfl, hp49⟩
            show ab_Fr MX11_believed (d + 1) Q 68 [some (.ref 3), some (.int a1), some (.int a2), some (.int a3)] [.int r41] (0, 0) (i45, l46, dd47, x48) (ab_E0 sc)
            refine ab_if_eq (tgt := 75) dX11_believed_68 (by decide) (fun c50 => ?_) (fun c50 => ?_)
            · refine ab_iconst (v := 0) dX11_believed_75 (by decide) ?_
              exact ab_iret dX11_believed_76 rfl ⟨Nat.zero_le _, Nat.zero_le _⟩ ((hk44 i45 l46 dd47 x48 hp49).1 c50)
            · refine ab_iconst (v := 1) dX11_believed_71 (by decide) ?_
              refine ab_goto (tgt := 76) dX11_believed_72 (by decide) ?_
              exact ab_iret dX11_believed_76 rfl ⟨Nat.zero_le _, Nat.zero_le _⟩ ((hk44 i45 l46 dd47 x48 hp49).2 c50)
          · refine ab_iconst (v := (-1)) dX11_believed_52 (by decide) ?_
            exact ab_iret dX11_believed_53 rfl ⟨Nat.zero_le _, Nat.zero_le _⟩ ((hk32 i33 l34 dd35 x36 hp37).2 c38)
      · refine ab_iconst (v := (-1)) dX11_believed_27 (by decide) ?_
        exact ab_iret dX11_believed_28 rfl ⟨Nat.zero_le _, Nat.zero_le _⟩ (((hk18 i19 l20 dd21 x22 hp23).2 c24).2 c25)
theorem tMX11_fits_0 {d : Nat} {Q : ab_Qt} {sc : Nat × (Nat → Int32)} {i : Nat → Nat → Int32} {l : Nat → Nat → Int64} {dd : Nat → Nat → Value} {x : Nat}  
    (h : (∃ m1, dd 3 11 = .ref m1 ∧ ab_isM m1 ∧ ∃ (r3 : Int32) (P4 : ab_S → Prop), ab_Sp MX1_isEmpty d [.ref m1] (i, l, dd, x) (ab_E0 sc) (some (.int r3)) P4 ∧ ∀ i7 l8 dd9 x10, P4 (i7, l8, dd9, x10) → ((¬ r3 = 0 → Q (some (some (.int (-1)))) (i7, l8, dd9, x10) (ab_E0 sc)) ∧ (r3 = 0 → (∃ m13, dd9 3 11 = .ref m13 ∧ ab_isM m13 ∧ ∃ (r15 : Int32) (P16 : ab_S → Prop), ab_Sp MX1_signsInAll d [.ref m13] (i7, l8, dd9, x10) (ab_E0 sc) (some (.int r15)) P16 ∧ ∀ i19 l20 dd21 x22, P16 (i19, l20, dd21, x22) → ((r15 ≤ 6 → (∃ m25, dd21 3 11 = .ref m25 ∧ ab_isM m25 ∧ ∃ (r27 : Int32) (P28 : ab_S → Prop), ab_Sp MX3_countFits d [.ref 169, .ref m25] (i19, l20, dd21, x22) (ab_E0 sc) (some (.int r27)) P28 ∧ ∀ i31 l32 dd33 x34, P28 (i31, l32, dd33, x34) → Q (some (some (.int r27))) (i31, l32, dd33, x34) (ab_E0 sc))) ∧ (¬ r15 ≤ 6 → Q (some (some (.int (-1)))) (i19, l20, dd21, x22) (ab_E0 sc)))))))) :
    ab_Fr MX11_fits (d + 1) Q 0 [some (.ref 3)] [] (0, 0) (i, l, dd, x) (ab_E0 sc) := by
  refine ab_aloadn dX11_fits_0 rfl ?_
  obtain ⟨m1, hm2d, hm2, hm2t⟩ := h
  refine ab_getf (v := .ref m1) dX11_fits_1 fl_X11_23 kd_3 hm2d ?_
  obtain ⟨r3, P4, hs5, hk6⟩ := hm2t
  refine ab_callV (vs := []) (st := []) dX11_fits_4 okMX1_isEmpty wd_683 (kM hm2) rfl rfl rfl (Nat.le_of_ble_eq_true rfl) ⟨Nat.le_of_ble_eq_true rfl, Nat.le_of_ble_eq_true rfl⟩ hs5 ?_
  rintro v9 ⟨i7, l8, dd9, x10⟩ E9 - ⟨rfl, rfl, hp11⟩
  show ab_Fr MX11_fits (d + 1) Q 7 [some (.ref 3)] [.int r3] (0, 0) (i7, l8, dd9, x10) (ab_E0 sc)
  refine ab_if_ne (tgt := 22) dX11_fits_7 (by decide) (fun c12 => ?_) (fun c12 => ?_)
  · refine ab_iconst (v := (-1)) dX11_fits_22 (by decide) ?_
    exact ab_iret dX11_fits_23 rfl ⟨Nat.zero_le _, Nat.zero_le _⟩ ((hk6 i7 l8 dd9 x10 hp11).1 c12)
  · refine ab_aloadn dX11_fits_10 rfl ?_
    obtain ⟨m13, hm14d, hm14, hm14t⟩ := ((hk6 i7 l8 dd9 x10 hp11).2 c12)
    refine ab_getf (v := .ref m13) dX11_fits_11 fl_X11_23 kd_3 hm14d ?_
    obtain ⟨r15, P16, hs17, hk18⟩ := hm14t
    refine ab_callV (vs := []) (st := []) dX11_fits_14 okMX1_signsInAll wd_1038 (kM hm14) rfl rfl rfl (Nat.le_of_ble_eq_true rfl) ⟨Nat.le_of_ble_eq_true rfl, Nat.le_of_ble_eq_true rfl⟩ hs17 ?_
    rintro v9 ⟨i19, l20, dd21, x22⟩ E9 - ⟨rfl, rfl, hp23⟩
    show ab_Fr MX11_fits (d + 1) Q 17 [some (.ref 3)] [.int r15] (0, 0) (i19, l20, dd21, x22) (ab_E0 sc)
    refine ab_bipush (v := 6) dX11_fits_17 (by decide) ?_
    refine ab_icmp_le (tgt := 24) dX11_fits_19 (by decide) (fun c24 => ?_) (fun c24 => ?_)
    · refine ab_aloadn dX11_fits_24 rfl ?_
      refine ab_getf (v := .ref 169) dX11_fits_25 fl_X11_50 kd_3 ff_3_4 ?_
      refine ab_aloadn dX11_fits_28 rfl ?_
      obtain ⟨m25, hm26d, hm26, hm26t⟩ := ((hk18 i19 l20 dd21 x22 hp23).1 c24)
      refine ab_getf (v := .ref m25) dX11_fits_29 fl_X11_23 kd_3 hm26d ?_
      obtain ⟨r27, P28, hs29, hk30⟩ := hm26t
      refine ab_callV (vs := [.ref m25]) (st := []) dX11_fits_32 okMX3_countFits wd_1042 kd_169 rfl rfl rfl (Nat.le_of_ble_eq_true rfl) ⟨Nat.le_of_ble_eq_true rfl, Nat.le_of_ble_eq_true rfl⟩ hs29 ?_
      rintro v9 ⟨i31, l32, dd33, x34⟩ E9 - ⟨rfl, rfl, hp35⟩
      show ab_Fr MX11_fits (d + 1) Q 35 [some (.ref 3)] [.int r27] (0, 0) (i31, l32, dd33, x34) (ab_E0 sc)
      exact ab_iret dX11_fits_35 rfl ⟨Nat.zero_le _, Nat.zero_le _⟩ (hk30 i31 l32 dd33 x34 hp35)
    · refine ab_iconst (v := (-1)) dX11_fits_22 (by decide) ?_
      exact ab_iret dX11_fits_23 rfl ⟨Nat.zero_le _, Nat.zero_le _⟩ ((hk18 i19 l20 dd21 x22 hp23).2 c24)
theorem tMX11_fitAt_0 {d : Nat} {Q : ab_Qt} {sc : Nat × (Nat → Int32)} {i : Nat → Nat → Int32} {l : Nat → Nat → Int64} {dd : Nat → Nat → Value} {x : Nat} {a1 : Int32} {a2 : Int32} 
    (h : (∃ (r1 : Int32) (P2 : ab_S → Prop), ab_Sp MX11_inTable d [.int a1, .int a2] (i, l, dd, x) (ab_E0 sc) (some (.int r1)) P2 ∧ ∀ i5 l6 dd7 x8, P2 (i5, l6, dd7, x8) → ((r1 = 0 → Q (some (some (.int (-1)))) (i5, l6, dd7, x8) (ab_E0 sc)) ∧ (¬ r1 = 0 → (vp_in ((a1 * 3) + a2) 21 ∧ Q (some (some (.int (i5 175 ((a1 * 3) + a2).toNatClampNeg)))) (i5, l6, dd7, x8) (ab_E0 sc)))))) :
    ab_Fr MX11_fitAt (d + 1) Q 0 [some (.ref 3), some (.int a1), some (.int a2)] [] (0, 0) (i, l, dd, x) (ab_E0 sc) := by
  refine ab_iloadn dX11_fitAt_0 rfl ?_
  refine ab_iloadn dX11_fitAt_1 rfl ?_
  obtain ⟨r1, P2, hs3, hk4⟩ := h
  refine ab_callS (vs := [.int a1, .int a2]) (st := []) dX11_fitAt_2 okMX11_inTable wd_868 rfl rfl (Nat.le_of_ble_eq_true rfl) ⟨Nat.le_of_ble_eq_true rfl, Nat.le_of_ble_eq_true rfl⟩ hs3 ?_
  rintro v9 ⟨i5, l6, dd7, x8⟩ E9 - ⟨rfl, rfl, hp9⟩
  show ab_Fr MX11_fitAt (d + 1) Q 5 [some (.ref 3), some (.int a1), some (.int a2)] [.int r1] (0, 0) (i5, l6, dd7, x8) (ab_E0 sc)
  refine ab_if_eq (tgt := 24) dX11_fitAt_5 (by decide) (fun c10 => ?_) (fun c10 => ?_)
  · refine ab_iconst (v := (-1)) dX11_fitAt_24 (by decide) ?_
    exact ab_iret dX11_fitAt_25 rfl ⟨Nat.zero_le _, Nat.zero_le _⟩ ((hk4 i5 l6 dd7 x8 hp9).1 c10)
  · refine ab_aloadn dX11_fitAt_8 rfl ?_
    refine ab_getf (v := .ref 169) dX11_fitAt_9 fl_X11_50 kd_3 ff_3_4 ?_
    refine ab_getf (v := .ref 175) dX11_fitAt_12 fl_X11_310 kd_169 ff_169_9 ?_
    refine ab_iloadn dX11_fitAt_15 rfl ?_
    refine ab_iconst (v := 3) dX11_fitAt_16 (by decide) ?_
    refine ab_imul dX11_fitAt_17 ?_
    refine ab_iloadn dX11_fitAt_18 rfl ?_
    refine ab_iadd dX11_fitAt_19 ?_
    refine ab_iaload (v := (i5 175 ((a1 * 3) + a2).toNatClampNeg)) dX11_fitAt_20 kd_175 ((hk4 i5 l6 dd7 x8 hp9).2 c10).1 rfl ?_
    refine ab_goto (tgt := 25) dX11_fitAt_21 (by decide) ?_
    exact ab_iret dX11_fitAt_25 rfl ⟨Nat.zero_le _, Nat.zero_le _⟩ ((hk4 i5 l6 dd7 x8 hp9).2 c10).2
theorem tMX11_weighed_0 {d : Nat} {Q : ab_Qt} {sc : Nat × (Nat → Int32)} {i : Nat → Nat → Int32} {l : Nat → Nat → Int64} {dd : Nat → Nat → Value} {x : Nat}  
    (h : (∃ m1, dd 3 11 = .ref m1 ∧ ab_isM m1 ∧ ∃ (r3 : Int32) (P4 : ab_S → Prop), ab_Sp MX1_isEmpty d [.ref m1] (i, l, dd, x) (ab_E0 sc) (some (.int r3)) P4 ∧ ∀ i7 l8 dd9 x10, P4 (i7, l8, dd9, x10) → ((¬ r3 = 0 → Q (some (some (.long (-1)))) (i7, l8, dd9, x10) (ab_E0 sc)) ∧ (r3 = 0 → (∃ m13, dd9 3 11 = .ref m13 ∧ ab_isM m13 ∧ (((i7 m13 1) ≤ 5 → (∃ (r16 : Int64) (P17 : ab_S → Prop), ab_Sp MX5_weighAll d [.ref 191, .ref m13] (i7, l8, dd9, x10) (ab_E0 sc) (some (.long r16)) P17 ∧ ∀ i20 l21 dd22 x23, P17 (i20, l21, dd22, x23) → Q (some (some (.long r16))) (i20, l21, dd22, x23) (ab_E0 sc))) ∧ (¬ (i7 m13 1) ≤ 5 → Q (some (some (.long (-1)))) (i7, l8, dd9, x10) (ab_E0 sc)))))))) :
    ab_Fr MX11_weighed (d + 1) Q 0 [some (.ref 3)] [] (0, 0) (i, l, dd, x) (ab_E0 sc) := by
  refine ab_aloadn dX11_weighed_0 rfl ?_
  obtain ⟨m1, hm2d, hm2, hm2t⟩ := h
  refine ab_getf (v := .ref m1) dX11_weighed_1 fl_X11_23 kd_3 hm2d ?_
  obtain ⟨r3, P4, hs5, hk6⟩ := hm2t
  refine ab_callV (vs := []) (st := []) dX11_weighed_4 okMX1_isEmpty wd_683 (kM hm2) rfl rfl rfl (Nat.le_of_ble_eq_true rfl) ⟨Nat.le_of_ble_eq_true rfl, Nat.le_of_ble_eq_true rfl⟩ hs5 ?_
  rintro v9 ⟨i7, l8, dd9, x10⟩ E9 - ⟨rfl, rfl, hp11⟩
  show ab_Fr MX11_weighed (d + 1) Q 7 [some (.ref 3)] [.int r3] (0, 0) (i7, l8, dd9, x10) (ab_E0 sc)
  refine ab_if_ne (tgt := 21) dX11_weighed_7 (by decide) (fun c12 => ?_) (fun c12 => ?_)
  · refine ab_ldc2 dX11_weighed_21 wd_875 ?_
    exact ab_lret dX11_weighed_24 rfl ⟨Nat.zero_le _, Nat.zero_le _⟩ ((hk6 i7 l8 dd9 x10 hp11).1 c12)
  · refine ab_aloadn dX11_weighed_10 rfl ?_
    obtain ⟨m13, hm14d, hm14, hm14t⟩ := ((hk6 i7 l8 dd9 x10 hp11).2 c12)
    refine ab_getf (v := .ref m13) dX11_weighed_11 fl_X11_23 kd_3 hm14d ?_
    refine ab_getf (v := .int (i7 m13 1)) dX11_weighed_14 fl_X11_120 (kM hm14) rfl ?_
    refine ab_iconst (v := 5) dX11_weighed_17 (by decide) ?_
    refine ab_icmp_le (tgt := 25) dX11_weighed_18 (by decide) (fun c15 => ?_) (fun c15 => ?_)
    · refine ab_aloadn dX11_weighed_25 rfl ?_
      refine ab_getf (v := .ref 191) dX11_weighed_26 fl_X11_69 kd_3 ff_3_7 ?_
      refine ab_aloadn dX11_weighed_29 rfl ?_
      refine ab_getf (v := .ref m13) dX11_weighed_30 fl_X11_23 kd_3 hm14d ?_
      obtain ⟨r16, P17, hs18, hk19⟩ := (hm14t.1 c15)
      refine ab_callV (vs := [.ref m13]) (st := []) dX11_weighed_33 okMX5_weighAll wd_1068 kd_191 rfl rfl rfl (Nat.le_of_ble_eq_true rfl) ⟨Nat.le_of_ble_eq_true rfl, Nat.le_of_ble_eq_true rfl⟩ hs18 ?_
      rintro v9 ⟨i20, l21, dd22, x23⟩ E9 - ⟨rfl, rfl, hp24⟩
      show ab_Fr MX11_weighed (d + 1) Q 36 [some (.ref 3)] [.long r16] (0, 0) (i20, l21, dd22, x23) (ab_E0 sc)
      exact ab_lret dX11_weighed_36 rfl ⟨Nat.zero_le _, Nat.zero_le _⟩ (hk19 i20 l21 dd22 x23 hp24)
    · refine ab_ldc2 dX11_weighed_21 wd_875 ?_
      exact ab_lret dX11_weighed_24 rfl ⟨Nat.zero_le _, Nat.zero_le _⟩ (hm14t.2 c15)
theorem tMX11_weighedAt_0 {d : Nat} {Q : ab_Qt} {sc : Nat × (Nat → Int32)} {i : Nat → Nat → Int32} {l : Nat → Nat → Int64} {dd : Nat → Nat → Value} {x : Nat} {a1 : Int32} 
    (h : ((a1 < 0 → Q (some (some (.int (-1)))) (i, l, dd, x) (ab_E0 sc)) ∧ (¬ a1 < 0 → ((8 ≤ a1 → Q (some (some (.int (-1)))) (i, l, dd, x) (ab_E0 sc)) ∧ (¬ 8 ≤ a1 → (vp_in a1 8 ∧ Q (some (some (.int (i 198 a1.toNatClampNeg)))) (i, l, dd, x) (ab_E0 sc))))))) :
    ab_Fr MX11_weighedAt (d + 1) Q 0 [some (.ref 3), some (.int a1)] [] (0, 0) (i, l, dd, x) (ab_E0 sc) := by
  refine ab_iloadn dX11_weighedAt_0 rfl ?_
  refine ab_if_lt (tgt := 22) dX11_weighedAt_1 (by decide) (fun c1 => ?_) (fun c1 => ?_)
  · refine ab_iconst (v := (-1)) dX11_weighedAt_22 (by decide) ?_
    exact ab_iret dX11_weighedAt_23 rfl ⟨Nat.zero_le _, Nat.zero_le _⟩ (h.1 c1)
  · refine ab_iloadn dX11_weighedAt_4 rfl ?_
    refine ab_bipush (v := 8) dX11_weighedAt_5 (by decide) ?_
    refine ab_icmp_ge (tgt := 22) dX11_weighedAt_7 (by decide) (fun c2 => ?_) (fun c2 => ?_)
    · refine ab_iconst (v := (-1)) dX11_weighedAt_22 (by decide) ?_
      exact ab_iret dX11_weighedAt_23 rfl ⟨Nat.zero_le _, Nat.zero_le _⟩ ((h.2 c1).1 c2)
    · refine ab_aloadn dX11_weighedAt_10 rfl ?_
      refine ab_getf (v := .ref 191) dX11_weighedAt_11 fl_X11_69 kd_3 ff_3_7 ?_
      refine ab_getf (v := .ref 198) dX11_weighedAt_14 fl_X11_317 kd_191 ff_191_9 ?_
      refine ab_iloadn dX11_weighedAt_17 rfl ?_
      refine ab_iaload (v := (i 198 a1.toNatClampNeg)) dX11_weighedAt_18 kd_198 ((h.2 c1).2 c2).1 rfl ?_
      refine ab_goto (tgt := 23) dX11_weighedAt_19 (by decide) ?_
      exact ab_iret dX11_weighedAt_23 rfl ⟨Nat.zero_le _, Nat.zero_le _⟩ ((h.2 c1).2 c2).2
theorem tMX11_guess_0 {d : Nat} {Q : ab_Qt} {sc : Nat × (Nat → Int32)} {i : Nat → Nat → Int32} {l : Nat → Nat → Int64} {dd : Nat → Nat → Value} {x : Nat}  
    (h : (∃ m1, dd 3 11 = .ref m1 ∧ ab_isM m1 ∧ ∃ (r3 : Int32) (P4 : ab_S → Prop), ab_Sp MX1_hasVotes d [.ref m1, .ref 4] (i, l, dd, x) (ab_E0 sc) (some (.int r3)) P4 ∧ ∀ i7 l8 dd9 x10, P4 (i7, l8, dd9, x10) → ((r3 = 0 → ab_Fr MX11_guess (d + 1) Q 42 [some (.ref 3), some (.int (-1))] [] (0, 0) (i7, l8, dd9, x10) (ab_E0 sc)) ∧ (¬ r3 = 0 → (∃ m13, dd9 3 11 = .ref m13 ∧ ab_isM m13 ∧ ∃ (P16 : ab_S → Prop), ab_Sp MX4_votingAs d [.ref 160, .ref m13, .ref 5] (i7, l8, dd9, x10) (ab_E0 sc) (none) P16 ∧ ∀ i19 l20 dd21 x22, P16 (i19, l20, dd21, x22) → ∃ (r24 : Int32) (P25 : ab_S → Prop), ab_Sp MX4_likeliest d [.ref 160] (i19, l20, dd21, x22) (ab_E0 sc) (some (.int r24)) P25 ∧ ∀ i28 l29 dd30 x31, P25 (i28, l29, dd30, x31) → ab_Fr MX11_guess (d + 1) Q 42 [some (.ref 3), some (.int r24)] [] (0, 0) (i28, l29, dd30, x31) (ab_E0 sc)))))) :
    ab_Fr MX11_guess (d + 1) Q 0 [some (.ref 3), none] [] (0, 0) (i, l, dd, x) (ab_E0 sc) := by
  refine ab_iconst (v := (-1)) dX11_guess_0 (by decide) ?_
  refine ab_istoren dX11_guess_1 (Nat.le_of_ble_eq_true rfl) (L2 := [some (.ref 3), some (.int (-1))]) rfl ?_
  refine ab_aloadn dX11_guess_2 rfl ?_
  obtain ⟨m1, hm2d, hm2, hm2t⟩ := h
  refine ab_getf (v := .ref m1) dX11_guess_3 fl_X11_23 kd_3 hm2d ?_
  refine ab_aloadn dX11_guess_6 rfl ?_
  refine ab_getf (v := .ref 4) dX11_guess_7 fl_X11_10 kd_3 ff_3_0 ?_
  obtain ⟨r3, P4, hs5, hk6⟩ := hm2t
  refine ab_callV (vs := [.ref 4]) (st := []) dX11_guess_10 okMX1_hasVotes wd_1103 (kM hm2) rfl rfl rfl (Nat.le_of_ble_eq_true rfl) ⟨Nat.le_of_ble_eq_true rfl, Nat.le_of_ble_eq_true rfl⟩ hs5 ?_
  rintro v9 ⟨i7, l8, dd9, x10⟩ E9 - ⟨rfl, rfl, hp11⟩
  show ab_Fr MX11_guess (d + 1) Q 13 [some (.ref 3), some (.int (-1))] [.int r3] (0, 0) (i7, l8, dd9, x10) (ab_E0 sc)
  refine ab_if_eq (tgt := 42) dX11_guess_13 (by decide) (fun c12 => ?_) (fun c12 => ?_)
  · exact ((hk6 i7 l8 dd9 x10 hp11).1 c12)
  · refine ab_aloadn dX11_guess_16 rfl ?_
    refine ab_getf (v := .ref 160) dX11_guess_17 fl_X11_41 kd_3 ff_3_3 ?_
    refine ab_aloadn dX11_guess_20 rfl ?_
    obtain ⟨m13, hm14d, hm14, hm14t⟩ := ((hk6 i7 l8 dd9 x10 hp11).2 c12)
    refine ab_getf (v := .ref m13) dX11_guess_21 fl_X11_23 kd_3 hm14d ?_
    refine ab_aloadn dX11_guess_24 rfl ?_
    refine ab_getf (v := .ref 4) dX11_guess_25 fl_X11_10 kd_3 ff_3_0 ?_
    refine ab_getf (v := .ref 5) dX11_guess_28 fl_X11_148 kd_4 ff_4_0 ?_
    obtain ⟨P16, hs17, hk18⟩ := hm14t
    refine ab_callV (vs := [.ref m13, .ref 5]) (st := []) dX11_guess_31 okMX4_votingAs wd_1108 kd_160 rfl rfl rfl (Nat.le_of_ble_eq_true rfl) ⟨Nat.le_of_ble_eq_true rfl, Nat.le_of_ble_eq_true rfl⟩ hs17 ?_
    rintro v9 ⟨i19, l20, dd21, x22⟩ E9 - ⟨rfl, rfl, hp23⟩
    show ab_Fr MX11_guess (d + 1) Q 34 [some (.ref 3), some (.int (-1))] [] (0, 0) (i19, l20, dd21, x22) (ab_E0 sc)
    refine ab_aloadn dX11_guess_34 rfl ?_
    refine ab_getf (v := .ref 160) dX11_guess_35 fl_X11_41 kd_3 ff_3_3 ?_
    obtain ⟨r24, P25, hs26, hk27⟩ := (hk18 i19 l20 dd21 x22 hp23)
    refine ab_callV (vs := []) (st := []) dX11_guess_38 okMX4_likeliest wd_1112 kd_160 rfl rfl rfl (Nat.le_of_ble_eq_true rfl) ⟨Nat.le_of_ble_eq_true rfl, Nat.le_of_ble_eq_true rfl⟩ hs26 ?_
    rintro v9 ⟨i28, l29, dd30, x31⟩ E9 - ⟨rfl, rfl, hp32⟩
    show ab_Fr MX11_guess (d + 1) Q 41 [some (.ref 3), some (.int (-1))] [.int r24] (0, 0) (i28, l29, dd30, x31) (ab_E0 sc)
    refine ab_istoren dX11_guess_41 (Nat.le_of_ble_eq_true rfl) (L2 := [some (.ref 3), some (.int r24)]) rfl ?_
    exact (hk27 i28 l29 dd30 x31 hp32)
theorem tMX11_guess_42 {d : Nat} {Q : ab_Qt} {sc : Nat × (Nat → Int32)} {i : Nat → Nat → Int32} {l : Nat → Nat → Int64} {dd : Nat → Nat → Value} {x : Nat} {a1 : Int32} 
    (h : (∃ (P2 : ab_S → Prop), ab_Sp MX7_clear d [.ref 4] (i, l, dd, x) (ab_E0 sc) (none) P2 ∧ ∀ i5 l6 dd7 x8, P2 (i5, l6, dd7, x8) → Q (some (some (.int a1))) (i5, l6, dd7, x8) (ab_E0 sc))) :
    ab_Fr MX11_guess (d + 1) Q 42 [some (.ref 3), some (.int a1)] [] (0, 0) (i, l, dd, x) (ab_E0 sc) := by
  refine ab_aloadn dX11_guess_42 rfl ?_
  refine ab_getf (v := .ref 4) dX11_guess_43 fl_X11_10 kd_3 ff_3_0 ?_
  obtain ⟨P2, hs3, hk4⟩ := h
  refine ab_callV (vs := []) (st := []) dX11_guess_46 okMX7_clear wd_659 kd_4 rfl rfl rfl (Nat.le_of_ble_eq_true rfl) ⟨Nat.le_of_ble_eq_true rfl, Nat.le_of_ble_eq_true rfl⟩ hs3 ?_
  rintro v9 ⟨i5, l6, dd7, x8⟩ E9 - ⟨rfl, rfl, hp9⟩
  show ab_Fr MX11_guess (d + 1) Q 49 [some (.ref 3), some (.int a1)] [] (0, 0) (i5, l6, dd7, x8) (ab_E0 sc)
  refine ab_iloadn dX11_guess_49 rfl ?_
  exact ab_iret dX11_guess_50 rfl ⟨Nat.zero_le _, Nat.zero_le _⟩ (hk4 i5 l6 dd7 x8 hp9)
theorem tMX11_run_0 {d : Nat} {Q : ab_Qt} {sc : Nat × (Nat → Int32)} {i : Nat → Nat → Int32} {l : Nat → Nat → Int64} {dd : Nat → Nat → Value} {x : Nat} {a1 : Int32} {a2 : Int32} 
    (h : (∃ m1, dd 3 11 = .ref m1 ∧ ab_isM m1 ∧ ∃ (r3 : Int32) (P4 : ab_S → Prop), ab_Sp MX1_isEmpty d [.ref m1] (i, l, dd, x) (ab_E0 sc) (some (.int r3)) P4 ∧ ∀ i7 l8 dd9 x10, P4 (i7, l8, dd9, x10) → ((¬ r3 = 0 → Q (some (some (.int (-1)))) (i7, l8, dd9, x10) (ab_E0 sc)) ∧ (r3 = 0 → ((a2 < 1 → Q (some (some (.int (-1)))) (i7, l8, dd9, x10) (ab_E0 sc)) ∧ (¬ a2 < 1 → ((a2 ≤ 1000 → (∃ m15, dd9 3 11 = .ref m15 ∧ ab_isM m15 ∧ ∃ (r17 : Int32) (P18 : ab_S → Prop), ab_Sp MX6_rightOf d [.ref 202, .ref m15, .int a1, .int a2] (i7, l8, dd9, x10) (ab_E0 sc) (some (.int r17)) P18 ∧ ∀ i21 l22 dd23 x24, P18 (i21, l22, dd23, x24) → Q (some (some (.int r17))) (i21, l22, dd23, x24) (ab_E0 sc))) ∧ (¬ a2 ≤ 1000 → Q (some (some (.int (-1)))) (i7, l8, dd9, x10) (ab_E0 sc))))))))) :
    ab_Fr MX11_run (d + 1) Q 0 [some (.ref 3), some (.int a1), some (.int a2)] [] (0, 0) (i, l, dd, x) (ab_E0 sc) := by
  refine ab_aloadn dX11_run_0 rfl ?_
  obtain ⟨m1, hm2d, hm2, hm2t⟩ := h
  refine ab_getf (v := .ref m1) dX11_run_1 fl_X11_23 kd_3 hm2d ?_
  obtain ⟨r3, P4, hs5, hk6⟩ := hm2t
  refine ab_callV (vs := []) (st := []) dX11_run_4 okMX1_isEmpty wd_683 (kM hm2) rfl rfl rfl (Nat.le_of_ble_eq_true rfl) ⟨Nat.le_of_ble_eq_true rfl, Nat.le_of_ble_eq_true rfl⟩ hs5 ?_
  rintro v9 ⟨i7, l8, dd9, x10⟩ E9 - ⟨rfl, rfl, hp11⟩
  show ab_Fr MX11_run (d + 1) Q 7 [some (.ref 3), some (.int a1), some (.int a2)] [.int r3] (0, 0) (i7, l8, dd9, x10) (ab_E0 sc)
  refine ab_if_ne (tgt := 22) dX11_run_7 (by decide) (fun c12 => ?_) (fun c12 => ?_)
  · refine ab_iconst (v := (-1)) dX11_run_22 (by decide) ?_
    exact ab_iret dX11_run_23 rfl ⟨Nat.zero_le _, Nat.zero_le _⟩ ((hk6 i7 l8 dd9 x10 hp11).1 c12)
  · refine ab_iloadn dX11_run_10 rfl ?_
    refine ab_iconst (v := 1) dX11_run_11 (by decide) ?_
    refine ab_icmp_lt (tgt := 22) dX11_run_12 (by decide) (fun c13 => ?_) (fun c13 => ?_)
    · refine ab_iconst (v := (-1)) dX11_run_22 (by decide) ?_
      exact ab_iret dX11_run_23 rfl ⟨Nat.zero_le _, Nat.zero_le _⟩ (((hk6 i7 l8 dd9 x10 hp11).2 c12).1 c13)
    · refine ab_iloadn dX11_run_15 rfl ?_
      refine ab_sipush (v := 1000) dX11_run_16 (by decide) ?_
      refine ab_icmp_le (tgt := 24) dX11_run_19 (by decide) (fun c14 => ?_) (fun c14 => ?_)
      · refine ab_aloadn dX11_run_24 rfl ?_
        refine ab_getf (v := .ref 202) dX11_run_25 fl_X11_83 kd_3 ff_3_9 ?_
        refine ab_aloadn dX11_run_28 rfl ?_
        obtain ⟨m15, hm16d, hm16, hm16t⟩ := ((((hk6 i7 l8 dd9 x10 hp11).2 c12).2 c13).1 c14)
        refine ab_getf (v := .ref m15) dX11_run_29 fl_X11_23 kd_3 hm16d ?_
        refine ab_iloadn dX11_run_32 rfl ?_
        refine ab_iloadn dX11_run_33 rfl ?_
        obtain ⟨r17, P18, hs19, hk20⟩ := hm16t
        refine ab_callV (vs := [.ref m15, .int a1, .int a2]) (st := []) dX11_run_34 okMX6_rightOf wd_1120 kd_202 rfl rfl rfl (Nat.le_of_ble_eq_true rfl) ⟨Nat.le_of_ble_eq_true rfl, Nat.le_of_ble_eq_true rfl⟩ hs19 ?_
        rintro v9 ⟨i21, l22, dd23, x24⟩ E9 - ⟨rfl, rfl, hp25⟩
        show ab_Fr MX11_run (d + 1) Q 37 [some (.ref 3), some (.int a1), some (.int a2)] [.int r17] (0, 0) (i21, l22, dd23, x24) (ab_E0 sc)
        exact ab_iret dX11_run_37 rfl ⟨Nat.zero_le _, Nat.zero_le _⟩ (hk20 i21 l22 dd23 x24 hp25)
      · refine ab_iconst (v := (-1)) dX11_run_22 (by decide) ?_
        exact ab_iret dX11_run_23 rfl ⟨Nat.zero_le _, Nat.zero_le _⟩ ((((hk6 i7 l8 dd9 x10 hp11).2 c12).2 c13).2 c14)
theorem tMX11_parts_0 {d : Nat} {Q : ab_Qt} {sc : Nat × (Nat → Int32)} {i : Nat → Nat → Int32} {l : Nat → Nat → Int64} {dd : Nat → Nat → Value} {x : Nat} {a1 : Int32} 
    (h : (∃ m1, dd 3 11 = .ref m1 ∧ ab_isM m1 ∧ ∃ (r3 : Int32) (P4 : ab_S → Prop), ab_Sp MX1_hasTruth d [.ref m1, .int a1] (i, l, dd, x) (ab_E0 sc) (some (.int r3)) P4 ∧ ∀ i7 l8 dd9 x10, P4 (i7, l8, dd9, x10) → ((r3 = 0 → ab_Fr MX11_parts (d + 1) Q 25 [none, none, none, none] [] (0, 0) (i7, l8, dd9, x10) (ab_E0 sc)) ∧ (¬ r3 = 0 → (∃ m13, dd9 3 11 = .ref m13 ∧ ab_isM m13 ∧ ∃ (r15 : Int32) (P16 : ab_S → Prop), ab_Sp MX1_hasSigns d [.ref m13, .ref 4] (i7, l8, dd9, x10) (ab_E0 sc) (some (.int r15)) P16 ∧ ∀ i19 l20 dd21 x22, P16 (i19, l20, dd21, x22) → ((¬ r15 = 0 → (∃ m25, dd21 3 11 = .ref m25 ∧ ab_isM m25 ∧ ∃ (r27 : Int64) (P28 : ab_S → Prop), ab_Sp MX1_partsOf d [.ref m25, .int a1, .ref 5] (i19, l20, dd21, x22) (ab_E0 sc) (some (.long r27)) P28 ∧ ∀ i31 l32 dd33 x34, P28 (i31, l32, dd33, x34) → ∃ (P37 : ab_S → Prop), ab_Sp MX7_clear d [.ref 4] (i31, l32, dd33, x34) (ab_E0 sc) (none) P37 ∧ ∀ i40 l41 dd42 x43, P37 (i40, l41, dd42, x43) → Q (some (some (.long r27))) (i40, l41, dd42, x43) (ab_E0 sc))) ∧ (r15 = 0 → ab_Fr MX11_parts (d + 1) Q 25 [none, none, none, none] [] (0, 0) (i19, l20, dd21, x22) (ab_E0 sc)))))))) :
    ab_Fr MX11_parts (d + 1) Q 0 [some (.ref 3), some (.int a1), none, none] [] (0, 0) (i, l, dd, x) (ab_E0 sc) := by
  refine ab_aloadn dX11_parts_0 rfl ?_
  obtain ⟨m1, hm2d, hm2, hm2t⟩ := h
  refine ab_getf (v := .ref m1) dX11_parts_1 fl_X11_23 kd_3 hm2d ?_
  refine ab_iloadn dX11_parts_4 rfl ?_
  obtain ⟨r3, P4, hs5, hk6⟩ := hm2t
  refine ab_callV (vs := [.int a1]) (st := []) dX11_parts_5 okMX1_hasTruth wd_972 (kM hm2) rfl rfl rfl (Nat.le_of_ble_eq_true rfl) ⟨Nat.le_of_ble_eq_true rfl, Nat.le_of_ble_eq_true rfl⟩ hs5 ?_
  rintro v9 ⟨i7, l8, dd9, x10⟩ E9 - ⟨rfl, rfl, hp11⟩
  show ab_Fr MX11_parts (d + 1) Q 8 [some (.ref 3), some (.int a1), none, none] [.int r3] (0, 0) (i7, l8, dd9, x10) (ab_E0 sc)
  refine ab_if_eq (tgt := 25) dX11_parts_8 (by decide) (fun c12 => ?_) (fun c12 => ?_)
  · refine ab_forget (i := 0) (L2 := [none, some (.int a1), none, none]) rfl ?_
    refine ab_forget (i := 1) (L2 := [none, none, none, none]) rfl ?_
    exact ((hk6 i7 l8 dd9 x10 hp11).1 c12)
  · refine ab_aloadn dX11_parts_11 rfl ?_
    obtain ⟨m13, hm14d, hm14, hm14t⟩ := ((hk6 i7 l8 dd9 x10 hp11).2 c12)
    refine ab_getf (v := .ref m13) dX11_parts_12 fl_X11_23 kd_3 hm14d ?_
    refine ab_aloadn dX11_parts_15 rfl ?_
    refine ab_getf (v := .ref 4) dX11_parts_16 fl_X11_10 kd_3 ff_3_0 ?_
    obtain ⟨r15, P16, hs17, hk18⟩ := hm14t
    refine ab_callV (vs := [.ref 4]) (st := []) dX11_parts_19 okMX1_hasSigns wd_700 (kM hm14) rfl rfl rfl (Nat.le_of_ble_eq_true rfl) ⟨Nat.le_of_ble_eq_true rfl, Nat.le_of_ble_eq_true rfl⟩ hs17 ?_
    rintro v9 ⟨i19, l20, dd21, x22⟩ E9 - ⟨rfl, rfl, hp23⟩
    show ab_Fr MX11_parts (d + 1) Q 22 [some (.ref 3), some (.int a1), none, none] [.int r15] (0, 0) (i19, l20, dd21, x22) (ab_E0 sc)
    refine ab_if_ne (tgt := 33) dX11_parts_22 (by decide) (fun c24 => ?_) (fun c24 => ?_)
    · refine ab_aloadn dX11_parts_33 rfl ?_
      obtain ⟨m25, hm26d, hm26, hm26t⟩ := ((hk18 i19 l20 dd21 x22 hp23).1 c24)
      refine ab_getf (v := .ref m25) dX11_parts_34 fl_X11_23 kd_3 hm26d ?_
      refine ab_iloadn dX11_parts_37 rfl ?_
      refine ab_aloadn dX11_parts_38 rfl ?_
      refine ab_getf (v := .ref 4) dX11_parts_39 fl_X11_10 kd_3 ff_3_0 ?_
      refine ab_getf (v := .ref 5) dX11_parts_42 fl_X11_148 kd_4 ff_4_0 ?_
      obtain ⟨r27, P28, hs29, hk30⟩ := hm26t
      refine ab_callV (vs := [.int a1, .ref 5]) (st := []) dX11_parts_45 okMX1_partsOf wd_1176 (kM hm26) rfl rfl rfl (Nat.le_of_ble_eq_true rfl) ⟨Nat.le_of_ble_eq_true rfl, Nat.le_of_ble_eq_true rfl⟩ hs29 ?_
      rintro v9 ⟨i31, l32, dd33, x34⟩ E9 - ⟨rfl, rfl, hp35⟩
      show ab_Fr MX11_parts (d + 1) Q 48 [some (.ref 3), some (.int a1), none, none] [.long r27] (0, 0) (i31, l32, dd33, x34) (ab_E0 sc)
      refine ab_lstoren dX11_parts_48 (Nat.le_of_ble_eq_true rfl) (L2 := [some (.ref 3), some (.int a1), some (.long r27), none]) rfl ?_
      refine ab_aloadn dX11_parts_49 rfl ?_
      refine ab_getf (v := .ref 4) dX11_parts_50 fl_X11_10 kd_3 ff_3_0 ?_
      obtain ⟨P37, hs38, hk39⟩ := (hk30 i31 l32 dd33 x34 hp35)
      refine ab_callV (vs := []) (st := []) dX11_parts_53 okMX7_clear wd_659 kd_4 rfl rfl rfl (Nat.le_of_ble_eq_true rfl) ⟨Nat.le_of_ble_eq_true rfl, Nat.le_of_ble_eq_true rfl⟩ hs38 ?_
      rintro v9 ⟨i40, l41, dd42, x43⟩ E9 - ⟨rfl, rfl, hp44⟩
      show ab_Fr MX11_parts (d + 1) Q 56 [some (.ref 3), some (.int a1), some (.long r27), none] [] (0, 0) (i40, l41, dd42, x43) (ab_E0 sc)
      refine ab_lloadn dX11_parts_56 rfl ?_
      exact ab_lret dX11_parts_57 rfl ⟨Nat.zero_le _, Nat.zero_le _⟩ (hk39 i40 l41 dd42 x43 hp44)
    · refine ab_forget (i := 0) (L2 := [none, some (.int a1), none, none]) rfl ?_
      refine ab_forget (i := 1) (L2 := [none, none, none, none]) rfl ?_
      exact ((hk18 i19 l20 dd21 x22 hp23).2 c24)
theorem tMX11_parts_25 {d : Nat} {Q : ab_Qt} {sc : Nat × (Nat → Int32)} {i : Nat → Nat → Int32} {l : Nat → Nat → Int64} {dd : Nat → Nat → Value} {x : Nat}  
    (h : Q none (i, l, dd, x + 1) (ab_E0 sc)) :
    ab_Fr MX11_parts (d + 1) Q 25 [none, none, none, none] [] (0, 0) (i, l, dd, x) (ab_E0 sc) := by
  exact ab_throw ⟨rfl, dX11_parts_25, dX11_parts_28, dX11_parts_29, dX11_parts_32⟩ ⟨Nat.le_of_ble_eq_true rfl, Nat.le_of_ble_eq_true rfl⟩ h
theorem tMX11_comes_0 {d : Nat} {Q : ab_Qt} {sc : Nat × (Nat → Int32)} {i : Nat → Nat → Int32} {l : Nat → Nat → Int64} {dd : Nat → Nat → Value} {x : Nat} {a1 : Int32} {a2 : Int32} 
    (h : (∃ m1, dd 3 11 = .ref m1 ∧ ab_isM m1 ∧ ∃ (r3 : Int32) (P4 : ab_S → Prop), ab_Sp MX1_hasTruth d [.ref m1, .int a1] (i, l, dd, x) (ab_E0 sc) (some (.int r3)) P4 ∧ ∀ i7 l8 dd9 x10, P4 (i7, l8, dd9, x10) → ((r3 = 0 → ab_Fr MX11_comes (d + 1) Q 22 [none, none, none] [] (0, 0) (i7, l8, dd9, x10) (ab_E0 sc)) ∧ (¬ r3 = 0 → (∃ m13, dd9 3 11 = .ref m13 ∧ ab_isM m13 ∧ ∃ (r15 : Int32) (P16 : ab_S → Prop), ab_Sp MX1_hasTruth d [.ref m13, .int a2] (i7, l8, dd9, x10) (ab_E0 sc) (some (.int r15)) P16 ∧ ∀ i19 l20 dd21 x22, P16 (i19, l20, dd21, x22) → ((¬ r15 = 0 → (∃ m25, dd21 3 11 = .ref m25 ∧ ab_isM m25 ∧ ∃ (P28 : ab_S → Prop), ab_Sp MX4_voting d [.ref 160, .ref m25, .ref (m25 + 47)] (i19, l20, dd21, x22) (ab_E0 sc) (none) P28 ∧ ∀ i31 l32 dd33 x34, P28 (i31, l32, dd33, x34) → ∃ (P37 : ab_S → Prop), ab_Sp MX4_sumUp d [.ref 160, .ref 204] (i31, l32, dd33, x34) (ab_E0 sc) (none) P37 ∧ ∀ i40 l41 dd42 x43, P37 (i40, l41, dd42, x43) → vp_in ((a1 * 3) + a2) 9 ∧ Q (some (some (.long (l41 204 ((a1 * 3) + a2).toNatClampNeg)))) (i40, l41, dd42, x43) (ab_E0 sc))) ∧ (r15 = 0 → ab_Fr MX11_comes (d + 1) Q 22 [none, none, none] [] (0, 0) (i19, l20, dd21, x22) (ab_E0 sc)))))))) :
    ab_Fr MX11_comes (d + 1) Q 0 [some (.ref 3), some (.int a1), some (.int a2)] [] (0, 0) (i, l, dd, x) (ab_E0 sc) := by
  refine ab_aloadn dX11_comes_0 rfl ?_
  obtain ⟨m1, hm2d, hm2, hm2t⟩ := h
  refine ab_getf (v := .ref m1) dX11_comes_1 fl_X11_23 kd_3 hm2d ?_
  refine ab_iloadn dX11_comes_4 rfl ?_
  obtain ⟨r3, P4, hs5, hk6⟩ := hm2t
  refine ab_callV (vs := [.int a1]) (st := []) dX11_comes_5 okMX1_hasTruth wd_972 (kM hm2) rfl rfl rfl (Nat.le_of_ble_eq_true rfl) ⟨Nat.le_of_ble_eq_true rfl, Nat.le_of_ble_eq_true rfl⟩ hs5 ?_
  rintro v9 ⟨i7, l8, dd9, x10⟩ E9 - ⟨rfl, rfl, hp11⟩
  show ab_Fr MX11_comes (d + 1) Q 8 [some (.ref 3), some (.int a1), some (.int a2)] [.int r3] (0, 0) (i7, l8, dd9, x10) (ab_E0 sc)
  refine ab_if_eq (tgt := 22) dX11_comes_8 (by decide) (fun c12 => ?_) (fun c12 => ?_)
  · refine ab_forget (i := 0) (L2 := [none, some (.int a1), some (.int a2)]) rfl ?_
    refine ab_forget (i := 1) (L2 := [none, none, some (.int a2)]) rfl ?_
    refine ab_forget (i := 2) (L2 := [none, none, none]) rfl ?_
    exact ((hk6 i7 l8 dd9 x10 hp11).1 c12)
  · refine ab_aloadn dX11_comes_11 rfl ?_
    obtain ⟨m13, hm14d, hm14, hm14t⟩ := ((hk6 i7 l8 dd9 x10 hp11).2 c12)
    refine ab_getf (v := .ref m13) dX11_comes_12 fl_X11_23 kd_3 hm14d ?_
    refine ab_iloadn dX11_comes_15 rfl ?_
    obtain ⟨r15, P16, hs17, hk18⟩ := hm14t
    refine ab_callV (vs := [.int a2]) (st := []) dX11_comes_16 okMX1_hasTruth wd_972 (kM hm14) rfl rfl rfl (Nat.le_of_ble_eq_true rfl) ⟨Nat.le_of_ble_eq_true rfl, Nat.le_of_ble_eq_true rfl⟩ hs17 ?_
    rintro v9 ⟨i19, l20, dd21, x22⟩ E9 - ⟨rfl, rfl, hp23⟩
    show ab_Fr MX11_comes (d + 1) Q 19 [some (.ref 3), some (.int a1), some (.int a2)] [.int r15] (0, 0) (i19, l20, dd21, x22) (ab_E0 sc)
    refine ab_if_ne (tgt := 30) dX11_comes_19 (by decide) (fun c24 => ?_) (fun c24 => ?_)
    · refine ab_aloadn dX11_comes_30 rfl ?_
      refine ab_getf (v := .ref 160) dX11_comes_31 fl_X11_41 kd_3 ff_3_3 ?_
      refine ab_aloadn dX11_comes_34 rfl ?_
      obtain ⟨m25, hm26d, hm26, hm26t⟩ := ((hk18 i19 l20 dd21 x22 hp23).1 c24)
      refine ab_getf (v := .ref m25) dX11_comes_35 fl_X11_23 kd_3 hm26d ?_
      refine ab_aloadn dX11_comes_38 rfl ?_
      refine ab_getf (v := .ref m25) dX11_comes_39 fl_X11_23 kd_3 hm26d ?_
      refine ab_getf (v := .ref (m25 + 47)) dX11_comes_42 fl_X11_168 (kM hm26) (fM_9 hm26) ?_
      obtain ⟨P28, hs29, hk30⟩ := hm26t
      refine ab_callV (vs := [.ref m25, .ref (m25 + 47)]) (st := []) dX11_comes_45 okMX4_voting wd_725 kd_160 rfl rfl rfl (Nat.le_of_ble_eq_true rfl) ⟨Nat.le_of_ble_eq_true rfl, Nat.le_of_ble_eq_true rfl⟩ hs29 ?_
      rintro v9 ⟨i31, l32, dd33, x34⟩ E9 - ⟨rfl, rfl, hp35⟩
      show ab_Fr MX11_comes (d + 1) Q 48 [some (.ref 3), some (.int a1), some (.int a2)] [] (0, 0) (i31, l32, dd33, x34) (ab_E0 sc)
      refine ab_aloadn dX11_comes_48 rfl ?_
      refine ab_getf (v := .ref 160) dX11_comes_49 fl_X11_41 kd_3 ff_3_3 ?_
      refine ab_aloadn dX11_comes_52 rfl ?_
      refine ab_getf (v := .ref 204) dX11_comes_53 fl_X11_87 kd_3 ff_3_10 ?_
      obtain ⟨P37, hs38, hk39⟩ := (hk30 i31 l32 dd33 x34 hp35)
      refine ab_callV (vs := [.ref 204]) (st := []) dX11_comes_56 okMX4_sumUp wd_735 kd_160 rfl rfl rfl (Nat.le_of_ble_eq_true rfl) ⟨Nat.le_of_ble_eq_true rfl, Nat.le_of_ble_eq_true rfl⟩ hs38 ?_
      rintro v9 ⟨i40, l41, dd42, x43⟩ E9 - ⟨rfl, rfl, hp44⟩
      show ab_Fr MX11_comes (d + 1) Q 59 [some (.ref 3), some (.int a1), some (.int a2)] [] (0, 0) (i40, l41, dd42, x43) (ab_E0 sc)
      refine ab_aloadn dX11_comes_59 rfl ?_
      refine ab_getf (v := .ref 204) dX11_comes_60 fl_X11_87 kd_3 ff_3_10 ?_
      refine ab_iloadn dX11_comes_63 rfl ?_
      refine ab_iconst (v := 3) dX11_comes_64 (by decide) ?_
      refine ab_imul dX11_comes_65 ?_
      refine ab_iloadn dX11_comes_66 rfl ?_
      refine ab_iadd dX11_comes_67 ?_
      refine ab_laload (v := (l41 204 ((a1 * 3) + a2).toNatClampNeg)) dX11_comes_68 kd_204 (hk39 i40 l41 dd42 x43 hp44).1 rfl ?_
      exact ab_lret dX11_comes_69 rfl ⟨Nat.zero_le _, Nat.zero_le _⟩ (hk39 i40 l41 dd42 x43 hp44).2
    · refine ab_forget (i := 0) (L2 := [none, some (.int a1), some (.int a2)]) rfl ?_
      refine ab_forget (i := 1) (L2 := [none, none, some (.int a2)]) rfl ?_
      refine ab_forget (i := 2) (L2 := [none, none, none]) rfl ?_
      exact ((hk18 i19 l20 dd21 x22 hp23).2 c24)
theorem tMX11_comes_22 {d : Nat} {Q : ab_Qt} {sc : Nat × (Nat → Int32)} {i : Nat → Nat → Int32} {l : Nat → Nat → Int64} {dd : Nat → Nat → Value} {x : Nat}  
    (h : Q none (i, l, dd, x + 1) (ab_E0 sc)) :
    ab_Fr MX11_comes (d + 1) Q 22 [none, none, none] [] (0, 0) (i, l, dd, x) (ab_E0 sc) := by
  exact ab_throw ⟨rfl, dX11_comes_22, dX11_comes_25, dX11_comes_26, dX11_comes_29⟩ ⟨Nat.le_of_ble_eq_true rfl, Nat.le_of_ble_eq_true rfl⟩ h
theorem tMX11_knows_0 {d : Nat} {Q : ab_Qt} {sc : Nat × (Nat → Int32)} {i : Nat → Nat → Int32} {l : Nat → Nat → Int64} {dd : Nat → Nat → Value} {x : Nat} {a1 : Int32} 
    (h : (∃ m1, dd 3 11 = .ref m1 ∧ ab_isM m1 ∧ ∃ (r3 : Int32) (P4 : ab_S → Prop), ab_Sp MX1_isEmpty d [.ref m1] (i, l, dd, x) (ab_E0 sc) (some (.int r3)) P4 ∧ ∀ i7 l8 dd9 x10, P4 (i7, l8, dd9, x10) → ((¬ r3 = 0 → ab_Fr MX11_knows (d + 1) Q 19 [none, none] [] (0, 0) (i7, l8, dd9, x10) (ab_E0 sc)) ∧ (r3 = 0 → ((a1 < 0 → ab_Fr MX11_knows (d + 1) Q 19 [none, none] [] (0, 0) (i7, l8, dd9, x10) (ab_E0 sc)) ∧ (¬ a1 < 0 → ((a1 ≤ 1 → (∃ m15, dd9 3 11 = .ref m15 ∧ ab_isM m15 ∧ ∃ (P18 : ab_S → Prop), ab_Sp MX4_seeing d [.ref 160, .ref m15] (i7, l8, dd9, x10) (ab_E0 sc) (none) P18 ∧ ∀ i21 l22 dd23 x24, P18 (i21, l22, dd23, x24) → ∃ (P27 : ab_S → Prop), ab_Sp MX4_sumUpBest d [.ref 160, .ref 204] (i21, l22, dd23, x24) (ab_E0 sc) (none) P27 ∧ ∀ i30 l31 dd32 x33, P27 (i30, l31, dd32, x33) → ((¬ a1 = 0 → (∃ (r36 : Int64) (P37 : ab_S → Prop), ab_Sp MX11_rightOf d [.ref 204] (i30, l31, dd32, x33) (ab_E0 sc) (some (.long r36)) P37 ∧ ∀ i40 l41 dd42 x43, P37 (i40, l41, dd42, x43) → Q (some (some (.long r36))) (i40, l41, dd42, x43) (ab_E0 sc))) ∧ (a1 = 0 → (∃ m45, dd32 3 11 = .ref m45 ∧ ab_isM m45 ∧ ∃ (r47 : Int64) (P48 : ab_S → Prop), ab_Sp MX0_lostBy d [.ref (m45 + 2), .ref 204] (i30, l31, dd32, x33) (ab_E0 sc) (some (.long r47)) P48 ∧ ∀ i51 l52 dd53 x54, P48 (i51, l52, dd53, x54) → Q (some (some (.long r47))) (i51, l52, dd53, x54) (ab_E0 sc)))))) ∧ (¬ a1 ≤ 1 → ab_Fr MX11_knows (d + 1) Q 19 [none, none] [] (0, 0) (i7, l8, dd9, x10) (ab_E0 sc))))))))) :
    ab_Fr MX11_knows (d + 1) Q 0 [some (.ref 3), some (.int a1)] [] (0, 0) (i, l, dd, x) (ab_E0 sc) := by
  refine ab_aloadn dX11_knows_0 rfl ?_
  obtain ⟨m1, hm2d, hm2, hm2t⟩ := h
  refine ab_getf (v := .ref m1) dX11_knows_1 fl_X11_23 kd_3 hm2d ?_
  obtain ⟨r3, P4, hs5, hk6⟩ := hm2t
  refine ab_callV (vs := []) (st := []) dX11_knows_4 okMX1_isEmpty wd_683 (kM hm2) rfl rfl rfl (Nat.le_of_ble_eq_true rfl) ⟨Nat.le_of_ble_eq_true rfl, Nat.le_of_ble_eq_true rfl⟩ hs5 ?_
  rintro v9 ⟨i7, l8, dd9, x10⟩ E9 - ⟨rfl, rfl, hp11⟩
  show ab_Fr MX11_knows (d + 1) Q 7 [some (.ref 3), some (.int a1)] [.int r3] (0, 0) (i7, l8, dd9, x10) (ab_E0 sc)
  refine ab_if_ne (tgt := 19) dX11_knows_7 (by decide) (fun c12 => ?_) (fun c12 => ?_)
  · refine ab_forget (i := 0) (L2 := [none, some (.int a1)]) rfl ?_
    refine ab_forget (i := 1) (L2 := [none, none]) rfl ?_
    exact ((hk6 i7 l8 dd9 x10 hp11).1 c12)
  · refine ab_iloadn dX11_knows_10 rfl ?_
    refine ab_if_lt (tgt := 19) dX11_knows_11 (by decide) (fun c13 => ?_) (fun c13 => ?_)
    · refine ab_forget (i := 0) (L2 := [none, some (.int a1)]) rfl ?_
      refine ab_forget (i := 1) (L2 := [none, none]) rfl ?_
      exact (((hk6 i7 l8 dd9 x10 hp11).2 c12).1 c13)
    · refine ab_iloadn dX11_knows_14 rfl ?_
      refine ab_iconst (v := 1) dX11_knows_15 (by decide) ?_
      refine ab_icmp_le (tgt := 27) dX11_knows_16 (by decide) (fun c14 => ?_) (fun c14 => ?_)
      · refine ab_aloadn dX11_knows_27 rfl ?_
        refine ab_getf (v := .ref 160) dX11_knows_28 fl_X11_41 kd_3 ff_3_3 ?_
        refine ab_aloadn dX11_knows_31 rfl ?_
        obtain ⟨m15, hm16d, hm16, hm16t⟩ := ((((hk6 i7 l8 dd9 x10 hp11).2 c12).2 c13).1 c14)
        refine ab_getf (v := .ref m15) dX11_knows_32 fl_X11_23 kd_3 hm16d ?_
        obtain ⟨P18, hs19, hk20⟩ := hm16t
        refine ab_callV (vs := [.ref m15]) (st := []) dX11_knows_35 okMX4_seeing wd_1189 kd_160 rfl rfl rfl (Nat.le_of_ble_eq_true rfl) ⟨Nat.le_of_ble_eq_true rfl, Nat.le_of_ble_eq_true rfl⟩ hs19 ?_
        rintro v9 ⟨i21, l22, dd23, x24⟩ E9 - ⟨rfl, rfl, hp25⟩
        show ab_Fr MX11_knows (d + 1) Q 38 [some (.ref 3), some (.int a1)] [] (0, 0) (i21, l22, dd23, x24) (ab_E0 sc)
        refine ab_aloadn dX11_knows_38 rfl ?_
        refine ab_getf (v := .ref 160) dX11_knows_39 fl_X11_41 kd_3 ff_3_3 ?_
        refine ab_aloadn dX11_knows_42 rfl ?_
        refine ab_getf (v := .ref 204) dX11_knows_43 fl_X11_87 kd_3 ff_3_10 ?_
        obtain ⟨P27, hs28, hk29⟩ := (hk20 i21 l22 dd23 x24 hp25)
        refine ab_callV (vs := [.ref 204]) (st := []) dX11_knows_46 okMX4_sumUpBest wd_1193 kd_160 rfl rfl rfl (Nat.le_of_ble_eq_true rfl) ⟨Nat.le_of_ble_eq_true rfl, Nat.le_of_ble_eq_true rfl⟩ hs28 ?_
        rintro v9 ⟨i30, l31, dd32, x33⟩ E9 - ⟨rfl, rfl, hp34⟩
        show ab_Fr MX11_knows (d + 1) Q 49 [some (.ref 3), some (.int a1)] [] (0, 0) (i30, l31, dd32, x33) (ab_E0 sc)
        refine ab_iloadn dX11_knows_49 rfl ?_
        refine ab_if_ne (tgt := 70) dX11_knows_50 (by decide) (fun c35 => ?_) (fun c35 => ?_)
        · refine ab_aloadn dX11_knows_70 rfl ?_
          refine ab_getf (v := .ref 204) dX11_knows_71 fl_X11_87 kd_3 ff_3_10 ?_
          obtain ⟨r36, P37, hs38, hk39⟩ := ((hk29 i30 l31 dd32 x33 hp34).1 c35)
          refine ab_callS (vs := [.ref 204]) (st := []) dX11_knows_74 okMX11_rightOf wd_766 rfl rfl (Nat.le_of_ble_eq_true rfl) ⟨Nat.le_of_ble_eq_true rfl, Nat.le_of_ble_eq_true rfl⟩ hs38 ?_
          rintro v9 ⟨i40, l41, dd42, x43⟩ E9 - ⟨rfl, rfl, hp44⟩
          show ab_Fr MX11_knows (d + 1) Q 77 [some (.ref 3), some (.int a1)] [.long r36] (0, 0) (i40, l41, dd42, x43) (ab_E0 sc)
          exact ab_lret dX11_knows_77 rfl ⟨Nat.zero_le _, Nat.zero_le _⟩ (hk39 i40 l41 dd42 x43 hp44)
        · refine ab_aloadn dX11_knows_53 rfl ?_
          obtain ⟨m45, hm46d, hm46, hm46t⟩ := ((hk29 i30 l31 dd32 x33 hp34).2 c35)
          refine ab_getf (v := .ref m45) dX11_knows_54 fl_X11_23 kd_3 hm46d ?_
          refine ab_getf (v := .ref (m45 + 2)) dX11_knows_57 fl_X11_199 (kM hm46) (fM_7 hm46) ?_
          refine ab_aloadn dX11_knows_60 rfl ?_
          refine ab_getf (v := .ref 204) dX11_knows_61 fl_X11_87 kd_3 ff_3_10 ?_
          obtain ⟨r47, P48, hs49, hk50⟩ := hm46t
          refine ab_callV (vs := [.ref 204]) (st := []) dX11_knows_64 okMX0_lostBy wd_780 (kLo (isM_2 hm46)) rfl rfl rfl (Nat.le_of_ble_eq_true rfl) ⟨Nat.le_of_ble_eq_true rfl, Nat.le_of_ble_eq_true rfl⟩ hs49 ?_
          rintro v9 ⟨i51, l52, dd53, x54⟩ E9 - ⟨rfl, rfl, hp55⟩
          show ab_Fr MX11_knows (d + 1) Q 67 [some (.ref 3), some (.int a1)] [.long r47] (0, 0) (i51, l52, dd53, x54) (ab_E0 sc)
          refine ab_goto (tgt := 77) dX11_knows_67 (by decide) ?_
          exact ab_lret dX11_knows_77 rfl ⟨Nat.zero_le _, Nat.zero_le _⟩ (hk50 i51 l52 dd53 x54 hp55)
      · refine ab_forget (i := 0) (L2 := [none, some (.int a1)]) rfl ?_
        refine ab_forget (i := 1) (L2 := [none, none]) rfl ?_
        exact ((((hk6 i7 l8 dd9 x10 hp11).2 c12).2 c13).2 c14)
theorem tMX11_knows_19 {d : Nat} {Q : ab_Qt} {sc : Nat × (Nat → Int32)} {i : Nat → Nat → Int32} {l : Nat → Nat → Int64} {dd : Nat → Nat → Value} {x : Nat}  
    (h : Q none (i, l, dd, x + 1) (ab_E0 sc)) :
    ab_Fr MX11_knows (d + 1) Q 19 [none, none] [] (0, 0) (i, l, dd, x) (ab_E0 sc) := by
  exact ab_throw ⟨rfl, dX11_knows_19, dX11_knows_22, dX11_knows_23, dX11_knows_26⟩ ⟨Nat.le_of_ble_eq_true rfl, Nat.le_of_ble_eq_true rfl⟩ h
theorem tMX11_turns_0 {d : Nat} {Q : ab_Qt} {sc : Nat × (Nat → Int32)} {i : Nat → Nat → Int32} {l : Nat → Nat → Int64} {dd : Nat → Nat → Value} {x : Nat} {a1 : Int32} {a2 : Int32} 
    (h : (∃ m1, dd 3 11 = .ref m1 ∧ ab_isM m1 ∧ ∃ (r3 : Int32) (P4 : ab_S → Prop), ab_Sp MX1_hasSign d [.ref m1, .int a1, .int a2] (i, l, dd, x) (ab_E0 sc) (some (.int r3)) P4 ∧ ∀ i7 l8 dd9 x10, P4 (i7, l8, dd9, x10) → ((¬ r3 = 0 → (∃ m13, dd9 3 11 = .ref m13 ∧ ab_isM m13 ∧ ∃ (P16 : ab_S → Prop), ab_Sp MX3_countTurns d [.ref 169, .ref m13, .int a1, .int a2] (i7, l8, dd9, x10) (ab_E0 sc) (none) P16 ∧ ∀ i19 l20 dd21 x22, P16 (i19, l20, dd21, x22) → Q (some (some (.long (((l20 171 0) + (l20 171 1)) + (l20 171 2))))) (i19, l20, dd21, x22) (ab_E0 sc))) ∧ (r3 = 0 → Q none (i7, l8, dd9, x10 + 1) (ab_E0 sc))))) :
    ab_Fr MX11_turns (d + 1) Q 0 [some (.ref 3), some (.int a1), some (.int a2)] [] (0, 0) (i, l, dd, x) (ab_E0 sc) := by
  refine ab_aloadn dX11_turns_0 rfl ?_
  obtain ⟨m1, hm2d, hm2, hm2t⟩ := h
  refine ab_getf (v := .ref m1) dX11_turns_1 fl_X11_23 kd_3 hm2d ?_
  refine ab_iloadn dX11_turns_4 rfl ?_
  refine ab_iloadn dX11_turns_5 rfl ?_
  obtain ⟨r3, P4, hs5, hk6⟩ := hm2t
  refine ab_callV (vs := [.int a1, .int a2]) (st := []) dX11_turns_6 okMX1_hasSign wd_691 (kM hm2) rfl rfl rfl (Nat.le_of_ble_eq_true rfl) ⟨Nat.le_of_ble_eq_true rfl, Nat.le_of_ble_eq_true rfl⟩ hs5 ?_
  rintro v9 ⟨i7, l8, dd9, x10⟩ E9 - ⟨rfl, rfl, hp11⟩
  show ab_Fr MX11_turns (d + 1) Q 9 [some (.ref 3), some (.int a1), some (.int a2)] [.int r3] (0, 0) (i7, l8, dd9, x10) (ab_E0 sc)
  refine ab_if_ne (tgt := 20) dX11_turns_9 (by decide) (fun c12 => ?_) (fun c12 => ?_)
  · refine ab_aloadn dX11_turns_20 rfl ?_
    refine ab_getf (v := .ref 169) dX11_turns_21 fl_X11_50 kd_3 ff_3_4 ?_
    refine ab_aloadn dX11_turns_24 rfl ?_
    obtain ⟨m13, hm14d, hm14, hm14t⟩ := ((hk6 i7 l8 dd9 x10 hp11).1 c12)
    refine ab_getf (v := .ref m13) dX11_turns_25 fl_X11_23 kd_3 hm14d ?_
    refine ab_iloadn dX11_turns_28 rfl ?_
    refine ab_iloadn dX11_turns_29 rfl ?_
    obtain ⟨P16, hs17, hk18⟩ := hm14t
    refine ab_callV (vs := [.ref m13, .int a1, .int a2]) (st := []) dX11_turns_30 okMX3_countTurns wd_1204 kd_169 rfl rfl rfl (Nat.le_of_ble_eq_true rfl) ⟨Nat.le_of_ble_eq_true rfl, Nat.le_of_ble_eq_true rfl⟩ hs17 ?_
    rintro v9 ⟨i19, l20, dd21, x22⟩ E9 - ⟨rfl, rfl, hp23⟩
    show ab_Fr MX11_turns (d + 1) Q 33 [some (.ref 3), some (.int a1), some (.int a2)] [] (0, 0) (i19, l20, dd21, x22) (ab_E0 sc)
    refine ab_aloadn dX11_turns_33 rfl ?_
    refine ab_getf (v := .ref 169) dX11_turns_34 fl_X11_50 kd_3 ff_3_4 ?_
    refine ab_getf (v := .ref 171) dX11_turns_37 fl_X11_212 kd_169 ff_169_3 ?_
    refine ab_iconst (v := 0) dX11_turns_40 (by decide) ?_
    refine ab_laload (v := (l20 171 0)) dX11_turns_41 kd_171 (ab_vp (by decide)) rfl ?_
    refine ab_aloadn dX11_turns_42 rfl ?_
    refine ab_getf (v := .ref 169) dX11_turns_43 fl_X11_50 kd_3 ff_3_4 ?_
    refine ab_getf (v := .ref 171) dX11_turns_46 fl_X11_212 kd_169 ff_169_3 ?_
    refine ab_iconst (v := 1) dX11_turns_49 (by decide) ?_
    refine ab_laload (v := (l20 171 1)) dX11_turns_50 kd_171 (ab_vp (by decide)) rfl ?_
    refine ab_ladd dX11_turns_51 ?_
    refine ab_aloadn dX11_turns_52 rfl ?_
    refine ab_getf (v := .ref 169) dX11_turns_53 fl_X11_50 kd_3 ff_3_4 ?_
    refine ab_getf (v := .ref 171) dX11_turns_56 fl_X11_212 kd_169 ff_169_3 ?_
    refine ab_iconst (v := 2) dX11_turns_59 (by decide) ?_
    refine ab_laload (v := (l20 171 2)) dX11_turns_60 kd_171 (ab_vp (by decide)) rfl ?_
    refine ab_ladd dX11_turns_61 ?_
    exact ab_lret dX11_turns_62 rfl ⟨Nat.zero_le _, Nat.zero_le _⟩ (hk18 i19 l20 dd21 x22 hp23)
  · exact ab_throw ⟨rfl, dX11_turns_12, dX11_turns_15, dX11_turns_16, dX11_turns_19⟩ ⟨Nat.le_of_ble_eq_true rfl, Nat.le_of_ble_eq_true rfl⟩ ((hk6 i7 l8 dd9 x10 hp11).2 c12)
theorem tMX11_think_0 {d : Nat} {Q : ab_Qt} {sc : Nat × (Nat → Int32)} {i : Nat → Nat → Int32} {l : Nat → Nat → Int64} {dd : Nat → Nat → Value} {x : Nat} {a1 : Int32} {a2 : Int32} {a3 : Int32} 
    (h : (∃ m1, dd 3 11 = .ref m1 ∧ ab_isM m1 ∧ ∃ (r3 : Int32) (P4 : ab_S → Prop), ab_Sp MX1_hasSign d [.ref m1, .int a1, .int a2] (i, l, dd, x) (ab_E0 sc) (some (.int r3)) P4 ∧ ∀ i7 l8 dd9 x10, P4 (i7, l8, dd9, x10) → ((r3 = 0 → ab_Fr MX11_think (d + 1) Q 23 [none, none, none, none] [] (0, 0) (i7, l8, dd9, x10) (ab_E0 sc)) ∧ (¬ r3 = 0 → (∃ m13, dd9 3 11 = .ref m13 ∧ ab_isM m13 ∧ ∃ (r15 : Int32) (P16 : ab_S → Prop), ab_Sp MX1_hasTruth d [.ref m13, .int a3] (i7, l8, dd9, x10) (ab_E0 sc) (some (.int r15)) P16 ∧ ∀ i19 l20 dd21 x22, P16 (i19, l20, dd21, x22) → ((¬ r15 = 0 → (∃ m25, dd21 3 11 = .ref m25 ∧ ab_isM m25 ∧ ∃ (P28 : ab_S → Prop), ab_Sp MX3_countTurns d [.ref 169, .ref m25, .int a1, .int a2] (i19, l20, dd21, x22) (ab_E0 sc) (none) P28 ∧ ∀ i31 l32 dd33 x34, P28 (i31, l32, dd33, x34) → vp_in a3 3 ∧ Q (some (some (.long (l32 171 a3.toNatClampNeg)))) (i31, l32, dd33, x34) (ab_E0 sc))) ∧ (r15 = 0 → ab_Fr MX11_think (d + 1) Q 23 [none, none, none, none] [] (0, 0) (i19, l20, dd21, x22) (ab_E0 sc)))))))) :
    ab_Fr MX11_think (d + 1) Q 0 [some (.ref 3), some (.int a1), some (.int a2), some (.int a3)] [] (0, 0) (i, l, dd, x) (ab_E0 sc) := by
  refine ab_aloadn dX11_think_0 rfl ?_
  obtain ⟨m1, hm2d, hm2, hm2t⟩ := h
  refine ab_getf (v := .ref m1) dX11_think_1 fl_X11_23 kd_3 hm2d ?_
  refine ab_iloadn dX11_think_4 rfl ?_
  refine ab_iloadn dX11_think_5 rfl ?_
  obtain ⟨r3, P4, hs5, hk6⟩ := hm2t
  refine ab_callV (vs := [.int a1, .int a2]) (st := []) dX11_think_6 okMX1_hasSign wd_691 (kM hm2) rfl rfl rfl (Nat.le_of_ble_eq_true rfl) ⟨Nat.le_of_ble_eq_true rfl, Nat.le_of_ble_eq_true rfl⟩ hs5 ?_
  rintro v9 ⟨i7, l8, dd9, x10⟩ E9 - ⟨rfl, rfl, hp11⟩
  show ab_Fr MX11_think (d + 1) Q 9 [some (.ref 3), some (.int a1), some (.int a2), some (.int a3)] [.int r3] (0, 0) (i7, l8, dd9, x10) (ab_E0 sc)
  refine ab_if_eq (tgt := 23) dX11_think_9 (by decide) (fun c12 => ?_) (fun c12 => ?_)
  · refine ab_forget (i := 0) (L2 := [none, some (.int a1), some (.int a2), some (.int a3)]) rfl ?_
    refine ab_forget (i := 1) (L2 := [none, none, some (.int a2), some (.int a3)]) rfl ?_
    refine ab_forget (i := 2) (L2 := [none, none, none, some (.int a3)]) rfl ?_
    refine ab_forget (i := 3) (L2 := [none, none, none, none]) rfl ?_
    exact ((hk6 i7 l8 dd9 x10 hp11).1 c12)
  · refine ab_aloadn dX11_think_12 rfl ?_
    obtain ⟨m13, hm14d, hm14, hm14t⟩ := ((hk6 i7 l8 dd9 x10 hp11).2 c12)
    refine ab_getf (v := .ref m13) dX11_think_13 fl_X11_23 kd_3 hm14d ?_
    refine ab_iloadn dX11_think_16 rfl ?_
    obtain ⟨r15, P16, hs17, hk18⟩ := hm14t
    refine ab_callV (vs := [.int a3]) (st := []) dX11_think_17 okMX1_hasTruth wd_972 (kM hm14) rfl rfl rfl (Nat.le_of_ble_eq_true rfl) ⟨Nat.le_of_ble_eq_true rfl, Nat.le_of_ble_eq_true rfl⟩ hs17 ?_
    rintro v9 ⟨i19, l20, dd21, x22⟩ E9 - ⟨rfl, rfl, hp23⟩
    show ab_Fr MX11_think (d + 1) Q 20 [some (.ref 3), some (.int a1), some (.int a2), some (.int a3)] [.int r15] (0, 0) (i19, l20, dd21, x22) (ab_E0 sc)
    refine ab_if_ne (tgt := 31) dX11_think_20 (by decide) (fun c24 => ?_) (fun c24 => ?_)
    · refine ab_aloadn dX11_think_31 rfl ?_
      refine ab_getf (v := .ref 169) dX11_think_32 fl_X11_50 kd_3 ff_3_4 ?_
      refine ab_aloadn dX11_think_35 rfl ?_
      obtain ⟨m25, hm26d, hm26, hm26t⟩ := ((hk18 i19 l20 dd21 x22 hp23).1 c24)
      refine ab_getf (v := .ref m25) dX11_think_36 fl_X11_23 kd_3 hm26d ?_
      refine ab_iloadn dX11_think_39 rfl ?_
      refine ab_iloadn dX11_think_40 rfl ?_
      obtain ⟨P28, hs29, hk30⟩ := hm26t
      refine ab_callV (vs := [.ref m25, .int a1, .int a2]) (st := []) dX11_think_41 okMX3_countTurns wd_1204 kd_169 rfl rfl rfl (Nat.le_of_ble_eq_true rfl) ⟨Nat.le_of_ble_eq_true rfl, Nat.le_of_ble_eq_true rfl⟩ hs29 ?_
      rintro v9 ⟨i31, l32, dd33, x34⟩ E9 - ⟨rfl, rfl, hp35⟩
      show ab_Fr MX11_think (d + 1) Q 44 [some (.ref 3), some (.int a1), some (.int a2), some (.int a3)] [] (0, 0) (i31, l32, dd33, x34) (ab_E0 sc)
      refine ab_aloadn dX11_think_44 rfl ?_
      refine ab_getf (v := .ref 169) dX11_think_45 fl_X11_50 kd_3 ff_3_4 ?_
      refine ab_getf (v := .ref 171) dX11_think_48 fl_X11_212 kd_169 ff_169_3 ?_
      refine ab_iloadn dX11_think_51 rfl ?_
      refine ab_laload (v := (l32 171 a3.toNatClampNeg)) dX11_think_52 kd_171 (hk30 i31 l32 dd33 x34 hp35).1 rfl ?_
      exact ab_lret dX11_think_53 rfl ⟨Nat.zero_le _, Nat.zero_le _⟩ (hk30 i31 l32 dd33 x34 hp35).2
    · refine ab_forget (i := 0) (L2 := [none, some (.int a1), some (.int a2), some (.int a3)]) rfl ?_
      refine ab_forget (i := 1) (L2 := [none, none, some (.int a2), some (.int a3)]) rfl ?_
      refine ab_forget (i := 2) (L2 := [none, none, none, some (.int a3)]) rfl ?_
      refine ab_forget (i := 3) (L2 := [none, none, none, none]) rfl ?_
      exact ((hk18 i19 l20 dd21 x22 hp23).2 c24)
theorem tMX11_think_23 {d : Nat} {Q : ab_Qt} {sc : Nat × (Nat → Int32)} {i : Nat → Nat → Int32} {l : Nat → Nat → Int64} {dd : Nat → Nat → Value} {x : Nat}  
    (h : Q none (i, l, dd, x + 1) (ab_E0 sc)) :
    ab_Fr MX11_think (d + 1) Q 23 [none, none, none, none] [] (0, 0) (i, l, dd, x) (ab_E0 sc) := by
  exact ab_throw ⟨rfl, dX11_think_23, dX11_think_26, dX11_think_27, dX11_think_30⟩ ⟨Nat.le_of_ble_eq_true rfl, Nat.le_of_ble_eq_true rfl⟩ h
theorem tMX11_bestRule_0 {d : Nat} {Q : ab_Qt} {sc : Nat × (Nat → Int32)} {i : Nat → Nat → Int32} {l : Nat → Nat → Int64} {dd : Nat → Nat → Value} {x : Nat}  
    (h : (∃ m1, dd 3 11 = .ref m1 ∧ ab_isM m1 ∧ ∃ (r3 : Int32) (P4 : ab_S → Prop), ab_Sp MX1_isEmpty d [.ref m1] (i, l, dd, x) (ab_E0 sc) (some (.int r3)) P4 ∧ ∀ i7 l8 dd9 x10, P4 (i7, l8, dd9, x10) → ((r3 = 0 → (∃ m13, dd9 3 11 = .ref m13 ∧ ab_isM m13 ∧ ∃ (P16 : ab_S → Prop), ab_Sp MX4_voting d [.ref 160, .ref m13, .ref (m13 + 47)] (i7, l8, dd9, x10) (ab_E0 sc) (none) P16 ∧ ∀ i19 l20 dd21 x22, P16 (i19, l20, dd21, x22) → ∃ (P25 : ab_S → Prop), ab_Sp MX4_sumUpBest d [.ref 160, .ref 204] (i19, l20, dd21, x22) (ab_E0 sc) (none) P25 ∧ ∀ i28 l29 dd30 x31, P25 (i28, l29, dd30, x31) → ∃ m33, dd30 3 11 = .ref m33 ∧ ab_isM m33 ∧ ∃ (r35 : Int64) (P36 : ab_S → Prop), ab_Sp MX0_lostBy d [.ref (m33 + 2), .ref 204] (i28, l29, dd30, x31) (ab_E0 sc) (some (.long r35)) P36 ∧ ∀ i39 l40 dd41 x42, P36 (i39, l40, dd41, x42) → Q (some (some (.long r35))) (i39, l40, dd41, x42) (ab_E0 sc))) ∧ (¬ r3 = 0 → Q none (i7, l8, dd9, x10 + 1) (ab_E0 sc))))) :
    ab_Fr MX11_bestRule (d + 1) Q 0 [some (.ref 3)] [] (0, 0) (i, l, dd, x) (ab_E0 sc) := by
  refine ab_aloadn dX11_bestRule_0 rfl ?_
  obtain ⟨m1, hm2d, hm2, hm2t⟩ := h
  refine ab_getf (v := .ref m1) dX11_bestRule_1 fl_X11_23 kd_3 hm2d ?_
  obtain ⟨r3, P4, hs5, hk6⟩ := hm2t
  refine ab_callV (vs := []) (st := []) dX11_bestRule_4 okMX1_isEmpty wd_683 (kM hm2) rfl rfl rfl (Nat.le_of_ble_eq_true rfl) ⟨Nat.le_of_ble_eq_true rfl, Nat.le_of_ble_eq_true rfl⟩ hs5 ?_
  rintro v9 ⟨i7, l8, dd9, x10⟩ E9 - ⟨rfl, rfl, hp11⟩
  show ab_Fr MX11_bestRule (d + 1) Q 7 [some (.ref 3)] [.int r3] (0, 0) (i7, l8, dd9, x10) (ab_E0 sc)
  refine ab_if_eq (tgt := 18) dX11_bestRule_7 (by decide) (fun c12 => ?_) (fun c12 => ?_)
  · refine ab_aloadn dX11_bestRule_18 rfl ?_
    refine ab_getf (v := .ref 160) dX11_bestRule_19 fl_X11_41 kd_3 ff_3_3 ?_
    refine ab_aloadn dX11_bestRule_22 rfl ?_
    obtain ⟨m13, hm14d, hm14, hm14t⟩ := ((hk6 i7 l8 dd9 x10 hp11).1 c12)
    refine ab_getf (v := .ref m13) dX11_bestRule_23 fl_X11_23 kd_3 hm14d ?_
    refine ab_aloadn dX11_bestRule_26 rfl ?_
    refine ab_getf (v := .ref m13) dX11_bestRule_27 fl_X11_23 kd_3 hm14d ?_
    refine ab_getf (v := .ref (m13 + 47)) dX11_bestRule_30 fl_X11_168 (kM hm14) (fM_9 hm14) ?_
    obtain ⟨P16, hs17, hk18⟩ := hm14t
    refine ab_callV (vs := [.ref m13, .ref (m13 + 47)]) (st := []) dX11_bestRule_33 okMX4_voting wd_725 kd_160 rfl rfl rfl (Nat.le_of_ble_eq_true rfl) ⟨Nat.le_of_ble_eq_true rfl, Nat.le_of_ble_eq_true rfl⟩ hs17 ?_
    rintro v9 ⟨i19, l20, dd21, x22⟩ E9 - ⟨rfl, rfl, hp23⟩
    show ab_Fr MX11_bestRule (d + 1) Q 36 [some (.ref 3)] [] (0, 0) (i19, l20, dd21, x22) (ab_E0 sc)
    refine ab_aloadn dX11_bestRule_36 rfl ?_
    refine ab_getf (v := .ref 160) dX11_bestRule_37 fl_X11_41 kd_3 ff_3_3 ?_
    refine ab_aloadn dX11_bestRule_40 rfl ?_
    refine ab_getf (v := .ref 204) dX11_bestRule_41 fl_X11_87 kd_3 ff_3_10 ?_
    obtain ⟨P25, hs26, hk27⟩ := (hk18 i19 l20 dd21 x22 hp23)
    refine ab_callV (vs := [.ref 204]) (st := []) dX11_bestRule_44 okMX4_sumUpBest wd_1193 kd_160 rfl rfl rfl (Nat.le_of_ble_eq_true rfl) ⟨Nat.le_of_ble_eq_true rfl, Nat.le_of_ble_eq_true rfl⟩ hs26 ?_
    rintro v9 ⟨i28, l29, dd30, x31⟩ E9 - ⟨rfl, rfl, hp32⟩
    show ab_Fr MX11_bestRule (d + 1) Q 47 [some (.ref 3)] [] (0, 0) (i28, l29, dd30, x31) (ab_E0 sc)
    refine ab_aloadn dX11_bestRule_47 rfl ?_
    obtain ⟨m33, hm34d, hm34, hm34t⟩ := (hk27 i28 l29 dd30 x31 hp32)
    refine ab_getf (v := .ref m33) dX11_bestRule_48 fl_X11_23 kd_3 hm34d ?_
    refine ab_getf (v := .ref (m33 + 2)) dX11_bestRule_51 fl_X11_199 (kM hm34) (fM_7 hm34) ?_
    refine ab_aloadn dX11_bestRule_54 rfl ?_
    refine ab_getf (v := .ref 204) dX11_bestRule_55 fl_X11_87 kd_3 ff_3_10 ?_
    obtain ⟨r35, P36, hs37, hk38⟩ := hm34t
    refine ab_callV (vs := [.ref 204]) (st := []) dX11_bestRule_58 okMX0_lostBy wd_780 (kLo (isM_2 hm34)) rfl rfl rfl (Nat.le_of_ble_eq_true rfl) ⟨Nat.le_of_ble_eq_true rfl, Nat.le_of_ble_eq_true rfl⟩ hs37 ?_
    rintro v9 ⟨i39, l40, dd41, x42⟩ E9 - ⟨rfl, rfl, hp43⟩
    show ab_Fr MX11_bestRule (d + 1) Q 61 [some (.ref 3)] [.long r35] (0, 0) (i39, l40, dd41, x42) (ab_E0 sc)
    exact ab_lret dX11_bestRule_61 rfl ⟨Nat.zero_le _, Nat.zero_le _⟩ (hk38 i39 l40 dd41 x42 hp43)
  · exact ab_throw ⟨rfl, dX11_bestRule_10, dX11_bestRule_13, dX11_bestRule_14, dX11_bestRule_17⟩ ⟨Nat.le_of_ble_eq_true rfl, Nat.le_of_ble_eq_true rfl⟩ ((hk6 i7 l8 dd9 x10 hp11).2 c12)
theorem tMX11_minutes_0 {d : Nat} {Q : ab_Qt} {sc : Nat × (Nat → Int32)} {i : Nat → Nat → Int32} {l : Nat → Nat → Int64} {dd : Nat → Nat → Value} {x : Nat} {a1 : Int32} {a2 : Int32} 
    (h : (∃ m1, dd 3 11 = .ref m1 ∧ ab_isM m1 ∧ ∃ (r3 : Int32) (P4 : ab_S → Prop), ab_Sp MX1_hasSign d [.ref m1, .int a1, .int a2] (i, l, dd, x) (ab_E0 sc) (some (.int r3)) P4 ∧ ∀ i7 l8 dd9 x10, P4 (i7, l8, dd9, x10) → ((r3 = 0 → ab_Fr MX11_minutes (d + 1) Q 26 [none, none, none, none, none] [] (0, 0) (i7, l8, dd9, x10) (ab_E0 sc)) ∧ (¬ r3 = 0 → (∃ m13, dd9 3 11 = .ref m13 ∧ ab_isM m13 ∧ ∃ (r15 : Int32) (P16 : ab_S → Prop), ab_Sp MX1_hasVotes d [.ref m13, .ref 4] (i7, l8, dd9, x10) (ab_E0 sc) (some (.int r15)) P16 ∧ ∀ i19 l20 dd21 x22, P16 (i19, l20, dd21, x22) → ((¬ r15 = 0 → (∃ m25, dd21 3 11 = .ref m25 ∧ ab_isM m25 ∧ vp_in ((a1 * 3) + a2) 21 ∧ vp_in a1 740 ∧ ((¬ (i19 (m25 + 47) ((a1 * 3) + a2).toNatClampNeg) = (i19 5 a1.toNatClampNeg) → ab_Fr MX11_minutes (d + 1) Q 109 [some (.ref 3), none, none, some (.long 0), none] [] (0, 0) (i19, l20, dd21, x22) (ab_E0 sc)) ∧ ((i19 (m25 + 47) ((a1 * 3) + a2).toNatClampNeg) = (i19 5 a1.toNatClampNeg) → (∃ (P29 : ab_S → Prop), ab_Sp MX4_votingAs d [.ref 160, .ref m25, .ref 5] (i19, l20, dd21, x22) (ab_E0 sc) (none) P29 ∧ ∀ i32 l33 dd34 x35, P29 (i32, l33, dd34, x35) → ∃ (P38 : ab_S → Prop), ab_Sp MX4_pin d [.ref 160, .int a1, .int a2, .int 9] (i32, l33, dd34, x35) (ab_E0 sc) (none) P38 ∧ ∀ i41 l42 dd43 x44, P38 (i41, l42, dd43, x44) → ∃ (P47 : ab_S → Prop), ab_Sp MX4_sumUp d [.ref 160, .ref 204] (i41, l42, dd43, x44) (ab_E0 sc) (none) P47 ∧ ∀ i50 l51 dd52 x53, P47 (i50, l51, dd52, x53) → ∃ (r55 : Int64) (P56 : ab_S → Prop), ab_Sp MX11_sumOf d [.ref 204] (i50, l51, dd52, x53) (ab_E0 sc) (some (.long r55)) P56 ∧ ∀ i59 l60 dd61 x62, P56 (i59, l60, dd61, x62) → ab_Fr MX11_minutes (d + 1) Q 109 [some (.ref 3), none, none, some (.long r55), none] [] (0, 0) (i59, l60, dd61, x62) (ab_E0 sc)))))) ∧ (r15 = 0 → ab_Fr MX11_minutes (d + 1) Q 26 [none, none, none, none, none] [] (0, 0) (i19, l20, dd21, x22) (ab_E0 sc)))))))) :
    ab_Fr MX11_minutes (d + 1) Q 0 [some (.ref 3), some (.int a1), some (.int a2), none, none] [] (0, 0) (i, l, dd, x) (ab_E0 sc) := by
  refine ab_aloadn dX11_minutes_0 rfl ?_
  obtain ⟨m1, hm2d, hm2, hm2t⟩ := h
  refine ab_getf (v := .ref m1) dX11_minutes_1 fl_X11_23 kd_3 hm2d ?_
  refine ab_iloadn dX11_minutes_4 rfl ?_
  refine ab_iloadn dX11_minutes_5 rfl ?_
  obtain ⟨r3, P4, hs5, hk6⟩ := hm2t
  refine ab_callV (vs := [.int a1, .int a2]) (st := []) dX11_minutes_6 okMX1_hasSign wd_691 (kM hm2) rfl rfl rfl (Nat.le_of_ble_eq_true rfl) ⟨Nat.le_of_ble_eq_true rfl, Nat.le_of_ble_eq_true rfl⟩ hs5 ?_
  rintro v9 ⟨i7, l8, dd9, x10⟩ E9 - ⟨rfl, rfl, hp11⟩
  show ab_Fr MX11_minutes (d + 1) Q 9 [some (.ref 3), some (.int a1), some (.int a2), none, none] [.int r3] (0, 0) (i7, l8, dd9, x10) (ab_E0 sc)
  refine ab_if_eq (tgt := 26) dX11_minutes_9 (by decide) (fun c12 => ?_) (fun c12 => ?_)
  · refine ab_forget (i := 0) (L2 := [none, some (.int a1), some (.int a2), none, none]) rfl ?_
    refine ab_forget (i := 1) (L2 := [none, none, some (.int a2), none, none]) rfl ?_
    refine ab_forget (i := 2) (L2 := [none, none, none, none, none]) rfl ?_
    exact ((hk6 i7 l8 dd9 x10 hp11).1 c12)
  · refine ab_aloadn dX11_minutes_12 rfl ?_
    obtain ⟨m13, hm14d, hm14, hm14t⟩ := ((hk6 i7 l8 dd9 x10 hp11).2 c12)
    refine ab_getf (v := .ref m13) dX11_minutes_13 fl_X11_23 kd_3 hm14d ?_
    refine ab_aloadn dX11_minutes_16 rfl ?_
    refine ab_getf (v := .ref 4) dX11_minutes_17 fl_X11_10 kd_3 ff_3_0 ?_
    obtain ⟨r15, P16, hs17, hk18⟩ := hm14t
    refine ab_callV (vs := [.ref 4]) (st := []) dX11_minutes_20 okMX1_hasVotes wd_1103 (kM hm14) rfl rfl rfl (Nat.le_of_ble_eq_true rfl) ⟨Nat.le_of_ble_eq_true rfl, Nat.le_of_ble_eq_true rfl⟩ hs17 ?_
    rintro v9 ⟨i19, l20, dd21, x22⟩ E9 - ⟨rfl, rfl, hp23⟩
    show ab_Fr MX11_minutes (d + 1) Q 23 [some (.ref 3), some (.int a1), some (.int a2), none, none] [.int r15] (0, 0) (i19, l20, dd21, x22) (ab_E0 sc)
    refine ab_if_ne (tgt := 34) dX11_minutes_23 (by decide) (fun c24 => ?_) (fun c24 => ?_)
    · refine ab_lconst (v := 0) dX11_minutes_34 (by decide) ?_
      refine ab_lstoren dX11_minutes_35 (Nat.le_of_ble_eq_true rfl) (L2 := [some (.ref 3), some (.int a1), some (.int a2), some (.long 0), none]) rfl ?_
      refine ab_aloadn dX11_minutes_36 rfl ?_
      obtain ⟨m25, hm26d, hm26, hm26t⟩ := ((hk18 i19 l20 dd21 x22 hp23).1 c24)
      refine ab_getf (v := .ref m25) dX11_minutes_37 fl_X11_23 kd_3 hm26d ?_
      refine ab_getf (v := .ref (m25 + 47)) dX11_minutes_40 fl_X11_168 (kM hm26) (fM_9 hm26) ?_
      refine ab_iloadn dX11_minutes_43 rfl ?_
      refine ab_iconst (v := 3) dX11_minutes_44 (by decide) ?_
      refine ab_imul dX11_minutes_45 ?_
      refine ab_iloadn dX11_minutes_46 rfl ?_
      refine ab_iadd dX11_minutes_47 ?_
      refine ab_iaload (v := (i19 (m25 + 47) ((a1 * 3) + a2).toNatClampNeg)) dX11_minutes_48 (kM_47 hm26) hm26t.1 rfl ?_
      refine ab_aloadn dX11_minutes_49 rfl ?_
      refine ab_getf (v := .ref 4) dX11_minutes_50 fl_X11_10 kd_3 ff_3_0 ?_
      refine ab_getf (v := .ref 5) dX11_minutes_53 fl_X11_148 kd_4 ff_4_0 ?_
      refine ab_iloadn dX11_minutes_56 rfl ?_
      refine ab_iaload (v := (i19 5 a1.toNatClampNeg)) dX11_minutes_57 kd_5 hm26t.2.1 rfl ?_
      refine ab_icmp_ne (tgt := 109) dX11_minutes_58 (by decide) (fun c27 => ?_) (fun c27 => ?_)
      · refine ab_forget (i := 1) (L2 := [some (.ref 3), none, some (.int a2), some (.long 0), none]) rfl ?_
        refine ab_forget (i := 2) (L2 := [some (.ref 3), none, none, some (.long 0), none]) rfl ?_
        exact (hm26t.2.2.1 c27)
      · refine ab_aloadn dX11_minutes_61 rfl ?_
        refine ab_getf (v := .ref 160) dX11_minutes_62 fl_X11_41 kd_3 ff_3_3 ?_
        refine ab_aloadn dX11_minutes_65 rfl ?_
        refine ab_getf (v := .ref m25) dX11_minutes_66 fl_X11_23 kd_3 hm26d ?_
        refine ab_aloadn dX11_minutes_69 rfl ?_
        refine ab_getf (v := .ref 4) dX11_minutes_70 fl_X11_10 kd_3 ff_3_0 ?_
        refine ab_getf (v := .ref 5) dX11_minutes_73 fl_X11_148 kd_4 ff_4_0 ?_
        obtain ⟨P29, hs30, hk31⟩ := (hm26t.2.2.2 c27)
        refine ab_callV (vs := [.ref m25, .ref 5]) (st := []) dX11_minutes_76 okMX4_votingAs wd_1108 kd_160 rfl rfl rfl (Nat.le_of_ble_eq_true rfl) ⟨Nat.le_of_ble_eq_true rfl, Nat.le_of_ble_eq_true rfl⟩ hs30 ?_
        rintro v9 ⟨i32, l33, dd34, x35⟩ E9 - ⟨rfl, rfl, hp36⟩
        show ab_Fr MX11_minutes (d + 1) Q 79 [some (.ref 3), some (.int a1), some (.int a2), some (.long 0), none] [] (0, 0) (i32, l33, dd34, x35) (ab_E0 sc)
        refine ab_aloadn dX11_minutes_79 rfl ?_
        refine ab_getf (v := .ref 160) dX11_minutes_80 fl_X11_41 kd_3 ff_3_3 ?_
        refine ab_iloadn dX11_minutes_83 rfl ?_
        refine ab_iloadn dX11_minutes_84 rfl ?_
        refine ab_bipush (v := 9) dX11_minutes_85 (by decide) ?_
        obtain ⟨P38, hs39, hk40⟩ := (hk31 i32 l33 dd34 x35 hp36)
        refine ab_callV (vs := [.int a1, .int a2, .int 9]) (st := []) dX11_minutes_87 okMX4_pin wd_1233 kd_160 rfl rfl rfl (Nat.le_of_ble_eq_true rfl) ⟨Nat.le_of_ble_eq_true rfl, Nat.le_of_ble_eq_true rfl⟩ hs39 ?_
        rintro v9 ⟨i41, l42, dd43, x44⟩ E9 - ⟨rfl, rfl, hp45⟩
        show ab_Fr MX11_minutes (d + 1) Q 90 [some (.ref 3), some (.int a1), some (.int a2), some (.long 0), none] [] (0, 0) (i41, l42, dd43, x44) (ab_E0 sc)
        refine ab_aloadn dX11_minutes_90 rfl ?_
        refine ab_getf (v := .ref 160) dX11_minutes_91 fl_X11_41 kd_3 ff_3_3 ?_
        refine ab_aloadn dX11_minutes_94 rfl ?_
        refine ab_getf (v := .ref 204) dX11_minutes_95 fl_X11_87 kd_3 ff_3_10 ?_
        obtain ⟨P47, hs48, hk49⟩ := (hk40 i41 l42 dd43 x44 hp45)
        refine ab_callV (vs := [.ref 204]) (st := []) dX11_minutes_98 okMX4_sumUp wd_735 kd_160 rfl rfl rfl (Nat.le_of_ble_eq_true rfl) ⟨Nat.le_of_ble_eq_true rfl, Nat.le_of_ble_eq_true rfl⟩ hs48 ?_
        rintro v9 ⟨i50, l51, dd52, x53⟩ E9 - ⟨rfl, rfl, hp54⟩
        show ab_Fr MX11_minutes (d + 1) Q 101 [some (.ref 3), some (.int a1), some (.int a2), some (.long 0), none] [] (0, 0) (i50, l51, dd52, x53) (ab_E0 sc)
        refine ab_aloadn dX11_minutes_101 rfl ?_
        refine ab_getf (v := .ref 204) dX11_minutes_102 fl_X11_87 kd_3 ff_3_10 ?_
        obtain ⟨r55, P56, hs57, hk58⟩ := (hk49 i50 l51 dd52 x53 hp54)
        refine ab_callS (vs := [.ref 204]) (st := []) dX11_minutes_105 okMX11_sumOf wd_1234 rfl rfl (Nat.le_of_ble_eq_true rfl) ⟨Nat.le_of_ble_eq_true rfl, Nat.le_of_ble_eq_true rfl⟩ hs57 ?_
        rintro v9 ⟨i59, l60, dd61, x62⟩ E9 - ⟨rfl, rfl, hp63⟩
        show ab_Fr MX11_minutes (d + 1) Q 108 [some (.ref 3), some (.int a1), some (.int a2), some (.long 0), none] [.long r55] (0, 0) (i59, l60, dd61, x62) (ab_E0 sc)
        refine ab_lstoren dX11_minutes_108 (Nat.le_of_ble_eq_true rfl) (L2 := [some (.ref 3), some (.int a1), some (.int a2), some (.long r55), none]) rfl ?_
        refine ab_forget (i := 1) (L2 := [some (.ref 3), none, some (.int a2), some (.long r55), none]) rfl ?_
        refine ab_forget (i := 2) (L2 := [some (.ref 3), none, none, some (.long r55), none]) rfl ?_
        exact (hk58 i59 l60 dd61 x62 hp63)
    · refine ab_forget (i := 0) (L2 := [none, some (.int a1), some (.int a2), none, none]) rfl ?_
      refine ab_forget (i := 1) (L2 := [none, none, some (.int a2), none, none]) rfl ?_
      refine ab_forget (i := 2) (L2 := [none, none, none, none, none]) rfl ?_
      exact ((hk18 i19 l20 dd21 x22 hp23).2 c24)
theorem tMX11_minutes_26 {d : Nat} {Q : ab_Qt} {sc : Nat × (Nat → Int32)} {i : Nat → Nat → Int32} {l : Nat → Nat → Int64} {dd : Nat → Nat → Value} {x : Nat}  
    (h : Q none (i, l, dd, x + 1) (ab_E0 sc)) :
    ab_Fr MX11_minutes (d + 1) Q 26 [none, none, none, none, none] [] (0, 0) (i, l, dd, x) (ab_E0 sc) := by
  exact ab_throw ⟨rfl, dX11_minutes_26, dX11_minutes_29, dX11_minutes_30, dX11_minutes_33⟩ ⟨Nat.le_of_ble_eq_true rfl, Nat.le_of_ble_eq_true rfl⟩ h
theorem tMX11_minutes_109 {d : Nat} {Q : ab_Qt} {sc : Nat × (Nat → Int32)} {i : Nat → Nat → Int32} {l : Nat → Nat → Int64} {dd : Nat → Nat → Value} {x : Nat} {a3 : Int64} 
    (h : (∃ (P2 : ab_S → Prop), ab_Sp MX7_clear d [.ref 4] (i, l, dd, x) (ab_E0 sc) (none) P2 ∧ ∀ i5 l6 dd7 x8, P2 (i5, l6, dd7, x8) → Q (some (some (.long a3))) (i5, l6, dd7, x8) (ab_E0 sc))) :
    ab_Fr MX11_minutes (d + 1) Q 109 [some (.ref 3), none, none, some (.long a3), none] [] (0, 0) (i, l, dd, x) (ab_E0 sc) := by
  refine ab_aloadn dX11_minutes_109 rfl ?_
  refine ab_getf (v := .ref 4) dX11_minutes_110 fl_X11_10 kd_3 ff_3_0 ?_
  obtain ⟨P2, hs3, hk4⟩ := h
  refine ab_callV (vs := []) (st := []) dX11_minutes_113 okMX7_clear wd_659 kd_4 rfl rfl rfl (Nat.le_of_ble_eq_true rfl) ⟨Nat.le_of_ble_eq_true rfl, Nat.le_of_ble_eq_true rfl⟩ hs3 ?_
  rintro v9 ⟨i5, l6, dd7, x8⟩ E9 - ⟨rfl, rfl, hp9⟩
  show ab_Fr MX11_minutes (d + 1) Q 116 [some (.ref 3), none, none, some (.long a3), none] [] (0, 0) (i5, l6, dd7, x8) (ab_E0 sc)
  refine ab_lloadn dX11_minutes_116 rfl ?_
  exact ab_lret dX11_minutes_117 rfl ⟨Nat.zero_le _, Nat.zero_le _⟩ (hk4 i5 l6 dd7 x8 hp9)
theorem tMX11_sumOf_0 {d : Nat} {Q : ab_Qt} {sc : Nat × (Nat → Int32)} {i : Nat → Nat → Int32} {l : Nat → Nat → Int64} {dd : Nat → Nat → Value} {x : Nat} {a0 : Nat} {n_a0 : Nat} (k_a0 : (ab_E0 sc).1 a0 = .inr (1, n_a0))
    (h : ab_Fr MX11_sumOf (d + 1) Q 4 [some (.ref a0), some (.long 0), none, some (.int 0)] [] (0, 0) (i, l, dd, x) (ab_E0 sc)) :
    ab_Fr MX11_sumOf (d + 1) Q 0 [some (.ref a0), none, none, none] [] (0, 0) (i, l, dd, x) (ab_E0 sc) := by
  refine ab_lconst (v := 0) dX11_sumOf_0 (by decide) ?_
  refine ab_lstoren dX11_sumOf_1 (Nat.le_of_ble_eq_true rfl) (L2 := [some (.ref a0), some (.long 0), none, none]) rfl ?_
  refine ab_iconst (v := 0) dX11_sumOf_2 (by decide) ?_
  refine ab_istoren dX11_sumOf_3 (Nat.le_of_ble_eq_true rfl) (L2 := [some (.ref a0), some (.long 0), none, some (.int 0)]) rfl ?_
  exact h
theorem tMX11_sumOf_4 {d : Nat} {Q : ab_Qt} {sc : Nat × (Nat → Int32)} {i : Nat → Nat → Int32} {l : Nat → Nat → Int64} {dd : Nat → Nat → Value} {x : Nat} {a0 : Nat} {n_a0 : Nat} {a1 : Int64} {a3 : Int32} (k_a0 : (ab_E0 sc).1 a0 = .inr (1, n_a0))
    (h : ((9 ≤ a3 → Q (some (some (.long a1))) (i, l, dd, x) (ab_E0 sc)) ∧ (¬ 9 ≤ a3 → (vp_in a3 n_a0 ∧ ab_Fr MX11_sumOf (d + 1) Q 4 [some (.ref a0), some (.long (a1 + (l a0 a3.toNatClampNeg))), none, some (.int (a3 + 1))] [] (0, 0) (i, l, dd, x) (ab_E0 sc))))) :
    ab_Fr MX11_sumOf (d + 1) Q 4 [some (.ref a0), some (.long a1), none, some (.int a3)] [] (0, 0) (i, l, dd, x) (ab_E0 sc) := by
  refine ab_iloadn dX11_sumOf_4 rfl ?_
  refine ab_bipush (v := 9) dX11_sumOf_5 (by decide) ?_
  refine ab_icmp_ge (tgt := 22) dX11_sumOf_7 (by decide) (fun c1 => ?_) (fun c1 => ?_)
  · refine ab_lloadn dX11_sumOf_22 rfl ?_
    exact ab_lret dX11_sumOf_23 rfl ⟨Nat.zero_le _, Nat.zero_le _⟩ (h.1 c1)
  · refine ab_lloadn dX11_sumOf_10 rfl ?_
    refine ab_aloadn dX11_sumOf_11 rfl ?_
    refine ab_iloadn dX11_sumOf_12 rfl ?_
    refine ab_laload (v := (l a0 a3.toNatClampNeg)) dX11_sumOf_13 k_a0 (h.2 c1).1 rfl ?_
    refine ab_ladd dX11_sumOf_14 ?_
    refine ab_lstoren dX11_sumOf_15 (Nat.le_of_ble_eq_true rfl) (L2 := [some (.ref a0), some (.long (a1 + (l a0 a3.toNatClampNeg))), none, some (.int a3)]) rfl ?_
    refine ab_iinc (v := (a3 + 1)) dX11_sumOf_16 rfl (by rfl) (Nat.le_of_ble_eq_true rfl) (L2 := [some (.ref a0), some (.long (a1 + (l a0 a3.toNatClampNeg))), none, some (.int (a3 + 1))]) rfl ?_
    refine ab_goto (tgt := 4) dX11_sumOf_19 (by decide) ?_
    exact (h.2 c1).2
theorem tMX11_shut_0 {d : Nat} {Q : ab_Qt} {sc : Nat × (Nat → Int32)} {i : Nat → Nat → Int32} {l : Nat → Nat → Int64} {dd : Nat → Nat → Value} {x : Nat} {a1 : Int32} {a2 : Int32} {a3 : Int32} 
    (h : (∃ m1, dd 3 11 = .ref m1 ∧ ab_isM m1 ∧ ∃ (r3 : Int32) (P4 : ab_S → Prop), ab_Sp MX1_hasTruth d [.ref m1, .int a1] (i, l, dd, x) (ab_E0 sc) (some (.int r3)) P4 ∧ ∀ i7 l8 dd9 x10, P4 (i7, l8, dd9, x10) → ((r3 = 0 → ab_Fr MX11_shut (d + 1) Q 23 [none, none, none, none] [] (0, 0) (i7, l8, dd9, x10) (ab_E0 sc)) ∧ (¬ r3 = 0 → (∃ m13, dd9 3 11 = .ref m13 ∧ ab_isM m13 ∧ ∃ (r15 : Int32) (P16 : ab_S → Prop), ab_Sp MX1_hasSign d [.ref m13, .int a2, .int a3] (i7, l8, dd9, x10) (ab_E0 sc) (some (.int r15)) P16 ∧ ∀ i19 l20 dd21 x22, P16 (i19, l20, dd21, x22) → ((¬ r15 = 0 → (∃ m25, dd21 3 11 = .ref m25 ∧ ab_isM m25 ∧ ∃ (P28 : ab_S → Prop), ab_Sp MX4_voting d [.ref 160, .ref m25, .ref (m25 + 47)] (i19, l20, dd21, x22) (ab_E0 sc) (none) P28 ∧ ∀ i31 l32 dd33 x34, P28 (i31, l32, dd33, x34) → ∃ m36, dd33 3 11 = .ref m36 ∧ ab_isM m36 ∧ vp_in ((a2 * 3) + a3) 21 ∧ ∃ (P39 : ab_S → Prop), ab_Sp MX4_pin d [.ref 160, .int a2, .int a3, .int (i31 (m36 + 47) ((a2 * 3) + a3).toNatClampNeg)] (i31, l32, dd33, x34) (ab_E0 sc) (none) P39 ∧ ∀ i42 l43 dd44 x45, P39 (i42, l43, dd44, x45) → ∃ (P48 : ab_S → Prop), ab_Sp MX4_sumUp d [.ref 160, .ref 204] (i42, l43, dd44, x45) (ab_E0 sc) (none) P48 ∧ ∀ i51 l52 dd53 x54, P48 (i51, l52, dd53, x54) → vp_in a1 9 ∧ vp_in (3 + a1) 9 ∧ vp_in (6 + a1) 9 ∧ Q (some (some (.long (((l52 204 a1.toNatClampNeg) + (l52 204 (3 + a1).toNatClampNeg)) + (l52 204 (6 + a1).toNatClampNeg))))) (i51, l52, dd53, x54) (ab_E0 sc))) ∧ (r15 = 0 → ab_Fr MX11_shut (d + 1) Q 23 [none, none, none, none] [] (0, 0) (i19, l20, dd21, x22) (ab_E0 sc)))))))) :
    ab_Fr MX11_shut (d + 1) Q 0 [some (.ref 3), some (.int a1), some (.int a2), some (.int a3)] [] (0, 0) (i, l, dd, x) (ab_E0 sc) := by
  refine ab_aloadn dX11_shut_0 rfl ?_
  obtain ⟨m1, hm2d, hm2, hm2t⟩ := h
  refine ab_getf (v := .ref m1) dX11_shut_1 fl_X11_23 kd_3 hm2d ?_
  refine ab_iloadn dX11_shut_4 rfl ?_
  obtain ⟨r3, P4, hs5, hk6⟩ := hm2t
  refine ab_callV (vs := [.int a1]) (st := []) dX11_shut_5 okMX1_hasTruth wd_972 (kM hm2) rfl rfl rfl (Nat.le_of_ble_eq_true rfl) ⟨Nat.le_of_ble_eq_true rfl, Nat.le_of_ble_eq_true rfl⟩ hs5 ?_
  rintro v9 ⟨i7, l8, dd9, x10⟩ E9 - ⟨rfl, rfl, hp11⟩
  show ab_Fr MX11_shut (d + 1) Q 8 [some (.ref 3), some (.int a1), some (.int a2), some (.int a3)] [.int r3] (0, 0) (i7, l8, dd9, x10) (ab_E0 sc)
  refine ab_if_eq (tgt := 23) dX11_shut_8 (by decide) (fun c12 => ?_) (fun c12 => ?_)
  · refine ab_forget (i := 0) (L2 := [none, some (.int a1), some (.int a2), some (.int a3)]) rfl ?_
    refine ab_forget (i := 1) (L2 := [none, none, some (.int a2), some (.int a3)]) rfl ?_
    refine ab_forget (i := 2) (L2 := [none, none, none, some (.int a3)]) rfl ?_
    refine ab_forget (i := 3) (L2 := [none, none, none, none]) rfl ?_
    exact ((hk6 i7 l8 dd9 x10 hp11).1 c12)
  · refine ab_aloadn dX11_shut_11 rfl ?_
    obtain ⟨m13, hm14d, hm14, hm14t⟩ := ((hk6 i7 l8 dd9 x10 hp11).2 c12)
    refine ab_getf (v := .ref m13) dX11_shut_12 fl_X11_23 kd_3 hm14d ?_
    refine ab_iloadn dX11_shut_15 rfl ?_
    refine ab_iloadn dX11_shut_16 rfl ?_
    obtain ⟨r15, P16, hs17, hk18⟩ := hm14t
    refine ab_callV (vs := [.int a2, .int a3]) (st := []) dX11_shut_17 okMX1_hasSign wd_691 (kM hm14) rfl rfl rfl (Nat.le_of_ble_eq_true rfl) ⟨Nat.le_of_ble_eq_true rfl, Nat.le_of_ble_eq_true rfl⟩ hs17 ?_
    rintro v9 ⟨i19, l20, dd21, x22⟩ E9 - ⟨rfl, rfl, hp23⟩
    show ab_Fr MX11_shut (d + 1) Q 20 [some (.ref 3), some (.int a1), some (.int a2), some (.int a3)] [.int r15] (0, 0) (i19, l20, dd21, x22) (ab_E0 sc)
    refine ab_if_ne (tgt := 31) dX11_shut_20 (by decide) (fun c24 => ?_) (fun c24 => ?_)
    · refine ab_aloadn dX11_shut_31 rfl ?_
      refine ab_getf (v := .ref 160) dX11_shut_32 fl_X11_41 kd_3 ff_3_3 ?_
      refine ab_aloadn dX11_shut_35 rfl ?_
      obtain ⟨m25, hm26d, hm26, hm26t⟩ := ((hk18 i19 l20 dd21 x22 hp23).1 c24)
      refine ab_getf (v := .ref m25) dX11_shut_36 fl_X11_23 kd_3 hm26d ?_
      refine ab_aloadn dX11_shut_39 rfl ?_
      refine ab_getf (v := .ref m25) dX11_shut_40 fl_X11_23 kd_3 hm26d ?_
      refine ab_getf (v := .ref (m25 + 47)) dX11_shut_43 fl_X11_168 (kM hm26) (fM_9 hm26) ?_
      obtain ⟨P28, hs29, hk30⟩ := hm26t
      refine ab_callV (vs := [.ref m25, .ref (m25 + 47)]) (st := []) dX11_shut_46 okMX4_voting wd_725 kd_160 rfl rfl rfl (Nat.le_of_ble_eq_true rfl) ⟨Nat.le_of_ble_eq_true rfl, Nat.le_of_ble_eq_true rfl⟩ hs29 ?_
      rintro v9 ⟨i31, l32, dd33, x34⟩ E9 - ⟨rfl, rfl, hp35⟩
      show ab_Fr MX11_shut (d + 1) Q 49 [some (.ref 3), some (.int a1), some (.int a2), some (.int a3)] [] (0, 0) (i31, l32, dd33, x34) (ab_E0 sc)
      refine ab_aloadn dX11_shut_49 rfl ?_
      refine ab_getf (v := .ref 160) dX11_shut_50 fl_X11_41 kd_3 ff_3_3 ?_
      refine ab_iloadn dX11_shut_53 rfl ?_
      refine ab_iloadn dX11_shut_54 rfl ?_
      refine ab_aloadn dX11_shut_55 rfl ?_
      obtain ⟨m36, hm37d, hm37, hm37t⟩ := (hk30 i31 l32 dd33 x34 hp35)
      refine ab_getf (v := .ref m36) dX11_shut_56 fl_X11_23 kd_3 hm37d ?_
      refine ab_getf (v := .ref (m36 + 47)) dX11_shut_59 fl_X11_168 (kM hm37) (fM_9 hm37) ?_
      refine ab_iloadn dX11_shut_62 rfl ?_
      refine ab_iconst (v := 3) dX11_shut_63 (by decide) ?_
      refine ab_imul dX11_shut_64 ?_
      refine ab_iloadn dX11_shut_65 rfl ?_
      refine ab_iadd dX11_shut_66 ?_
      refine ab_iaload (v := (i31 (m36 + 47) ((a2 * 3) + a3).toNatClampNeg)) dX11_shut_67 (kM_47 hm37) hm37t.1 rfl ?_
      obtain ⟨P39, hs40, hk41⟩ := hm37t.2
      refine ab_callV (vs := [.int a2, .int a3, .int (i31 (m36 + 47) ((a2 * 3) + a3).toNatClampNeg)]) (st := []) dX11_shut_68 okMX4_pin wd_1233 kd_160 rfl rfl rfl (Nat.le_of_ble_eq_true rfl) ⟨Nat.le_of_ble_eq_true rfl, Nat.le_of_ble_eq_true rfl⟩ hs40 ?_
      rintro v9 ⟨i42, l43, dd44, x45⟩ E9 - ⟨rfl, rfl, hp46⟩
      show ab_Fr MX11_shut (d + 1) Q 71 [some (.ref 3), some (.int a1), some (.int a2), some (.int a3)] [] (0, 0) (i42, l43, dd44, x45) (ab_E0 sc)
      refine ab_aloadn dX11_shut_71 rfl ?_
      refine ab_getf (v := .ref 160) dX11_shut_72 fl_X11_41 kd_3 ff_3_3 ?_
      refine ab_aloadn dX11_shut_75 rfl ?_
      refine ab_getf (v := .ref 204) dX11_shut_76 fl_X11_87 kd_3 ff_3_10 ?_
      obtain ⟨P48, hs49, hk50⟩ := (hk41 i42 l43 dd44 x45 hp46)
      refine ab_callV (vs := [.ref 204]) (st := []) dX11_shut_79 okMX4_sumUp wd_735 kd_160 rfl rfl rfl (Nat.le_of_ble_eq_true rfl) ⟨Nat.le_of_ble_eq_true rfl, Nat.le_of_ble_eq_true rfl⟩ hs49 ?_
      rintro v9 ⟨i51, l52, dd53, x54⟩ E9 - ⟨rfl, rfl, hp55⟩
      show ab_Fr MX11_shut (d + 1) Q 82 [some (.ref 3), some (.int a1), some (.int a2), some (.int a3)] [] (0, 0) (i51, l52, dd53, x54) (ab_E0 sc)
      refine ab_aloadn dX11_shut_82 rfl ?_
      refine ab_getf (v := .ref 204) dX11_shut_83 fl_X11_87 kd_3 ff_3_10 ?_
      refine ab_iloadn dX11_shut_86 rfl ?_
      refine ab_laload (v := (l52 204 a1.toNatClampNeg)) dX11_shut_87 kd_204 (hk50 i51 l52 dd53 x54 hp55).1 rfl ?_
      refine ab_aloadn dX11_shut_88 rfl ?_
      refine ab_getf (v := .ref 204) dX11_shut_89 fl_X11_87 kd_3 ff_3_10 ?_
      refine ab_iconst (v := 3) dX11_shut_92 (by decide) ?_
      refine ab_iloadn dX11_shut_93 rfl ?_
      refine ab_iadd dX11_shut_94 ?_
      refine ab_laload (v := (l52 204 (3 + a1).toNatClampNeg)) dX11_shut_95 kd_204 (hk50 i51 l52 dd53 x54 hp55).2.1 rfl ?_
      refine ab_ladd dX11_shut_96 ?_
      refine ab_aloadn dX11_shut_97 rfl ?_
      refine ab_getf (v := .ref 204) dX11_shut_98 fl_X11_87 kd_3 ff_3_10 ?_
      refine ab_bipush (v := 6) dX11_shut_101 (by decide) ?_
      refine ab_iloadn dX11_shut_103 rfl ?_
      refine ab_iadd dX11_shut_104 ?_
      refine ab_laload (v := (l52 204 (6 + a1).toNatClampNeg)) dX11_shut_105 kd_204 (hk50 i51 l52 dd53 x54 hp55).2.2.1 rfl ?_
      refine ab_ladd dX11_shut_106 ?_
      exact ab_lret dX11_shut_107 rfl ⟨Nat.zero_le _, Nat.zero_le _⟩ (hk50 i51 l52 dd53 x54 hp55).2.2.2
    · refine ab_forget (i := 0) (L2 := [none, some (.int a1), some (.int a2), some (.int a3)]) rfl ?_
      refine ab_forget (i := 1) (L2 := [none, none, some (.int a2), some (.int a3)]) rfl ?_
      refine ab_forget (i := 2) (L2 := [none, none, none, some (.int a3)]) rfl ?_
      refine ab_forget (i := 3) (L2 := [none, none, none, none]) rfl ?_
      exact ((hk18 i19 l20 dd21 x22 hp23).2 c24)
theorem tMX11_shut_23 {d : Nat} {Q : ab_Qt} {sc : Nat × (Nat → Int32)} {i : Nat → Nat → Int32} {l : Nat → Nat → Int64} {dd : Nat → Nat → Value} {x : Nat}  
    (h : Q none (i, l, dd, x + 1) (ab_E0 sc)) :
    ab_Fr MX11_shut (d + 1) Q 23 [none, none, none, none] [] (0, 0) (i, l, dd, x) (ab_E0 sc) := by
  exact ab_throw ⟨rfl, dX11_shut_23, dX11_shut_26, dX11_shut_27, dX11_shut_30⟩ ⟨Nat.le_of_ble_eq_true rfl, Nat.le_of_ble_eq_true rfl⟩ h
theorem tMX11_many_0 {d : Nat} {Q : ab_Qt} {sc : Nat × (Nat → Int32)} {i : Nat → Nat → Int32} {l : Nat → Nat → Int64} {dd : Nat → Nat → Value} {x : Nat} {a1 : Int32} {a2 : Int32} 
    (h : ((a1 < 1 → ab_Fr MX11_many (d + 1) Q 27 [none, none, none, none, none, none, none, none] [] (0, 0) (i, l, dd, x) (ab_E0 sc)) ∧ (¬ a1 < 1 → ((11 < a1 → ab_Fr MX11_many (d + 1) Q 27 [none, none, none, none, none, none, none, none] [] (0, 0) (i, l, dd, x) (ab_E0 sc)) ∧ (¬ 11 < a1 → (((a1 - a1 / 2 * 2) = 0 → ab_Fr MX11_many (d + 1) Q 27 [none, none, none, none, none, none, none, none] [] (0, 0) (i, l, dd, x) (ab_E0 sc)) ∧ (¬ (a1 - a1 / 2 * 2) = 0 → ((a2 < 0 → ab_Fr MX11_many (d + 1) Q 27 [none, none, none, none, none, none, none, none] [] (0, 0) (i, l, dd, x) (ab_E0 sc)) ∧ (¬ a2 < 0 → ((a2 ≤ 20 → ab_Fr MX11_many (d + 1) Q 43 [none, some (.int a1), some (.int a2), some (.long 0), none, some (.long 1), none, some (.int 0)] [] (0, 0) (i, l, dd, x) (ab_E0 sc)) ∧ (¬ a2 ≤ 20 → ab_Fr MX11_many (d + 1) Q 27 [none, none, none, none, none, none, none, none] [] (0, 0) (i, l, dd, x) (ab_E0 sc)))))))))))) :
    ab_Fr MX11_many (d + 1) Q 0 [some (.ref 3), some (.int a1), some (.int a2), none, none, none, none, none] [] (0, 0) (i, l, dd, x) (ab_E0 sc) := by
  refine ab_iloadn dX11_many_0 rfl ?_
  refine ab_iconst (v := 1) dX11_many_1 (by decide) ?_
  refine ab_icmp_lt (tgt := 27) dX11_many_2 (by decide) (fun c1 => ?_) (fun c1 => ?_)
  · refine ab_forget (i := 0) (L2 := [none, some (.int a1), some (.int a2), none, none, none, none, none]) rfl ?_
    refine ab_forget (i := 1) (L2 := [none, none, some (.int a2), none, none, none, none, none]) rfl ?_
    refine ab_forget (i := 2) (L2 := [none, none, none, none, none, none, none, none]) rfl ?_
    exact (h.1 c1)
  · refine ab_iloadn dX11_many_5 rfl ?_
    refine ab_bipush (v := 11) dX11_many_6 (by decide) ?_
    refine ab_icmp_gt (tgt := 27) dX11_many_8 (by decide) (fun c2 => ?_) (fun c2 => ?_)
    · refine ab_forget (i := 0) (L2 := [none, some (.int a1), some (.int a2), none, none, none, none, none]) rfl ?_
      refine ab_forget (i := 1) (L2 := [none, none, some (.int a2), none, none, none, none, none]) rfl ?_
      refine ab_forget (i := 2) (L2 := [none, none, none, none, none, none, none, none]) rfl ?_
      exact ((h.2 c1).1 c2)
    · refine ab_iloadn dX11_many_11 rfl ?_
      refine ab_iconst (v := 2) dX11_many_12 (by decide) ?_
      refine ab_irem dX11_many_13 (by decide) ?_
      refine ab_if_eq (tgt := 27) dX11_many_14 (by decide) (fun c3 => ?_) (fun c3 => ?_)
      · refine ab_forget (i := 0) (L2 := [none, some (.int a1), some (.int a2), none, none, none, none, none]) rfl ?_
        refine ab_forget (i := 1) (L2 := [none, none, some (.int a2), none, none, none, none, none]) rfl ?_
        refine ab_forget (i := 2) (L2 := [none, none, none, none, none, none, none, none]) rfl ?_
        exact (((h.2 c1).2 c2).1 c3)
      · refine ab_iloadn dX11_many_17 rfl ?_
        refine ab_if_lt (tgt := 27) dX11_many_18 (by decide) (fun c4 => ?_) (fun c4 => ?_)
        · refine ab_forget (i := 0) (L2 := [none, some (.int a1), some (.int a2), none, none, none, none, none]) rfl ?_
          refine ab_forget (i := 1) (L2 := [none, none, some (.int a2), none, none, none, none, none]) rfl ?_
          refine ab_forget (i := 2) (L2 := [none, none, none, none, none, none, none, none]) rfl ?_
          exact ((((h.2 c1).2 c2).2 c3).1 c4)
        · refine ab_iloadn dX11_many_21 rfl ?_
          refine ab_bipush (v := 20) dX11_many_22 (by decide) ?_
          refine ab_icmp_le (tgt := 35) dX11_many_24 (by decide) (fun c5 => ?_) (fun c5 => ?_)
          · refine ab_lconst (v := 0) dX11_many_35 (by decide) ?_
            refine ab_lstoren dX11_many_36 (Nat.le_of_ble_eq_true rfl) (L2 := [some (.ref 3), some (.int a1), some (.int a2), some (.long 0), none, none, none, none]) rfl ?_
            refine ab_lconst (v := 1) dX11_many_37 (by decide) ?_
            refine ab_lstore dX11_many_38 (Nat.le_of_ble_eq_true rfl) (L2 := [some (.ref 3), some (.int a1), some (.int a2), some (.long 0), none, some (.long 1), none, none]) rfl ?_
            refine ab_iconst (v := 0) dX11_many_40 (by decide) ?_
            refine ab_istore dX11_many_41 (Nat.le_of_ble_eq_true rfl) (L2 := [some (.ref 3), some (.int a1), some (.int a2), some (.long 0), none, some (.long 1), none, some (.int 0)]) rfl ?_
            refine ab_forget (i := 0) (L2 := [none, some (.int a1), some (.int a2), some (.long 0), none, some (.long 1), none, some (.int 0)]) rfl ?_
            exact (((((h.2 c1).2 c2).2 c3).2 c4).1 c5)
          · refine ab_forget (i := 0) (L2 := [none, some (.int a1), some (.int a2), none, none, none, none, none]) rfl ?_
            refine ab_forget (i := 1) (L2 := [none, none, some (.int a2), none, none, none, none, none]) rfl ?_
            refine ab_forget (i := 2) (L2 := [none, none, none, none, none, none, none, none]) rfl ?_
            exact (((((h.2 c1).2 c2).2 c3).2 c4).2 c5)
theorem tMX11_many_27 {d : Nat} {Q : ab_Qt} {sc : Nat × (Nat → Int32)} {i : Nat → Nat → Int32} {l : Nat → Nat → Int64} {dd : Nat → Nat → Value} {x : Nat}  
    (h : Q none (i, l, dd, x + 1) (ab_E0 sc)) :
    ab_Fr MX11_many (d + 1) Q 27 [none, none, none, none, none, none, none, none] [] (0, 0) (i, l, dd, x) (ab_E0 sc) := by
  exact ab_throw ⟨rfl, dX11_many_27, dX11_many_30, dX11_many_31, dX11_many_34⟩ ⟨Nat.le_of_ble_eq_true rfl, Nat.le_of_ble_eq_true rfl⟩ h
theorem tMX11_many_43 {d : Nat} {Q : ab_Qt} {sc : Nat × (Nat → Int32)} {i : Nat → Nat → Int32} {l : Nat → Nat → Int64} {dd : Nat → Nat → Value} {x : Nat} {a1 : Int32} {a2 : Int32} {a3 : Int64} {a5 : Int64} {a7 : Int32} 
    (h : (((a1 / 2) < a7 → Q (some (some (.long a3))) (i, l, dd, x) (ab_E0 sc)) ∧ (¬ (a1 / 2) < a7 → (∃ (r2 : Int64) (P3 : ab_S → Prop), ab_Sp MX11_power d [.int a2, .int (a1 - a7)] (i, l, dd, x) (ab_E0 sc) (some (.long r2)) P3 ∧ ∀ i6 l7 dd8 x9, P3 (i6, l7, dd8, x9) → ∃ (r11 : Int64) (P12 : ab_S → Prop), ab_Sp MX11_power d [.int (20 - a2), .int a7] (i6, l7, dd8, x9) (ab_E0 sc) (some (.long r11)) P12 ∧ ∀ i15 l16 dd17 x18, P12 (i15, l16, dd17, x18) → ¬ (a7 + 1).toInt64 = 0 ∧ ab_Fr MX11_many (d + 1) Q 43 [none, some (.int a1), some (.int a2), some (.long (a3 + ((a5 * r2) * r11))), none, some (.long ((a5 * (a1 - a7).toInt64) / (a7 + 1).toInt64)), none, some (.int (a7 + 1))] [] (0, 0) (i15, l16, dd17, x18) (ab_E0 sc))))) :
    ab_Fr MX11_many (d + 1) Q 43 [none, some (.int a1), some (.int a2), some (.long a3), none, some (.long a5), none, some (.int a7)] [] (0, 0) (i, l, dd, x) (ab_E0 sc) := by
  refine ab_iload dX11_many_43 rfl ?_
  refine ab_iloadn dX11_many_45 rfl ?_
  refine ab_iconst (v := 2) dX11_many_46 (by decide) ?_
  refine ab_idiv dX11_many_47 (by decide) ?_
  refine ab_icmp_gt (tgt := 97) dX11_many_48 (by decide) (fun c1 => ?_) (fun c1 => ?_)
  · refine ab_lloadn dX11_many_97 rfl ?_
    exact ab_lret dX11_many_98 rfl ⟨Nat.zero_le _, Nat.zero_le _⟩ (h.1 c1)
  · refine ab_lloadn dX11_many_51 rfl ?_
    refine ab_lload dX11_many_52 rfl ?_
    refine ab_iloadn dX11_many_54 rfl ?_
    refine ab_iloadn dX11_many_55 rfl ?_
    refine ab_iload dX11_many_56 rfl ?_
    refine ab_isub dX11_many_58 ?_
    obtain ⟨r2, P3, hs4, hk5⟩ := (h.2 c1)
    refine ab_callS (vs := [.int a2, .int (a1 - a7)]) (st := [.long a5, .long a3]) dX11_many_59 okMX11_power wd_684 rfl rfl (Nat.le_of_ble_eq_true rfl) ⟨Nat.le_of_ble_eq_true rfl, Nat.le_of_ble_eq_true rfl⟩ hs4 ?_
    rintro v9 ⟨i6, l7, dd8, x9⟩ E9 - ⟨rfl, rfl, hp10⟩
    show ab_Fr MX11_many (d + 1) Q 62 [none, some (.int a1), some (.int a2), some (.long a3), none, some (.long a5), none, some (.int a7)] [.long r2, .long a5, .long a3] (0, 0) (i6, l7, dd8, x9) (ab_E0 sc)
    refine ab_lmul dX11_many_62 ?_
    refine ab_bipush (v := 20) dX11_many_63 (by decide) ?_
    refine ab_iloadn dX11_many_65 rfl ?_
    refine ab_isub dX11_many_66 ?_
    refine ab_iload dX11_many_67 rfl ?_
    obtain ⟨r11, P12, hs13, hk14⟩ := (hk5 i6 l7 dd8 x9 hp10)
    refine ab_callS (vs := [.int (20 - a2), .int a7]) (st := [.long (a5 * r2), .long a3]) dX11_many_69 okMX11_power wd_684 rfl rfl (Nat.le_of_ble_eq_true rfl) ⟨Nat.le_of_ble_eq_true rfl, Nat.le_of_ble_eq_true rfl⟩ hs13 ?_
    rintro v9 ⟨i15, l16, dd17, x18⟩ E9 - ⟨rfl, rfl, hp19⟩
    show ab_Fr MX11_many (d + 1) Q 72 [none, some (.int a1), some (.int a2), some (.long a3), none, some (.long a5), none, some (.int a7)] [.long r11, .long (a5 * r2), .long a3] (0, 0) (i15, l16, dd17, x18) (ab_E0 sc)
    refine ab_lmul dX11_many_72 ?_
    refine ab_ladd dX11_many_73 ?_
    refine ab_lstoren dX11_many_74 (Nat.le_of_ble_eq_true rfl) (L2 := [none, some (.int a1), some (.int a2), some (.long (a3 + ((a5 * r2) * r11))), none, some (.long a5), none, some (.int a7)]) rfl ?_
    refine ab_lload dX11_many_75 rfl ?_
    refine ab_iloadn dX11_many_77 rfl ?_
    refine ab_iload dX11_many_78 rfl ?_
    refine ab_isub dX11_many_80 ?_
    refine ab_i2l dX11_many_81 rfl ?_
    refine ab_lmul dX11_many_82 ?_
    refine ab_iload dX11_many_83 rfl ?_
    refine ab_iconst (v := 1) dX11_many_85 (by decide) ?_
    refine ab_iadd dX11_many_86 ?_
    refine ab_i2l dX11_many_87 rfl ?_
    refine ab_ldiv dX11_many_88 (hk14 i15 l16 dd17 x18 hp19).1 ?_
    refine ab_lstore dX11_many_89 (Nat.le_of_ble_eq_true rfl) (L2 := [none, some (.int a1), some (.int a2), some (.long (a3 + ((a5 * r2) * r11))), none, some (.long ((a5 * (a1 - a7).toInt64) / (a7 + 1).toInt64)), none, some (.int a7)]) rfl ?_
    refine ab_iinc (v := (a7 + 1)) dX11_many_91 rfl (by rfl) (Nat.le_of_ble_eq_true rfl) (L2 := [none, some (.int a1), some (.int a2), some (.long (a3 + ((a5 * r2) * r11))), none, some (.long ((a5 * (a1 - a7).toInt64) / (a7 + 1).toInt64)), none, some (.int (a7 + 1))]) rfl ?_
    refine ab_goto (tgt := 43) dX11_many_94 (by decide) ?_
    exact (hk14 i15 l16 dd17 x18 hp19).2
