theorem tMX12_lostInTurns_0 {d : Nat} {Q : ab_Qt} {sc : Nat × (Nat → Int32)} {i : Nat → Nat → Int32} {l : Nat → Nat → Int64} {dd : Nat → Nat → Value} {x : Nat}  
    (h : ab_Fr MX12_lostInTurns (d + 1) Q 4 [some (.ref 205), some (.long 0), none, some (.int 0)] [] (0, 0) (i, l, dd, x) (ab_E0 sc)) :
    ab_Fr MX12_lostInTurns (d + 1) Q 0 [some (.ref 205), none, none, none] [] (0, 0) (i, l, dd, x) (ab_E0 sc) := by
  refine ab_lconst (v := 0) dX12_lostInTurns_0 (by decide) ?_
  refine ab_lstoren dX12_lostInTurns_1 (Nat.le_of_ble_eq_true rfl) (L2 := [some (.ref 205), some (.long 0), none, none]) rfl ?_
  refine ab_iconst (v := 0) dX12_lostInTurns_2 (by decide) ?_
  refine ab_istoren dX12_lostInTurns_3 (Nat.le_of_ble_eq_true rfl) (L2 := [some (.ref 205), some (.long 0), none, some (.int 0)]) rfl ?_
  exact h
theorem tMX12_lostInTurns_4 {d : Nat} {Q : ab_Qt} {sc : Nat × (Nat → Int32)} {i : Nat → Nat → Int32} {l : Nat → Nat → Int64} {dd : Nat → Nat → Value} {x : Nat} {a1 : Int64} {a3 : Int32} 
    (h : (((i 205 31) ≤ a3 → Q (some (some (.long a1))) (i, l, dd, x) (ab_E0 sc)) ∧ (¬ (i 205 31) ≤ a3 → (∃ (r2 : Int32) (P3 : ab_S → Prop), ab_Sp MX12_speakRow d [.ref 205, .int a3] (i, l, dd, x) (ab_E0 sc) (some (.int r2)) P3 ∧ ∀ i6 l7 dd8 x9, P3 (i6, l7, dd8, x9) → ∃ (r11 : Int64) (P12 : ab_S → Prop), ab_Sp MX12_commonly d [.ref 205, .int a3, .int r2] (i6, l7, dd8, x9) (ab_E0 sc) (some (.long r11)) P12 ∧ ∀ i15 l16 dd17 x18, P12 (i15, l16, dd17, x18) → ab_Fr MX12_lostInTurns (d + 1) Q 4 [some (.ref 205), some (.long (a1 + r11)), none, some (.int (a3 + 1))] [] (0, 0) (i15, l16, dd17, x18) (ab_E0 sc))))) :
    ab_Fr MX12_lostInTurns (d + 1) Q 4 [some (.ref 205), some (.long a1), none, some (.int a3)] [] (0, 0) (i, l, dd, x) (ab_E0 sc) := by
  refine ab_iloadn dX12_lostInTurns_4 rfl ?_
  refine ab_aloadn dX12_lostInTurns_5 rfl ?_
  refine ab_getf (v := .int (i 205 31)) dX12_lostInTurns_6 fl_X12_309 kd_205 rfl ?_
  refine ab_icmp_ge (tgt := 31) dX12_lostInTurns_9 (by decide) (fun c1 => ?_) (fun c1 => ?_)
  · refine ab_lloadn dX12_lostInTurns_31 rfl ?_
    exact ab_lret dX12_lostInTurns_32 rfl ⟨Nat.zero_le _, Nat.zero_le _⟩ (h.1 c1)
  · refine ab_lloadn dX12_lostInTurns_12 rfl ?_
    refine ab_aloadn dX12_lostInTurns_13 rfl ?_
    refine ab_iloadn dX12_lostInTurns_14 rfl ?_
    refine ab_aloadn dX12_lostInTurns_15 rfl ?_
    refine ab_iloadn dX12_lostInTurns_16 rfl ?_
    obtain ⟨r2, P3, hs4, hk5⟩ := (h.2 c1)
    refine ab_callV (vs := [.int a3]) (st := [.int a3, .ref 205, .long a1]) dX12_lostInTurns_17 okMX12_speakRow wd_1675 kd_205 rfl rfl rfl (Nat.le_of_ble_eq_true rfl) ⟨Nat.le_of_ble_eq_true rfl, Nat.le_of_ble_eq_true rfl⟩ hs4 ?_
    rintro v9 ⟨i6, l7, dd8, x9⟩ E9 - ⟨rfl, rfl, hp10⟩
    show ab_Fr MX12_lostInTurns (d + 1) Q 20 [some (.ref 205), some (.long a1), none, some (.int a3)] [.int r2, .int a3, .ref 205, .long a1] (0, 0) (i6, l7, dd8, x9) (ab_E0 sc)
    obtain ⟨r11, P12, hs13, hk14⟩ := (hk5 i6 l7 dd8 x9 hp10)
    refine ab_callV (vs := [.int a3, .int r2]) (st := [.long a1]) dX12_lostInTurns_20 okMX12_commonly wd_1615 kd_205 rfl rfl rfl (Nat.le_of_ble_eq_true rfl) ⟨Nat.le_of_ble_eq_true rfl, Nat.le_of_ble_eq_true rfl⟩ hs13 ?_
    rintro v9 ⟨i15, l16, dd17, x18⟩ E9 - ⟨rfl, rfl, hp19⟩
    show ab_Fr MX12_lostInTurns (d + 1) Q 23 [some (.ref 205), some (.long a1), none, some (.int a3)] [.long r11, .long a1] (0, 0) (i15, l16, dd17, x18) (ab_E0 sc)
    refine ab_ladd dX12_lostInTurns_23 ?_
    refine ab_lstoren dX12_lostInTurns_24 (Nat.le_of_ble_eq_true rfl) (L2 := [some (.ref 205), some (.long (a1 + r11)), none, some (.int a3)]) rfl ?_
    refine ab_iinc (v := (a3 + 1)) dX12_lostInTurns_25 rfl (by rfl) (Nat.le_of_ble_eq_true rfl) (L2 := [some (.ref 205), some (.long (a1 + r11)), none, some (.int (a3 + 1))]) rfl ?_
    refine ab_goto (tgt := 4) dX12_lostInTurns_28 (by decide) ?_
    exact (hk14 i15 l16 dd17 x18 hp19)
theorem tMX12_herd_0 {d : Nat} {Q : ab_Qt} {sc : Nat × (Nat → Int32)} {i : Nat → Nat → Int32} {l : Nat → Nat → Int64} {dd : Nat → Nat → Value} {x : Nat} {a1 : Int32} 
    (h : (∀ i1, i1 = ab_u i 205 0 0 → ((¬ (i1 205 52) = 0 → ((¬ a1 = 0 → ((¬ a1 = 1 → ((¬ a1 = 2 → Q (some (some (.long (-1)))) (i1, l, dd, x) (ab_E0 sc)) ∧ (a1 = 2 → Q (some (some (.long (l 205 55)))) (i1, l, dd, x) (ab_E0 sc)))) ∧ (a1 = 1 → Q (some (some (.long (l 205 54)))) (i1, l, dd, x) (ab_E0 sc)))) ∧ (a1 = 0 → Q (some (some (.long (l 205 53)))) (i1, l, dd, x) (ab_E0 sc)))) ∧ ((i1 205 52) = 0 → Q (some (some (.long (-1)))) (i1, l, dd, x) (ab_E0 sc))))) :
    ab_Fr MX12_herd (d + 1) Q 0 [some (.ref 205), some (.int a1)] [] (0, 0) (i, l, dd, x) (ab_E0 sc) := by
  refine ab_aloadn dX12_herd_0 rfl ?_
  refine ab_iconst (v := 0) dX12_herd_1 (by decide) ?_
  refine ab_putI dX12_herd_2 fl_X12_149 kd_205 rfl ?_
  obtain ⟨i1, e2⟩ : ∃ z, z = ab_u i 205 0 0 := ⟨_, rfl⟩
  show ab_Fr MX12_herd (d + 1) Q 5 [some (.ref 205), some (.int a1)] [] (0, 0) (ab_u i 205 0 0, l, dd, x) (ab_E0 sc)
  rw [show ab_u i 205 0 0 = i1 from e2.symm]
  refine ab_aloadn dX12_herd_5 rfl ?_
  refine ab_getf (v := .int (i1 205 52)) dX12_herd_6 fl_X12_405 kd_205 rfl ?_
  refine ab_if_ne (tgt := 16) dX12_herd_9 (by decide) (fun c3 => ?_) (fun c3 => ?_)
  · refine ab_iloadn dX12_herd_16 rfl ?_
    refine ab_if_ne (tgt := 27) dX12_herd_17 (by decide) (fun c4 => ?_) (fun c4 => ?_)
    · refine ab_iloadn dX12_herd_27 rfl ?_
      refine ab_iconst (v := 1) dX12_herd_28 (by decide) ?_
      refine ab_icmp_ne (tgt := 39) dX12_herd_29 (by decide) (fun c5 => ?_) (fun c5 => ?_)
      · refine ab_iloadn dX12_herd_39 rfl ?_
        refine ab_iconst (v := 2) dX12_herd_40 (by decide) ?_
        refine ab_icmp_ne (tgt := 51) dX12_herd_41 (by decide) (fun c6 => ?_) (fun c6 => ?_)
        · refine ab_ldc2 dX12_herd_51 wd_1257 ?_
          exact ab_lret dX12_herd_54 rfl ⟨Nat.zero_le _, Nat.zero_le _⟩ (((((h i1 e2).1 c3).1 c4).1 c5).1 c6)
        · refine ab_aloadn dX12_herd_44 rfl ?_
          refine ab_getf (v := .long (l 205 55)) dX12_herd_45 fl_X12_417 kd_205 rfl ?_
          refine ab_goto (tgt := 54) dX12_herd_48 (by decide) ?_
          exact ab_lret dX12_herd_54 rfl ⟨Nat.zero_le _, Nat.zero_le _⟩ (((((h i1 e2).1 c3).1 c4).1 c5).2 c6)
      · refine ab_aloadn dX12_herd_32 rfl ?_
        refine ab_getf (v := .long (l 205 54)) dX12_herd_33 fl_X12_414 kd_205 rfl ?_
        refine ab_goto (tgt := 54) dX12_herd_36 (by decide) ?_
        exact ab_lret dX12_herd_54 rfl ⟨Nat.zero_le _, Nat.zero_le _⟩ ((((h i1 e2).1 c3).1 c4).2 c5)
    · refine ab_aloadn dX12_herd_20 rfl ?_
      refine ab_getf (v := .long (l 205 53)) dX12_herd_21 fl_X12_411 kd_205 rfl ?_
      refine ab_goto (tgt := 54) dX12_herd_24 (by decide) ?_
      exact ab_lret dX12_herd_54 rfl ⟨Nat.zero_le _, Nat.zero_le _⟩ (((h i1 e2).1 c3).2 c4)
  · refine ab_ldc2 dX12_herd_12 wd_1257 ?_
    exact ab_lret dX12_herd_15 rfl ⟨Nat.zero_le _, Nat.zero_le _⟩ ((h i1 e2).2 c3)
theorem tMX12_says_0 {d : Nat} {Q : ab_Qt} {sc : Nat × (Nat → Int32)} {i : Nat → Nat → Int32} {l : Nat → Nat → Int64} {dd : Nat → Nat → Value} {x : Nat}  
    (h : (∀ i1, i1 = ab_u i 205 0 0 → ∃ (r3 : Int32) (P4 : ab_S → Prop), ab_Sp MX12_speakTold d [.ref 205] (i1, l, dd, x) (ab_E0 sc) (some (.int r3)) P4 ∧ ∀ i7 l8 dd9 x10, P4 (i7, l8, dd9, x10) → ((¬ r3 = 0 → ab_Fr MX12_says (d + 1) Q 18 [some (.ref 205), some (.int 0), some (.int 0)] [] (0, 0) (i7, l8, dd9, x10) (ab_E0 sc)) ∧ (r3 = 0 → Q (some (some (.int (-1)))) (i7, l8, dd9, x10) (ab_E0 sc))))) :
    ab_Fr MX12_says (d + 1) Q 0 [some (.ref 205), none, none] [] (0, 0) (i, l, dd, x) (ab_E0 sc) := by
  refine ab_aloadn dX12_says_0 rfl ?_
  refine ab_iconst (v := 0) dX12_says_1 (by decide) ?_
  refine ab_putI dX12_says_2 fl_X12_149 kd_205 rfl ?_
  obtain ⟨i1, e2⟩ : ∃ z, z = ab_u i 205 0 0 := ⟨_, rfl⟩
  show ab_Fr MX12_says (d + 1) Q 5 [some (.ref 205), none, none] [] (0, 0) (ab_u i 205 0 0, l, dd, x) (ab_E0 sc)
  rw [show ab_u i 205 0 0 = i1 from e2.symm]
  refine ab_aloadn dX12_says_5 rfl ?_
  obtain ⟨r3, P4, hs5, hk6⟩ := (h i1 e2)
  refine ab_callV (vs := []) (st := []) dX12_says_6 okMX12_speakTold wd_1692 kd_205 rfl rfl rfl (Nat.le_of_ble_eq_true rfl) ⟨Nat.le_of_ble_eq_true rfl, Nat.le_of_ble_eq_true rfl⟩ hs5 ?_
  rintro v9 ⟨i7, l8, dd9, x10⟩ E9 - ⟨rfl, rfl, hp11⟩
  show ab_Fr MX12_says (d + 1) Q 9 [some (.ref 205), none, none] [.int r3] (0, 0) (i7, l8, dd9, x10) (ab_E0 sc)
  refine ab_if_ne (tgt := 14) dX12_says_9 (by decide) (fun c12 => ?_) (fun c12 => ?_)
  · refine ab_iconst (v := 0) dX12_says_14 (by decide) ?_
    refine ab_istoren dX12_says_15 (Nat.le_of_ble_eq_true rfl) (L2 := [some (.ref 205), some (.int 0), none]) rfl ?_
    refine ab_iconst (v := 0) dX12_says_16 (by decide) ?_
    refine ab_istoren dX12_says_17 (Nat.le_of_ble_eq_true rfl) (L2 := [some (.ref 205), some (.int 0), some (.int 0)]) rfl ?_
    exact ((hk6 i7 l8 dd9 x10 hp11).1 c12)
  · refine ab_iconst (v := (-1)) dX12_says_12 (by decide) ?_
    exact ab_iret dX12_says_13 rfl ⟨Nat.zero_le _, Nat.zero_le _⟩ ((hk6 i7 l8 dd9 x10 hp11).2 c12)
theorem tMX12_says_18 {d : Nat} {Q : ab_Qt} {sc : Nat × (Nat → Int32)} {i : Nat → Nat → Int32} {l : Nat → Nat → Int64} {dd : Nat → Nat → Value} {x : Nat} {a1 : Int32} {a2 : Int32} 
    (h : (((i 205 52) ≤ a2 → Q (some (some (.int a1))) (i, l, dd, x) (ab_E0 sc)) ∧ (¬ (i 205 52) ≤ a2 → (vp_in a2 21 ∧ ab_Fr MX12_says (d + 1) Q 18 [some (.ref 205), some (.int ((10 * a1) + ((i 234 a2.toNatClampNeg) &&& 7))), some (.int (a2 + 1))] [] (0, 0) (i, l, dd, x) (ab_E0 sc))))) :
    ab_Fr MX12_says (d + 1) Q 18 [some (.ref 205), some (.int a1), some (.int a2)] [] (0, 0) (i, l, dd, x) (ab_E0 sc) := by
  refine ab_iloadn dX12_says_18 rfl ?_
  refine ab_aloadn dX12_says_19 rfl ?_
  refine ab_getf (v := .int (i 205 52)) dX12_says_20 fl_X12_405 kd_205 rfl ?_
  refine ab_icmp_ge (tgt := 47) dX12_says_23 (by decide) (fun c1 => ?_) (fun c1 => ?_)
  · refine ab_iloadn dX12_says_47 rfl ?_
    exact ab_iret dX12_says_48 rfl ⟨Nat.zero_le _, Nat.zero_le _⟩ (h.1 c1)
  · refine ab_bipush (v := 10) dX12_says_26 (by decide) ?_
    refine ab_iloadn dX12_says_28 rfl ?_
    refine ab_imul dX12_says_29 ?_
    refine ab_aloadn dX12_says_30 rfl ?_
    refine ab_getf (v := .ref 234) dX12_says_31 fl_X12_95 kd_205 ff_205_46 ?_
    refine ab_iloadn dX12_says_34 rfl ?_
    refine ab_iaload (v := (i 234 a2.toNatClampNeg)) dX12_says_35 kd_234 (h.2 c1).1 rfl ?_
    refine ab_bipush (v := 7) dX12_says_36 (by decide) ?_
    refine ab_iand dX12_says_38 ?_
    refine ab_iadd dX12_says_39 ?_
    refine ab_istoren dX12_says_40 (Nat.le_of_ble_eq_true rfl) (L2 := [some (.ref 205), some (.int ((10 * a1) + ((i 234 a2.toNatClampNeg) &&& 7))), some (.int a2)]) rfl ?_
    refine ab_iinc (v := (a2 + 1)) dX12_says_41 rfl (by rfl) (Nat.le_of_ble_eq_true rfl) (L2 := [some (.ref 205), some (.int ((10 * a1) + ((i 234 a2.toNatClampNeg) &&& 7))), some (.int (a2 + 1))]) rfl ?_
    refine ab_goto (tgt := 18) dX12_says_44 (by decide) ?_
    exact (h.2 c1).2
theorem tMX12_speakTold_0 {d : Nat} {Q : ab_Qt} {sc : Nat × (Nat → Int32)} {i : Nat → Nat → Int32} {l : Nat → Nat → Int64} {dd : Nat → Nat → Value} {x : Nat}  
    (h : (∃ (r1 : Int32) (P2 : ab_S → Prop), ab_Sp MX12_take d [.ref 205] (i, l, dd, x) (ab_E0 sc) (some (.int r1)) P2 ∧ ∀ i5 l6 dd7 x8, P2 (i5, l6, dd7, x8) → (((i5 205 52) = 0 → Q (some (some (.int 0))) (i5, l6, dd7, x8) (ab_E0 sc)) ∧ (¬ (i5 205 52) = 0 → ((r1 = (i5 205 52) → ab_Fr MX12_speakTold (d + 1) Q 24 [some (.ref 205), some (.int r1), some (.int 0), none] [] (0, 0) (i5, l6, dd7, x8) (ab_E0 sc)) ∧ (¬ r1 = (i5 205 52) → Q (some (some (.int 0))) (i5, l6, dd7, x8) (ab_E0 sc))))))) :
    ab_Fr MX12_speakTold (d + 1) Q 0 [some (.ref 205), none, none, none] [] (0, 0) (i, l, dd, x) (ab_E0 sc) := by
  refine ab_aloadn dX12_speakTold_0 rfl ?_
  obtain ⟨r1, P2, hs3, hk4⟩ := h
  refine ab_callV (vs := []) (st := []) dX12_speakTold_1 okMX12_take wd_1418 kd_205 rfl rfl rfl (Nat.le_of_ble_eq_true rfl) ⟨Nat.le_of_ble_eq_true rfl, Nat.le_of_ble_eq_true rfl⟩ hs3 ?_
  rintro v9 ⟨i5, l6, dd7, x8⟩ E9 - ⟨rfl, rfl, hp9⟩
  show ab_Fr MX12_speakTold (d + 1) Q 4 [some (.ref 205), none, none, none] [.int r1] (0, 0) (i5, l6, dd7, x8) (ab_E0 sc)
  refine ab_istoren dX12_speakTold_4 (Nat.le_of_ble_eq_true rfl) (L2 := [some (.ref 205), some (.int r1), none, none]) rfl ?_
  refine ab_aloadn dX12_speakTold_5 rfl ?_
  refine ab_getf (v := .int (i5 205 52)) dX12_speakTold_6 fl_X12_405 kd_205 rfl ?_
  refine ab_if_eq (tgt := 20) dX12_speakTold_9 (by decide) (fun c10 => ?_) (fun c10 => ?_)
  · refine ab_iconst (v := 0) dX12_speakTold_20 (by decide) ?_
    exact ab_zret dX12_speakTold_21 rfl (by decide) ⟨Nat.zero_le _, Nat.zero_le _⟩ ((hk4 i5 l6 dd7 x8 hp9).1 c10)
  · refine ab_iloadn dX12_speakTold_12 rfl ?_
    refine ab_aloadn dX12_speakTold_13 rfl ?_
    refine ab_getf (v := .int (i5 205 52)) dX12_speakTold_14 fl_X12_405 kd_205 rfl ?_
    refine ab_icmp_eq (tgt := 22) dX12_speakTold_17 (by decide) (fun c11 => ?_) (fun c11 => ?_)
    · refine ab_iconst (v := 0) dX12_speakTold_22 (by decide) ?_
      refine ab_istoren dX12_speakTold_23 (Nat.le_of_ble_eq_true rfl) (L2 := [some (.ref 205), some (.int r1), some (.int 0), none]) rfl ?_
      exact (((hk4 i5 l6 dd7 x8 hp9).2 c10).1 c11)
    · refine ab_iconst (v := 0) dX12_speakTold_20 (by decide) ?_
      exact ab_zret dX12_speakTold_21 rfl (by decide) ⟨Nat.zero_le _, Nat.zero_le _⟩ (((hk4 i5 l6 dd7 x8 hp9).2 c10).2 c11)
theorem tMX12_speakTold_24 {d : Nat} {Q : ab_Qt} {sc : Nat × (Nat → Int32)} {i : Nat → Nat → Int32} {l : Nat → Nat → Int64} {dd : Nat → Nat → Value} {x : Nat} {a1 : Int32} {a2 : Int32} 
    (h : ((a1 ≤ a2 → ab_Fr MX12_speakTold (d + 1) Q 56 [some (.ref 205), some (.int a1), some (.int 0), some (.int 0)] [] (0, 0) (i, l, dd, x) (ab_E0 sc)) ∧ (¬ a1 ≤ a2 → (vp_in a2 740 ∧ vp_in a2 7 ∧ (((i 206 a2.toNatClampNeg) < (i 240 a2.toNatClampNeg) → ab_Fr MX12_speakTold (d + 1) Q 24 [some (.ref 205), some (.int a1), some (.int (a2 + 1)), none] [] (0, 0) (i, l, dd, x) (ab_E0 sc)) ∧ (¬ (i 206 a2.toNatClampNeg) < (i 240 a2.toNatClampNeg) → Q (some (some (.int 0))) (i, l, dd, x) (ab_E0 sc))))))) :
    ab_Fr MX12_speakTold (d + 1) Q 24 [some (.ref 205), some (.int a1), some (.int a2), none] [] (0, 0) (i, l, dd, x) (ab_E0 sc) := by
  refine ab_iloadn dX12_speakTold_24 rfl ?_
  refine ab_iloadn dX12_speakTold_25 rfl ?_
  refine ab_icmp_ge (tgt := 52) dX12_speakTold_26 (by decide) (fun c1 => ?_) (fun c1 => ?_)
  · refine ab_iconst (v := 0) dX12_speakTold_52 (by decide) ?_
    refine ab_istoren dX12_speakTold_53 (Nat.le_of_ble_eq_true rfl) (L2 := [some (.ref 205), some (.int a1), some (.int 0), none]) rfl ?_
    refine ab_iconst (v := 0) dX12_speakTold_54 (by decide) ?_
    refine ab_istoren dX12_speakTold_55 (Nat.le_of_ble_eq_true rfl) (L2 := [some (.ref 205), some (.int a1), some (.int 0), some (.int 0)]) rfl ?_
    exact (h.1 c1)
  · refine ab_aloadn dX12_speakTold_29 rfl ?_
    refine ab_getf (v := .ref 206) dX12_speakTold_30 fl_X12_7 kd_205 ff_205_1 ?_
    refine ab_iloadn dX12_speakTold_33 rfl ?_
    refine ab_iaload (v := (i 206 a2.toNatClampNeg)) dX12_speakTold_34 kd_206 (h.2 c1).1 rfl ?_
    refine ab_aloadn dX12_speakTold_35 rfl ?_
    refine ab_getf (v := .ref 240) dX12_speakTold_36 fl_X12_115 kd_205 ff_205_57 ?_
    refine ab_iloadn dX12_speakTold_39 rfl ?_
    refine ab_iaload (v := (i 240 a2.toNatClampNeg)) dX12_speakTold_40 kd_240 (h.2 c1).2.1 rfl ?_
    refine ab_icmp_lt (tgt := 46) dX12_speakTold_41 (by decide) (fun c2 => ?_) (fun c2 => ?_)
    · refine ab_iinc (v := (a2 + 1)) dX12_speakTold_46 rfl (by rfl) (Nat.le_of_ble_eq_true rfl) (L2 := [some (.ref 205), some (.int a1), some (.int (a2 + 1)), none]) rfl ?_
      refine ab_goto (tgt := 24) dX12_speakTold_49 (by decide) ?_
      exact ((h.2 c1).2.2.1 c2)
    · refine ab_iconst (v := 0) dX12_speakTold_44 (by decide) ?_
      exact ab_zret dX12_speakTold_45 rfl (by decide) ⟨Nat.zero_le _, Nat.zero_le _⟩ ((h.2 c1).2.2.2 c2)
theorem tMX12_speakTold_56 {d : Nat} {Q : ab_Qt} {sc : Nat × (Nat → Int32)} {i : Nat → Nat → Int32} {l : Nat → Nat → Int64} {dd : Nat → Nat → Value} {x : Nat} {a1 : Int32} {a2 : Int32} {a3 : Int32} 
    (h : ((a1 ≤ a3 → Q (some (some (.int 1))) (i, l, dd, x) (ab_E0 sc)) ∧ (¬ a1 ≤ a3 → (vp_in a3 7 ∧ vp_in (i 238 a3.toNatClampNeg) 740 ∧ vp_in (((6561 * a3) + (3 * a2)) + (i 206 (i 238 a3.toNatClampNeg).toNatClampNeg)) 45927 ∧ vp_in a3 21 ∧ ∀ i2, i2 = ab_u i 234 a3.toNatClampNeg (i 239 (((6561 * a3) + (3 * a2)) + (i 206 (i 238 a3.toNatClampNeg).toNatClampNeg)).toNatClampNeg) → vp_in a3 21 ∧ ab_Fr MX12_speakTold (d + 1) Q 56 [some (.ref 205), some (.int a1), some (.int ((3 * a2) + ((i2 234 a3.toNatClampNeg) &&& 7))), some (.int (a3 + 1))] [] (0, 0) (i2, l, dd, x) (ab_E0 sc))))) :
    ab_Fr MX12_speakTold (d + 1) Q 56 [some (.ref 205), some (.int a1), some (.int a2), some (.int a3)] [] (0, 0) (i, l, dd, x) (ab_E0 sc) := by
  refine ab_iloadn dX12_speakTold_56 rfl ?_
  refine ab_iloadn dX12_speakTold_57 rfl ?_
  refine ab_icmp_ge (tgt := 113) dX12_speakTold_58 (by decide) (fun c1 => ?_) (fun c1 => ?_)
  · refine ab_iconst (v := 1) dX12_speakTold_113 (by decide) ?_
    exact ab_zret dX12_speakTold_114 rfl (by decide) ⟨Nat.zero_le _, Nat.zero_le _⟩ (h.1 c1)
  · refine ab_aloadn dX12_speakTold_61 rfl ?_
    refine ab_getf (v := .ref 234) dX12_speakTold_62 fl_X12_95 kd_205 ff_205_46 ?_
    refine ab_iloadn dX12_speakTold_65 rfl ?_
    refine ab_aloadn dX12_speakTold_66 rfl ?_
    refine ab_getf (v := .ref 239) dX12_speakTold_67 fl_X12_112 kd_205 ff_205_56 ?_
    refine ab_sipush (v := 6561) dX12_speakTold_70 (by decide) ?_
    refine ab_iloadn dX12_speakTold_73 rfl ?_
    refine ab_imul dX12_speakTold_74 ?_
    refine ab_iconst (v := 3) dX12_speakTold_75 (by decide) ?_
    refine ab_iloadn dX12_speakTold_76 rfl ?_
    refine ab_imul dX12_speakTold_77 ?_
    refine ab_iadd dX12_speakTold_78 ?_
    refine ab_aloadn dX12_speakTold_79 rfl ?_
    refine ab_getf (v := .ref 206) dX12_speakTold_80 fl_X12_7 kd_205 ff_205_1 ?_
    refine ab_aloadn dX12_speakTold_83 rfl ?_
    refine ab_getf (v := .ref 238) dX12_speakTold_84 fl_X12_109 kd_205 ff_205_51 ?_
    refine ab_iloadn dX12_speakTold_87 rfl ?_
    refine ab_iaload (v := (i 238 a3.toNatClampNeg)) dX12_speakTold_88 kd_238 (h.2 c1).1 rfl ?_
    refine ab_iaload (v := (i 206 (i 238 a3.toNatClampNeg).toNatClampNeg)) dX12_speakTold_89 kd_206 (h.2 c1).2.1 rfl ?_
    refine ab_iadd dX12_speakTold_90 ?_
    refine ab_iaload (v := (i 239 (((6561 * a3) + (3 * a2)) + (i 206 (i 238 a3.toNatClampNeg).toNatClampNeg)).toNatClampNeg)) dX12_speakTold_91 kd_239 (h.2 c1).2.2.1 rfl ?_
    refine ab_iastore dX12_speakTold_92 kd_234 (h.2 c1).2.2.2.1 ?_
    obtain ⟨i2, e3⟩ : ∃ z, z = ab_u i 234 a3.toNatClampNeg (i 239 (((6561 * a3) + (3 * a2)) + (i 206 (i 238 a3.toNatClampNeg).toNatClampNeg)).toNatClampNeg) := ⟨_, rfl⟩
    rw [show ab_u i 234 a3.toNatClampNeg (i 239 (((6561 * a3) + (3 * a2)) + (i 206 (i 238 a3.toNatClampNeg).toNatClampNeg)).toNatClampNeg) = i2 from e3.symm]
    refine ab_iconst (v := 3) dX12_speakTold_93 (by decide) ?_
    refine ab_iloadn dX12_speakTold_94 rfl ?_
    refine ab_imul dX12_speakTold_95 ?_
    refine ab_aloadn dX12_speakTold_96 rfl ?_
    refine ab_getf (v := .ref 234) dX12_speakTold_97 fl_X12_95 kd_205 ff_205_46 ?_
    refine ab_iloadn dX12_speakTold_100 rfl ?_
    refine ab_iaload (v := (i2 234 a3.toNatClampNeg)) dX12_speakTold_101 kd_234 ((h.2 c1).2.2.2.2 i2 e3).1 rfl ?_
    refine ab_bipush (v := 7) dX12_speakTold_102 (by decide) ?_
    refine ab_iand dX12_speakTold_104 ?_
    refine ab_iadd dX12_speakTold_105 ?_
    refine ab_istoren dX12_speakTold_106 (Nat.le_of_ble_eq_true rfl) (L2 := [some (.ref 205), some (.int a1), some (.int ((3 * a2) + ((i2 234 a3.toNatClampNeg) &&& 7))), some (.int a3)]) rfl ?_
    refine ab_iinc (v := (a3 + 1)) dX12_speakTold_107 rfl (by rfl) (Nat.le_of_ble_eq_true rfl) (L2 := [some (.ref 205), some (.int a1), some (.int ((3 * a2) + ((i2 234 a3.toNatClampNeg) &&& 7))), some (.int (a3 + 1))]) rfl ?_
    refine ab_goto (tgt := 56) dX12_speakTold_110 (by decide) ?_
    exact ((h.2 c1).2.2.2.2 i2 e3).2
theorem tMX12_cliff_0 {d : Nat} {Q : ab_Qt} {sc : Nat × (Nat → Int32)} {i : Nat → Nat → Int32} {l : Nat → Nat → Int64} {dd : Nat → Nat → Value} {x : Nat}  
    (h : (∀ i1, i1 = ab_u i 205 0 0 → ∃ (r3 : Int32) (P4 : ab_S → Prop), ab_Sp MX12_speakTold d [.ref 205] (i1, l, dd, x) (ab_E0 sc) (some (.int r3)) P4 ∧ ∀ i7 l8 dd9 x10, P4 (i7, l8, dd9, x10) → ((r3 = 0 → Q (some (some (.int (-1)))) (i7, l8, dd9, x10) (ab_E0 sc)) ∧ (¬ r3 = 0 → (∃ (r13 : Int32) (P14 : ab_S → Prop), ab_Sp MX12_cliffOfSaid d [.ref 205, .int (i7 205 52)] (i7, l8, dd9, x10) (ab_E0 sc) (some (.int r13)) P14 ∧ ∀ i17 l18 dd19 x20, P14 (i17, l18, dd19, x20) → Q (some (some (.int r13))) (i17, l18, dd19, x20) (ab_E0 sc)))))) :
    ab_Fr MX12_cliff (d + 1) Q 0 [some (.ref 205)] [] (0, 0) (i, l, dd, x) (ab_E0 sc) := by
  refine ab_aloadn dX12_cliff_0 rfl ?_
  refine ab_iconst (v := 0) dX12_cliff_1 (by decide) ?_
  refine ab_putI dX12_cliff_2 fl_X12_149 kd_205 rfl ?_
  obtain ⟨i1, e2⟩ : ∃ z, z = ab_u i 205 0 0 := ⟨_, rfl⟩
  show ab_Fr MX12_cliff (d + 1) Q 5 [some (.ref 205)] [] (0, 0) (ab_u i 205 0 0, l, dd, x) (ab_E0 sc)
  rw [show ab_u i 205 0 0 = i1 from e2.symm]
  refine ab_aloadn dX12_cliff_5 rfl ?_
  obtain ⟨r3, P4, hs5, hk6⟩ := (h i1 e2)
  refine ab_callV (vs := []) (st := []) dX12_cliff_6 okMX12_speakTold wd_1692 kd_205 rfl rfl rfl (Nat.le_of_ble_eq_true rfl) ⟨Nat.le_of_ble_eq_true rfl, Nat.le_of_ble_eq_true rfl⟩ hs5 ?_
  rintro v9 ⟨i7, l8, dd9, x10⟩ E9 - ⟨rfl, rfl, hp11⟩
  show ab_Fr MX12_cliff (d + 1) Q 9 [some (.ref 205)] [.int r3] (0, 0) (i7, l8, dd9, x10) (ab_E0 sc)
  refine ab_if_eq (tgt := 23) dX12_cliff_9 (by decide) (fun c12 => ?_) (fun c12 => ?_)
  · refine ab_iconst (v := (-1)) dX12_cliff_23 (by decide) ?_
    exact ab_iret dX12_cliff_24 rfl ⟨Nat.zero_le _, Nat.zero_le _⟩ ((hk6 i7 l8 dd9 x10 hp11).1 c12)
  · refine ab_aloadn dX12_cliff_12 rfl ?_
    refine ab_aloadn dX12_cliff_13 rfl ?_
    refine ab_getf (v := .int (i7 205 52)) dX12_cliff_14 fl_X12_405 kd_205 rfl ?_
    obtain ⟨r13, P14, hs15, hk16⟩ := ((hk6 i7 l8 dd9 x10 hp11).2 c12)
    refine ab_callV (vs := [.int (i7 205 52)]) (st := []) dX12_cliff_17 okMX12_cliffOfSaid wd_1678 kd_205 rfl rfl rfl (Nat.le_of_ble_eq_true rfl) ⟨Nat.le_of_ble_eq_true rfl, Nat.le_of_ble_eq_true rfl⟩ hs15 ?_
    rintro v9 ⟨i17, l18, dd19, x20⟩ E9 - ⟨rfl, rfl, hp21⟩
    show ab_Fr MX12_cliff (d + 1) Q 20 [some (.ref 205)] [.int r13] (0, 0) (i17, l18, dd19, x20) (ab_E0 sc)
    refine ab_goto (tgt := 24) dX12_cliff_20 (by decide) ?_
    exact ab_iret dX12_cliff_24 rfl ⟨Nat.zero_le _, Nat.zero_le _⟩ (hk16 i17 l18 dd19 x20 hp21)
theorem tMX12_bestOrder_0 {d : Nat} {Q : ab_Qt} {sc : Nat × (Nat → Int32)} {i : Nat → Nat → Int32} {l : Nat → Nat → Int64} {dd : Nat → Nat → Value} {x : Nat}  
    (h : (∀ i1, i1 = ab_u i 205 0 0 → (((i1 205 30) = 0 → Q (some (some (.int (-1)))) (i1, l, dd, x) (ab_E0 sc)) ∧ (¬ (i1 205 30) = 0 → (((i1 205 30) ≤ 5 → (∀ i5, i5 = ab_u i1 205 50 (i1 205 30) → ab_Fr MX12_bestOrder (d + 1) Q 32 [some (.ref 205), some (.int 0), none, none, none, none, none, none] [] (0, 0) (i5, l, dd, x) (ab_E0 sc))) ∧ (¬ (i1 205 30) ≤ 5 → Q (some (some (.int (-1)))) (i1, l, dd, x) (ab_E0 sc))))))) :
    ab_Fr MX12_bestOrder (d + 1) Q 0 [some (.ref 205), none, none, none, none, none, none, none] [] (0, 0) (i, l, dd, x) (ab_E0 sc) := by
  refine ab_aloadn dX12_bestOrder_0 rfl ?_
  refine ab_iconst (v := 0) dX12_bestOrder_1 (by decide) ?_
  refine ab_putI dX12_bestOrder_2 fl_X12_149 kd_205 rfl ?_
  obtain ⟨i1, e2⟩ : ∃ z, z = ab_u i 205 0 0 := ⟨_, rfl⟩
  show ab_Fr MX12_bestOrder (d + 1) Q 5 [some (.ref 205), none, none, none, none, none, none, none] [] (0, 0) (ab_u i 205 0 0, l, dd, x) (ab_E0 sc)
  rw [show ab_u i 205 0 0 = i1 from e2.symm]
  refine ab_aloadn dX12_bestOrder_5 rfl ?_
  refine ab_getf (v := .int (i1 205 30)) dX12_bestOrder_6 fl_X12_306 kd_205 rfl ?_
  refine ab_if_eq (tgt := 20) dX12_bestOrder_9 (by decide) (fun c3 => ?_) (fun c3 => ?_)
  · refine ab_iconst (v := (-1)) dX12_bestOrder_20 (by decide) ?_
    exact ab_iret dX12_bestOrder_21 rfl ⟨Nat.zero_le _, Nat.zero_le _⟩ ((h i1 e2).1 c3)
  · refine ab_aloadn dX12_bestOrder_12 rfl ?_
    refine ab_getf (v := .int (i1 205 30)) dX12_bestOrder_13 fl_X12_306 kd_205 rfl ?_
    refine ab_iconst (v := 5) dX12_bestOrder_16 (by decide) ?_
    refine ab_icmp_le (tgt := 22) dX12_bestOrder_17 (by decide) (fun c4 => ?_) (fun c4 => ?_)
    · refine ab_aloadn dX12_bestOrder_22 rfl ?_
      refine ab_aloadn dX12_bestOrder_23 rfl ?_
      refine ab_getf (v := .int (i1 205 30)) dX12_bestOrder_24 fl_X12_306 kd_205 rfl ?_
      refine ab_putI dX12_bestOrder_27 fl_X12_399 kd_205 rfl ?_
      obtain ⟨i5, e6⟩ : ∃ z, z = ab_u i1 205 50 (i1 205 30) := ⟨_, rfl⟩
      show ab_Fr MX12_bestOrder (d + 1) Q 30 [some (.ref 205), none, none, none, none, none, none, none] [] (0, 0) (ab_u i1 205 50 (i1 205 30), l, dd, x) (ab_E0 sc)
      rw [show ab_u i1 205 50 (i1 205 30) = i5 from e6.symm]
      refine ab_iconst (v := 0) dX12_bestOrder_30 (by decide) ?_
      refine ab_istoren dX12_bestOrder_31 (Nat.le_of_ble_eq_true rfl) (L2 := [some (.ref 205), some (.int 0), none, none, none, none, none, none]) rfl ?_
      exact ((((h i1 e2).2 c3).1 c4) i5 e6)
    · refine ab_iconst (v := (-1)) dX12_bestOrder_20 (by decide) ?_
      exact ab_iret dX12_bestOrder_21 rfl ⟨Nat.zero_le _, Nat.zero_le _⟩ (((h i1 e2).2 c3).2 c4)
theorem tMX12_bestOrder_32 {d : Nat} {Q : ab_Qt} {sc : Nat × (Nat → Int32)} {i : Nat → Nat → Int32} {l : Nat → Nat → Int64} {dd : Nat → Nat → Value} {x : Nat} {a1 : Int32} 
    (h : (((i 205 30) ≤ a1 → ab_Fr MX12_bestOrder (d + 1) Q 62 [some (.ref 205), some (.long 1000000000000000000), none, some (.int (-1)), some (.int 1), none, none, none] [] (0, 0) (i, l, dd, x) (ab_E0 sc)) ∧ (¬ (i 205 30) ≤ a1 → (vp_in a1 7 ∧ ∀ i2, i2 = ab_u i 232 a1.toNatClampNeg a1 → ab_Fr MX12_bestOrder (d + 1) Q 32 [some (.ref 205), some (.int (a1 + 1)), none, none, none, none, none, none] [] (0, 0) (i2, l, dd, x) (ab_E0 sc))))) :
    ab_Fr MX12_bestOrder (d + 1) Q 32 [some (.ref 205), some (.int a1), none, none, none, none, none, none] [] (0, 0) (i, l, dd, x) (ab_E0 sc) := by
  refine ab_iloadn dX12_bestOrder_32 rfl ?_
  refine ab_aloadn dX12_bestOrder_33 rfl ?_
  refine ab_getf (v := .int (i 205 30)) dX12_bestOrder_34 fl_X12_306 kd_205 rfl ?_
  refine ab_icmp_ge (tgt := 53) dX12_bestOrder_37 (by decide) (fun c1 => ?_) (fun c1 => ?_)
  · refine ab_ldc2 dX12_bestOrder_53 wd_1703 ?_
    refine ab_lstoren dX12_bestOrder_56 (Nat.le_of_ble_eq_true rfl) (L2 := [some (.ref 205), some (.long 1000000000000000000), none, none, none, none, none, none]) rfl ?_
    refine ab_iconst (v := (-1)) dX12_bestOrder_57 (by decide) ?_
    refine ab_istoren dX12_bestOrder_58 (Nat.le_of_ble_eq_true rfl) (L2 := [some (.ref 205), some (.long 1000000000000000000), none, some (.int (-1)), none, none, none, none]) rfl ?_
    refine ab_iconst (v := 1) dX12_bestOrder_59 (by decide) ?_
    refine ab_istore dX12_bestOrder_60 (Nat.le_of_ble_eq_true rfl) (L2 := [some (.ref 205), some (.long 1000000000000000000), none, some (.int (-1)), some (.int 1), none, none, none]) rfl ?_
    exact (h.1 c1)
  · refine ab_aloadn dX12_bestOrder_40 rfl ?_
    refine ab_getf (v := .ref 232) dX12_bestOrder_41 fl_X12_89 kd_205 ff_205_44 ?_
    refine ab_iloadn dX12_bestOrder_44 rfl ?_
    refine ab_iloadn dX12_bestOrder_45 rfl ?_
    refine ab_iastore dX12_bestOrder_46 kd_232 (h.2 c1).1 ?_
    obtain ⟨i2, e3⟩ : ∃ z, z = ab_u i 232 a1.toNatClampNeg a1 := ⟨_, rfl⟩
    rw [show ab_u i 232 a1.toNatClampNeg a1 = i2 from e3.symm]
    refine ab_iinc (v := (a1 + 1)) dX12_bestOrder_47 rfl (by rfl) (Nat.le_of_ble_eq_true rfl) (L2 := [some (.ref 205), some (.int (a1 + 1)), none, none, none, none, none, none]) rfl ?_
    refine ab_goto (tgt := 32) dX12_bestOrder_50 (by decide) ?_
    exact ((h.2 c1).2 i2 e3)
theorem tMX12_bestOrder_62 {d : Nat} {Q : ab_Qt} {sc : Nat × (Nat → Int32)} {i : Nat → Nat → Int32} {l : Nat → Nat → Int64} {dd : Nat → Nat → Value} {x : Nat} {a1 : Int64} {a3 : Int32} {a4 : Int32} 
    (h : ((a4 = 0 → Q (some (some (.int a3))) (i, l, dd, x) (ab_E0 sc)) ∧ (¬ a4 = 0 → (∃ (P3 : ab_S → Prop), ab_Sp MX12_speak d [.ref 205] (i, l, dd, x) (ab_E0 sc) (none) P3 ∧ ∀ i6 l7 dd8 x9, P3 (i6, l7, dd8, x9) → ∃ (r11 : Int64) (P12 : ab_S → Prop), ab_Sp MX12_lostInTurns d [.ref 205] (i6, l7, dd8, x9) (ab_E0 sc) (some (.long r11)) P12 ∧ ∀ i15 l16 dd17 x18, P12 (i15, l16, dd17, x18) → ((¬ r11 < a1 → ab_Fr MX12_bestOrder (d + 1) Q 120 [some (.ref 205), some (.long a1), none, some (.int a3), none, none, none, none] [] (0, 0) (i15, l16, dd17, x18) (ab_E0 sc)) ∧ (r11 < a1 → ab_Fr MX12_bestOrder (d + 1) Q 92 [some (.ref 205), some (.long r11), none, some (.int 0), none, none, none, some (.int 0)] [] (0, 0) (i15, l16, dd17, x18) (ab_E0 sc))))))) :
    ab_Fr MX12_bestOrder (d + 1) Q 62 [some (.ref 205), some (.long a1), none, some (.int a3), some (.int a4), none, none, none] [] (0, 0) (i, l, dd, x) (ab_E0 sc) := by
  refine ab_iload dX12_bestOrder_62 rfl ?_
  refine ab_if_eq (tgt := 129) dX12_bestOrder_64 (by decide) (fun c1 => ?_) (fun c1 => ?_)
  · refine ab_iloadn dX12_bestOrder_129 rfl ?_
    exact ab_iret dX12_bestOrder_130 rfl ⟨Nat.zero_le _, Nat.zero_le _⟩ (h.1 c1)
  · refine ab_aloadn dX12_bestOrder_67 rfl ?_
    obtain ⟨P3, hs4, hk5⟩ := (h.2 c1)
    refine ab_callV (vs := []) (st := []) dX12_bestOrder_68 okMX12_speak wd_1672 kd_205 rfl rfl rfl (Nat.le_of_ble_eq_true rfl) ⟨Nat.le_of_ble_eq_true rfl, Nat.le_of_ble_eq_true rfl⟩ hs4 ?_
    rintro v9 ⟨i6, l7, dd8, x9⟩ E9 - ⟨rfl, rfl, hp10⟩
    show ab_Fr MX12_bestOrder (d + 1) Q 71 [some (.ref 205), some (.long a1), none, some (.int a3), some (.int a4), none, none, none] [] (0, 0) (i6, l7, dd8, x9) (ab_E0 sc)
    refine ab_aloadn dX12_bestOrder_71 rfl ?_
    obtain ⟨r11, P12, hs13, hk14⟩ := (hk5 i6 l7 dd8 x9 hp10)
    refine ab_callV (vs := []) (st := []) dX12_bestOrder_72 okMX12_lostInTurns wd_1681 kd_205 rfl rfl rfl (Nat.le_of_ble_eq_true rfl) ⟨Nat.le_of_ble_eq_true rfl, Nat.le_of_ble_eq_true rfl⟩ hs13 ?_
    rintro v9 ⟨i15, l16, dd17, x18⟩ E9 - ⟨rfl, rfl, hp19⟩
    show ab_Fr MX12_bestOrder (d + 1) Q 75 [some (.ref 205), some (.long a1), none, some (.int a3), some (.int a4), none, none, none] [.long r11] (0, 0) (i15, l16, dd17, x18) (ab_E0 sc)
    refine ab_lstore dX12_bestOrder_75 (Nat.le_of_ble_eq_true rfl) (L2 := [some (.ref 205), some (.long a1), none, some (.int a3), some (.int a4), some (.long r11), none, none]) rfl ?_
    refine ab_lload dX12_bestOrder_77 rfl ?_
    refine ab_lloadn dX12_bestOrder_79 rfl ?_
    refine ab_lcge (tgt := 120) dX12_bestOrder_80 dX12_bestOrder_81 (by decide) (fun c20 => ?_) (fun c20 => ?_)
    · refine ab_forget (i := 4) (L2 := [some (.ref 205), some (.long a1), none, some (.int a3), none, some (.long r11), none, none]) rfl ?_
      refine ab_forget (i := 5) (L2 := [some (.ref 205), some (.long a1), none, some (.int a3), none, none, none, none]) rfl ?_
      exact ((hk14 i15 l16 dd17 x18 hp19).1 c20)
    · refine ab_lload dX12_bestOrder_84 rfl ?_
      refine ab_lstoren dX12_bestOrder_86 (Nat.le_of_ble_eq_true rfl) (L2 := [some (.ref 205), some (.long r11), none, some (.int a3), some (.int a4), some (.long r11), none, none]) rfl ?_
      refine ab_iconst (v := 0) dX12_bestOrder_87 (by decide) ?_
      refine ab_istoren dX12_bestOrder_88 (Nat.le_of_ble_eq_true rfl) (L2 := [some (.ref 205), some (.long r11), none, some (.int 0), some (.int a4), some (.long r11), none, none]) rfl ?_
      refine ab_iconst (v := 0) dX12_bestOrder_89 (by decide) ?_
      refine ab_istore dX12_bestOrder_90 (Nat.le_of_ble_eq_true rfl) (L2 := [some (.ref 205), some (.long r11), none, some (.int 0), some (.int a4), some (.long r11), none, some (.int 0)]) rfl ?_
      refine ab_forget (i := 4) (L2 := [some (.ref 205), some (.long r11), none, some (.int 0), none, some (.long r11), none, some (.int 0)]) rfl ?_
      refine ab_forget (i := 5) (L2 := [some (.ref 205), some (.long r11), none, some (.int 0), none, none, none, some (.int 0)]) rfl ?_
      exact ((hk14 i15 l16 dd17 x18 hp19).2 c20)
theorem tMX12_bestOrder_92 {d : Nat} {Q : ab_Qt} {sc : Nat × (Nat → Int32)} {i : Nat → Nat → Int32} {l : Nat → Nat → Int64} {dd : Nat → Nat → Value} {x : Nat} {a1 : Int64} {a3 : Int32} {a7 : Int32} 
    (h : (((i 205 30) ≤ a7 → ab_Fr MX12_bestOrder (d + 1) Q 120 [some (.ref 205), some (.long a1), none, some (.int a3), none, none, none, none] [] (0, 0) (i, l, dd, x) (ab_E0 sc)) ∧ (¬ (i 205 30) ≤ a7 → (vp_in a7 7 ∧ ab_Fr MX12_bestOrder (d + 1) Q 92 [some (.ref 205), some (.long a1), none, some (.int ((10 * a3) + (i 232 a7.toNatClampNeg))), none, none, none, some (.int (a7 + 1))] [] (0, 0) (i, l, dd, x) (ab_E0 sc))))) :
    ab_Fr MX12_bestOrder (d + 1) Q 92 [some (.ref 205), some (.long a1), none, some (.int a3), none, none, none, some (.int a7)] [] (0, 0) (i, l, dd, x) (ab_E0 sc) := by
  refine ab_iload dX12_bestOrder_92 rfl ?_
  refine ab_aloadn dX12_bestOrder_94 rfl ?_
  refine ab_getf (v := .int (i 205 30)) dX12_bestOrder_95 fl_X12_306 kd_205 rfl ?_
  refine ab_icmp_ge (tgt := 120) dX12_bestOrder_98 (by decide) (fun c1 => ?_) (fun c1 => ?_)
  · refine ab_forget (i := 7) (L2 := [some (.ref 205), some (.long a1), none, some (.int a3), none, none, none, none]) rfl ?_
    exact (h.1 c1)
  · refine ab_bipush (v := 10) dX12_bestOrder_101 (by decide) ?_
    refine ab_iloadn dX12_bestOrder_103 rfl ?_
    refine ab_imul dX12_bestOrder_104 ?_
    refine ab_aloadn dX12_bestOrder_105 rfl ?_
    refine ab_getf (v := .ref 232) dX12_bestOrder_106 fl_X12_89 kd_205 ff_205_44 ?_
    refine ab_iload dX12_bestOrder_109 rfl ?_
    refine ab_iaload (v := (i 232 a7.toNatClampNeg)) dX12_bestOrder_111 kd_232 (h.2 c1).1 rfl ?_
    refine ab_iadd dX12_bestOrder_112 ?_
    refine ab_istoren dX12_bestOrder_113 (Nat.le_of_ble_eq_true rfl) (L2 := [some (.ref 205), some (.long a1), none, some (.int ((10 * a3) + (i 232 a7.toNatClampNeg))), none, none, none, some (.int a7)]) rfl ?_
    refine ab_iinc (v := (a7 + 1)) dX12_bestOrder_114 rfl (by rfl) (Nat.le_of_ble_eq_true rfl) (L2 := [some (.ref 205), some (.long a1), none, some (.int ((10 * a3) + (i 232 a7.toNatClampNeg))), none, none, none, some (.int (a7 + 1))]) rfl ?_
    refine ab_goto (tgt := 92) dX12_bestOrder_117 (by decide) ?_
    exact (h.2 c1).2
theorem tMX12_bestOrder_120 {d : Nat} {Q : ab_Qt} {sc : Nat × (Nat → Int32)} {i : Nat → Nat → Int32} {l : Nat → Nat → Int64} {dd : Nat → Nat → Value} {x : Nat} {a1 : Int64} {a3 : Int32} 
    (h : (∃ (r1 : Int32) (P2 : ab_S → Prop), ab_Sp MX12_goOn d [.ref 205] (i, l, dd, x) (ab_E0 sc) (some (.int r1)) P2 ∧ ∀ i5 l6 dd7 x8, P2 (i5, l6, dd7, x8) → ab_Fr MX12_bestOrder (d + 1) Q 62 [some (.ref 205), some (.long a1), none, some (.int a3), some (.int r1), none, none, none] [] (0, 0) (i5, l6, dd7, x8) (ab_E0 sc))) :
    ab_Fr MX12_bestOrder (d + 1) Q 120 [some (.ref 205), some (.long a1), none, some (.int a3), none, none, none, none] [] (0, 0) (i, l, dd, x) (ab_E0 sc) := by
  refine ab_aloadn dX12_bestOrder_120 rfl ?_
  obtain ⟨r1, P2, hs3, hk4⟩ := h
  refine ab_callV (vs := []) (st := []) dX12_bestOrder_121 okMX12_goOn wd_1704 kd_205 rfl rfl rfl (Nat.le_of_ble_eq_true rfl) ⟨Nat.le_of_ble_eq_true rfl, Nat.le_of_ble_eq_true rfl⟩ hs3 ?_
  rintro v9 ⟨i5, l6, dd7, x8⟩ E9 - ⟨rfl, rfl, hp9⟩
  show ab_Fr MX12_bestOrder (d + 1) Q 124 [some (.ref 205), some (.long a1), none, some (.int a3), none, none, none, none] [.int r1] (0, 0) (i5, l6, dd7, x8) (ab_E0 sc)
  refine ab_istore dX12_bestOrder_124 (Nat.le_of_ble_eq_true rfl) (L2 := [some (.ref 205), some (.long a1), none, some (.int a3), some (.int r1), none, none, none]) rfl ?_
  refine ab_goto (tgt := 62) dX12_bestOrder_126 (by decide) ?_
  exact (hk4 i5 l6 dd7 x8 hp9)
theorem tMX12_goOn_0 {d : Nat} {Q : ab_Qt} {sc : Nat × (Nat → Int32)} {i : Nat → Nat → Int32} {l : Nat → Nat → Int64} {dd : Nat → Nat → Value} {x : Nat}  
    (h : ab_Fr MX12_goOn (d + 1) Q 7 [some (.ref 205), some (.int ((i 205 30) - 2)), none, none, none] [] (0, 0) (i, l, dd, x) (ab_E0 sc)) :
    ab_Fr MX12_goOn (d + 1) Q 0 [some (.ref 205), none, none, none, none] [] (0, 0) (i, l, dd, x) (ab_E0 sc) := by
  refine ab_aloadn dX12_goOn_0 rfl ?_
  refine ab_getf (v := .int (i 205 30)) dX12_goOn_1 fl_X12_306 kd_205 rfl ?_
  refine ab_iconst (v := 2) dX12_goOn_4 (by decide) ?_
  refine ab_isub dX12_goOn_5 ?_
  refine ab_istoren dX12_goOn_6 (Nat.le_of_ble_eq_true rfl) (L2 := [some (.ref 205), some (.int ((i 205 30) - 2)), none, none, none]) rfl ?_
  exact h
theorem tMX12_goOn_7 {d : Nat} {Q : ab_Qt} {sc : Nat × (Nat → Int32)} {i : Nat → Nat → Int32} {l : Nat → Nat → Int64} {dd : Nat → Nat → Value} {x : Nat} {a1 : Int32} 
    (h : ((a1 < 0 → ab_Fr MX12_goOn (d + 1) Q 34 [some (.ref 205), some (.int a1), none, none, none] [] (0, 0) (i, l, dd, x) (ab_E0 sc)) ∧ (¬ a1 < 0 → (vp_in a1 7 ∧ vp_in (a1 + 1) 7 ∧ (((i 232 a1.toNatClampNeg) ≤ (i 232 (a1 + 1).toNatClampNeg) → ab_Fr MX12_goOn (d + 1) Q 34 [some (.ref 205), some (.int a1), none, none, none] [] (0, 0) (i, l, dd, x) (ab_E0 sc)) ∧ (¬ (i 232 a1.toNatClampNeg) ≤ (i 232 (a1 + 1).toNatClampNeg) → ab_Fr MX12_goOn (d + 1) Q 7 [some (.ref 205), some (.int (a1 + (-1))), none, none, none] [] (0, 0) (i, l, dd, x) (ab_E0 sc))))))) :
    ab_Fr MX12_goOn (d + 1) Q 7 [some (.ref 205), some (.int a1), none, none, none] [] (0, 0) (i, l, dd, x) (ab_E0 sc) := by
  refine ab_iloadn dX12_goOn_7 rfl ?_
  refine ab_if_lt (tgt := 34) dX12_goOn_8 (by decide) (fun c1 => ?_) (fun c1 => ?_)
  · exact (h.1 c1)
  · refine ab_aloadn dX12_goOn_11 rfl ?_
    refine ab_getf (v := .ref 232) dX12_goOn_12 fl_X12_89 kd_205 ff_205_44 ?_
    refine ab_iloadn dX12_goOn_15 rfl ?_
    refine ab_iaload (v := (i 232 a1.toNatClampNeg)) dX12_goOn_16 kd_232 (h.2 c1).1 rfl ?_
    refine ab_aloadn dX12_goOn_17 rfl ?_
    refine ab_getf (v := .ref 232) dX12_goOn_18 fl_X12_89 kd_205 ff_205_44 ?_
    refine ab_iloadn dX12_goOn_21 rfl ?_
    refine ab_iconst (v := 1) dX12_goOn_22 (by decide) ?_
    refine ab_iadd dX12_goOn_23 ?_
    refine ab_iaload (v := (i 232 (a1 + 1).toNatClampNeg)) dX12_goOn_24 kd_232 (h.2 c1).2.1 rfl ?_
    refine ab_icmp_le (tgt := 34) dX12_goOn_25 (by decide) (fun c2 => ?_) (fun c2 => ?_)
    · exact ((h.2 c1).2.2.1 c2)
    · refine ab_iinc (v := (a1 + (-1))) dX12_goOn_28 rfl (by rfl) (Nat.le_of_ble_eq_true rfl) (L2 := [some (.ref 205), some (.int (a1 + (-1))), none, none, none]) rfl ?_
      refine ab_goto (tgt := 7) dX12_goOn_31 (by decide) ?_
      exact ((h.2 c1).2.2.2 c2)
theorem tMX12_goOn_34 {d : Nat} {Q : ab_Qt} {sc : Nat × (Nat → Int32)} {i : Nat → Nat → Int32} {l : Nat → Nat → Int64} {dd : Nat → Nat → Value} {x : Nat} {a1 : Int32} 
    (h : ((0 ≤ a1 → ab_Fr MX12_goOn (d + 1) Q 47 [some (.ref 205), some (.int a1), some (.int ((i 205 30) - 1)), none, none] [] (0, 0) (i, l, dd, x) (ab_E0 sc)) ∧ (¬ 0 ≤ a1 → Q (some (some (.int 0))) (i, l, dd, x) (ab_E0 sc)))) :
    ab_Fr MX12_goOn (d + 1) Q 34 [some (.ref 205), some (.int a1), none, none, none] [] (0, 0) (i, l, dd, x) (ab_E0 sc) := by
  refine ab_iloadn dX12_goOn_34 rfl ?_
  refine ab_if_ge (tgt := 40) dX12_goOn_35 (by decide) (fun c1 => ?_) (fun c1 => ?_)
  · refine ab_aloadn dX12_goOn_40 rfl ?_
    refine ab_getf (v := .int (i 205 30)) dX12_goOn_41 fl_X12_306 kd_205 rfl ?_
    refine ab_iconst (v := 1) dX12_goOn_44 (by decide) ?_
    refine ab_isub dX12_goOn_45 ?_
    refine ab_istoren dX12_goOn_46 (Nat.le_of_ble_eq_true rfl) (L2 := [some (.ref 205), some (.int a1), some (.int ((i 205 30) - 1)), none, none]) rfl ?_
    exact (h.1 c1)
  · refine ab_iconst (v := 0) dX12_goOn_38 (by decide) ?_
    exact ab_zret dX12_goOn_39 rfl (by decide) ⟨Nat.zero_le _, Nat.zero_le _⟩ (h.2 c1)
theorem tMX12_goOn_47 {d : Nat} {Q : ab_Qt} {sc : Nat × (Nat → Int32)} {i : Nat → Nat → Int32} {l : Nat → Nat → Int64} {dd : Nat → Nat → Value} {x : Nat} {a1 : Int32} {a2 : Int32} 
    (h : (vp_in a2 7 ∧ vp_in a1 7 ∧ (((i 232 a1.toNatClampNeg) ≤ (i 232 a2.toNatClampNeg) → (∃ (P3 : ab_S → Prop), ab_Sp MX12_exchange d [.ref 205, .int a1, .int a2] (i, l, dd, x) (ab_E0 sc) (none) P3 ∧ ∀ i6 l7 dd8 x9, P3 (i6, l7, dd8, x9) → ab_Fr MX12_goOn (d + 1) Q 86 [some (.ref 205), none, none, some (.int (a1 + 1)), some (.int ((i6 205 30) - 1))] [] (0, 0) (i6, l7, dd8, x9) (ab_E0 sc))) ∧ (¬ (i 232 a1.toNatClampNeg) ≤ (i 232 a2.toNatClampNeg) → ab_Fr MX12_goOn (d + 1) Q 47 [some (.ref 205), some (.int a1), some (.int (a2 + (-1))), none, none] [] (0, 0) (i, l, dd, x) (ab_E0 sc))))) :
    ab_Fr MX12_goOn (d + 1) Q 47 [some (.ref 205), some (.int a1), some (.int a2), none, none] [] (0, 0) (i, l, dd, x) (ab_E0 sc) := by
  refine ab_aloadn dX12_goOn_47 rfl ?_
  refine ab_getf (v := .ref 232) dX12_goOn_48 fl_X12_89 kd_205 ff_205_44 ?_
  refine ab_iloadn dX12_goOn_51 rfl ?_
  refine ab_iaload (v := (i 232 a2.toNatClampNeg)) dX12_goOn_52 kd_232 h.1 rfl ?_
  refine ab_aloadn dX12_goOn_53 rfl ?_
  refine ab_getf (v := .ref 232) dX12_goOn_54 fl_X12_89 kd_205 ff_205_44 ?_
  refine ab_iloadn dX12_goOn_57 rfl ?_
  refine ab_iaload (v := (i 232 a1.toNatClampNeg)) dX12_goOn_58 kd_232 h.2.1 rfl ?_
  refine ab_icmp_ge (tgt := 68) dX12_goOn_59 (by decide) (fun c1 => ?_) (fun c1 => ?_)
  · refine ab_aloadn dX12_goOn_68 rfl ?_
    refine ab_iloadn dX12_goOn_69 rfl ?_
    refine ab_iloadn dX12_goOn_70 rfl ?_
    obtain ⟨P3, hs4, hk5⟩ := (h.2.2.1 c1)
    refine ab_callV (vs := [.int a1, .int a2]) (st := []) dX12_goOn_71 okMX12_exchange wd_1707 kd_205 rfl rfl rfl (Nat.le_of_ble_eq_true rfl) ⟨Nat.le_of_ble_eq_true rfl, Nat.le_of_ble_eq_true rfl⟩ hs4 ?_
    rintro v9 ⟨i6, l7, dd8, x9⟩ E9 - ⟨rfl, rfl, hp10⟩
    show ab_Fr MX12_goOn (d + 1) Q 74 [some (.ref 205), some (.int a1), some (.int a2), none, none] [] (0, 0) (i6, l7, dd8, x9) (ab_E0 sc)
    refine ab_iloadn dX12_goOn_74 rfl ?_
    refine ab_iconst (v := 1) dX12_goOn_75 (by decide) ?_
    refine ab_iadd dX12_goOn_76 ?_
    refine ab_istoren dX12_goOn_77 (Nat.le_of_ble_eq_true rfl) (L2 := [some (.ref 205), some (.int a1), some (.int a2), some (.int (a1 + 1)), none]) rfl ?_
    refine ab_aloadn dX12_goOn_78 rfl ?_
    refine ab_getf (v := .int (i6 205 30)) dX12_goOn_79 fl_X12_306 kd_205 rfl ?_
    refine ab_iconst (v := 1) dX12_goOn_82 (by decide) ?_
    refine ab_isub dX12_goOn_83 ?_
    refine ab_istore dX12_goOn_84 (Nat.le_of_ble_eq_true rfl) (L2 := [some (.ref 205), some (.int a1), some (.int a2), some (.int (a1 + 1)), some (.int ((i6 205 30) - 1))]) rfl ?_
    refine ab_forget (i := 1) (L2 := [some (.ref 205), none, some (.int a2), some (.int (a1 + 1)), some (.int ((i6 205 30) - 1))]) rfl ?_
    refine ab_forget (i := 2) (L2 := [some (.ref 205), none, none, some (.int (a1 + 1)), some (.int ((i6 205 30) - 1))]) rfl ?_
    exact (hk5 i6 l7 dd8 x9 hp10)
  · refine ab_iinc (v := (a2 + (-1))) dX12_goOn_62 rfl (by rfl) (Nat.le_of_ble_eq_true rfl) (L2 := [some (.ref 205), some (.int a1), some (.int (a2 + (-1))), none, none]) rfl ?_
    refine ab_goto (tgt := 47) dX12_goOn_65 (by decide) ?_
    exact (h.2.2.2 c1)
theorem tMX12_goOn_86 {d : Nat} {Q : ab_Qt} {sc : Nat × (Nat → Int32)} {i : Nat → Nat → Int32} {l : Nat → Nat → Int64} {dd : Nat → Nat → Value} {x : Nat} {a3 : Int32} {a4 : Int32} 
    (h : ((a4 ≤ a3 → Q (some (some (.int 1))) (i, l, dd, x) (ab_E0 sc)) ∧ (¬ a4 ≤ a3 → (∃ (P3 : ab_S → Prop), ab_Sp MX12_exchange d [.ref 205, .int a3, .int a4] (i, l, dd, x) (ab_E0 sc) (none) P3 ∧ ∀ i6 l7 dd8 x9, P3 (i6, l7, dd8, x9) → ab_Fr MX12_goOn (d + 1) Q 86 [some (.ref 205), none, none, some (.int (a3 + 1)), some (.int (a4 + (-1)))] [] (0, 0) (i6, l7, dd8, x9) (ab_E0 sc))))) :
    ab_Fr MX12_goOn (d + 1) Q 86 [some (.ref 205), none, none, some (.int a3), some (.int a4)] [] (0, 0) (i, l, dd, x) (ab_E0 sc) := by
  refine ab_iloadn dX12_goOn_86 rfl ?_
  refine ab_iload dX12_goOn_87 rfl ?_
  refine ab_icmp_ge (tgt := 108) dX12_goOn_89 (by decide) (fun c1 => ?_) (fun c1 => ?_)
  · refine ab_iconst (v := 1) dX12_goOn_108 (by decide) ?_
    exact ab_zret dX12_goOn_109 rfl (by decide) ⟨Nat.zero_le _, Nat.zero_le _⟩ (h.1 c1)
  · refine ab_aloadn dX12_goOn_92 rfl ?_
    refine ab_iloadn dX12_goOn_93 rfl ?_
    refine ab_iload dX12_goOn_94 rfl ?_
    obtain ⟨P3, hs4, hk5⟩ := (h.2 c1)
    refine ab_callV (vs := [.int a3, .int a4]) (st := []) dX12_goOn_96 okMX12_exchange wd_1707 kd_205 rfl rfl rfl (Nat.le_of_ble_eq_true rfl) ⟨Nat.le_of_ble_eq_true rfl, Nat.le_of_ble_eq_true rfl⟩ hs4 ?_
    rintro v9 ⟨i6, l7, dd8, x9⟩ E9 - ⟨rfl, rfl, hp10⟩
    show ab_Fr MX12_goOn (d + 1) Q 99 [some (.ref 205), none, none, some (.int a3), some (.int a4)] [] (0, 0) (i6, l7, dd8, x9) (ab_E0 sc)
    refine ab_iinc (v := (a3 + 1)) dX12_goOn_99 rfl (by rfl) (Nat.le_of_ble_eq_true rfl) (L2 := [some (.ref 205), none, none, some (.int (a3 + 1)), some (.int a4)]) rfl ?_
    refine ab_iinc (v := (a4 + (-1))) dX12_goOn_102 rfl (by rfl) (Nat.le_of_ble_eq_true rfl) (L2 := [some (.ref 205), none, none, some (.int (a3 + 1)), some (.int (a4 + (-1)))]) rfl ?_
    refine ab_goto (tgt := 86) dX12_goOn_105 (by decide) ?_
    exact (hk5 i6 l7 dd8 x9 hp10)
theorem tMX12_exchange_0 {d : Nat} {Q : ab_Qt} {sc : Nat × (Nat → Int32)} {i : Nat → Nat → Int32} {l : Nat → Nat → Int64} {dd : Nat → Nat → Value} {x : Nat} {a1 : Int32} {a2 : Int32} 
    (h : (vp_in a1 7 ∧ vp_in a2 7 ∧ vp_in a1 7 ∧ ∀ i1, i1 = ab_u i 232 a1.toNatClampNeg (i 232 a2.toNatClampNeg) → vp_in a2 7 ∧ ∀ i3, i3 = ab_u i1 232 a2.toNatClampNeg (i 232 a1.toNatClampNeg) → Q (some none) (i3, l, dd, x) (ab_E0 sc))) :
    ab_Fr MX12_exchange (d + 1) Q 0 [some (.ref 205), some (.int a1), some (.int a2), none] [] (0, 0) (i, l, dd, x) (ab_E0 sc) := by
  refine ab_aloadn dX12_exchange_0 rfl ?_
  refine ab_getf (v := .ref 232) dX12_exchange_1 fl_X12_89 kd_205 ff_205_44 ?_
  refine ab_iloadn dX12_exchange_4 rfl ?_
  refine ab_iaload (v := (i 232 a1.toNatClampNeg)) dX12_exchange_5 kd_232 h.1 rfl ?_
  refine ab_istoren dX12_exchange_6 (Nat.le_of_ble_eq_true rfl) (L2 := [some (.ref 205), some (.int a1), some (.int a2), some (.int (i 232 a1.toNatClampNeg))]) rfl ?_
  refine ab_aloadn dX12_exchange_7 rfl ?_
  refine ab_getf (v := .ref 232) dX12_exchange_8 fl_X12_89 kd_205 ff_205_44 ?_
  refine ab_iloadn dX12_exchange_11 rfl ?_
  refine ab_aloadn dX12_exchange_12 rfl ?_
  refine ab_getf (v := .ref 232) dX12_exchange_13 fl_X12_89 kd_205 ff_205_44 ?_
  refine ab_iloadn dX12_exchange_16 rfl ?_
  refine ab_iaload (v := (i 232 a2.toNatClampNeg)) dX12_exchange_17 kd_232 h.2.1 rfl ?_
  refine ab_iastore dX12_exchange_18 kd_232 h.2.2.1 ?_
  obtain ⟨i1, e2⟩ : ∃ z, z = ab_u i 232 a1.toNatClampNeg (i 232 a2.toNatClampNeg) := ⟨_, rfl⟩
  rw [show ab_u i 232 a1.toNatClampNeg (i 232 a2.toNatClampNeg) = i1 from e2.symm]
  refine ab_aloadn dX12_exchange_19 rfl ?_
  refine ab_getf (v := .ref 232) dX12_exchange_20 fl_X12_89 kd_205 ff_205_44 ?_
  refine ab_iloadn dX12_exchange_23 rfl ?_
  refine ab_iloadn dX12_exchange_24 rfl ?_
  refine ab_iastore dX12_exchange_25 kd_232 (h.2.2.2 i1 e2).1 ?_
  obtain ⟨i3, e4⟩ : ∃ z, z = ab_u i1 232 a2.toNatClampNeg (i 232 a1.toNatClampNeg) := ⟨_, rfl⟩
  rw [show ab_u i1 232 a2.toNatClampNeg (i 232 a1.toNatClampNeg) = i3 from e4.symm]
  exact ab_vret dX12_exchange_26 rfl ⟨Nat.zero_le _, Nat.zero_le _⟩ ((h.2.2.2 i1 e2).2 i3 e4)
theorem tMX12_bestRule_0 {d : Nat} {Q : ab_Qt} {sc : Nat × (Nat → Int32)} {i : Nat → Nat → Int32} {l : Nat → Nat → Int64} {dd : Nat → Nat → Value} {x : Nat}  
    (h : ((¬ (i 205 30) = 0 → (∀ i2, i2 = ab_u i 205 0 0 → ∃ (P5 : ab_S → Prop), ab_Sp MX12_layByVotes d [.ref 205] (i2, l, dd, x) (ab_E0 sc) (none) P5 ∧ ∀ i8 l9 dd10 x11, P5 (i8, l9, dd10, x11) → ab_Fr MX12_bestRule (d + 1) Q 25 [some (.ref 205), some (.long 0), none, some (.int 0)] [] (0, 0) (i8, l9, dd10, x11) (ab_E0 sc))) ∧ ((i 205 30) = 0 → (∃ (r13 : Int64) (P14 : ab_S → Prop), ab_Sp MX12_refuse d [.ref 205] (i, l, dd, x) (ab_E0 sc) (some (.long r13)) P14 ∧ ∀ i17 l18 dd19 x20, P14 (i17, l18, dd19, x20) → Q (some (some (.long r13))) (i17, l18, dd19, x20) (ab_E0 sc))))) :
    ab_Fr MX12_bestRule (d + 1) Q 0 [some (.ref 205), none, none, none] [] (0, 0) (i, l, dd, x) (ab_E0 sc) := by
  refine ab_aloadn dX12_bestRule_0 rfl ?_
  refine ab_getf (v := .int (i 205 30)) dX12_bestRule_1 fl_X12_306 kd_205 rfl ?_
  refine ab_if_ne (tgt := 12) dX12_bestRule_4 (by decide) (fun c1 => ?_) (fun c1 => ?_)
  · refine ab_aloadn dX12_bestRule_12 rfl ?_
    refine ab_iconst (v := 0) dX12_bestRule_13 (by decide) ?_
    refine ab_putI dX12_bestRule_14 fl_X12_149 kd_205 rfl ?_
    obtain ⟨i2, e3⟩ : ∃ z, z = ab_u i 205 0 0 := ⟨_, rfl⟩
    show ab_Fr MX12_bestRule (d + 1) Q 17 [some (.ref 205), none, none, none] [] (0, 0) (ab_u i 205 0 0, l, dd, x) (ab_E0 sc)
    rw [show ab_u i 205 0 0 = i2 from e3.symm]
    refine ab_aloadn dX12_bestRule_17 rfl ?_
    obtain ⟨P5, hs6, hk7⟩ := ((h.1 c1) i2 e3)
    refine ab_callV (vs := []) (st := []) dX12_bestRule_18 okMX12_layByVotes wd_1714 kd_205 rfl rfl rfl (Nat.le_of_ble_eq_true rfl) ⟨Nat.le_of_ble_eq_true rfl, Nat.le_of_ble_eq_true rfl⟩ hs6 ?_
    rintro v9 ⟨i8, l9, dd10, x11⟩ E9 - ⟨rfl, rfl, hp12⟩
    show ab_Fr MX12_bestRule (d + 1) Q 21 [some (.ref 205), none, none, none] [] (0, 0) (i8, l9, dd10, x11) (ab_E0 sc)
    refine ab_lconst (v := 0) dX12_bestRule_21 (by decide) ?_
    refine ab_lstoren dX12_bestRule_22 (Nat.le_of_ble_eq_true rfl) (L2 := [some (.ref 205), some (.long 0), none, none]) rfl ?_
    refine ab_iconst (v := 0) dX12_bestRule_23 (by decide) ?_
    refine ab_istoren dX12_bestRule_24 (Nat.le_of_ble_eq_true rfl) (L2 := [some (.ref 205), some (.long 0), none, some (.int 0)]) rfl ?_
    exact (hk7 i8 l9 dd10 x11 hp12)
  · refine ab_aloadn dX12_bestRule_7 rfl ?_
    obtain ⟨r13, P14, hs15, hk16⟩ := (h.2 c1)
    refine ab_callV (vs := []) (st := []) dX12_bestRule_8 okMX12_refuse wd_1566 kd_205 rfl rfl rfl (Nat.le_of_ble_eq_true rfl) ⟨Nat.le_of_ble_eq_true rfl, Nat.le_of_ble_eq_true rfl⟩ hs15 ?_
    rintro v9 ⟨i17, l18, dd19, x20⟩ E9 - ⟨rfl, rfl, hp21⟩
    show ab_Fr MX12_bestRule (d + 1) Q 11 [some (.ref 205), none, none, none] [.long r13] (0, 0) (i17, l18, dd19, x20) (ab_E0 sc)
    exact ab_lret dX12_bestRule_11 rfl ⟨Nat.zero_le _, Nat.zero_le _⟩ (hk16 i17 l18 dd19 x20 hp21)
theorem tMX12_bestRule_25 {d : Nat} {Q : ab_Qt} {sc : Nat × (Nat → Int32)} {i : Nat → Nat → Int32} {l : Nat → Nat → Int64} {dd : Nat → Nat → Value} {x : Nat} {a1 : Int64} {a3 : Int32} 
    (h : (((1 <<< ((2 * (i 205 30)) &&& 31)) ≤ a3 → Q (some (some (.long a1))) (i, l, dd, x) (ab_E0 sc)) ∧ (¬ (1 <<< ((2 * (i 205 30)) &&& 31)) ≤ a3 → (vp_in a3 16384 ∧ (((i 242 a3.toNatClampNeg) = 0 → ab_Fr MX12_bestRule (d + 1) Q 25 [some (.ref 205), some (.long a1), none, some (.int (a3 + 1))] [] (0, 0) (i, l, dd, x) (ab_E0 sc)) ∧ (¬ (i 242 a3.toNatClampNeg) = 0 → (vp_in (3 * a3) 49152 ∧ vp_in ((3 * a3) + 1) 49152 ∧ vp_in ((3 * a3) + 2) 49152 ∧ ∃ (r3 : Int32) (P4 : ab_S → Prop), ab_Sp MX12_least d [.ref 205, .long (l 241 (3 * a3).toNatClampNeg), .long (l 241 ((3 * a3) + 1).toNatClampNeg), .long (l 241 ((3 * a3) + 2).toNatClampNeg)] (i, l, dd, x) (ab_E0 sc) (some (.int r3)) P4 ∧ ∀ i7 l8 dd9 x10, P4 (i7, l8, dd9, x10) → vp_in ((3 * a3) + r3) 49152 ∧ ab_Fr MX12_bestRule (d + 1) Q 25 [some (.ref 205), some (.long (a1 + (l8 241 ((3 * a3) + r3).toNatClampNeg))), none, some (.int (a3 + 1))] [] (0, 0) (i7, l8, dd9, x10) (ab_E0 sc)))))))) :
    ab_Fr MX12_bestRule (d + 1) Q 25 [some (.ref 205), some (.long a1), none, some (.int a3)] [] (0, 0) (i, l, dd, x) (ab_E0 sc) := by
  refine ab_iloadn dX12_bestRule_25 rfl ?_
  refine ab_iconst (v := 1) dX12_bestRule_26 (by decide) ?_
  refine ab_iconst (v := 2) dX12_bestRule_27 (by decide) ?_
  refine ab_aloadn dX12_bestRule_28 rfl ?_
  refine ab_getf (v := .int (i 205 30)) dX12_bestRule_29 fl_X12_306 kd_205 rfl ?_
  refine ab_imul dX12_bestRule_32 ?_
  refine ab_ishl dX12_bestRule_33 ?_
  refine ab_icmp_ge (tgt := 96) dX12_bestRule_34 (by decide) (fun c1 => ?_) (fun c1 => ?_)
  · refine ab_lloadn dX12_bestRule_96 rfl ?_
    exact ab_lret dX12_bestRule_97 rfl ⟨Nat.zero_le _, Nat.zero_le _⟩ (h.1 c1)
  · refine ab_aloadn dX12_bestRule_37 rfl ?_
    refine ab_getf (v := .ref 242) dX12_bestRule_38 fl_X12_122 kd_205 ff_205_59 ?_
    refine ab_iloadn dX12_bestRule_41 rfl ?_
    refine ab_baload (v := (i 242 a3.toNatClampNeg)) dX12_bestRule_42 kd_242 (h.2 c1).1 rfl ?_
    refine ab_if_eq (tgt := 90) dX12_bestRule_43 (by decide) (fun c2 => ?_) (fun c2 => ?_)
    · refine ab_iinc (v := (a3 + 1)) dX12_bestRule_90 rfl (by rfl) (Nat.le_of_ble_eq_true rfl) (L2 := [some (.ref 205), some (.long a1), none, some (.int (a3 + 1))]) rfl ?_
      refine ab_goto (tgt := 25) dX12_bestRule_93 (by decide) ?_
      exact ((h.2 c1).2.1 c2)
    · refine ab_lloadn dX12_bestRule_46 rfl ?_
      refine ab_aloadn dX12_bestRule_47 rfl ?_
      refine ab_getf (v := .ref 241) dX12_bestRule_48 fl_X12_119 kd_205 ff_205_58 ?_
      refine ab_iconst (v := 3) dX12_bestRule_51 (by decide) ?_
      refine ab_iloadn dX12_bestRule_52 rfl ?_
      refine ab_imul dX12_bestRule_53 ?_
      refine ab_aloadn dX12_bestRule_54 rfl ?_
      refine ab_aloadn dX12_bestRule_55 rfl ?_
      refine ab_getf (v := .ref 241) dX12_bestRule_56 fl_X12_119 kd_205 ff_205_58 ?_
      refine ab_iconst (v := 3) dX12_bestRule_59 (by decide) ?_
      refine ab_iloadn dX12_bestRule_60 rfl ?_
      refine ab_imul dX12_bestRule_61 ?_
      refine ab_laload (v := (l 241 (3 * a3).toNatClampNeg)) dX12_bestRule_62 kd_241 ((h.2 c1).2.2 c2).1 rfl ?_
      refine ab_aloadn dX12_bestRule_63 rfl ?_
      refine ab_getf (v := .ref 241) dX12_bestRule_64 fl_X12_119 kd_205 ff_205_58 ?_
      refine ab_iconst (v := 3) dX12_bestRule_67 (by decide) ?_
      refine ab_iloadn dX12_bestRule_68 rfl ?_
      refine ab_imul dX12_bestRule_69 ?_
      refine ab_iconst (v := 1) dX12_bestRule_70 (by decide) ?_
      refine ab_iadd dX12_bestRule_71 ?_
      refine ab_laload (v := (l 241 ((3 * a3) + 1).toNatClampNeg)) dX12_bestRule_72 kd_241 ((h.2 c1).2.2 c2).2.1 rfl ?_
      refine ab_aloadn dX12_bestRule_73 rfl ?_
      refine ab_getf (v := .ref 241) dX12_bestRule_74 fl_X12_119 kd_205 ff_205_58 ?_
      refine ab_iconst (v := 3) dX12_bestRule_77 (by decide) ?_
      refine ab_iloadn dX12_bestRule_78 rfl ?_
      refine ab_imul dX12_bestRule_79 ?_
      refine ab_iconst (v := 2) dX12_bestRule_80 (by decide) ?_
      refine ab_iadd dX12_bestRule_81 ?_
      refine ab_laload (v := (l 241 ((3 * a3) + 2).toNatClampNeg)) dX12_bestRule_82 kd_241 ((h.2 c1).2.2 c2).2.2.1 rfl ?_
      obtain ⟨r3, P4, hs5, hk6⟩ := ((h.2 c1).2.2 c2).2.2.2
      refine ab_callV (vs := [.long (l 241 (3 * a3).toNatClampNeg), .long (l 241 ((3 * a3) + 1).toNatClampNeg), .long (l 241 ((3 * a3) + 2).toNatClampNeg)]) (st := [.int (3 * a3), .ref 241, .long a1]) dX12_bestRule_83 okMX12_least wd_1537 kd_205 rfl rfl rfl (Nat.le_of_ble_eq_true rfl) ⟨Nat.le_of_ble_eq_true rfl, Nat.le_of_ble_eq_true rfl⟩ hs5 ?_
      rintro v9 ⟨i7, l8, dd9, x10⟩ E9 - ⟨rfl, rfl, hp11⟩
      show ab_Fr MX12_bestRule (d + 1) Q 86 [some (.ref 205), some (.long a1), none, some (.int a3)] [.int r3, .int (3 * a3), .ref 241, .long a1] (0, 0) (i7, l8, dd9, x10) (ab_E0 sc)
      refine ab_iadd dX12_bestRule_86 ?_
      refine ab_laload (v := (l8 241 ((3 * a3) + r3).toNatClampNeg)) dX12_bestRule_87 kd_241 (hk6 i7 l8 dd9 x10 hp11).1 rfl ?_
      refine ab_ladd dX12_bestRule_88 ?_
      refine ab_lstoren dX12_bestRule_89 (Nat.le_of_ble_eq_true rfl) (L2 := [some (.ref 205), some (.long (a1 + (l8 241 ((3 * a3) + r3).toNatClampNeg))), none, some (.int a3)]) rfl ?_
      refine ab_iinc (v := (a3 + 1)) dX12_bestRule_90 rfl (by rfl) (Nat.le_of_ble_eq_true rfl) (L2 := [some (.ref 205), some (.long (a1 + (l8 241 ((3 * a3) + r3).toNatClampNeg))), none, some (.int (a3 + 1))]) rfl ?_
      refine ab_goto (tgt := 25) dX12_bestRule_93 (by decide) ?_
      exact (hk6 i7 l8 dd9 x10 hp11).2
theorem tMX12_layByVotes_0 {d : Nat} {Q : ab_Qt} {sc : Nat × (Nat → Int32)} {i : Nat → Nat → Int32} {l : Nat → Nat → Int64} {dd : Nat → Nat → Value} {x : Nat}  
    (h : ab_Fr MX12_layByVotes (d + 1) Q 2 [some (.ref 205), some (.int 0), none, none] [] (0, 0) (i, l, dd, x) (ab_E0 sc)) :
    ab_Fr MX12_layByVotes (d + 1) Q 0 [some (.ref 205), none, none, none] [] (0, 0) (i, l, dd, x) (ab_E0 sc) := by
  refine ab_iconst (v := 0) dX12_layByVotes_0 (by decide) ?_
  refine ab_istoren dX12_layByVotes_1 (Nat.le_of_ble_eq_true rfl) (L2 := [some (.ref 205), some (.int 0), none, none]) rfl ?_
  exact h
theorem tMX12_layByVotes_2 {d : Nat} {Q : ab_Qt} {sc : Nat × (Nat → Int32)} {i : Nat → Nat → Int32} {l : Nat → Nat → Int64} {dd : Nat → Nat → Value} {x : Nat} {a1 : Int32} 
    (h : (((1 <<< ((2 * (i 205 30)) &&& 31)) ≤ a1 → ab_Fr MX12_layByVotes (d + 1) Q 53 [some (.ref 205), some (.int 0), none, none] [] (0, 0) (i, l, dd, x) (ab_E0 sc)) ∧ (¬ (1 <<< ((2 * (i 205 30)) &&& 31)) ≤ a1 → (vp_in a1 16384 ∧ ∀ i2, i2 = ab_u i 242 a1.toNatClampNeg 0 → ab_Fr MX12_layByVotes (d + 1) Q 23 [some (.ref 205), some (.int a1), some (.int 0), none] [] (0, 0) (i2, l, dd, x) (ab_E0 sc))))) :
    ab_Fr MX12_layByVotes (d + 1) Q 2 [some (.ref 205), some (.int a1), none, none] [] (0, 0) (i, l, dd, x) (ab_E0 sc) := by
  refine ab_iloadn dX12_layByVotes_2 rfl ?_
  refine ab_iconst (v := 1) dX12_layByVotes_3 (by decide) ?_
  refine ab_iconst (v := 2) dX12_layByVotes_4 (by decide) ?_
  refine ab_aloadn dX12_layByVotes_5 rfl ?_
  refine ab_getf (v := .int (i 205 30)) dX12_layByVotes_6 fl_X12_306 kd_205 rfl ?_
  refine ab_imul dX12_layByVotes_9 ?_
  refine ab_ishl dX12_layByVotes_10 ?_
  refine ab_icmp_ge (tgt := 51) dX12_layByVotes_11 (by decide) (fun c1 => ?_) (fun c1 => ?_)
  · refine ab_iconst (v := 0) dX12_layByVotes_51 (by decide) ?_
    refine ab_istoren dX12_layByVotes_52 (Nat.le_of_ble_eq_true rfl) (L2 := [some (.ref 205), some (.int 0), none, none]) rfl ?_
    exact (h.1 c1)
  · refine ab_aloadn dX12_layByVotes_14 rfl ?_
    refine ab_getf (v := .ref 242) dX12_layByVotes_15 fl_X12_122 kd_205 ff_205_59 ?_
    refine ab_iloadn dX12_layByVotes_18 rfl ?_
    refine ab_iconst (v := 0) dX12_layByVotes_19 (by decide) ?_
    refine ab_bastore dX12_layByVotes_20 kd_242 (h.2 c1).1 (by decide) ?_
    obtain ⟨i2, e3⟩ : ∃ z, z = ab_u i 242 a1.toNatClampNeg 0 := ⟨_, rfl⟩
    rw [show ab_u i 242 a1.toNatClampNeg 0 = i2 from e3.symm]
    refine ab_iconst (v := 0) dX12_layByVotes_21 (by decide) ?_
    refine ab_istoren dX12_layByVotes_22 (Nat.le_of_ble_eq_true rfl) (L2 := [some (.ref 205), some (.int a1), some (.int 0), none]) rfl ?_
    exact ((h.2 c1).2 i2 e3)
theorem tMX12_layByVotes_23 {d : Nat} {Q : ab_Qt} {sc : Nat × (Nat → Int32)} {i : Nat → Nat → Int32} {l : Nat → Nat → Int64} {dd : Nat → Nat → Value} {x : Nat} {a1 : Int32} {a2 : Int32} 
    (h : ((3 ≤ a2 → ab_Fr MX12_layByVotes (d + 1) Q 2 [some (.ref 205), some (.int (a1 + 1)), none, none] [] (0, 0) (i, l, dd, x) (ab_E0 sc)) ∧ (¬ 3 ≤ a2 → (vp_in ((3 * a1) + a2) 49152 ∧ ∀ l2, l2 = ab_u l 241 ((3 * a1) + a2).toNatClampNeg 0 → ab_Fr MX12_layByVotes (d + 1) Q 23 [some (.ref 205), some (.int a1), some (.int (a2 + 1)), none] [] (0, 0) (i, l2, dd, x) (ab_E0 sc))))) :
    ab_Fr MX12_layByVotes (d + 1) Q 23 [some (.ref 205), some (.int a1), some (.int a2), none] [] (0, 0) (i, l, dd, x) (ab_E0 sc) := by
  refine ab_iloadn dX12_layByVotes_23 rfl ?_
  refine ab_iconst (v := 3) dX12_layByVotes_24 (by decide) ?_
  refine ab_icmp_ge (tgt := 45) dX12_layByVotes_25 (by decide) (fun c1 => ?_) (fun c1 => ?_)
  · refine ab_iinc (v := (a1 + 1)) dX12_layByVotes_45 rfl (by rfl) (Nat.le_of_ble_eq_true rfl) (L2 := [some (.ref 205), some (.int (a1 + 1)), some (.int a2), none]) rfl ?_
    refine ab_goto (tgt := 2) dX12_layByVotes_48 (by decide) ?_
    refine ab_forget (i := 2) (L2 := [some (.ref 205), some (.int (a1 + 1)), none, none]) rfl ?_
    exact (h.1 c1)
  · refine ab_aloadn dX12_layByVotes_28 rfl ?_
    refine ab_getf (v := .ref 241) dX12_layByVotes_29 fl_X12_119 kd_205 ff_205_58 ?_
    refine ab_iconst (v := 3) dX12_layByVotes_32 (by decide) ?_
    refine ab_iloadn dX12_layByVotes_33 rfl ?_
    refine ab_imul dX12_layByVotes_34 ?_
    refine ab_iloadn dX12_layByVotes_35 rfl ?_
    refine ab_iadd dX12_layByVotes_36 ?_
    refine ab_lconst (v := 0) dX12_layByVotes_37 (by decide) ?_
    refine ab_lastore dX12_layByVotes_38 kd_241 (h.2 c1).1 ?_
    obtain ⟨l2, e3⟩ : ∃ z, z = ab_u l 241 ((3 * a1) + a2).toNatClampNeg 0 := ⟨_, rfl⟩
    rw [show ab_u l 241 ((3 * a1) + a2).toNatClampNeg 0 = l2 from e3.symm]
    refine ab_iinc (v := (a2 + 1)) dX12_layByVotes_39 rfl (by rfl) (Nat.le_of_ble_eq_true rfl) (L2 := [some (.ref 205), some (.int a1), some (.int (a2 + 1)), none]) rfl ?_
    refine ab_goto (tgt := 23) dX12_layByVotes_42 (by decide) ?_
    exact ((h.2 c1).2 l2 e3)
theorem tMX12_layByVotes_53 {d : Nat} {Q : ab_Qt} {sc : Nat × (Nat → Int32)} {i : Nat → Nat → Int32} {l : Nat → Nat → Int64} {dd : Nat → Nat → Value} {x : Nat} {a1 : Int32} 
    (h : (((i 205 31) ≤ a1 → Q (some none) (i, l, dd, x) (ab_E0 sc)) ∧ (¬ (i 205 31) ≤ a1 → (∃ (r2 : Int32) (P3 : ab_S → Prop), ab_Sp MX12_votesOf d [.ref 205, .int a1] (i, l, dd, x) (ab_E0 sc) (some (.int r2)) P3 ∧ ∀ i6 l7 dd8 x9, P3 (i6, l7, dd8, x9) → vp_in r2 16384 ∧ ∀ i11, i11 = ab_u i6 242 r2.toNatClampNeg 1 → ab_Fr MX12_layByVotes (d + 1) Q 76 [some (.ref 205), some (.int a1), some (.int r2), some (.int 0)] [] (0, 0) (i11, l7, dd8, x9) (ab_E0 sc))))) :
    ab_Fr MX12_layByVotes (d + 1) Q 53 [some (.ref 205), some (.int a1), none, none] [] (0, 0) (i, l, dd, x) (ab_E0 sc) := by
  refine ab_iloadn dX12_layByVotes_53 rfl ?_
  refine ab_aloadn dX12_layByVotes_54 rfl ?_
  refine ab_getf (v := .int (i 205 31)) dX12_layByVotes_55 fl_X12_309 kd_205 rfl ?_
  refine ab_icmp_ge (tgt := 115) dX12_layByVotes_58 (by decide) (fun c1 => ?_) (fun c1 => ?_)
  · exact ab_vret dX12_layByVotes_115 rfl ⟨Nat.zero_le _, Nat.zero_le _⟩ (h.1 c1)
  · refine ab_aloadn dX12_layByVotes_61 rfl ?_
    refine ab_iloadn dX12_layByVotes_62 rfl ?_
    obtain ⟨r2, P3, hs4, hk5⟩ := (h.2 c1)
    refine ab_callV (vs := [.int a1]) (st := []) dX12_layByVotes_63 okMX12_votesOf wd_1717 kd_205 rfl rfl rfl (Nat.le_of_ble_eq_true rfl) ⟨Nat.le_of_ble_eq_true rfl, Nat.le_of_ble_eq_true rfl⟩ hs4 ?_
    rintro v9 ⟨i6, l7, dd8, x9⟩ E9 - ⟨rfl, rfl, hp10⟩
    show ab_Fr MX12_layByVotes (d + 1) Q 66 [some (.ref 205), some (.int a1), none, none] [.int r2] (0, 0) (i6, l7, dd8, x9) (ab_E0 sc)
    refine ab_istoren dX12_layByVotes_66 (Nat.le_of_ble_eq_true rfl) (L2 := [some (.ref 205), some (.int a1), some (.int r2), none]) rfl ?_
    refine ab_aloadn dX12_layByVotes_67 rfl ?_
    refine ab_getf (v := .ref 242) dX12_layByVotes_68 fl_X12_122 kd_205 ff_205_59 ?_
    refine ab_iloadn dX12_layByVotes_71 rfl ?_
    refine ab_iconst (v := 1) dX12_layByVotes_72 (by decide) ?_
    refine ab_bastore dX12_layByVotes_73 kd_242 (hk5 i6 l7 dd8 x9 hp10).1 (by decide) ?_
    obtain ⟨i11, e12⟩ : ∃ z, z = ab_u i6 242 r2.toNatClampNeg 1 := ⟨_, rfl⟩
    rw [show ab_u i6 242 r2.toNatClampNeg 1 = i11 from e12.symm]
    refine ab_iconst (v := 0) dX12_layByVotes_74 (by decide) ?_
    refine ab_istoren dX12_layByVotes_75 (Nat.le_of_ble_eq_true rfl) (L2 := [some (.ref 205), some (.int a1), some (.int r2), some (.int 0)]) rfl ?_
    exact ((hk5 i6 l7 dd8 x9 hp10).2 i11 e12)
theorem tMX12_layByVotes_76 {d : Nat} {Q : ab_Qt} {sc : Nat × (Nat → Int32)} {i : Nat → Nat → Int32} {l : Nat → Nat → Int64} {dd : Nat → Nat → Value} {x : Nat} {a1 : Int32} {a2 : Int32} {a3 : Int32} 
    (h : (((i 205 29) ≤ a3 → ab_Fr MX12_layByVotes (d + 1) Q 53 [some (.ref 205), some (.int (a1 + 1)), none, none] [] (0, 0) (i, l, dd, x) (ab_E0 sc)) ∧ (¬ (i 205 29) ≤ a3 → (vp_in ((3 * a2) + a3) 49152 ∧ ∃ (r2 : Int64) (P3 : ab_S → Prop), ab_Sp MX12_commonly d [.ref 205, .int a1, .int a3] (i, l, dd, x) (ab_E0 sc) (some (.long r2)) P3 ∧ ∀ i6 l7 dd8 x9, P3 (i6, l7, dd8, x9) → vp_in ((3 * a2) + a3) 49152 ∧ ∀ l11, l11 = ab_u l7 241 ((3 * a2) + a3).toNatClampNeg ((l 241 ((3 * a2) + a3).toNatClampNeg) + r2) → ab_Fr MX12_layByVotes (d + 1) Q 76 [some (.ref 205), some (.int a1), some (.int a2), some (.int (a3 + 1))] [] (0, 0) (i6, l11, dd8, x9) (ab_E0 sc))))) :
    ab_Fr MX12_layByVotes (d + 1) Q 76 [some (.ref 205), some (.int a1), some (.int a2), some (.int a3)] [] (0, 0) (i, l, dd, x) (ab_E0 sc) := by
  refine ab_iloadn dX12_layByVotes_76 rfl ?_
  refine ab_aloadn dX12_layByVotes_77 rfl ?_
  refine ab_getf (v := .int (i 205 29)) dX12_layByVotes_78 fl_X12_303 kd_205 rfl ?_
  refine ab_icmp_ge (tgt := 109) dX12_layByVotes_81 (by decide) (fun c1 => ?_) (fun c1 => ?_)
  · refine ab_iinc (v := (a1 + 1)) dX12_layByVotes_109 rfl (by rfl) (Nat.le_of_ble_eq_true rfl) (L2 := [some (.ref 205), some (.int (a1 + 1)), some (.int a2), some (.int a3)]) rfl ?_
    refine ab_goto (tgt := 53) dX12_layByVotes_112 (by decide) ?_
    refine ab_forget (i := 2) (L2 := [some (.ref 205), some (.int (a1 + 1)), none, some (.int a3)]) rfl ?_
    refine ab_forget (i := 3) (L2 := [some (.ref 205), some (.int (a1 + 1)), none, none]) rfl ?_
    exact (h.1 c1)
  · refine ab_aloadn dX12_layByVotes_84 rfl ?_
    refine ab_getf (v := .ref 241) dX12_layByVotes_85 fl_X12_119 kd_205 ff_205_58 ?_
    refine ab_iconst (v := 3) dX12_layByVotes_88 (by decide) ?_
    refine ab_iloadn dX12_layByVotes_89 rfl ?_
    refine ab_imul dX12_layByVotes_90 ?_
    refine ab_iloadn dX12_layByVotes_91 rfl ?_
    refine ab_iadd dX12_layByVotes_92 ?_
    refine ab_dup2 dX12_layByVotes_93 rfl rfl ?_
    refine ab_laload (v := (l 241 ((3 * a2) + a3).toNatClampNeg)) dX12_layByVotes_94 kd_241 (h.2 c1).1 rfl ?_
    refine ab_aloadn dX12_layByVotes_95 rfl ?_
    refine ab_iloadn dX12_layByVotes_96 rfl ?_
    refine ab_iloadn dX12_layByVotes_97 rfl ?_
    obtain ⟨r2, P3, hs4, hk5⟩ := (h.2 c1).2
    refine ab_callV (vs := [.int a1, .int a3]) (st := [.long (l 241 ((3 * a2) + a3).toNatClampNeg), .int ((3 * a2) + a3), .ref 241]) dX12_layByVotes_98 okMX12_commonly wd_1615 kd_205 rfl rfl rfl (Nat.le_of_ble_eq_true rfl) ⟨Nat.le_of_ble_eq_true rfl, Nat.le_of_ble_eq_true rfl⟩ hs4 ?_
    rintro v9 ⟨i6, l7, dd8, x9⟩ E9 - ⟨rfl, rfl, hp10⟩
    show ab_Fr MX12_layByVotes (d + 1) Q 101 [some (.ref 205), some (.int a1), some (.int a2), some (.int a3)] [.long r2, .long (l 241 ((3 * a2) + a3).toNatClampNeg), .int ((3 * a2) + a3), .ref 241] (0, 0) (i6, l7, dd8, x9) (ab_E0 sc)
    refine ab_ladd dX12_layByVotes_101 ?_
    refine ab_lastore dX12_layByVotes_102 kd_241 (hk5 i6 l7 dd8 x9 hp10).1 ?_
    obtain ⟨l11, e12⟩ : ∃ z, z = ab_u l7 241 ((3 * a2) + a3).toNatClampNeg ((l 241 ((3 * a2) + a3).toNatClampNeg) + r2) := ⟨_, rfl⟩
    rw [show ab_u l7 241 ((3 * a2) + a3).toNatClampNeg ((l 241 ((3 * a2) + a3).toNatClampNeg) + r2) = l11 from e12.symm]
    refine ab_iinc (v := (a3 + 1)) dX12_layByVotes_103 rfl (by rfl) (Nat.le_of_ble_eq_true rfl) (L2 := [some (.ref 205), some (.int a1), some (.int a2), some (.int (a3 + 1))]) rfl ?_
    refine ab_goto (tgt := 76) dX12_layByVotes_106 (by decide) ?_
    exact ((hk5 i6 l7 dd8 x9 hp10).2 l11 e12)
theorem tMX12_votesOf_0 {d : Nat} {Q : ab_Qt} {sc : Nat × (Nat → Int32)} {i : Nat → Nat → Int32} {l : Nat → Nat → Int64} {dd : Nat → Nat → Value} {x : Nat} {a1 : Int32} 
    (h : ab_Fr MX12_votesOf (d + 1) Q 9 [some (.ref 205), some (.int a1), some (.int 0), some (.int ((i 205 30) - 1)), none] [] (0, 0) (i, l, dd, x) (ab_E0 sc)) :
    ab_Fr MX12_votesOf (d + 1) Q 0 [some (.ref 205), some (.int a1), none, none, none] [] (0, 0) (i, l, dd, x) (ab_E0 sc) := by
  refine ab_iconst (v := 0) dX12_votesOf_0 (by decide) ?_
  refine ab_istoren dX12_votesOf_1 (Nat.le_of_ble_eq_true rfl) (L2 := [some (.ref 205), some (.int a1), some (.int 0), none, none]) rfl ?_
  refine ab_aloadn dX12_votesOf_2 rfl ?_
  refine ab_getf (v := .int (i 205 30)) dX12_votesOf_3 fl_X12_306 kd_205 rfl ?_
  refine ab_iconst (v := 1) dX12_votesOf_6 (by decide) ?_
  refine ab_isub dX12_votesOf_7 ?_
  refine ab_istoren dX12_votesOf_8 (Nat.le_of_ble_eq_true rfl) (L2 := [some (.ref 205), some (.int a1), some (.int 0), some (.int ((i 205 30) - 1)), none]) rfl ?_
  exact h
theorem tMX12_votesOf_9 {d : Nat} {Q : ab_Qt} {sc : Nat × (Nat → Int32)} {i : Nat → Nat → Int32} {l : Nat → Nat → Int64} {dd : Nat → Nat → Value} {x : Nat} {a1 : Int32} {a2 : Int32} {a3 : Int32} 
    (h : ((a3 < 0 → Q (some (some (.int a2))) (i, l, dd, x) (ab_E0 sc)) ∧ (¬ a3 < 0 → (∃ (r2 : Int32) (P3 : ab_S → Prop), ab_Sp MX12_sign d [.ref 205, .int a1, .int a3] (i, l, dd, x) (ab_E0 sc) (some (.int r2)) P3 ∧ ∀ i6 l7 dd8 x9, P3 (i6, l7, dd8, x9) → vp_in ((3 * a3) + r2) 42 ∧ ((¬ (i6 225 ((3 * a3) + r2).toNatClampNeg) = 9 → ab_Fr MX12_votesOf (d + 1) Q 9 [some (.ref 205), some (.int a1), some (.int ((4 * a2) + (i6 225 ((3 * a3) + r2).toNatClampNeg))), some (.int (a3 + (-1))), none] [] (0, 0) (i6, l7, dd8, x9) (ab_E0 sc)) ∧ ((i6 225 ((3 * a3) + r2).toNatClampNeg) = 9 → ab_Fr MX12_votesOf (d + 1) Q 9 [some (.ref 205), some (.int a1), some (.int ((4 * a2) + 3)), some (.int (a3 + (-1))), none] [] (0, 0) (i6, l7, dd8, x9) (ab_E0 sc))))))) :
    ab_Fr MX12_votesOf (d + 1) Q 9 [some (.ref 205), some (.int a1), some (.int a2), some (.int a3), none] [] (0, 0) (i, l, dd, x) (ab_E0 sc) := by
  refine ab_iloadn dX12_votesOf_9 rfl ?_
  refine ab_if_lt (tgt := 54) dX12_votesOf_10 (by decide) (fun c1 => ?_) (fun c1 => ?_)
  · refine ab_iloadn dX12_votesOf_54 rfl ?_
    exact ab_iret dX12_votesOf_55 rfl ⟨Nat.zero_le _, Nat.zero_le _⟩ (h.1 c1)
  · refine ab_aloadn dX12_votesOf_13 rfl ?_
    refine ab_getf (v := .ref 225) dX12_votesOf_14 fl_X12_68 kd_205 ff_205_34 ?_
    refine ab_iconst (v := 3) dX12_votesOf_17 (by decide) ?_
    refine ab_iloadn dX12_votesOf_18 rfl ?_
    refine ab_imul dX12_votesOf_19 ?_
    refine ab_aloadn dX12_votesOf_20 rfl ?_
    refine ab_iloadn dX12_votesOf_21 rfl ?_
    refine ab_iloadn dX12_votesOf_22 rfl ?_
    obtain ⟨r2, P3, hs4, hk5⟩ := (h.2 c1)
    refine ab_callV (vs := [.int a1, .int a3]) (st := [.int (3 * a3), .ref 225]) dX12_votesOf_23 okMX12_sign wd_1516 kd_205 rfl rfl rfl (Nat.le_of_ble_eq_true rfl) ⟨Nat.le_of_ble_eq_true rfl, Nat.le_of_ble_eq_true rfl⟩ hs4 ?_
    rintro v9 ⟨i6, l7, dd8, x9⟩ E9 - ⟨rfl, rfl, hp10⟩
    show ab_Fr MX12_votesOf (d + 1) Q 26 [some (.ref 205), some (.int a1), some (.int a2), some (.int a3), none] [.int r2, .int (3 * a3), .ref 225] (0, 0) (i6, l7, dd8, x9) (ab_E0 sc)
    refine ab_iadd dX12_votesOf_26 ?_
    refine ab_iaload (v := (i6 225 ((3 * a3) + r2).toNatClampNeg)) dX12_votesOf_27 kd_225 (hk5 i6 l7 dd8 x9 hp10).1 rfl ?_
    refine ab_istore dX12_votesOf_28 (Nat.le_of_ble_eq_true rfl) (L2 := [some (.ref 205), some (.int a1), some (.int a2), some (.int a3), some (.int (i6 225 ((3 * a3) + r2).toNatClampNeg))]) rfl ?_
    refine ab_iconst (v := 4) dX12_votesOf_30 (by decide) ?_
    refine ab_iloadn dX12_votesOf_31 rfl ?_
    refine ab_imul dX12_votesOf_32 ?_
    refine ab_iload dX12_votesOf_33 rfl ?_
    refine ab_bipush (v := 9) dX12_votesOf_35 (by decide) ?_
    refine ab_icmp_ne (tgt := 44) dX12_votesOf_37 (by decide) (fun c11 => ?_) (fun c11 => ?_)
    · refine ab_iload dX12_votesOf_44 rfl ?_
      refine ab_iadd dX12_votesOf_46 ?_
      refine ab_istoren dX12_votesOf_47 (Nat.le_of_ble_eq_true rfl) (L2 := [some (.ref 205), some (.int a1), some (.int ((4 * a2) + (i6 225 ((3 * a3) + r2).toNatClampNeg))), some (.int a3), some (.int (i6 225 ((3 * a3) + r2).toNatClampNeg))]) rfl ?_
      refine ab_iinc (v := (a3 + (-1))) dX12_votesOf_48 rfl (by rfl) (Nat.le_of_ble_eq_true rfl) (L2 := [some (.ref 205), some (.int a1), some (.int ((4 * a2) + (i6 225 ((3 * a3) + r2).toNatClampNeg))), some (.int (a3 + (-1))), some (.int (i6 225 ((3 * a3) + r2).toNatClampNeg))]) rfl ?_
      refine ab_goto (tgt := 9) dX12_votesOf_51 (by decide) ?_
      refine ab_forget (i := 4) (L2 := [some (.ref 205), some (.int a1), some (.int ((4 * a2) + (i6 225 ((3 * a3) + r2).toNatClampNeg))), some (.int (a3 + (-1))), none]) rfl ?_
      exact ((hk5 i6 l7 dd8 x9 hp10).2.1 c11)
    · refine ab_iconst (v := 3) dX12_votesOf_40 (by decide) ?_
      refine ab_goto (tgt := 46) dX12_votesOf_41 (by decide) ?_
      refine ab_iadd dX12_votesOf_46 ?_
      refine ab_istoren dX12_votesOf_47 (Nat.le_of_ble_eq_true rfl) (L2 := [some (.ref 205), some (.int a1), some (.int ((4 * a2) + 3)), some (.int a3), some (.int (i6 225 ((3 * a3) + r2).toNatClampNeg))]) rfl ?_
      refine ab_iinc (v := (a3 + (-1))) dX12_votesOf_48 rfl (by rfl) (Nat.le_of_ble_eq_true rfl) (L2 := [some (.ref 205), some (.int a1), some (.int ((4 * a2) + 3)), some (.int (a3 + (-1))), some (.int (i6 225 ((3 * a3) + r2).toNatClampNeg))]) rfl ?_
      refine ab_goto (tgt := 9) dX12_votesOf_51 (by decide) ?_
      refine ab_forget (i := 4) (L2 := [some (.ref 205), some (.int a1), some (.int ((4 * a2) + 3)), some (.int (a3 + (-1))), none]) rfl ?_
      exact ((hk5 i6 l7 dd8 x9 hp10).2.2 c11)
theorem tMX12_bar_0 {d : Nat} {Q : ab_Qt} {sc : Nat × (Nat → Int32)} {i : Nat → Nat → Int32} {l : Nat → Nat → Int64} {dd : Nat → Nat → Value} {x : Nat} {a1 : Int32} {a2 : Int32} 
    (h : (∀ i1, i1 = ab_u i 205 0 0 → ∃ (r3 : Int32) (P4 : ab_S → Prop), ab_Sp MX12_isTruth d [.ref 205, .int a1] (i1, l, dd, x) (ab_E0 sc) (some (.int r3)) P4 ∧ ∀ i7 l8 dd9 x10, P4 (i7, l8, dd9, x10) → ((r3 = 0 → Q (some (some (.int (-1)))) (i7, l8, dd9, x10) (ab_E0 sc)) ∧ (¬ r3 = 0 → (∃ (r13 : Int32) (P14 : ab_S → Prop), ab_Sp MX12_isTruth d [.ref 205, .int a2] (i7, l8, dd9, x10) (ab_E0 sc) (some (.int r13)) P14 ∧ ∀ i17 l18 dd19 x20, P14 (i17, l18, dd19, x20) → ((r13 = 0 → Q (some (some (.int (-1)))) (i17, l18, dd19, x20) (ab_E0 sc)) ∧ (¬ r13 = 0 → ((¬ a1 = a2 → (∃ (P25 : ab_S → Prop), ab_Sp MX12_layByVotes d [.ref 205] (i17, l18, dd19, x20) (ab_E0 sc) (none) P25 ∧ ∀ i28 l29 dd30 x31, P25 (i28, l29, dd30, x31) → ∃ (P34 : ab_S → Prop), ab_Sp MX12_layByWeight d [.ref 205, .int a1, .ref 218, .int 81] (i28, l29, dd30, x31) (ab_E0 sc) (none) P34 ∧ ∀ i37 l38 dd39 x40, P34 (i37, l38, dd39, x40) → ab_Fr MX12_bar (d + 1) Q 48 [some (.ref 205), some (.int a1), some (.int a2), some (.int (-1)), some (.int 1), none, none] [] (0, 0) (i37, l38, dd39, x40) (ab_E0 sc))) ∧ (a1 = a2 → Q (some (some (.int (-1)))) (i17, l18, dd19, x20) (ab_E0 sc)))))))))) :
    ab_Fr MX12_bar (d + 1) Q 0 [some (.ref 205), some (.int a1), some (.int a2), none, none, none, none] [] (0, 0) (i, l, dd, x) (ab_E0 sc) := by
  refine ab_aloadn dX12_bar_0 rfl ?_
  refine ab_iconst (v := 0) dX12_bar_1 (by decide) ?_
  refine ab_putI dX12_bar_2 fl_X12_149 kd_205 rfl ?_
  obtain ⟨i1, e2⟩ : ∃ z, z = ab_u i 205 0 0 := ⟨_, rfl⟩
  show ab_Fr MX12_bar (d + 1) Q 5 [some (.ref 205), some (.int a1), some (.int a2), none, none, none, none] [] (0, 0) (ab_u i 205 0 0, l, dd, x) (ab_E0 sc)
  rw [show ab_u i 205 0 0 = i1 from e2.symm]
  refine ab_aloadn dX12_bar_5 rfl ?_
  refine ab_iloadn dX12_bar_6 rfl ?_
  obtain ⟨r3, P4, hs5, hk6⟩ := (h i1 e2)
  refine ab_callV (vs := [.int a1]) (st := []) dX12_bar_7 okMX12_isTruth wd_1563 kd_205 rfl rfl rfl (Nat.le_of_ble_eq_true rfl) ⟨Nat.le_of_ble_eq_true rfl, Nat.le_of_ble_eq_true rfl⟩ hs5 ?_
  rintro v9 ⟨i7, l8, dd9, x10⟩ E9 - ⟨rfl, rfl, hp11⟩
  show ab_Fr MX12_bar (d + 1) Q 10 [some (.ref 205), some (.int a1), some (.int a2), none, none, none, none] [.int r3] (0, 0) (i7, l8, dd9, x10) (ab_E0 sc)
  refine ab_if_eq (tgt := 26) dX12_bar_10 (by decide) (fun c12 => ?_) (fun c12 => ?_)
  · refine ab_iconst (v := (-1)) dX12_bar_26 (by decide) ?_
    exact ab_iret dX12_bar_27 rfl ⟨Nat.zero_le _, Nat.zero_le _⟩ ((hk6 i7 l8 dd9 x10 hp11).1 c12)
  · refine ab_aloadn dX12_bar_13 rfl ?_
    refine ab_iloadn dX12_bar_14 rfl ?_
    obtain ⟨r13, P14, hs15, hk16⟩ := ((hk6 i7 l8 dd9 x10 hp11).2 c12)
    refine ab_callV (vs := [.int a2]) (st := []) dX12_bar_15 okMX12_isTruth wd_1563 kd_205 rfl rfl rfl (Nat.le_of_ble_eq_true rfl) ⟨Nat.le_of_ble_eq_true rfl, Nat.le_of_ble_eq_true rfl⟩ hs15 ?_
    rintro v9 ⟨i17, l18, dd19, x20⟩ E9 - ⟨rfl, rfl, hp21⟩
    show ab_Fr MX12_bar (d + 1) Q 18 [some (.ref 205), some (.int a1), some (.int a2), none, none, none, none] [.int r13] (0, 0) (i17, l18, dd19, x20) (ab_E0 sc)
    refine ab_if_eq (tgt := 26) dX12_bar_18 (by decide) (fun c22 => ?_) (fun c22 => ?_)
    · refine ab_iconst (v := (-1)) dX12_bar_26 (by decide) ?_
      exact ab_iret dX12_bar_27 rfl ⟨Nat.zero_le _, Nat.zero_le _⟩ ((hk16 i17 l18 dd19 x20 hp21).1 c22)
    · refine ab_iloadn dX12_bar_21 rfl ?_
      refine ab_iloadn dX12_bar_22 rfl ?_
      refine ab_icmp_ne (tgt := 28) dX12_bar_23 (by decide) (fun c23 => ?_) (fun c23 => ?_)
      · refine ab_aloadn dX12_bar_28 rfl ?_
        obtain ⟨P25, hs26, hk27⟩ := (((hk16 i17 l18 dd19 x20 hp21).2 c22).1 c23)
        refine ab_callV (vs := []) (st := []) dX12_bar_29 okMX12_layByVotes wd_1714 kd_205 rfl rfl rfl (Nat.le_of_ble_eq_true rfl) ⟨Nat.le_of_ble_eq_true rfl, Nat.le_of_ble_eq_true rfl⟩ hs26 ?_
        rintro v9 ⟨i28, l29, dd30, x31⟩ E9 - ⟨rfl, rfl, hp32⟩
        show ab_Fr MX12_bar (d + 1) Q 32 [some (.ref 205), some (.int a1), some (.int a2), none, none, none, none] [] (0, 0) (i28, l29, dd30, x31) (ab_E0 sc)
        refine ab_aloadn dX12_bar_32 rfl ?_
        refine ab_iloadn dX12_bar_33 rfl ?_
        refine ab_aloadn dX12_bar_34 rfl ?_
        refine ab_getf (v := .ref 218) dX12_bar_35 fl_X12_47 kd_205 ff_205_22 ?_
        refine ab_bipush (v := 81) dX12_bar_38 (by decide) ?_
        obtain ⟨P34, hs35, hk36⟩ := (hk27 i28 l29 dd30 x31 hp32)
        refine ab_callV (vs := [.int a1, .ref 218, .int 81]) (st := []) dX12_bar_40 okMX12_layByWeight wd_1724 kd_205 rfl rfl rfl (Nat.le_of_ble_eq_true rfl) ⟨Nat.le_of_ble_eq_true rfl, Nat.le_of_ble_eq_true rfl⟩ hs35 ?_
        rintro v9 ⟨i37, l38, dd39, x40⟩ E9 - ⟨rfl, rfl, hp41⟩
        show ab_Fr MX12_bar (d + 1) Q 43 [some (.ref 205), some (.int a1), some (.int a2), none, none, none, none] [] (0, 0) (i37, l38, dd39, x40) (ab_E0 sc)
        refine ab_iconst (v := (-1)) dX12_bar_43 (by decide) ?_
        refine ab_istoren dX12_bar_44 (Nat.le_of_ble_eq_true rfl) (L2 := [some (.ref 205), some (.int a1), some (.int a2), some (.int (-1)), none, none, none]) rfl ?_
        refine ab_iconst (v := 1) dX12_bar_45 (by decide) ?_
        refine ab_istore dX12_bar_46 (Nat.le_of_ble_eq_true rfl) (L2 := [some (.ref 205), some (.int a1), some (.int a2), some (.int (-1)), some (.int 1), none, none]) rfl ?_
        exact (hk36 i37 l38 dd39 x40 hp41)
      · refine ab_iconst (v := (-1)) dX12_bar_26 (by decide) ?_
        exact ab_iret dX12_bar_27 rfl ⟨Nat.zero_le _, Nat.zero_le _⟩ (((hk16 i17 l18 dd19 x20 hp21).2 c22).2 c23)
theorem tMX12_bar_48 {d : Nat} {Q : ab_Qt} {sc : Nat × (Nat → Int32)} {i : Nat → Nat → Int32} {l : Nat → Nat → Int64} {dd : Nat → Nat → Value} {x : Nat} {a1 : Int32} {a2 : Int32} {a3 : Int32} {a4 : Int32} 
    (h : ((82 < a4 → Q (some (some (.int a3))) (i, l, dd, x) (ab_E0 sc)) ∧ (¬ 82 < a4 → (∃ (r2 : Int64) (P3 : ab_S → Prop), ab_Sp MX12_lostByNeed d [.ref 205, .int a4, .int a1, .int a2, .int 81] (i, l, dd, x) (ab_E0 sc) (some (.long r2)) P3 ∧ ∀ i6 l7 dd8 x9, P3 (i6, l7, dd8, x9) → ((a3 = (-1) → (∀ l12, l12 = ab_u l7 205 61 r2 → ab_Fr MX12_bar (d + 1) Q 48 [some (.ref 205), some (.int a1), some (.int a2), some (.int a4), some (.int (a4 + 1)), none, none] [] (0, 0) (i6, l12, dd8, x9) (ab_E0 sc))) ∧ (¬ a3 = (-1) → ((r2 < (l7 205 61) → (∀ l15, l15 = ab_u l7 205 61 r2 → ab_Fr MX12_bar (d + 1) Q 48 [some (.ref 205), some (.int a1), some (.int a2), some (.int a4), some (.int (a4 + 1)), none, none] [] (0, 0) (i6, l15, dd8, x9) (ab_E0 sc))) ∧ (¬ r2 < (l7 205 61) → ab_Fr MX12_bar (d + 1) Q 48 [some (.ref 205), some (.int a1), some (.int a2), some (.int a3), some (.int (a4 + 1)), none, none] [] (0, 0) (i6, l7, dd8, x9) (ab_E0 sc))))))))) :
    ab_Fr MX12_bar (d + 1) Q 48 [some (.ref 205), some (.int a1), some (.int a2), some (.int a3), some (.int a4), none, none] [] (0, 0) (i, l, dd, x) (ab_E0 sc) := by
  refine ab_iload dX12_bar_48 rfl ?_
  refine ab_bipush (v := 82) dX12_bar_50 (by decide) ?_
  refine ab_icmp_gt (tgt := 100) dX12_bar_52 (by decide) (fun c1 => ?_) (fun c1 => ?_)
  · refine ab_iloadn dX12_bar_100 rfl ?_
    exact ab_iret dX12_bar_101 rfl ⟨Nat.zero_le _, Nat.zero_le _⟩ (h.1 c1)
  · refine ab_aloadn dX12_bar_55 rfl ?_
    refine ab_iload dX12_bar_56 rfl ?_
    refine ab_iloadn dX12_bar_58 rfl ?_
    refine ab_iloadn dX12_bar_59 rfl ?_
    refine ab_bipush (v := 81) dX12_bar_60 (by decide) ?_
    obtain ⟨r2, P3, hs4, hk5⟩ := (h.2 c1)
    refine ab_callV (vs := [.int a4, .int a1, .int a2, .int 81]) (st := []) dX12_bar_62 okMX12_lostByNeed wd_1727 kd_205 rfl rfl rfl (Nat.le_of_ble_eq_true rfl) ⟨Nat.le_of_ble_eq_true rfl, Nat.le_of_ble_eq_true rfl⟩ hs4 ?_
    rintro v9 ⟨i6, l7, dd8, x9⟩ E9 - ⟨rfl, rfl, hp10⟩
    show ab_Fr MX12_bar (d + 1) Q 65 [some (.ref 205), some (.int a1), some (.int a2), some (.int a3), some (.int a4), none, none] [.long r2] (0, 0) (i6, l7, dd8, x9) (ab_E0 sc)
    refine ab_lstore dX12_bar_65 (Nat.le_of_ble_eq_true rfl) (L2 := [some (.ref 205), some (.int a1), some (.int a2), some (.int a3), some (.int a4), some (.long r2), none]) rfl ?_
    refine ab_iloadn dX12_bar_67 rfl ?_
    refine ab_iconst (v := (-1)) dX12_bar_68 (by decide) ?_
    refine ab_icmp_eq (tgt := 85) dX12_bar_69 (by decide) (fun c11 => ?_) (fun c11 => ?_)
    · refine ab_aloadn dX12_bar_85 rfl ?_
      refine ab_lload dX12_bar_86 rfl ?_
      refine ab_putL dX12_bar_88 fl_X12_130 kd_205 rfl ?_
      obtain ⟨l12, e13⟩ : ∃ z, z = ab_u l7 205 61 r2 := ⟨_, rfl⟩
      show ab_Fr MX12_bar (d + 1) Q 91 [some (.ref 205), some (.int a1), some (.int a2), some (.int a3), some (.int a4), some (.long r2), none] [] (0, 0) (i6, ab_u l7 205 61 r2, dd8, x9) (ab_E0 sc)
      rw [show ab_u l7 205 61 r2 = l12 from e13.symm]
      refine ab_iload dX12_bar_91 rfl ?_
      refine ab_istoren dX12_bar_93 (Nat.le_of_ble_eq_true rfl) (L2 := [some (.ref 205), some (.int a1), some (.int a2), some (.int a4), some (.int a4), some (.long r2), none]) rfl ?_
      refine ab_iinc (v := (a4 + 1)) dX12_bar_94 rfl (by rfl) (Nat.le_of_ble_eq_true rfl) (L2 := [some (.ref 205), some (.int a1), some (.int a2), some (.int a4), some (.int (a4 + 1)), some (.long r2), none]) rfl ?_
      refine ab_goto (tgt := 48) dX12_bar_97 (by decide) ?_
      refine ab_forget (i := 5) (L2 := [some (.ref 205), some (.int a1), some (.int a2), some (.int a4), some (.int (a4 + 1)), none, none]) rfl ?_
      exact (((hk5 i6 l7 dd8 x9 hp10).1 c11) l12 e13)
    · refine ab_lload dX12_bar_72 rfl ?_
      refine ab_aloadn dX12_bar_74 rfl ?_
      refine ab_getf (v := .long (l7 205 61)) dX12_bar_75 fl_X12_130 kd_205 rfl ?_
      refine ab_lclt (tgt := 85) dX12_bar_78 dX12_bar_79 (by decide) (fun c14 => ?_) (fun c14 => ?_)
      · refine ab_aloadn dX12_bar_85 rfl ?_
        refine ab_lload dX12_bar_86 rfl ?_
        refine ab_putL dX12_bar_88 fl_X12_130 kd_205 rfl ?_
        obtain ⟨l15, e16⟩ : ∃ z, z = ab_u l7 205 61 r2 := ⟨_, rfl⟩
        show ab_Fr MX12_bar (d + 1) Q 91 [some (.ref 205), some (.int a1), some (.int a2), some (.int a3), some (.int a4), some (.long r2), none] [] (0, 0) (i6, ab_u l7 205 61 r2, dd8, x9) (ab_E0 sc)
        rw [show ab_u l7 205 61 r2 = l15 from e16.symm]
        refine ab_iload dX12_bar_91 rfl ?_
        refine ab_istoren dX12_bar_93 (Nat.le_of_ble_eq_true rfl) (L2 := [some (.ref 205), some (.int a1), some (.int a2), some (.int a4), some (.int a4), some (.long r2), none]) rfl ?_
        refine ab_iinc (v := (a4 + 1)) dX12_bar_94 rfl (by rfl) (Nat.le_of_ble_eq_true rfl) (L2 := [some (.ref 205), some (.int a1), some (.int a2), some (.int a4), some (.int (a4 + 1)), some (.long r2), none]) rfl ?_
        refine ab_goto (tgt := 48) dX12_bar_97 (by decide) ?_
        refine ab_forget (i := 5) (L2 := [some (.ref 205), some (.int a1), some (.int a2), some (.int a4), some (.int (a4 + 1)), none, none]) rfl ?_
        exact ((((hk5 i6 l7 dd8 x9 hp10).2 c11).1 c14) l15 e16)
      · refine ab_goto (tgt := 94) dX12_bar_82 (by decide) ?_
        refine ab_iinc (v := (a4 + 1)) dX12_bar_94 rfl (by rfl) (Nat.le_of_ble_eq_true rfl) (L2 := [some (.ref 205), some (.int a1), some (.int a2), some (.int a3), some (.int (a4 + 1)), some (.long r2), none]) rfl ?_
        refine ab_goto (tgt := 48) dX12_bar_97 (by decide) ?_
        refine ab_forget (i := 5) (L2 := [some (.ref 205), some (.int a1), some (.int a2), some (.int a3), some (.int (a4 + 1)), none, none]) rfl ?_
        exact (((hk5 i6 l7 dd8 x9 hp10).2 c11).2 c14)
theorem tMX12_layByWeight_0 {d : Nat} {Q : ab_Qt} {sc : Nat × (Nat → Int32)} {i : Nat → Nat → Int32} {l : Nat → Nat → Int64} {dd : Nat → Nat → Value} {x : Nat} {a1 : Int32} {a2 : Nat} {n_a2 : Nat} {a3 : Int32} (k_a2 : (ab_E0 sc).1 a2 = .inr (0, n_a2))
    (h : ab_Fr MX12_layByWeight (d + 1) Q 3 [some (.ref 205), some (.int a1), some (.ref a2), some (.int a3), some (.int 0), none, none] [] (0, 0) (i, l, dd, x) (ab_E0 sc)) :
    ab_Fr MX12_layByWeight (d + 1) Q 0 [some (.ref 205), some (.int a1), some (.ref a2), some (.int a3), none, none, none] [] (0, 0) (i, l, dd, x) (ab_E0 sc) := by
  refine ab_iconst (v := 0) dX12_layByWeight_0 (by decide) ?_
  refine ab_istore dX12_layByWeight_1 (Nat.le_of_ble_eq_true rfl) (L2 := [some (.ref 205), some (.int a1), some (.ref a2), some (.int a3), some (.int 0), none, none]) rfl ?_
  exact h
theorem tMX12_layByWeight_3 {d : Nat} {Q : ab_Qt} {sc : Nat × (Nat → Int32)} {i : Nat → Nat → Int32} {l : Nat → Nat → Int64} {dd : Nat → Nat → Value} {x : Nat} {a1 : Int32} {a2 : Nat} {n_a2 : Nat} {a3 : Int32} {a4 : Int32} (k_a2 : (ab_E0 sc).1 a2 = .inr (0, n_a2))
    (h : (((3 * (a3 + 1)) ≤ a4 → ab_Fr MX12_layByWeight (d + 1) Q 30 [some (.ref 205), some (.int a1), some (.ref a2), none, some (.int 0), none, none] [] (0, 0) (i, l, dd, x) (ab_E0 sc)) ∧ (¬ (3 * (a3 + 1)) ≤ a4 → (vp_in a4 768 ∧ ∀ l2, l2 = ab_u l 243 a4.toNatClampNeg 0 → ab_Fr MX12_layByWeight (d + 1) Q 3 [some (.ref 205), some (.int a1), some (.ref a2), some (.int a3), some (.int (a4 + 1)), none, none] [] (0, 0) (i, l2, dd, x) (ab_E0 sc))))) :
    ab_Fr MX12_layByWeight (d + 1) Q 3 [some (.ref 205), some (.int a1), some (.ref a2), some (.int a3), some (.int a4), none, none] [] (0, 0) (i, l, dd, x) (ab_E0 sc) := by
  refine ab_iload dX12_layByWeight_3 rfl ?_
  refine ab_iconst (v := 3) dX12_layByWeight_5 (by decide) ?_
  refine ab_iloadn dX12_layByWeight_6 rfl ?_
  refine ab_iconst (v := 1) dX12_layByWeight_7 (by decide) ?_
  refine ab_iadd dX12_layByWeight_8 ?_
  refine ab_imul dX12_layByWeight_9 ?_
  refine ab_icmp_ge (tgt := 27) dX12_layByWeight_10 (by decide) (fun c1 => ?_) (fun c1 => ?_)
  · refine ab_iconst (v := 0) dX12_layByWeight_27 (by decide) ?_
    refine ab_istore dX12_layByWeight_28 (Nat.le_of_ble_eq_true rfl) (L2 := [some (.ref 205), some (.int a1), some (.ref a2), some (.int a3), some (.int 0), none, none]) rfl ?_
    refine ab_forget (i := 3) (L2 := [some (.ref 205), some (.int a1), some (.ref a2), none, some (.int 0), none, none]) rfl ?_
    exact (h.1 c1)
  · refine ab_aloadn dX12_layByWeight_13 rfl ?_
    refine ab_getf (v := .ref 243) dX12_layByWeight_14 fl_X12_125 kd_205 ff_205_60 ?_
    refine ab_iload dX12_layByWeight_17 rfl ?_
    refine ab_lconst (v := 0) dX12_layByWeight_19 (by decide) ?_
    refine ab_lastore dX12_layByWeight_20 kd_243 (h.2 c1).1 ?_
    obtain ⟨l2, e3⟩ : ∃ z, z = ab_u l 243 a4.toNatClampNeg 0 := ⟨_, rfl⟩
    rw [show ab_u l 243 a4.toNatClampNeg 0 = l2 from e3.symm]
    refine ab_iinc (v := (a4 + 1)) dX12_layByWeight_21 rfl (by rfl) (Nat.le_of_ble_eq_true rfl) (L2 := [some (.ref 205), some (.int a1), some (.ref a2), some (.int a3), some (.int (a4 + 1)), none, none]) rfl ?_
    refine ab_goto (tgt := 3) dX12_layByWeight_24 (by decide) ?_
    exact ((h.2 c1).2 l2 e3)
theorem tMX12_layByWeight_30 {d : Nat} {Q : ab_Qt} {sc : Nat × (Nat → Int32)} {i : Nat → Nat → Int32} {l : Nat → Nat → Int64} {dd : Nat → Nat → Value} {x : Nat} {a1 : Int32} {a2 : Nat} {n_a2 : Nat} {a4 : Int32} (k_a2 : (ab_E0 sc).1 a2 = .inr (0, n_a2))
    (h : (((1 <<< ((2 * (i 205 30)) &&& 31)) ≤ a4 → Q (some none) (i, l, dd, x) (ab_E0 sc)) ∧ (¬ (1 <<< ((2 * (i 205 30)) &&& 31)) ≤ a4 → (vp_in a4 16384 ∧ ((¬ (i 242 a4.toNatClampNeg) = 0 → ab_Fr MX12_layByWeight (d + 1) Q 62 [some (.ref 205), some (.int a1), some (.ref a2), none, some (.int a4), some (.int 0), some (.int 0)] [] (0, 0) (i, l, dd, x) (ab_E0 sc)) ∧ ((i 242 a4.toNatClampNeg) = 0 → ab_Fr MX12_layByWeight (d + 1) Q 30 [some (.ref 205), some (.int a1), some (.ref a2), none, some (.int (a4 + 1)), none, none] [] (0, 0) (i, l, dd, x) (ab_E0 sc))))))) :
    ab_Fr MX12_layByWeight (d + 1) Q 30 [some (.ref 205), some (.int a1), some (.ref a2), none, some (.int a4), none, none] [] (0, 0) (i, l, dd, x) (ab_E0 sc) := by
  refine ab_iload dX12_layByWeight_30 rfl ?_
  refine ab_iconst (v := 1) dX12_layByWeight_32 (by decide) ?_
  refine ab_iconst (v := 2) dX12_layByWeight_33 (by decide) ?_
  refine ab_aloadn dX12_layByWeight_34 rfl ?_
  refine ab_getf (v := .int (i 205 30)) dX12_layByWeight_35 fl_X12_306 kd_205 rfl ?_
  refine ab_imul dX12_layByWeight_38 ?_
  refine ab_ishl dX12_layByWeight_39 ?_
  refine ab_icmp_ge (tgt := 150) dX12_layByWeight_40 (by decide) (fun c1 => ?_) (fun c1 => ?_)
  · exact ab_vret dX12_layByWeight_150 rfl ⟨Nat.zero_le _, Nat.zero_le _⟩ (h.1 c1)
  · refine ab_aloadn dX12_layByWeight_43 rfl ?_
    refine ab_getf (v := .ref 242) dX12_layByWeight_44 fl_X12_122 kd_205 ff_205_59 ?_
    refine ab_iload dX12_layByWeight_47 rfl ?_
    refine ab_baload (v := (i 242 a4.toNatClampNeg)) dX12_layByWeight_49 kd_242 (h.2 c1).1 rfl ?_
    refine ab_if_ne (tgt := 56) dX12_layByWeight_50 (by decide) (fun c2 => ?_) (fun c2 => ?_)
    · refine ab_iconst (v := 0) dX12_layByWeight_56 (by decide) ?_
      refine ab_istore dX12_layByWeight_57 (Nat.le_of_ble_eq_true rfl) (L2 := [some (.ref 205), some (.int a1), some (.ref a2), none, some (.int a4), some (.int 0), none]) rfl ?_
      refine ab_iconst (v := 0) dX12_layByWeight_59 (by decide) ?_
      refine ab_istore dX12_layByWeight_60 (Nat.le_of_ble_eq_true rfl) (L2 := [some (.ref 205), some (.int a1), some (.ref a2), none, some (.int a4), some (.int 0), some (.int 0)]) rfl ?_
      exact ((h.2 c1).2.1 c2)
    · refine ab_goto (tgt := 144) dX12_layByWeight_53 (by decide) ?_
      refine ab_iinc (v := (a4 + 1)) dX12_layByWeight_144 rfl (by rfl) (Nat.le_of_ble_eq_true rfl) (L2 := [some (.ref 205), some (.int a1), some (.ref a2), none, some (.int (a4 + 1)), none, none]) rfl ?_
      refine ab_goto (tgt := 30) dX12_layByWeight_147 (by decide) ?_
      exact ((h.2 c1).2.2 c2)
theorem tMX12_layByWeight_62 {d : Nat} {Q : ab_Qt} {sc : Nat × (Nat → Int32)} {i : Nat → Nat → Int32} {l : Nat → Nat → Int64} {dd : Nat → Nat → Value} {x : Nat} {a1 : Int32} {a2 : Nat} {n_a2 : Nat} {a4 : Int32} {a5 : Int32} {a6 : Int32} (k_a2 : (ab_E0 sc).1 a2 = .inr (0, n_a2))
    (h : (((i 205 30) ≤ a6 → ab_Fr MX12_layByWeight (d + 1) Q 102 [some (.ref 205), some (.int a1), some (.ref a2), none, some (.int a4), some (.int a5), some (.int 0)] [] (0, 0) (i, l, dd, x) (ab_E0 sc)) ∧ (¬ (i 205 30) ≤ a6 → ((¬ ((a4 >>> ((2 * a6) &&& 31)) &&& 3) = a1 → ab_Fr MX12_layByWeight (d + 1) Q 62 [some (.ref 205), some (.int a1), some (.ref a2), none, some (.int a4), some (.int a5), some (.int (a6 + 1))] [] (0, 0) (i, l, dd, x) (ab_E0 sc)) ∧ (((a4 >>> ((2 * a6) &&& 31)) &&& 3) = a1 → (vp_in a6 n_a2 ∧ ab_Fr MX12_layByWeight (d + 1) Q 62 [some (.ref 205), some (.int a1), some (.ref a2), none, some (.int a4), some (.int (a5 + (i a2 a6.toNatClampNeg))), some (.int (a6 + 1))] [] (0, 0) (i, l, dd, x) (ab_E0 sc))))))) :
    ab_Fr MX12_layByWeight (d + 1) Q 62 [some (.ref 205), some (.int a1), some (.ref a2), none, some (.int a4), some (.int a5), some (.int a6)] [] (0, 0) (i, l, dd, x) (ab_E0 sc) := by
  refine ab_iload dX12_layByWeight_62 rfl ?_
  refine ab_aloadn dX12_layByWeight_64 rfl ?_
  refine ab_getf (v := .int (i 205 30)) dX12_layByWeight_65 fl_X12_306 kd_205 rfl ?_
  refine ab_icmp_ge (tgt := 99) dX12_layByWeight_68 (by decide) (fun c1 => ?_) (fun c1 => ?_)
  · refine ab_iconst (v := 0) dX12_layByWeight_99 (by decide) ?_
    refine ab_istore dX12_layByWeight_100 (Nat.le_of_ble_eq_true rfl) (L2 := [some (.ref 205), some (.int a1), some (.ref a2), none, some (.int a4), some (.int a5), some (.int 0)]) rfl ?_
    exact (h.1 c1)
  · refine ab_iload dX12_layByWeight_71 rfl ?_
    refine ab_iconst (v := 2) dX12_layByWeight_73 (by decide) ?_
    refine ab_iload dX12_layByWeight_74 rfl ?_
    refine ab_imul dX12_layByWeight_76 ?_
    refine ab_ishr dX12_layByWeight_77 ?_
    refine ab_iconst (v := 3) dX12_layByWeight_78 (by decide) ?_
    refine ab_iand dX12_layByWeight_79 ?_
    refine ab_iloadn dX12_layByWeight_80 rfl ?_
    refine ab_icmp_ne (tgt := 93) dX12_layByWeight_81 (by decide) (fun c2 => ?_) (fun c2 => ?_)
    · refine ab_iinc (v := (a6 + 1)) dX12_layByWeight_93 rfl (by rfl) (Nat.le_of_ble_eq_true rfl) (L2 := [some (.ref 205), some (.int a1), some (.ref a2), none, some (.int a4), some (.int a5), some (.int (a6 + 1))]) rfl ?_
      refine ab_goto (tgt := 62) dX12_layByWeight_96 (by decide) ?_
      exact ((h.2 c1).1 c2)
    · refine ab_iload dX12_layByWeight_84 rfl ?_
      refine ab_aloadn dX12_layByWeight_86 rfl ?_
      refine ab_iload dX12_layByWeight_87 rfl ?_
      refine ab_iaload (v := (i a2 a6.toNatClampNeg)) dX12_layByWeight_89 k_a2 ((h.2 c1).2 c2).1 rfl ?_
      refine ab_iadd dX12_layByWeight_90 ?_
      refine ab_istore dX12_layByWeight_91 (Nat.le_of_ble_eq_true rfl) (L2 := [some (.ref 205), some (.int a1), some (.ref a2), none, some (.int a4), some (.int (a5 + (i a2 a6.toNatClampNeg))), some (.int a6)]) rfl ?_
      refine ab_iinc (v := (a6 + 1)) dX12_layByWeight_93 rfl (by rfl) (Nat.le_of_ble_eq_true rfl) (L2 := [some (.ref 205), some (.int a1), some (.ref a2), none, some (.int a4), some (.int (a5 + (i a2 a6.toNatClampNeg))), some (.int (a6 + 1))]) rfl ?_
      refine ab_goto (tgt := 62) dX12_layByWeight_96 (by decide) ?_
      exact ((h.2 c1).2 c2).2
theorem tMX12_layByWeight_102 {d : Nat} {Q : ab_Qt} {sc : Nat × (Nat → Int32)} {i : Nat → Nat → Int32} {l : Nat → Nat → Int64} {dd : Nat → Nat → Value} {x : Nat} {a1 : Int32} {a2 : Nat} {n_a2 : Nat} {a4 : Int32} {a5 : Int32} {a6 : Int32} (k_a2 : (ab_E0 sc).1 a2 = .inr (0, n_a2))
    (h : (((i 205 29) ≤ a6 → ab_Fr MX12_layByWeight (d + 1) Q 30 [some (.ref 205), some (.int a1), some (.ref a2), none, some (.int (a4 + 1)), none, none] [] (0, 0) (i, l, dd, x) (ab_E0 sc)) ∧ (¬ (i 205 29) ≤ a6 → (vp_in ((3 * a5) + a6) 768 ∧ vp_in ((3 * a4) + a6) 49152 ∧ vp_in ((3 * a5) + a6) 768 ∧ ∀ l2, l2 = ab_u l 243 ((3 * a5) + a6).toNatClampNeg ((l 243 ((3 * a5) + a6).toNatClampNeg) + (l 241 ((3 * a4) + a6).toNatClampNeg)) → ab_Fr MX12_layByWeight (d + 1) Q 102 [some (.ref 205), some (.int a1), some (.ref a2), none, some (.int a4), some (.int a5), some (.int (a6 + 1))] [] (0, 0) (i, l2, dd, x) (ab_E0 sc))))) :
    ab_Fr MX12_layByWeight (d + 1) Q 102 [some (.ref 205), some (.int a1), some (.ref a2), none, some (.int a4), some (.int a5), some (.int a6)] [] (0, 0) (i, l, dd, x) (ab_E0 sc) := by
  refine ab_iload dX12_layByWeight_102 rfl ?_
  refine ab_aloadn dX12_layByWeight_104 rfl ?_
  refine ab_getf (v := .int (i 205 29)) dX12_layByWeight_105 fl_X12_303 kd_205 rfl ?_
  refine ab_icmp_ge (tgt := 144) dX12_layByWeight_108 (by decide) (fun c1 => ?_) (fun c1 => ?_)
  · refine ab_iinc (v := (a4 + 1)) dX12_layByWeight_144 rfl (by rfl) (Nat.le_of_ble_eq_true rfl) (L2 := [some (.ref 205), some (.int a1), some (.ref a2), none, some (.int (a4 + 1)), some (.int a5), some (.int a6)]) rfl ?_
    refine ab_goto (tgt := 30) dX12_layByWeight_147 (by decide) ?_
    refine ab_forget (i := 5) (L2 := [some (.ref 205), some (.int a1), some (.ref a2), none, some (.int (a4 + 1)), none, some (.int a6)]) rfl ?_
    refine ab_forget (i := 6) (L2 := [some (.ref 205), some (.int a1), some (.ref a2), none, some (.int (a4 + 1)), none, none]) rfl ?_
    exact (h.1 c1)
  · refine ab_aloadn dX12_layByWeight_111 rfl ?_
    refine ab_getf (v := .ref 243) dX12_layByWeight_112 fl_X12_125 kd_205 ff_205_60 ?_
    refine ab_iconst (v := 3) dX12_layByWeight_115 (by decide) ?_
    refine ab_iload dX12_layByWeight_116 rfl ?_
    refine ab_imul dX12_layByWeight_118 ?_
    refine ab_iload dX12_layByWeight_119 rfl ?_
    refine ab_iadd dX12_layByWeight_121 ?_
    refine ab_dup2 dX12_layByWeight_122 rfl rfl ?_
    refine ab_laload (v := (l 243 ((3 * a5) + a6).toNatClampNeg)) dX12_layByWeight_123 kd_243 (h.2 c1).1 rfl ?_
    refine ab_aloadn dX12_layByWeight_124 rfl ?_
    refine ab_getf (v := .ref 241) dX12_layByWeight_125 fl_X12_119 kd_205 ff_205_58 ?_
    refine ab_iconst (v := 3) dX12_layByWeight_128 (by decide) ?_
    refine ab_iload dX12_layByWeight_129 rfl ?_
    refine ab_imul dX12_layByWeight_131 ?_
    refine ab_iload dX12_layByWeight_132 rfl ?_
    refine ab_iadd dX12_layByWeight_134 ?_
    refine ab_laload (v := (l 241 ((3 * a4) + a6).toNatClampNeg)) dX12_layByWeight_135 kd_241 (h.2 c1).2.1 rfl ?_
    refine ab_ladd dX12_layByWeight_136 ?_
    refine ab_lastore dX12_layByWeight_137 kd_243 (h.2 c1).2.2.1 ?_
    obtain ⟨l2, e3⟩ : ∃ z, z = ab_u l 243 ((3 * a5) + a6).toNatClampNeg ((l 243 ((3 * a5) + a6).toNatClampNeg) + (l 241 ((3 * a4) + a6).toNatClampNeg)) := ⟨_, rfl⟩
    rw [show ab_u l 243 ((3 * a5) + a6).toNatClampNeg ((l 243 ((3 * a5) + a6).toNatClampNeg) + (l 241 ((3 * a4) + a6).toNatClampNeg)) = l2 from e3.symm]
    refine ab_iinc (v := (a6 + 1)) dX12_layByWeight_138 rfl (by rfl) (Nat.le_of_ble_eq_true rfl) (L2 := [some (.ref 205), some (.int a1), some (.ref a2), none, some (.int a4), some (.int a5), some (.int (a6 + 1))]) rfl ?_
    refine ab_goto (tgt := 102) dX12_layByWeight_141 (by decide) ?_
    exact ((h.2 c1).2.2.2 l2 e3)
theorem tMX12_lostByNeed_0 {d : Nat} {Q : ab_Qt} {sc : Nat × (Nat → Int32)} {i : Nat → Nat → Int32} {l : Nat → Nat → Int64} {dd : Nat → Nat → Value} {x : Nat} {a1 : Int32} {a2 : Int32} {a3 : Int32} {a4 : Int32} 
    (h : ab_Fr MX12_lostByNeed (d + 1) Q 6 [some (.ref 205), some (.int a1), some (.int a2), some (.int a3), some (.int a4), some (.long 0), none, some (.int 0)] [] (0, 0) (i, l, dd, x) (ab_E0 sc)) :
    ab_Fr MX12_lostByNeed (d + 1) Q 0 [some (.ref 205), some (.int a1), some (.int a2), some (.int a3), some (.int a4), none, none, none] [] (0, 0) (i, l, dd, x) (ab_E0 sc) := by
  refine ab_lconst (v := 0) dX12_lostByNeed_0 (by decide) ?_
  refine ab_lstore dX12_lostByNeed_1 (Nat.le_of_ble_eq_true rfl) (L2 := [some (.ref 205), some (.int a1), some (.int a2), some (.int a3), some (.int a4), some (.long 0), none, none]) rfl ?_
  refine ab_iconst (v := 0) dX12_lostByNeed_3 (by decide) ?_
  refine ab_istore dX12_lostByNeed_4 (Nat.le_of_ble_eq_true rfl) (L2 := [some (.ref 205), some (.int a1), some (.int a2), some (.int a3), some (.int a4), some (.long 0), none, some (.int 0)]) rfl ?_
  exact h
theorem tMX12_lostByNeed_6 {d : Nat} {Q : ab_Qt} {sc : Nat × (Nat → Int32)} {i : Nat → Nat → Int32} {l : Nat → Nat → Int64} {dd : Nat → Nat → Value} {x : Nat} {a1 : Int32} {a2 : Int32} {a3 : Int32} {a4 : Int32} {a5 : Int64} {a7 : Int32} 
    (h : ((a4 < a7 → Q (some (some (.long a5))) (i, l, dd, x) (ab_E0 sc)) ∧ (¬ a4 < a7 → ((a7 < a1 → (vp_in ((3 * a7) + a3) 768 ∧ ab_Fr MX12_lostByNeed (d + 1) Q 6 [some (.ref 205), some (.int a1), some (.int a2), some (.int a3), some (.int a4), some (.long (a5 + (l 243 ((3 * a7) + a3).toNatClampNeg))), none, some (.int (a7 + 1))] [] (0, 0) (i, l, dd, x) (ab_E0 sc))) ∧ (¬ a7 < a1 → (vp_in ((3 * a7) + a2) 768 ∧ ab_Fr MX12_lostByNeed (d + 1) Q 6 [some (.ref 205), some (.int a1), some (.int a2), some (.int a3), some (.int a4), some (.long (a5 + (l 243 ((3 * a7) + a2).toNatClampNeg))), none, some (.int (a7 + 1))] [] (0, 0) (i, l, dd, x) (ab_E0 sc))))))) :
    ab_Fr MX12_lostByNeed (d + 1) Q 6 [some (.ref 205), some (.int a1), some (.int a2), some (.int a3), some (.int a4), some (.long a5), none, some (.int a7)] [] (0, 0) (i, l, dd, x) (ab_E0 sc) := by
  refine ab_iload dX12_lostByNeed_6 rfl ?_
  refine ab_iload dX12_lostByNeed_8 rfl ?_
  refine ab_icmp_gt (tgt := 45) dX12_lostByNeed_10 (by decide) (fun c1 => ?_) (fun c1 => ?_)
  · refine ab_lload dX12_lostByNeed_45 rfl ?_
    exact ab_lret dX12_lostByNeed_47 rfl ⟨Nat.zero_le _, Nat.zero_le _⟩ (h.1 c1)
  · refine ab_lload dX12_lostByNeed_13 rfl ?_
    refine ab_aloadn dX12_lostByNeed_15 rfl ?_
    refine ab_getf (v := .ref 243) dX12_lostByNeed_16 fl_X12_125 kd_205 ff_205_60 ?_
    refine ab_iconst (v := 3) dX12_lostByNeed_19 (by decide) ?_
    refine ab_iload dX12_lostByNeed_20 rfl ?_
    refine ab_imul dX12_lostByNeed_22 ?_
    refine ab_iload dX12_lostByNeed_23 rfl ?_
    refine ab_iloadn dX12_lostByNeed_25 rfl ?_
    refine ab_icmp_lt (tgt := 33) dX12_lostByNeed_26 (by decide) (fun c2 => ?_) (fun c2 => ?_)
    · refine ab_iloadn dX12_lostByNeed_33 rfl ?_
      refine ab_iadd dX12_lostByNeed_34 ?_
      refine ab_laload (v := (l 243 ((3 * a7) + a3).toNatClampNeg)) dX12_lostByNeed_35 kd_243 ((h.2 c1).1 c2).1 rfl ?_
      refine ab_ladd dX12_lostByNeed_36 ?_
      refine ab_lstore dX12_lostByNeed_37 (Nat.le_of_ble_eq_true rfl) (L2 := [some (.ref 205), some (.int a1), some (.int a2), some (.int a3), some (.int a4), some (.long (a5 + (l 243 ((3 * a7) + a3).toNatClampNeg))), none, some (.int a7)]) rfl ?_
      refine ab_iinc (v := (a7 + 1)) dX12_lostByNeed_39 rfl (by rfl) (Nat.le_of_ble_eq_true rfl) (L2 := [some (.ref 205), some (.int a1), some (.int a2), some (.int a3), some (.int a4), some (.long (a5 + (l 243 ((3 * a7) + a3).toNatClampNeg))), none, some (.int (a7 + 1))]) rfl ?_
      refine ab_goto (tgt := 6) dX12_lostByNeed_42 (by decide) ?_
      exact ((h.2 c1).1 c2).2
    · refine ab_iloadn dX12_lostByNeed_29 rfl ?_
      refine ab_goto (tgt := 34) dX12_lostByNeed_30 (by decide) ?_
      refine ab_iadd dX12_lostByNeed_34 ?_
      refine ab_laload (v := (l 243 ((3 * a7) + a2).toNatClampNeg)) dX12_lostByNeed_35 kd_243 ((h.2 c1).2 c2).1 rfl ?_
      refine ab_ladd dX12_lostByNeed_36 ?_
      refine ab_lstore dX12_lostByNeed_37 (Nat.le_of_ble_eq_true rfl) (L2 := [some (.ref 205), some (.int a1), some (.int a2), some (.int a3), some (.int a4), some (.long (a5 + (l 243 ((3 * a7) + a2).toNatClampNeg))), none, some (.int a7)]) rfl ?_
      refine ab_iinc (v := (a7 + 1)) dX12_lostByNeed_39 rfl (by rfl) (Nat.le_of_ble_eq_true rfl) (L2 := [some (.ref 205), some (.int a1), some (.int a2), some (.int a3), some (.int a4), some (.long (a5 + (l 243 ((3 * a7) + a2).toNatClampNeg))), none, some (.int (a7 + 1))]) rfl ?_
      refine ab_goto (tgt := 6) dX12_lostByNeed_42 (by decide) ?_
      exact ((h.2 c1).2 c2).2
theorem tMX12_barLost_0 {d : Nat} {Q : ab_Qt} {sc : Nat × (Nat → Int32)} {i : Nat → Nat → Int32} {l : Nat → Nat → Int64} {dd : Nat → Nat → Value} {x : Nat}  
    (h : (∀ i1, i1 = ab_u i 205 0 0 → Q (some (some (.long (l 205 61)))) (i1, l, dd, x) (ab_E0 sc))) :
    ab_Fr MX12_barLost (d + 1) Q 0 [some (.ref 205)] [] (0, 0) (i, l, dd, x) (ab_E0 sc) := by
  refine ab_aloadn dX12_barLost_0 rfl ?_
  refine ab_iconst (v := 0) dX12_barLost_1 (by decide) ?_
  refine ab_putI dX12_barLost_2 fl_X12_149 kd_205 rfl ?_
  obtain ⟨i1, e2⟩ : ∃ z, z = ab_u i 205 0 0 := ⟨_, rfl⟩
  show ab_Fr MX12_barLost (d + 1) Q 5 [some (.ref 205)] [] (0, 0) (ab_u i 205 0 0, l, dd, x) (ab_E0 sc)
  rw [show ab_u i 205 0 0 = i1 from e2.symm]
  refine ab_aloadn dX12_barLost_5 rfl ?_
  refine ab_getf (v := .long (l 205 61)) dX12_barLost_6 fl_X12_130 kd_205 rfl ?_
  exact ab_lret dX12_barLost_9 rfl ⟨Nat.zero_le _, Nat.zero_le _⟩ (h i1 e2)
theorem tMX12_weighed_0 {d : Nat} {Q : ab_Qt} {sc : Nat × (Nat → Int32)} {i : Nat → Nat → Int32} {l : Nat → Nat → Int64} {dd : Nat → Nat → Value} {x : Nat}  
    (h : (∀ i1, i1 = ab_u i 205 0 0 → (((i1 205 30) = 0 → Q (some (some (.long (-1)))) (i1, l, dd, x) (ab_E0 sc)) ∧ (¬ (i1 205 30) = 0 → (((i1 205 30) ≤ 5 → (∃ (P6 : ab_S → Prop), ab_Sp MX12_layByVotes d [.ref 205] (i1, l, dd, x) (ab_E0 sc) (none) P6 ∧ ∀ i9 l10 dd11 x12, P6 (i9, l10, dd11, x12) → ab_Fr MX12_weighed (d + 1) Q 34 [some (.ref 205), some (.long 1000000000000000000), none, some (.int 0), none, none, none, none, none, none, none, none, none] [] (0, 0) (i9, l10, dd11, x12) (ab_E0 sc))) ∧ (¬ (i1 205 30) ≤ 5 → Q (some (some (.long (-1)))) (i1, l, dd, x) (ab_E0 sc))))))) :
    ab_Fr MX12_weighed (d + 1) Q 0 [some (.ref 205), none, none, none, none, none, none, none, none, none, none, none, none] [] (0, 0) (i, l, dd, x) (ab_E0 sc) := by
  refine ab_aloadn dX12_weighed_0 rfl ?_
  refine ab_iconst (v := 0) dX12_weighed_1 (by decide) ?_
  refine ab_putI dX12_weighed_2 fl_X12_149 kd_205 rfl ?_
  obtain ⟨i1, e2⟩ : ∃ z, z = ab_u i 205 0 0 := ⟨_, rfl⟩
  show ab_Fr MX12_weighed (d + 1) Q 5 [some (.ref 205), none, none, none, none, none, none, none, none, none, none, none, none] [] (0, 0) (ab_u i 205 0 0, l, dd, x) (ab_E0 sc)
  rw [show ab_u i 205 0 0 = i1 from e2.symm]
  refine ab_aloadn dX12_weighed_5 rfl ?_
  refine ab_getf (v := .int (i1 205 30)) dX12_weighed_6 fl_X12_306 kd_205 rfl ?_
  refine ab_if_eq (tgt := 20) dX12_weighed_9 (by decide) (fun c3 => ?_) (fun c3 => ?_)
  · refine ab_ldc2 dX12_weighed_20 wd_1257 ?_
    exact ab_lret dX12_weighed_23 rfl ⟨Nat.zero_le _, Nat.zero_le _⟩ ((h i1 e2).1 c3)
  · refine ab_aloadn dX12_weighed_12 rfl ?_
    refine ab_getf (v := .int (i1 205 30)) dX12_weighed_13 fl_X12_306 kd_205 rfl ?_
    refine ab_iconst (v := 5) dX12_weighed_16 (by decide) ?_
    refine ab_icmp_le (tgt := 24) dX12_weighed_17 (by decide) (fun c4 => ?_) (fun c4 => ?_)
    · refine ab_aloadn dX12_weighed_24 rfl ?_
      obtain ⟨P6, hs7, hk8⟩ := (((h i1 e2).2 c3).1 c4)
      refine ab_callV (vs := []) (st := []) dX12_weighed_25 okMX12_layByVotes wd_1714 kd_205 rfl rfl rfl (Nat.le_of_ble_eq_true rfl) ⟨Nat.le_of_ble_eq_true rfl, Nat.le_of_ble_eq_true rfl⟩ hs7 ?_
      rintro v9 ⟨i9, l10, dd11, x12⟩ E9 - ⟨rfl, rfl, hp13⟩
      show ab_Fr MX12_weighed (d + 1) Q 28 [some (.ref 205), none, none, none, none, none, none, none, none, none, none, none, none] [] (0, 0) (i9, l10, dd11, x12) (ab_E0 sc)
      refine ab_ldc2 dX12_weighed_28 wd_1703 ?_
      refine ab_lstoren dX12_weighed_31 (Nat.le_of_ble_eq_true rfl) (L2 := [some (.ref 205), some (.long 1000000000000000000), none, none, none, none, none, none, none, none, none, none, none]) rfl ?_
      refine ab_iconst (v := 0) dX12_weighed_32 (by decide) ?_
      refine ab_istoren dX12_weighed_33 (Nat.le_of_ble_eq_true rfl) (L2 := [some (.ref 205), some (.long 1000000000000000000), none, some (.int 0), none, none, none, none, none, none, none, none, none]) rfl ?_
      exact (hk8 i9 l10 dd11 x12 hp13)
    · refine ab_ldc2 dX12_weighed_20 wd_1257 ?_
      exact ab_lret dX12_weighed_23 rfl ⟨Nat.zero_le _, Nat.zero_le _⟩ (((h i1 e2).2 c3).2 c4)
theorem tMX12_weighed_34 {d : Nat} {Q : ab_Qt} {sc : Nat × (Nat → Int32)} {i : Nat → Nat → Int32} {l : Nat → Nat → Int64} {dd : Nat → Nat → Value} {x : Nat} {a1 : Int64} {a3 : Int32} 
    (h : (((1 <<< ((2 * (i 205 30)) &&& 31)) ≤ a3 → (∀ i2, i2 = ab_u i 205 64 (i 205 30) → Q (some (some (.long a1))) (i2, l, dd, x) (ab_E0 sc))) ∧ (¬ (1 <<< ((2 * (i 205 30)) &&& 31)) ≤ a3 → ab_Fr MX12_weighed (d + 1) Q 49 [some (.ref 205), some (.long a1), none, some (.int a3), some (.int 0), none, none, none, none, none, none, none, none] [] (0, 0) (i, l, dd, x) (ab_E0 sc)))) :
    ab_Fr MX12_weighed (d + 1) Q 34 [some (.ref 205), some (.long a1), none, some (.int a3), none, none, none, none, none, none, none, none, none] [] (0, 0) (i, l, dd, x) (ab_E0 sc) := by
  refine ab_iloadn dX12_weighed_34 rfl ?_
  refine ab_iconst (v := 1) dX12_weighed_35 (by decide) ?_
  refine ab_iconst (v := 2) dX12_weighed_36 (by decide) ?_
  refine ab_aloadn dX12_weighed_37 rfl ?_
  refine ab_getf (v := .int (i 205 30)) dX12_weighed_38 fl_X12_306 kd_205 rfl ?_
  refine ab_imul dX12_weighed_41 ?_
  refine ab_ishl dX12_weighed_42 ?_
  refine ab_icmp_ge (tgt := 317) dX12_weighed_43 (by decide) (fun c1 => ?_) (fun c1 => ?_)
  · refine ab_aloadn dX12_weighed_317 rfl ?_
    refine ab_aloadn dX12_weighed_318 rfl ?_
    refine ab_getf (v := .int (i 205 30)) dX12_weighed_319 fl_X12_306 kd_205 rfl ?_
    refine ab_putI dX12_weighed_322 fl_X12_452 kd_205 rfl ?_
    obtain ⟨i2, e3⟩ : ∃ z, z = ab_u i 205 64 (i 205 30) := ⟨_, rfl⟩
    show ab_Fr MX12_weighed (d + 1) Q 325 [some (.ref 205), some (.long a1), none, some (.int a3), none, none, none, none, none, none, none, none, none] [] (0, 0) (ab_u i 205 64 (i 205 30), l, dd, x) (ab_E0 sc)
    rw [show ab_u i 205 64 (i 205 30) = i2 from e3.symm]
    refine ab_lloadn dX12_weighed_325 rfl ?_
    exact ab_lret dX12_weighed_326 rfl ⟨Nat.zero_le _, Nat.zero_le _⟩ ((h.1 c1) i2 e3)
  · refine ab_iconst (v := 0) dX12_weighed_46 (by decide) ?_
    refine ab_istore dX12_weighed_47 (Nat.le_of_ble_eq_true rfl) (L2 := [some (.ref 205), some (.long a1), none, some (.int a3), some (.int 0), none, none, none, none, none, none, none, none]) rfl ?_
    exact (h.2 c1)
theorem tMX12_weighed_49 {d : Nat} {Q : ab_Qt} {sc : Nat × (Nat → Int32)} {i : Nat → Nat → Int32} {l : Nat → Nat → Int64} {dd : Nat → Nat → Value} {x : Nat} {a1 : Int64} {a3 : Int32} {a4 : Int32} 
    (h : (((i 205 30) ≤ a4 → ab_Fr MX12_weighed (d + 1) Q 97 [some (.ref 205), some (.long a1), none, some (.int a3), some (.long 1000000000000000000), none, some (.int (-1)), some (.int 0), none, none, none, none, none] [] (0, 0) (i, l, dd, x) (ab_E0 sc)) ∧ (¬ (i 205 30) ≤ a4 → (vp_in a4 7 ∧ ∀ i2, i2 = ab_u i 244 a4.toNatClampNeg ((a3 >>> ((2 * (((i 205 30) - 1) - a4)) &&& 31)) &&& 3) → ab_Fr MX12_weighed (d + 1) Q 49 [some (.ref 205), some (.long a1), none, some (.int a3), some (.int (a4 + 1)), none, none, none, none, none, none, none, none] [] (0, 0) (i2, l, dd, x) (ab_E0 sc))))) :
    ab_Fr MX12_weighed (d + 1) Q 49 [some (.ref 205), some (.long a1), none, some (.int a3), some (.int a4), none, none, none, none, none, none, none, none] [] (0, 0) (i, l, dd, x) (ab_E0 sc) := by
  refine ab_iload dX12_weighed_49 rfl ?_
  refine ab_aloadn dX12_weighed_51 rfl ?_
  refine ab_getf (v := .int (i 205 30)) dX12_weighed_52 fl_X12_306 kd_205 rfl ?_
  refine ab_icmp_ge (tgt := 86) dX12_weighed_55 (by decide) (fun c1 => ?_) (fun c1 => ?_)
  · refine ab_ldc2 dX12_weighed_86 wd_1703 ?_
    refine ab_lstore dX12_weighed_89 (Nat.le_of_ble_eq_true rfl) (L2 := [some (.ref 205), some (.long a1), none, some (.int a3), some (.long 1000000000000000000), none, none, none, none, none, none, none, none]) rfl ?_
    refine ab_iconst (v := (-1)) dX12_weighed_91 (by decide) ?_
    refine ab_istore dX12_weighed_92 (Nat.le_of_ble_eq_true rfl) (L2 := [some (.ref 205), some (.long a1), none, some (.int a3), some (.long 1000000000000000000), none, some (.int (-1)), none, none, none, none, none, none]) rfl ?_
    refine ab_iconst (v := 0) dX12_weighed_94 (by decide) ?_
    refine ab_istore dX12_weighed_95 (Nat.le_of_ble_eq_true rfl) (L2 := [some (.ref 205), some (.long a1), none, some (.int a3), some (.long 1000000000000000000), none, some (.int (-1)), some (.int 0), none, none, none, none, none]) rfl ?_
    exact (h.1 c1)
  · refine ab_aloadn dX12_weighed_58 rfl ?_
    refine ab_getf (v := .ref 244) dX12_weighed_59 fl_X12_134 kd_205 ff_205_62 ?_
    refine ab_iload dX12_weighed_62 rfl ?_
    refine ab_iloadn dX12_weighed_64 rfl ?_
    refine ab_iconst (v := 2) dX12_weighed_65 (by decide) ?_
    refine ab_aloadn dX12_weighed_66 rfl ?_
    refine ab_getf (v := .int (i 205 30)) dX12_weighed_67 fl_X12_306 kd_205 rfl ?_
    refine ab_iconst (v := 1) dX12_weighed_70 (by decide) ?_
    refine ab_isub dX12_weighed_71 ?_
    refine ab_iload dX12_weighed_72 rfl ?_
    refine ab_isub dX12_weighed_74 ?_
    refine ab_imul dX12_weighed_75 ?_
    refine ab_ishr dX12_weighed_76 ?_
    refine ab_iconst (v := 3) dX12_weighed_77 (by decide) ?_
    refine ab_iand dX12_weighed_78 ?_
    refine ab_iastore dX12_weighed_79 kd_244 (h.2 c1).1 ?_
    obtain ⟨i2, e3⟩ : ∃ z, z = ab_u i 244 a4.toNatClampNeg ((a3 >>> ((2 * (((i 205 30) - 1) - a4)) &&& 31)) &&& 3) := ⟨_, rfl⟩
    rw [show ab_u i 244 a4.toNatClampNeg ((a3 >>> ((2 * (((i 205 30) - 1) - a4)) &&& 31)) &&& 3) = i2 from e3.symm]
    refine ab_iinc (v := (a4 + 1)) dX12_weighed_80 rfl (by rfl) (Nat.le_of_ble_eq_true rfl) (L2 := [some (.ref 205), some (.long a1), none, some (.int a3), some (.int (a4 + 1)), none, none, none, none, none, none, none, none]) rfl ?_
    refine ab_goto (tgt := 49) dX12_weighed_83 (by decide) ?_
    exact ((h.2 c1).2 i2 e3)
theorem tMX12_weighed_97 {d : Nat} {Q : ab_Qt} {sc : Nat × (Nat → Int32)} {i : Nat → Nat → Int32} {l : Nat → Nat → Int64} {dd : Nat → Nat → Value} {x : Nat} {a1 : Int64} {a3 : Int32} {a4 : Int64} {a6 : Int32} {a7 : Int32} 
    (h : (((i 205 29) ≤ a7 → ((a4 < a1 → ab_Fr MX12_weighed (d + 1) Q 247 [some (.ref 205), some (.long a4), none, some (.int a3), none, none, some (.int a6), some (.int 0), none, none, none, none, none] [] (0, 0) (i, l, dd, x) (ab_E0 sc)) ∧ (¬ a4 < a1 → ab_Fr MX12_weighed (d + 1) Q 34 [some (.ref 205), some (.long a1), none, some (.int (a3 + 1)), none, none, none, none, none, none, none, none, none] [] (0, 0) (i, l, dd, x) (ab_E0 sc)))) ∧ (¬ (i 205 29) ≤ a7 → (∃ (P4 : ab_S → Prop), ab_Sp MX12_layByWeight d [.ref 205, .int a7, .ref 244, .int 15] (i, l, dd, x) (ab_E0 sc) (none) P4 ∧ ∀ i7 l8 dd9 x10, P4 (i7, l8, dd9, x10) → ab_Fr MX12_weighed (d + 1) Q 121 [some (.ref 205), some (.long a1), none, some (.int a3), some (.long a4), none, some (.int a6), some (.int a7), some (.int 1), none, none, none, none] [] (0, 0) (i7, l8, dd9, x10) (ab_E0 sc))))) :
    ab_Fr MX12_weighed (d + 1) Q 97 [some (.ref 205), some (.long a1), none, some (.int a3), some (.long a4), none, some (.int a6), some (.int a7), none, none, none, none, none] [] (0, 0) (i, l, dd, x) (ab_E0 sc) := by
  refine ab_iload dX12_weighed_97 rfl ?_
  refine ab_aloadn dX12_weighed_99 rfl ?_
  refine ab_getf (v := .int (i 205 29)) dX12_weighed_100 fl_X12_303 kd_205 rfl ?_
  refine ab_icmp_ge (tgt := 231) dX12_weighed_103 (by decide) (fun c1 => ?_) (fun c1 => ?_)
  · refine ab_lload dX12_weighed_231 rfl ?_
    refine ab_lloadn dX12_weighed_233 rfl ?_
    refine ab_lclt (tgt := 241) dX12_weighed_234 dX12_weighed_235 (by decide) (fun c2 => ?_) (fun c2 => ?_)
    · refine ab_lload dX12_weighed_241 rfl ?_
      refine ab_lstoren dX12_weighed_243 (Nat.le_of_ble_eq_true rfl) (L2 := [some (.ref 205), some (.long a4), none, some (.int a3), some (.long a4), none, some (.int a6), some (.int a7), none, none, none, none, none]) rfl ?_
      refine ab_iconst (v := 0) dX12_weighed_244 (by decide) ?_
      refine ab_istore dX12_weighed_245 (Nat.le_of_ble_eq_true rfl) (L2 := [some (.ref 205), some (.long a4), none, some (.int a3), some (.long a4), none, some (.int a6), some (.int 0), none, none, none, none, none]) rfl ?_
      refine ab_forget (i := 4) (L2 := [some (.ref 205), some (.long a4), none, some (.int a3), none, none, some (.int a6), some (.int 0), none, none, none, none, none]) rfl ?_
      exact ((h.1 c1).1 c2)
    · refine ab_goto (tgt := 311) dX12_weighed_238 (by decide) ?_
      refine ab_iinc (v := (a3 + 1)) dX12_weighed_311 rfl (by rfl) (Nat.le_of_ble_eq_true rfl) (L2 := [some (.ref 205), some (.long a1), none, some (.int (a3 + 1)), some (.long a4), none, some (.int a6), some (.int a7), none, none, none, none, none]) rfl ?_
      refine ab_goto (tgt := 34) dX12_weighed_314 (by decide) ?_
      refine ab_forget (i := 4) (L2 := [some (.ref 205), some (.long a1), none, some (.int (a3 + 1)), none, none, some (.int a6), some (.int a7), none, none, none, none, none]) rfl ?_
      refine ab_forget (i := 6) (L2 := [some (.ref 205), some (.long a1), none, some (.int (a3 + 1)), none, none, none, some (.int a7), none, none, none, none, none]) rfl ?_
      refine ab_forget (i := 7) (L2 := [some (.ref 205), some (.long a1), none, some (.int (a3 + 1)), none, none, none, none, none, none, none, none, none]) rfl ?_
      exact ((h.1 c1).2 c2)
  · refine ab_aloadn dX12_weighed_106 rfl ?_
    refine ab_iload dX12_weighed_107 rfl ?_
    refine ab_aloadn dX12_weighed_109 rfl ?_
    refine ab_getf (v := .ref 244) dX12_weighed_110 fl_X12_134 kd_205 ff_205_62 ?_
    refine ab_bipush (v := 15) dX12_weighed_113 (by decide) ?_
    obtain ⟨P4, hs5, hk6⟩ := (h.2 c1)
    refine ab_callV (vs := [.int a7, .ref 244, .int 15]) (st := []) dX12_weighed_115 okMX12_layByWeight wd_1724 kd_205 rfl rfl rfl (Nat.le_of_ble_eq_true rfl) ⟨Nat.le_of_ble_eq_true rfl, Nat.le_of_ble_eq_true rfl⟩ hs5 ?_
    rintro v9 ⟨i7, l8, dd9, x10⟩ E9 - ⟨rfl, rfl, hp11⟩
    show ab_Fr MX12_weighed (d + 1) Q 118 [some (.ref 205), some (.long a1), none, some (.int a3), some (.long a4), none, some (.int a6), some (.int a7), none, none, none, none, none] [] (0, 0) (i7, l8, dd9, x10) (ab_E0 sc)
    refine ab_iconst (v := 1) dX12_weighed_118 (by decide) ?_
    refine ab_istore dX12_weighed_119 (Nat.le_of_ble_eq_true rfl) (L2 := [some (.ref 205), some (.long a1), none, some (.int a3), some (.long a4), none, some (.int a6), some (.int a7), some (.int 1), none, none, none, none]) rfl ?_
    exact (hk6 i7 l8 dd9 x10 hp11)
theorem tMX12_weighed_121 {d : Nat} {Q : ab_Qt} {sc : Nat × (Nat → Int32)} {i : Nat → Nat → Int32} {l : Nat → Nat → Int64} {dd : Nat → Nat → Value} {x : Nat} {a1 : Int64} {a3 : Int32} {a4 : Int64} {a6 : Int32} {a7 : Int32} {a8 : Int32} 
    (h : ((15 < a8 → ab_Fr MX12_weighed (d + 1) Q 97 [some (.ref 205), some (.long a1), none, some (.int a3), some (.long a4), none, some (.int a6), some (.int (a7 + 1)), none, none, none, none, none] [] (0, 0) (i, l, dd, x) (ab_E0 sc)) ∧ (¬ 15 < a8 → ab_Fr MX12_weighed (d + 1) Q 131 [some (.ref 205), some (.long a1), none, some (.int a3), some (.long a4), none, some (.int a6), some (.int a7), some (.int a8), some (.int 0), none, none, none] [] (0, 0) (i, l, dd, x) (ab_E0 sc)))) :
    ab_Fr MX12_weighed (d + 1) Q 121 [some (.ref 205), some (.long a1), none, some (.int a3), some (.long a4), none, some (.int a6), some (.int a7), some (.int a8), none, none, none, none] [] (0, 0) (i, l, dd, x) (ab_E0 sc) := by
  refine ab_iload dX12_weighed_121 rfl ?_
  refine ab_bipush (v := 15) dX12_weighed_123 (by decide) ?_
  refine ab_icmp_gt (tgt := 225) dX12_weighed_125 (by decide) (fun c1 => ?_) (fun c1 => ?_)
  · refine ab_iinc (v := (a7 + 1)) dX12_weighed_225 rfl (by rfl) (Nat.le_of_ble_eq_true rfl) (L2 := [some (.ref 205), some (.long a1), none, some (.int a3), some (.long a4), none, some (.int a6), some (.int (a7 + 1)), some (.int a8), none, none, none, none]) rfl ?_
    refine ab_goto (tgt := 97) dX12_weighed_228 (by decide) ?_
    refine ab_forget (i := 8) (L2 := [some (.ref 205), some (.long a1), none, some (.int a3), some (.long a4), none, some (.int a6), some (.int (a7 + 1)), none, none, none, none, none]) rfl ?_
    exact (h.1 c1)
  · refine ab_iconst (v := 0) dX12_weighed_128 (by decide) ?_
    refine ab_istore dX12_weighed_129 (Nat.le_of_ble_eq_true rfl) (L2 := [some (.ref 205), some (.long a1), none, some (.int a3), some (.long a4), none, some (.int a6), some (.int a7), some (.int a8), some (.int 0), none, none, none]) rfl ?_
    exact (h.2 c1)
theorem tMX12_weighed_131 {d : Nat} {Q : ab_Qt} {sc : Nat × (Nat → Int32)} {i : Nat → Nat → Int32} {l : Nat → Nat → Int64} {dd : Nat → Nat → Value} {x : Nat} {a1 : Int64} {a3 : Int32} {a4 : Int64} {a6 : Int32} {a7 : Int32} {a8 : Int32} {a9 : Int32} 
    (h : (((i 205 29) ≤ a9 → ab_Fr MX12_weighed (d + 1) Q 121 [some (.ref 205), some (.long a1), none, some (.int a3), some (.long a4), none, some (.int a6), some (.int a7), some (.int (a8 + 1)), none, none, none, none] [] (0, 0) (i, l, dd, x) (ab_E0 sc)) ∧ (¬ (i 205 29) ≤ a9 → ((¬ a7 = a9 → (∃ (r3 : Int64) (P4 : ab_S → Prop), ab_Sp MX12_lostByNeed d [.ref 205, .int a8, .int a7, .int a9, .int 15] (i, l, dd, x) (ab_E0 sc) (some (.long r3)) P4 ∧ ∀ i7 l8 dd9 x10, P4 (i7, l8, dd9, x10) → ((a4 < r3 → ab_Fr MX12_weighed (d + 1) Q 131 [some (.ref 205), some (.long a1), none, some (.int a3), some (.long a4), none, some (.int a6), some (.int a7), some (.int a8), some (.int (a9 + 1)), none, none, none] [] (0, 0) (i7, l8, dd9, x10) (ab_E0 sc)) ∧ (¬ a4 < r3 → ((¬ r3 = a4 → ab_Fr MX12_weighed (d + 1) Q 131 [some (.ref 205), some (.long a1), none, some (.int a3), some (.long r3), none, some (.int (((9 * a8) + (3 * a7)) + a9)), some (.int a7), some (.int a8), some (.int (a9 + 1)), none, none, none] [] (0, 0) (i7, l8, dd9, x10) (ab_E0 sc)) ∧ (r3 = a4 → (((((9 * a8) + (3 * a7)) + a9) < a6 → ab_Fr MX12_weighed (d + 1) Q 131 [some (.ref 205), some (.long a1), none, some (.int a3), some (.long r3), none, some (.int (((9 * a8) + (3 * a7)) + a9)), some (.int a7), some (.int a8), some (.int (a9 + 1)), none, none, none] [] (0, 0) (i7, l8, dd9, x10) (ab_E0 sc)) ∧ (¬ (((9 * a8) + (3 * a7)) + a9) < a6 → ab_Fr MX12_weighed (d + 1) Q 131 [some (.ref 205), some (.long a1), none, some (.int a3), some (.long a4), none, some (.int a6), some (.int a7), some (.int a8), some (.int (a9 + 1)), none, none, none] [] (0, 0) (i7, l8, dd9, x10) (ab_E0 sc))))))))) ∧ (a7 = a9 → ab_Fr MX12_weighed (d + 1) Q 131 [some (.ref 205), some (.long a1), none, some (.int a3), some (.long a4), none, some (.int a6), some (.int a7), some (.int a8), some (.int (a9 + 1)), none, none, none] [] (0, 0) (i, l, dd, x) (ab_E0 sc)))))) :
    ab_Fr MX12_weighed (d + 1) Q 131 [some (.ref 205), some (.long a1), none, some (.int a3), some (.long a4), none, some (.int a6), some (.int a7), some (.int a8), some (.int a9), none, none, none] [] (0, 0) (i, l, dd, x) (ab_E0 sc) := by
  refine ab_iload dX12_weighed_131 rfl ?_
  refine ab_aloadn dX12_weighed_133 rfl ?_
  refine ab_getf (v := .int (i 205 29)) dX12_weighed_134 fl_X12_303 kd_205 rfl ?_
  refine ab_icmp_ge (tgt := 219) dX12_weighed_137 (by decide) (fun c1 => ?_) (fun c1 => ?_)
  · refine ab_iinc (v := (a8 + 1)) dX12_weighed_219 rfl (by rfl) (Nat.le_of_ble_eq_true rfl) (L2 := [some (.ref 205), some (.long a1), none, some (.int a3), some (.long a4), none, some (.int a6), some (.int a7), some (.int (a8 + 1)), some (.int a9), none, none, none]) rfl ?_
    refine ab_goto (tgt := 121) dX12_weighed_222 (by decide) ?_
    refine ab_forget (i := 9) (L2 := [some (.ref 205), some (.long a1), none, some (.int a3), some (.long a4), none, some (.int a6), some (.int a7), some (.int (a8 + 1)), none, none, none, none]) rfl ?_
    exact (h.1 c1)
  · refine ab_iload dX12_weighed_140 rfl ?_
    refine ab_iload dX12_weighed_142 rfl ?_
    refine ab_icmp_ne (tgt := 150) dX12_weighed_144 (by decide) (fun c2 => ?_) (fun c2 => ?_)
    · refine ab_aloadn dX12_weighed_150 rfl ?_
      refine ab_iload dX12_weighed_151 rfl ?_
      refine ab_iload dX12_weighed_153 rfl ?_
      refine ab_iload dX12_weighed_155 rfl ?_
      refine ab_bipush (v := 15) dX12_weighed_157 (by decide) ?_
      obtain ⟨r3, P4, hs5, hk6⟩ := ((h.2 c1).1 c2)
      refine ab_callV (vs := [.int a8, .int a7, .int a9, .int 15]) (st := []) dX12_weighed_159 okMX12_lostByNeed wd_1727 kd_205 rfl rfl rfl (Nat.le_of_ble_eq_true rfl) ⟨Nat.le_of_ble_eq_true rfl, Nat.le_of_ble_eq_true rfl⟩ hs5 ?_
      rintro v9 ⟨i7, l8, dd9, x10⟩ E9 - ⟨rfl, rfl, hp11⟩
      show ab_Fr MX12_weighed (d + 1) Q 162 [some (.ref 205), some (.long a1), none, some (.int a3), some (.long a4), none, some (.int a6), some (.int a7), some (.int a8), some (.int a9), none, none, none] [.long r3] (0, 0) (i7, l8, dd9, x10) (ab_E0 sc)
      refine ab_lstore dX12_weighed_162 (Nat.le_of_ble_eq_true rfl) (L2 := [some (.ref 205), some (.long a1), none, some (.int a3), some (.long a4), none, some (.int a6), some (.int a7), some (.int a8), some (.int a9), some (.long r3), none, none]) rfl ?_
      refine ab_bipush (v := 9) dX12_weighed_164 (by decide) ?_
      refine ab_iload dX12_weighed_166 rfl ?_
      refine ab_imul dX12_weighed_168 ?_
      refine ab_iconst (v := 3) dX12_weighed_169 (by decide) ?_
      refine ab_iload dX12_weighed_170 rfl ?_
      refine ab_imul dX12_weighed_172 ?_
      refine ab_iadd dX12_weighed_173 ?_
      refine ab_iload dX12_weighed_174 rfl ?_
      refine ab_iadd dX12_weighed_176 ?_
      refine ab_istore dX12_weighed_177 (Nat.le_of_ble_eq_true rfl) (L2 := [some (.ref 205), some (.long a1), none, some (.int a3), some (.long a4), none, some (.int a6), some (.int a7), some (.int a8), some (.int a9), some (.long r3), none, some (.int (((9 * a8) + (3 * a7)) + a9))]) rfl ?_
      refine ab_lload dX12_weighed_179 rfl ?_
      refine ab_lload dX12_weighed_181 rfl ?_
      refine ab_lcgt (tgt := 213) dX12_weighed_183 dX12_weighed_184 (by decide) (fun c12 => ?_) (fun c12 => ?_)
      · refine ab_iinc (v := (a9 + 1)) dX12_weighed_213 rfl (by rfl) (Nat.le_of_ble_eq_true rfl) (L2 := [some (.ref 205), some (.long a1), none, some (.int a3), some (.long a4), none, some (.int a6), some (.int a7), some (.int a8), some (.int (a9 + 1)), some (.long r3), none, some (.int (((9 * a8) + (3 * a7)) + a9))]) rfl ?_
        refine ab_goto (tgt := 131) dX12_weighed_216 (by decide) ?_
        refine ab_forget (i := 10) (L2 := [some (.ref 205), some (.long a1), none, some (.int a3), some (.long a4), none, some (.int a6), some (.int a7), some (.int a8), some (.int (a9 + 1)), none, none, some (.int (((9 * a8) + (3 * a7)) + a9))]) rfl ?_
        refine ab_forget (i := 12) (L2 := [some (.ref 205), some (.long a1), none, some (.int a3), some (.long a4), none, some (.int a6), some (.int a7), some (.int a8), some (.int (a9 + 1)), none, none, none]) rfl ?_
        exact ((hk6 i7 l8 dd9 x10 hp11).1 c12)
      · refine ab_lload dX12_weighed_187 rfl ?_
        refine ab_lload dX12_weighed_189 rfl ?_
        refine ab_lcne (tgt := 205) dX12_weighed_191 dX12_weighed_192 (by decide) (fun c13 => ?_) (fun c13 => ?_)
        · refine ab_lload dX12_weighed_205 rfl ?_
          refine ab_lstore dX12_weighed_207 (Nat.le_of_ble_eq_true rfl) (L2 := [some (.ref 205), some (.long a1), none, some (.int a3), some (.long r3), none, some (.int a6), some (.int a7), some (.int a8), some (.int a9), some (.long r3), none, some (.int (((9 * a8) + (3 * a7)) + a9))]) rfl ?_
          refine ab_iload dX12_weighed_209 rfl ?_
          refine ab_istore dX12_weighed_211 (Nat.le_of_ble_eq_true rfl) (L2 := [some (.ref 205), some (.long a1), none, some (.int a3), some (.long r3), none, some (.int (((9 * a8) + (3 * a7)) + a9)), some (.int a7), some (.int a8), some (.int a9), some (.long r3), none, some (.int (((9 * a8) + (3 * a7)) + a9))]) rfl ?_
          refine ab_iinc (v := (a9 + 1)) dX12_weighed_213 rfl (by rfl) (Nat.le_of_ble_eq_true rfl) (L2 := [some (.ref 205), some (.long a1), none, some (.int a3), some (.long r3), none, some (.int (((9 * a8) + (3 * a7)) + a9)), some (.int a7), some (.int a8), some (.int (a9 + 1)), some (.long r3), none, some (.int (((9 * a8) + (3 * a7)) + a9))]) rfl ?_
          refine ab_goto (tgt := 131) dX12_weighed_216 (by decide) ?_
          refine ab_forget (i := 10) (L2 := [some (.ref 205), some (.long a1), none, some (.int a3), some (.long r3), none, some (.int (((9 * a8) + (3 * a7)) + a9)), some (.int a7), some (.int a8), some (.int (a9 + 1)), none, none, some (.int (((9 * a8) + (3 * a7)) + a9))]) rfl ?_
          refine ab_forget (i := 12) (L2 := [some (.ref 205), some (.long a1), none, some (.int a3), some (.long r3), none, some (.int (((9 * a8) + (3 * a7)) + a9)), some (.int a7), some (.int a8), some (.int (a9 + 1)), none, none, none]) rfl ?_
          exact (((hk6 i7 l8 dd9 x10 hp11).2 c12).1 c13)
        · refine ab_iload dX12_weighed_195 rfl ?_
          refine ab_iload dX12_weighed_197 rfl ?_
          refine ab_icmp_lt (tgt := 205) dX12_weighed_199 (by decide) (fun c14 => ?_) (fun c14 => ?_)
          · refine ab_lload dX12_weighed_205 rfl ?_
            refine ab_lstore dX12_weighed_207 (Nat.le_of_ble_eq_true rfl) (L2 := [some (.ref 205), some (.long a1), none, some (.int a3), some (.long r3), none, some (.int a6), some (.int a7), some (.int a8), some (.int a9), some (.long r3), none, some (.int (((9 * a8) + (3 * a7)) + a9))]) rfl ?_
            refine ab_iload dX12_weighed_209 rfl ?_
            refine ab_istore dX12_weighed_211 (Nat.le_of_ble_eq_true rfl) (L2 := [some (.ref 205), some (.long a1), none, some (.int a3), some (.long r3), none, some (.int (((9 * a8) + (3 * a7)) + a9)), some (.int a7), some (.int a8), some (.int a9), some (.long r3), none, some (.int (((9 * a8) + (3 * a7)) + a9))]) rfl ?_
            refine ab_iinc (v := (a9 + 1)) dX12_weighed_213 rfl (by rfl) (Nat.le_of_ble_eq_true rfl) (L2 := [some (.ref 205), some (.long a1), none, some (.int a3), some (.long r3), none, some (.int (((9 * a8) + (3 * a7)) + a9)), some (.int a7), some (.int a8), some (.int (a9 + 1)), some (.long r3), none, some (.int (((9 * a8) + (3 * a7)) + a9))]) rfl ?_
            refine ab_goto (tgt := 131) dX12_weighed_216 (by decide) ?_
            refine ab_forget (i := 10) (L2 := [some (.ref 205), some (.long a1), none, some (.int a3), some (.long r3), none, some (.int (((9 * a8) + (3 * a7)) + a9)), some (.int a7), some (.int a8), some (.int (a9 + 1)), none, none, some (.int (((9 * a8) + (3 * a7)) + a9))]) rfl ?_
            refine ab_forget (i := 12) (L2 := [some (.ref 205), some (.long a1), none, some (.int a3), some (.long r3), none, some (.int (((9 * a8) + (3 * a7)) + a9)), some (.int a7), some (.int a8), some (.int (a9 + 1)), none, none, none]) rfl ?_
            exact ((((hk6 i7 l8 dd9 x10 hp11).2 c12).2 c13).1 c14)
          · refine ab_goto (tgt := 213) dX12_weighed_202 (by decide) ?_
            refine ab_iinc (v := (a9 + 1)) dX12_weighed_213 rfl (by rfl) (Nat.le_of_ble_eq_true rfl) (L2 := [some (.ref 205), some (.long a1), none, some (.int a3), some (.long a4), none, some (.int a6), some (.int a7), some (.int a8), some (.int (a9 + 1)), some (.long r3), none, some (.int (((9 * a8) + (3 * a7)) + a9))]) rfl ?_
            refine ab_goto (tgt := 131) dX12_weighed_216 (by decide) ?_
            refine ab_forget (i := 10) (L2 := [some (.ref 205), some (.long a1), none, some (.int a3), some (.long a4), none, some (.int a6), some (.int a7), some (.int a8), some (.int (a9 + 1)), none, none, some (.int (((9 * a8) + (3 * a7)) + a9))]) rfl ?_
            refine ab_forget (i := 12) (L2 := [some (.ref 205), some (.long a1), none, some (.int a3), some (.long a4), none, some (.int a6), some (.int a7), some (.int a8), some (.int (a9 + 1)), none, none, none]) rfl ?_
            exact ((((hk6 i7 l8 dd9 x10 hp11).2 c12).2 c13).2 c14)
    · refine ab_goto (tgt := 213) dX12_weighed_147 (by decide) ?_
      refine ab_iinc (v := (a9 + 1)) dX12_weighed_213 rfl (by rfl) (Nat.le_of_ble_eq_true rfl) (L2 := [some (.ref 205), some (.long a1), none, some (.int a3), some (.long a4), none, some (.int a6), some (.int a7), some (.int a8), some (.int (a9 + 1)), none, none, none]) rfl ?_
      refine ab_goto (tgt := 131) dX12_weighed_216 (by decide) ?_
      exact ((h.2 c1).2 c2)
theorem tMX12_weighed_247 {d : Nat} {Q : ab_Qt} {sc : Nat × (Nat → Int32)} {i : Nat → Nat → Int32} {l : Nat → Nat → Int64} {dd : Nat → Nat → Value} {x : Nat} {a1 : Int64} {a3 : Int32} {a6 : Int32} {a7 : Int32} 
    (h : (((i 205 30) ≤ a7 → (∀ i2, i2 = ab_u i 245 5 (a6 / 9) → ∀ i4, i4 = ab_u i2 245 6 ((a6 / 3) - (a6 / 3) / 3 * 3) → ∀ i6, i6 = ab_u i4 245 7 (a6 - a6 / 3 * 3) → ab_Fr MX12_weighed (d + 1) Q 34 [some (.ref 205), some (.long a1), none, some (.int (a3 + 1)), none, none, none, none, none, none, none, none, none] [] (0, 0) (i6, l, dd, x) (ab_E0 sc))) ∧ (¬ (i 205 30) ≤ a7 → (vp_in a7 7 ∧ vp_in a7 8 ∧ ∀ i8, i8 = ab_u i 245 a7.toNatClampNeg (i 244 a7.toNatClampNeg) → ab_Fr MX12_weighed (d + 1) Q 247 [some (.ref 205), some (.long a1), none, some (.int a3), none, none, some (.int a6), some (.int (a7 + 1)), none, none, none, none, none] [] (0, 0) (i8, l, dd, x) (ab_E0 sc))))) :
    ab_Fr MX12_weighed (d + 1) Q 247 [some (.ref 205), some (.long a1), none, some (.int a3), none, none, some (.int a6), some (.int a7), none, none, none, none, none] [] (0, 0) (i, l, dd, x) (ab_E0 sc) := by
  refine ab_iload dX12_weighed_247 rfl ?_
  refine ab_aloadn dX12_weighed_249 rfl ?_
  refine ab_getf (v := .int (i 205 30)) dX12_weighed_250 fl_X12_306 kd_205 rfl ?_
  refine ab_icmp_ge (tgt := 276) dX12_weighed_253 (by decide) (fun c1 => ?_) (fun c1 => ?_)
  · refine ab_aloadn dX12_weighed_276 rfl ?_
    refine ab_getf (v := .ref 245) dX12_weighed_277 fl_X12_137 kd_205 ff_205_63 ?_
    refine ab_iconst (v := 5) dX12_weighed_280 (by decide) ?_
    refine ab_iload dX12_weighed_281 rfl ?_
    refine ab_bipush (v := 9) dX12_weighed_283 (by decide) ?_
    refine ab_idiv dX12_weighed_285 (by decide) ?_
    refine ab_iastore dX12_weighed_286 kd_245 (ab_vp (by decide)) ?_
    obtain ⟨i2, e3⟩ : ∃ z, z = ab_u i 245 5 (a6 / 9) := ⟨_, rfl⟩
    show ab_Fr MX12_weighed (d + 1) Q 287 [some (.ref 205), some (.long a1), none, some (.int a3), none, none, some (.int a6), some (.int a7), none, none, none, none, none] [] (0, 0) (ab_u i 245 5 (a6 / 9), l, dd, x) (ab_E0 sc)
    rw [show ab_u i 245 5 (a6 / 9) = i2 from e3.symm]
    refine ab_aloadn dX12_weighed_287 rfl ?_
    refine ab_getf (v := .ref 245) dX12_weighed_288 fl_X12_137 kd_205 ff_205_63 ?_
    refine ab_bipush (v := 6) dX12_weighed_291 (by decide) ?_
    refine ab_iload dX12_weighed_293 rfl ?_
    refine ab_iconst (v := 3) dX12_weighed_295 (by decide) ?_
    refine ab_idiv dX12_weighed_296 (by decide) ?_
    refine ab_iconst (v := 3) dX12_weighed_297 (by decide) ?_
    refine ab_irem dX12_weighed_298 (by decide) ?_
    refine ab_iastore dX12_weighed_299 kd_245 (ab_vp (by decide)) ?_
    obtain ⟨i4, e5⟩ : ∃ z, z = ab_u i2 245 6 ((a6 / 3) - (a6 / 3) / 3 * 3) := ⟨_, rfl⟩
    show ab_Fr MX12_weighed (d + 1) Q 300 [some (.ref 205), some (.long a1), none, some (.int a3), none, none, some (.int a6), some (.int a7), none, none, none, none, none] [] (0, 0) (ab_u i2 245 6 ((a6 / 3) - (a6 / 3) / 3 * 3), l, dd, x) (ab_E0 sc)
    rw [show ab_u i2 245 6 ((a6 / 3) - (a6 / 3) / 3 * 3) = i4 from e5.symm]
    refine ab_aloadn dX12_weighed_300 rfl ?_
    refine ab_getf (v := .ref 245) dX12_weighed_301 fl_X12_137 kd_205 ff_205_63 ?_
    refine ab_bipush (v := 7) dX12_weighed_304 (by decide) ?_
    refine ab_iload dX12_weighed_306 rfl ?_
    refine ab_iconst (v := 3) dX12_weighed_308 (by decide) ?_
    refine ab_irem dX12_weighed_309 (by decide) ?_
    refine ab_iastore dX12_weighed_310 kd_245 (ab_vp (by decide)) ?_
    obtain ⟨i6, e7⟩ : ∃ z, z = ab_u i4 245 7 (a6 - a6 / 3 * 3) := ⟨_, rfl⟩
    show ab_Fr MX12_weighed (d + 1) Q 311 [some (.ref 205), some (.long a1), none, some (.int a3), none, none, some (.int a6), some (.int a7), none, none, none, none, none] [] (0, 0) (ab_u i4 245 7 (a6 - a6 / 3 * 3), l, dd, x) (ab_E0 sc)
    rw [show ab_u i4 245 7 (a6 - a6 / 3 * 3) = i6 from e7.symm]
    refine ab_iinc (v := (a3 + 1)) dX12_weighed_311 rfl (by rfl) (Nat.le_of_ble_eq_true rfl) (L2 := [some (.ref 205), some (.long a1), none, some (.int (a3 + 1)), none, none, some (.int a6), some (.int a7), none, none, none, none, none]) rfl ?_
    refine ab_goto (tgt := 34) dX12_weighed_314 (by decide) ?_
    refine ab_forget (i := 6) (L2 := [some (.ref 205), some (.long a1), none, some (.int (a3 + 1)), none, none, none, some (.int a7), none, none, none, none, none]) rfl ?_
    refine ab_forget (i := 7) (L2 := [some (.ref 205), some (.long a1), none, some (.int (a3 + 1)), none, none, none, none, none, none, none, none, none]) rfl ?_
    exact ((((h.1 c1) i2 e3) i4 e5) i6 e7)
  · refine ab_aloadn dX12_weighed_256 rfl ?_
    refine ab_getf (v := .ref 245) dX12_weighed_257 fl_X12_137 kd_205 ff_205_63 ?_
    refine ab_iload dX12_weighed_260 rfl ?_
    refine ab_aloadn dX12_weighed_262 rfl ?_
    refine ab_getf (v := .ref 244) dX12_weighed_263 fl_X12_134 kd_205 ff_205_62 ?_
    refine ab_iload dX12_weighed_266 rfl ?_
    refine ab_iaload (v := (i 244 a7.toNatClampNeg)) dX12_weighed_268 kd_244 (h.2 c1).1 rfl ?_
    refine ab_iastore dX12_weighed_269 kd_245 (h.2 c1).2.1 ?_
    obtain ⟨i8, e9⟩ : ∃ z, z = ab_u i 245 a7.toNatClampNeg (i 244 a7.toNatClampNeg) := ⟨_, rfl⟩
    rw [show ab_u i 245 a7.toNatClampNeg (i 244 a7.toNatClampNeg) = i8 from e9.symm]
    refine ab_iinc (v := (a7 + 1)) dX12_weighed_270 rfl (by rfl) (Nat.le_of_ble_eq_true rfl) (L2 := [some (.ref 205), some (.long a1), none, some (.int a3), none, none, some (.int a6), some (.int (a7 + 1)), none, none, none, none, none]) rfl ?_
    refine ab_goto (tgt := 247) dX12_weighed_273 (by decide) ?_
    exact ((h.2 c1).2.2 i8 e9)
theorem tMX12_weighedAt_0 {d : Nat} {Q : ab_Qt} {sc : Nat × (Nat → Int32)} {i : Nat → Nat → Int32} {l : Nat → Nat → Int64} {dd : Nat → Nat → Value} {x : Nat} {a1 : Int32} 
    (h : (∀ i1, i1 = ab_u i 205 0 0 → (((i1 205 64) ≤ 0 → Q (some (some (.int (-1)))) (i1, l, dd, x) (ab_E0 sc)) ∧ (¬ (i1 205 64) ≤ 0 → ((a1 < 0 → ab_Fr MX12_weighedAt (d + 1) Q 24 [some (.ref 205), some (.int a1)] [] (0, 0) (i1, l, dd, x) (ab_E0 sc)) ∧ (¬ a1 < 0 → ((a1 < (i1 205 64) → (vp_in a1 8 ∧ Q (some (some (.int (i1 245 a1.toNatClampNeg)))) (i1, l, dd, x) (ab_E0 sc))) ∧ (¬ a1 < (i1 205 64) → ab_Fr MX12_weighedAt (d + 1) Q 24 [some (.ref 205), some (.int a1)] [] (0, 0) (i1, l, dd, x) (ab_E0 sc))))))))) :
    ab_Fr MX12_weighedAt (d + 1) Q 0 [some (.ref 205), some (.int a1)] [] (0, 0) (i, l, dd, x) (ab_E0 sc) := by
  refine ab_aloadn dX12_weighedAt_0 rfl ?_
  refine ab_iconst (v := 0) dX12_weighedAt_1 (by decide) ?_
  refine ab_putI dX12_weighedAt_2 fl_X12_149 kd_205 rfl ?_
  obtain ⟨i1, e2⟩ : ∃ z, z = ab_u i 205 0 0 := ⟨_, rfl⟩
  show ab_Fr MX12_weighedAt (d + 1) Q 5 [some (.ref 205), some (.int a1)] [] (0, 0) (ab_u i 205 0 0, l, dd, x) (ab_E0 sc)
  rw [show ab_u i 205 0 0 = i1 from e2.symm]
  refine ab_aloadn dX12_weighedAt_5 rfl ?_
  refine ab_getf (v := .int (i1 205 64)) dX12_weighedAt_6 fl_X12_452 kd_205 rfl ?_
  refine ab_if_le (tgt := 43) dX12_weighedAt_9 (by decide) (fun c3 => ?_) (fun c3 => ?_)
  · refine ab_iconst (v := (-1)) dX12_weighedAt_43 (by decide) ?_
    exact ab_iret dX12_weighedAt_44 rfl ⟨Nat.zero_le _, Nat.zero_le _⟩ ((h i1 e2).1 c3)
  · refine ab_iloadn dX12_weighedAt_12 rfl ?_
    refine ab_if_lt (tgt := 24) dX12_weighedAt_13 (by decide) (fun c4 => ?_) (fun c4 => ?_)
    · exact (((h i1 e2).2 c3).1 c4)
    · refine ab_iloadn dX12_weighedAt_16 rfl ?_
      refine ab_aloadn dX12_weighedAt_17 rfl ?_
      refine ab_getf (v := .int (i1 205 64)) dX12_weighedAt_18 fl_X12_452 kd_205 rfl ?_
      refine ab_icmp_lt (tgt := 34) dX12_weighedAt_21 (by decide) (fun c5 => ?_) (fun c5 => ?_)
      · refine ab_aloadn dX12_weighedAt_34 rfl ?_
        refine ab_getf (v := .ref 245) dX12_weighedAt_35 fl_X12_137 kd_205 ff_205_63 ?_
        refine ab_iloadn dX12_weighedAt_38 rfl ?_
        refine ab_iaload (v := (i1 245 a1.toNatClampNeg)) dX12_weighedAt_39 kd_245 ((((h i1 e2).2 c3).2 c4).1 c5).1 rfl ?_
        refine ab_goto (tgt := 44) dX12_weighedAt_40 (by decide) ?_
        exact ab_iret dX12_weighedAt_44 rfl ⟨Nat.zero_le _, Nat.zero_le _⟩ ((((h i1 e2).2 c3).2 c4).1 c5).2
      · exact ((((h i1 e2).2 c3).2 c4).2 c5)
theorem tMX12_weighedAt_24 {d : Nat} {Q : ab_Qt} {sc : Nat × (Nat → Int32)} {i : Nat → Nat → Int32} {l : Nat → Nat → Int64} {dd : Nat → Nat → Value} {x : Nat} {a1 : Int32} 
    (h : (∃ (r1 : Int32) (P2 : ab_S → Prop), ab_Sp MX12_isIn d [.int a1, .int 5, .int 7] (i, l, dd, x) (ab_E0 sc) (some (.int r1)) P2 ∧ ∀ i5 l6 dd7 x8, P2 (i5, l6, dd7, x8) → ((r1 = 0 → Q (some (some (.int (-1)))) (i5, l6, dd7, x8) (ab_E0 sc)) ∧ (¬ r1 = 0 → (vp_in a1 8 ∧ Q (some (some (.int (i5 245 a1.toNatClampNeg)))) (i5, l6, dd7, x8) (ab_E0 sc)))))) :
    ab_Fr MX12_weighedAt (d + 1) Q 24 [some (.ref 205), some (.int a1)] [] (0, 0) (i, l, dd, x) (ab_E0 sc) := by
  refine ab_iloadn dX12_weighedAt_24 rfl ?_
  refine ab_iconst (v := 5) dX12_weighedAt_25 (by decide) ?_
  refine ab_bipush (v := 7) dX12_weighedAt_26 (by decide) ?_
  obtain ⟨r1, P2, hs3, hk4⟩ := h
  refine ab_callS (vs := [.int a1, .int 5, .int 7]) (st := []) dX12_weighedAt_28 okMX12_isIn wd_1486 rfl rfl (Nat.le_of_ble_eq_true rfl) ⟨Nat.le_of_ble_eq_true rfl, Nat.le_of_ble_eq_true rfl⟩ hs3 ?_
  rintro v9 ⟨i5, l6, dd7, x8⟩ E9 - ⟨rfl, rfl, hp9⟩
  show ab_Fr MX12_weighedAt (d + 1) Q 31 [some (.ref 205), some (.int a1)] [.int r1] (0, 0) (i5, l6, dd7, x8) (ab_E0 sc)
  refine ab_if_eq (tgt := 43) dX12_weighedAt_31 (by decide) (fun c10 => ?_) (fun c10 => ?_)
  · refine ab_iconst (v := (-1)) dX12_weighedAt_43 (by decide) ?_
    exact ab_iret dX12_weighedAt_44 rfl ⟨Nat.zero_le _, Nat.zero_le _⟩ ((hk4 i5 l6 dd7 x8 hp9).1 c10)
  · refine ab_aloadn dX12_weighedAt_34 rfl ?_
    refine ab_getf (v := .ref 245) dX12_weighedAt_35 fl_X12_137 kd_205 ff_205_63 ?_
    refine ab_iloadn dX12_weighedAt_38 rfl ?_
    refine ab_iaload (v := (i5 245 a1.toNatClampNeg)) dX12_weighedAt_39 kd_245 ((hk4 i5 l6 dd7 x8 hp9).2 c10).1 rfl ?_
    refine ab_goto (tgt := 44) dX12_weighedAt_40 (by decide) ?_
    exact ab_iret dX12_weighedAt_44 rfl ⟨Nat.zero_le _, Nat.zero_le _⟩ ((hk4 i5 l6 dd7 x8 hp9).2 c10).2
theorem tMX12_silent_0 {d : Nat} {Q : ab_Qt} {sc : Nat × (Nat → Int32)} {i : Nat → Nat → Int32} {l : Nat → Nat → Int64} {dd : Nat → Nat → Value} {x : Nat}  
    (h : (∀ i1, i1 = ab_u i 205 0 0 → ((¬ (i1 205 30) = 0 → (∃ (r4 : Int64) (P5 : ab_S → Prop), ab_Sp MX12_lostBy d [.ref 205, .int 0] (i1, l, dd, x) (ab_E0 sc) (some (.long r4)) P5 ∧ ∀ i8 l9 dd10 x11, P5 (i8, l9, dd10, x11) → ab_Fr MX12_silent (d + 1) Q 25 [some (.ref 205), some (.long r4), none, some (.int (-1)), some (.int 0), none, none] [] (0, 0) (i8, l9, dd10, x11) (ab_E0 sc))) ∧ ((i1 205 30) = 0 → Q (some (some (.int (-1)))) (i1, l, dd, x) (ab_E0 sc))))) :
    ab_Fr MX12_silent (d + 1) Q 0 [some (.ref 205), none, none, none, none, none, none] [] (0, 0) (i, l, dd, x) (ab_E0 sc) := by
  refine ab_aloadn dX12_silent_0 rfl ?_
  refine ab_iconst (v := 0) dX12_silent_1 (by decide) ?_
  refine ab_putI dX12_silent_2 fl_X12_149 kd_205 rfl ?_
  obtain ⟨i1, e2⟩ : ∃ z, z = ab_u i 205 0 0 := ⟨_, rfl⟩
  show ab_Fr MX12_silent (d + 1) Q 5 [some (.ref 205), none, none, none, none, none, none] [] (0, 0) (ab_u i 205 0 0, l, dd, x) (ab_E0 sc)
  rw [show ab_u i 205 0 0 = i1 from e2.symm]
  refine ab_aloadn dX12_silent_5 rfl ?_
  refine ab_getf (v := .int (i1 205 30)) dX12_silent_6 fl_X12_306 kd_205 rfl ?_
  refine ab_if_ne (tgt := 14) dX12_silent_9 (by decide) (fun c3 => ?_) (fun c3 => ?_)
  · refine ab_aloadn dX12_silent_14 rfl ?_
    refine ab_iconst (v := 0) dX12_silent_15 (by decide) ?_
    obtain ⟨r4, P5, hs6, hk7⟩ := ((h i1 e2).1 c3)
    refine ab_callV (vs := [.int 0]) (st := []) dX12_silent_16 okMX12_lostBy wd_1601 kd_205 rfl rfl rfl (Nat.le_of_ble_eq_true rfl) ⟨Nat.le_of_ble_eq_true rfl, Nat.le_of_ble_eq_true rfl⟩ hs6 ?_
    rintro v9 ⟨i8, l9, dd10, x11⟩ E9 - ⟨rfl, rfl, hp12⟩
    show ab_Fr MX12_silent (d + 1) Q 19 [some (.ref 205), none, none, none, none, none, none] [.long r4] (0, 0) (i8, l9, dd10, x11) (ab_E0 sc)
    refine ab_lstoren dX12_silent_19 (Nat.le_of_ble_eq_true rfl) (L2 := [some (.ref 205), some (.long r4), none, none, none, none, none]) rfl ?_
    refine ab_iconst (v := (-1)) dX12_silent_20 (by decide) ?_
    refine ab_istoren dX12_silent_21 (Nat.le_of_ble_eq_true rfl) (L2 := [some (.ref 205), some (.long r4), none, some (.int (-1)), none, none, none]) rfl ?_
    refine ab_iconst (v := 0) dX12_silent_22 (by decide) ?_
    refine ab_istore dX12_silent_23 (Nat.le_of_ble_eq_true rfl) (L2 := [some (.ref 205), some (.long r4), none, some (.int (-1)), some (.int 0), none, none]) rfl ?_
    exact (hk7 i8 l9 dd10 x11 hp12)
  · refine ab_iconst (v := (-1)) dX12_silent_12 (by decide) ?_
    exact ab_iret dX12_silent_13 rfl ⟨Nat.zero_le _, Nat.zero_le _⟩ ((h i1 e2).2 c3)
theorem tMX12_silent_25 {d : Nat} {Q : ab_Qt} {sc : Nat × (Nat → Int32)} {i : Nat → Nat → Int32} {l : Nat → Nat → Int64} {dd : Nat → Nat → Value} {x : Nat} {a1 : Int64} {a3 : Int32} {a4 : Int32} 
    (h : (((i 205 30) ≤ a4 → Q (some (some (.int a3))) (i, l, dd, x) (ab_E0 sc)) ∧ (¬ (i 205 30) ≤ a4 → (∃ (r2 : Int64) (P3 : ab_S → Prop), ab_Sp MX12_lostWithout d [.ref 205, .int a4, .int (-1)] (i, l, dd, x) (ab_E0 sc) (some (.long r2)) P3 ∧ ∀ i6 l7 dd8 x9, P3 (i6, l7, dd8, x9) → ((r2 < a1 → ab_Fr MX12_silent (d + 1) Q 25 [some (.ref 205), some (.long r2), none, some (.int a4), some (.int (a4 + 1)), none, none] [] (0, 0) (i6, l7, dd8, x9) (ab_E0 sc)) ∧ (¬ r2 < a1 → ab_Fr MX12_silent (d + 1) Q 25 [some (.ref 205), some (.long a1), none, some (.int a3), some (.int (a4 + 1)), none, none] [] (0, 0) (i6, l7, dd8, x9) (ab_E0 sc))))))) :
    ab_Fr MX12_silent (d + 1) Q 25 [some (.ref 205), some (.long a1), none, some (.int a3), some (.int a4), none, none] [] (0, 0) (i, l, dd, x) (ab_E0 sc) := by
  refine ab_iload dX12_silent_25 rfl ?_
  refine ab_aloadn dX12_silent_27 rfl ?_
  refine ab_getf (v := .int (i 205 30)) dX12_silent_28 fl_X12_306 kd_205 rfl ?_
  refine ab_icmp_ge (tgt := 65) dX12_silent_31 (by decide) (fun c1 => ?_) (fun c1 => ?_)
  · refine ab_iloadn dX12_silent_65 rfl ?_
    exact ab_iret dX12_silent_66 rfl ⟨Nat.zero_le _, Nat.zero_le _⟩ (h.1 c1)
  · refine ab_aloadn dX12_silent_34 rfl ?_
    refine ab_iload dX12_silent_35 rfl ?_
    refine ab_iconst (v := (-1)) dX12_silent_37 (by decide) ?_
    obtain ⟨r2, P3, hs4, hk5⟩ := (h.2 c1)
    refine ab_callV (vs := [.int a4, .int (-1)]) (st := []) dX12_silent_38 okMX12_lostWithout wd_1746 kd_205 rfl rfl rfl (Nat.le_of_ble_eq_true rfl) ⟨Nat.le_of_ble_eq_true rfl, Nat.le_of_ble_eq_true rfl⟩ hs4 ?_
    rintro v9 ⟨i6, l7, dd8, x9⟩ E9 - ⟨rfl, rfl, hp10⟩
    show ab_Fr MX12_silent (d + 1) Q 41 [some (.ref 205), some (.long a1), none, some (.int a3), some (.int a4), none, none] [.long r2] (0, 0) (i6, l7, dd8, x9) (ab_E0 sc)
    refine ab_lstore dX12_silent_41 (Nat.le_of_ble_eq_true rfl) (L2 := [some (.ref 205), some (.long a1), none, some (.int a3), some (.int a4), some (.long r2), none]) rfl ?_
    refine ab_lload dX12_silent_43 rfl ?_
    refine ab_lloadn dX12_silent_45 rfl ?_
    refine ab_lclt (tgt := 53) dX12_silent_46 dX12_silent_47 (by decide) (fun c11 => ?_) (fun c11 => ?_)
    · refine ab_lload dX12_silent_53 rfl ?_
      refine ab_lstoren dX12_silent_55 (Nat.le_of_ble_eq_true rfl) (L2 := [some (.ref 205), some (.long r2), none, some (.int a3), some (.int a4), some (.long r2), none]) rfl ?_
      refine ab_iload dX12_silent_56 rfl ?_
      refine ab_istoren dX12_silent_58 (Nat.le_of_ble_eq_true rfl) (L2 := [some (.ref 205), some (.long r2), none, some (.int a4), some (.int a4), some (.long r2), none]) rfl ?_
      refine ab_iinc (v := (a4 + 1)) dX12_silent_59 rfl (by rfl) (Nat.le_of_ble_eq_true rfl) (L2 := [some (.ref 205), some (.long r2), none, some (.int a4), some (.int (a4 + 1)), some (.long r2), none]) rfl ?_
      refine ab_goto (tgt := 25) dX12_silent_62 (by decide) ?_
      refine ab_forget (i := 5) (L2 := [some (.ref 205), some (.long r2), none, some (.int a4), some (.int (a4 + 1)), none, none]) rfl ?_
      exact ((hk5 i6 l7 dd8 x9 hp10).1 c11)
    · refine ab_goto (tgt := 59) dX12_silent_50 (by decide) ?_
      refine ab_iinc (v := (a4 + 1)) dX12_silent_59 rfl (by rfl) (Nat.le_of_ble_eq_true rfl) (L2 := [some (.ref 205), some (.long a1), none, some (.int a3), some (.int (a4 + 1)), some (.long r2), none]) rfl ?_
      refine ab_goto (tgt := 25) dX12_silent_62 (by decide) ?_
      refine ab_forget (i := 5) (L2 := [some (.ref 205), some (.long a1), none, some (.int a3), some (.int (a4 + 1)), none, none]) rfl ?_
      exact ((hk5 i6 l7 dd8 x9 hp10).2 c11)
theorem tMX12_lostWithout_0 {d : Nat} {Q : ab_Qt} {sc : Nat × (Nat → Int32)} {i : Nat → Nat → Int32} {l : Nat → Nat → Int64} {dd : Nat → Nat → Value} {x : Nat} {a1 : Int32} {a2 : Int32} 
    (h : (∃ (P2 : ab_S → Prop), ab_Sp MX12_tryTold d [.ref 205] (i, l, dd, x) (ab_E0 sc) (none) P2 ∧ ∀ i5 l6 dd7 x8, P2 (i5, l6, dd7, x8) → ((a1 = (-1) → ab_Fr MX12_lostWithout (d + 1) Q 14 [some (.ref 205), none, some (.int a2)] [] (0, 0) (i5, l6, dd7, x8) (ab_E0 sc)) ∧ (¬ a1 = (-1) → (∃ (P12 : ab_S → Prop), ab_Sp MX12_silence d [.ref 205, .int a1] (i5, l6, dd7, x8) (ab_E0 sc) (none) P12 ∧ ∀ i15 l16 dd17 x18, P12 (i15, l16, dd17, x18) → ab_Fr MX12_lostWithout (d + 1) Q 14 [some (.ref 205), none, some (.int a2)] [] (0, 0) (i15, l16, dd17, x18) (ab_E0 sc)))))) :
    ab_Fr MX12_lostWithout (d + 1) Q 0 [some (.ref 205), some (.int a1), some (.int a2)] [] (0, 0) (i, l, dd, x) (ab_E0 sc) := by
  refine ab_aloadn dX12_lostWithout_0 rfl ?_
  obtain ⟨P2, hs3, hk4⟩ := h
  refine ab_callV (vs := []) (st := []) dX12_lostWithout_1 okMX12_tryTold wd_1657 kd_205 rfl rfl rfl (Nat.le_of_ble_eq_true rfl) ⟨Nat.le_of_ble_eq_true rfl, Nat.le_of_ble_eq_true rfl⟩ hs3 ?_
  rintro v9 ⟨i5, l6, dd7, x8⟩ E9 - ⟨rfl, rfl, hp9⟩
  show ab_Fr MX12_lostWithout (d + 1) Q 4 [some (.ref 205), some (.int a1), some (.int a2)] [] (0, 0) (i5, l6, dd7, x8) (ab_E0 sc)
  refine ab_iloadn dX12_lostWithout_4 rfl ?_
  refine ab_iconst (v := (-1)) dX12_lostWithout_5 (by decide) ?_
  refine ab_icmp_eq (tgt := 14) dX12_lostWithout_6 (by decide) (fun c10 => ?_) (fun c10 => ?_)
  · refine ab_forget (i := 1) (L2 := [some (.ref 205), none, some (.int a2)]) rfl ?_
    exact ((hk4 i5 l6 dd7 x8 hp9).1 c10)
  · refine ab_aloadn dX12_lostWithout_9 rfl ?_
    refine ab_iloadn dX12_lostWithout_10 rfl ?_
    obtain ⟨P12, hs13, hk14⟩ := ((hk4 i5 l6 dd7 x8 hp9).2 c10)
    refine ab_callV (vs := [.int a1]) (st := []) dX12_lostWithout_11 okMX12_silence wd_1749 kd_205 rfl rfl rfl (Nat.le_of_ble_eq_true rfl) ⟨Nat.le_of_ble_eq_true rfl, Nat.le_of_ble_eq_true rfl⟩ hs13 ?_
    rintro v9 ⟨i15, l16, dd17, x18⟩ E9 - ⟨rfl, rfl, hp19⟩
    show ab_Fr MX12_lostWithout (d + 1) Q 14 [some (.ref 205), some (.int a1), some (.int a2)] [] (0, 0) (i15, l16, dd17, x18) (ab_E0 sc)
    refine ab_forget (i := 1) (L2 := [some (.ref 205), none, some (.int a2)]) rfl ?_
    exact (hk14 i15 l16 dd17 x18 hp19)
theorem tMX12_lostWithout_14 {d : Nat} {Q : ab_Qt} {sc : Nat × (Nat → Int32)} {i : Nat → Nat → Int32} {l : Nat → Nat → Int64} {dd : Nat → Nat → Value} {x : Nat} {a2 : Int32} 
    (h : ((a2 = (-1) → ab_Fr MX12_lostWithout (d + 1) Q 24 [some (.ref 205), none, none] [] (0, 0) (i, l, dd, x) (ab_E0 sc)) ∧ (¬ a2 = (-1) → (∃ (P3 : ab_S → Prop), ab_Sp MX12_silence d [.ref 205, .int a2] (i, l, dd, x) (ab_E0 sc) (none) P3 ∧ ∀ i6 l7 dd8 x9, P3 (i6, l7, dd8, x9) → ab_Fr MX12_lostWithout (d + 1) Q 24 [some (.ref 205), none, none] [] (0, 0) (i6, l7, dd8, x9) (ab_E0 sc))))) :
    ab_Fr MX12_lostWithout (d + 1) Q 14 [some (.ref 205), none, some (.int a2)] [] (0, 0) (i, l, dd, x) (ab_E0 sc) := by
  refine ab_iloadn dX12_lostWithout_14 rfl ?_
  refine ab_iconst (v := (-1)) dX12_lostWithout_15 (by decide) ?_
  refine ab_icmp_eq (tgt := 24) dX12_lostWithout_16 (by decide) (fun c1 => ?_) (fun c1 => ?_)
  · refine ab_forget (i := 2) (L2 := [some (.ref 205), none, none]) rfl ?_
    exact (h.1 c1)
  · refine ab_aloadn dX12_lostWithout_19 rfl ?_
    refine ab_iloadn dX12_lostWithout_20 rfl ?_
    obtain ⟨P3, hs4, hk5⟩ := (h.2 c1)
    refine ab_callV (vs := [.int a2]) (st := []) dX12_lostWithout_21 okMX12_silence wd_1749 kd_205 rfl rfl rfl (Nat.le_of_ble_eq_true rfl) ⟨Nat.le_of_ble_eq_true rfl, Nat.le_of_ble_eq_true rfl⟩ hs4 ?_
    rintro v9 ⟨i6, l7, dd8, x9⟩ E9 - ⟨rfl, rfl, hp10⟩
    show ab_Fr MX12_lostWithout (d + 1) Q 24 [some (.ref 205), none, some (.int a2)] [] (0, 0) (i6, l7, dd8, x9) (ab_E0 sc)
    refine ab_forget (i := 2) (L2 := [some (.ref 205), none, none]) rfl ?_
    exact (hk5 i6 l7 dd8 x9 hp10)
theorem tMX12_lostWithout_24 {d : Nat} {Q : ab_Qt} {sc : Nat × (Nat → Int32)} {i : Nat → Nat → Int32} {l : Nat → Nat → Int64} {dd : Nat → Nat → Value} {x : Nat}  
    (h : (∃ (r1 : Int64) (P2 : ab_S → Prop), ab_Sp MX12_lostBy d [.ref 205, .int 1] (i, l, dd, x) (ab_E0 sc) (some (.long r1)) P2 ∧ ∀ i5 l6 dd7 x8, P2 (i5, l6, dd7, x8) → Q (some (some (.long r1))) (i5, l6, dd7, x8) (ab_E0 sc))) :
    ab_Fr MX12_lostWithout (d + 1) Q 24 [some (.ref 205), none, none] [] (0, 0) (i, l, dd, x) (ab_E0 sc) := by
  refine ab_aloadn dX12_lostWithout_24 rfl ?_
  refine ab_iconst (v := 1) dX12_lostWithout_25 (by decide) ?_
  obtain ⟨r1, P2, hs3, hk4⟩ := h
  refine ab_callV (vs := [.int 1]) (st := []) dX12_lostWithout_26 okMX12_lostBy wd_1601 kd_205 rfl rfl rfl (Nat.le_of_ble_eq_true rfl) ⟨Nat.le_of_ble_eq_true rfl, Nat.le_of_ble_eq_true rfl⟩ hs3 ?_
  rintro v9 ⟨i5, l6, dd7, x8⟩ E9 - ⟨rfl, rfl, hp9⟩
  show ab_Fr MX12_lostWithout (d + 1) Q 29 [some (.ref 205), none, none] [.long r1] (0, 0) (i5, l6, dd7, x8) (ab_E0 sc)
  exact ab_lret dX12_lostWithout_29 rfl ⟨Nat.zero_le _, Nat.zero_le _⟩ (hk4 i5 l6 dd7 x8 hp9)
theorem tMX12_silence_0 {d : Nat} {Q : ab_Qt} {sc : Nat × (Nat → Int32)} {i : Nat → Nat → Int32} {l : Nat → Nat → Int64} {dd : Nat → Nat → Value} {x : Nat} {a1 : Int32} 
    (h : ab_Fr MX12_silence (d + 1) Q 2 [some (.ref 205), some (.int a1), some (.int 0)] [] (0, 0) (i, l, dd, x) (ab_E0 sc)) :
    ab_Fr MX12_silence (d + 1) Q 0 [some (.ref 205), some (.int a1), none] [] (0, 0) (i, l, dd, x) (ab_E0 sc) := by
  refine ab_iconst (v := 0) dX12_silence_0 (by decide) ?_
  refine ab_istoren dX12_silence_1 (Nat.le_of_ble_eq_true rfl) (L2 := [some (.ref 205), some (.int a1), some (.int 0)]) rfl ?_
  exact h
theorem tMX12_silence_2 {d : Nat} {Q : ab_Qt} {sc : Nat × (Nat → Int32)} {i : Nat → Nat → Int32} {l : Nat → Nat → Int64} {dd : Nat → Nat → Value} {x : Nat} {a1 : Int32} {a2 : Int32} 
    (h : ((3 ≤ a2 → Q (some none) (i, l, dd, x) (ab_E0 sc)) ∧ (¬ 3 ≤ a2 → (vp_in ((21 + (3 * a1)) + a2) 42 ∧ ∀ i2, i2 = ab_u i 225 ((21 + (3 * a1)) + a2).toNatClampNeg 9 → ab_Fr MX12_silence (d + 1) Q 2 [some (.ref 205), some (.int a1), some (.int (a2 + 1))] [] (0, 0) (i2, l, dd, x) (ab_E0 sc))))) :
    ab_Fr MX12_silence (d + 1) Q 2 [some (.ref 205), some (.int a1), some (.int a2)] [] (0, 0) (i, l, dd, x) (ab_E0 sc) := by
  refine ab_iloadn dX12_silence_2 rfl ?_
  refine ab_iconst (v := 3) dX12_silence_3 (by decide) ?_
  refine ab_icmp_ge (tgt := 28) dX12_silence_4 (by decide) (fun c1 => ?_) (fun c1 => ?_)
  · exact ab_vret dX12_silence_28 rfl ⟨Nat.zero_le _, Nat.zero_le _⟩ (h.1 c1)
  · refine ab_aloadn dX12_silence_7 rfl ?_
    refine ab_getf (v := .ref 225) dX12_silence_8 fl_X12_68 kd_205 ff_205_34 ?_
    refine ab_bipush (v := 21) dX12_silence_11 (by decide) ?_
    refine ab_iconst (v := 3) dX12_silence_13 (by decide) ?_
    refine ab_iloadn dX12_silence_14 rfl ?_
    refine ab_imul dX12_silence_15 ?_
    refine ab_iadd dX12_silence_16 ?_
    refine ab_iloadn dX12_silence_17 rfl ?_
    refine ab_iadd dX12_silence_18 ?_
    refine ab_bipush (v := 9) dX12_silence_19 (by decide) ?_
    refine ab_iastore dX12_silence_21 kd_225 (h.2 c1).1 ?_
    obtain ⟨i2, e3⟩ : ∃ z, z = ab_u i 225 ((21 + (3 * a1)) + a2).toNatClampNeg 9 := ⟨_, rfl⟩
    rw [show ab_u i 225 ((21 + (3 * a1)) + a2).toNatClampNeg 9 = i2 from e3.symm]
    refine ab_iinc (v := (a2 + 1)) dX12_silence_22 rfl (by rfl) (Nat.le_of_ble_eq_true rfl) (L2 := [some (.ref 205), some (.int a1), some (.int (a2 + 1))]) rfl ?_
    refine ab_goto (tgt := 2) dX12_silence_25 (by decide) ?_
    exact ((h.2 c1).2 i2 e3)
theorem tMX12_helps_0 {d : Nat} {Q : ab_Qt} {sc : Nat × (Nat → Int32)} {i : Nat → Nat → Int32} {l : Nat → Nat → Int64} {dd : Nat → Nat → Value} {x : Nat} {a1 : Int32} {a2 : Int32} 
    (h : (∀ i1, i1 = ab_u i 205 0 0 → ∃ (r3 : Int32) (P4 : ab_S → Prop), ab_Sp MX12_isVoter d [.ref 205, .int a1] (i1, l, dd, x) (ab_E0 sc) (some (.int r3)) P4 ∧ ∀ i7 l8 dd9 x10, P4 (i7, l8, dd9, x10) → ((r3 = 0 → Q (some (some (.int (-1)))) (i7, l8, dd9, x10) (ab_E0 sc)) ∧ (¬ r3 = 0 → (∃ (r13 : Int32) (P14 : ab_S → Prop), ab_Sp MX12_isVoter d [.ref 205, .int a2] (i7, l8, dd9, x10) (ab_E0 sc) (some (.int r13)) P14 ∧ ∀ i17 l18 dd19 x20, P14 (i17, l18, dd19, x20) → ((r13 = 0 → Q (some (some (.int (-1)))) (i17, l18, dd19, x20) (ab_E0 sc)) ∧ (¬ r13 = 0 → ((¬ a1 = a2 → (∃ (r24 : Int64) (P25 : ab_S → Prop), ab_Sp MX12_lostWithout d [.ref 205, .int (-1), .int (-1)] (i17, l18, dd19, x20) (ab_E0 sc) (some (.long r24)) P25 ∧ ∀ i28 l29 dd30 x31, P25 (i28, l29, dd30, x31) → ∃ (r33 : Int64) (P34 : ab_S → Prop), ab_Sp MX12_lostWithout d [.ref 205, .int a1, .int (-1)] (i28, l29, dd30, x31) (ab_E0 sc) (some (.long r33)) P34 ∧ ∀ i37 l38 dd39 x40, P34 (i37, l38, dd39, x40) → ((¬ r24 < r33 → ab_Fr MX12_helps (d + 1) Q 49 [some (.ref 205), some (.int a1), some (.int a2), none] [.int 0] (0, 0) (i37, l38, dd39, x40) (ab_E0 sc)) ∧ (r24 < r33 → ab_Fr MX12_helps (d + 1) Q 49 [some (.ref 205), some (.int a1), some (.int a2), none] [.int 1] (0, 0) (i37, l38, dd39, x40) (ab_E0 sc))))) ∧ (a1 = a2 → Q (some (some (.int (-1)))) (i17, l18, dd19, x20) (ab_E0 sc)))))))))) :
    ab_Fr MX12_helps (d + 1) Q 0 [some (.ref 205), some (.int a1), some (.int a2), none] [] (0, 0) (i, l, dd, x) (ab_E0 sc) := by
  refine ab_aloadn dX12_helps_0 rfl ?_
  refine ab_iconst (v := 0) dX12_helps_1 (by decide) ?_
  refine ab_putI dX12_helps_2 fl_X12_149 kd_205 rfl ?_
  obtain ⟨i1, e2⟩ : ∃ z, z = ab_u i 205 0 0 := ⟨_, rfl⟩
  show ab_Fr MX12_helps (d + 1) Q 5 [some (.ref 205), some (.int a1), some (.int a2), none] [] (0, 0) (ab_u i 205 0 0, l, dd, x) (ab_E0 sc)
  rw [show ab_u i 205 0 0 = i1 from e2.symm]
  refine ab_aloadn dX12_helps_5 rfl ?_
  refine ab_iloadn dX12_helps_6 rfl ?_
  obtain ⟨r3, P4, hs5, hk6⟩ := (h i1 e2)
  refine ab_callV (vs := [.int a1]) (st := []) dX12_helps_7 okMX12_isVoter wd_1553 kd_205 rfl rfl rfl (Nat.le_of_ble_eq_true rfl) ⟨Nat.le_of_ble_eq_true rfl, Nat.le_of_ble_eq_true rfl⟩ hs5 ?_
  rintro v9 ⟨i7, l8, dd9, x10⟩ E9 - ⟨rfl, rfl, hp11⟩
  show ab_Fr MX12_helps (d + 1) Q 10 [some (.ref 205), some (.int a1), some (.int a2), none] [.int r3] (0, 0) (i7, l8, dd9, x10) (ab_E0 sc)
  refine ab_if_eq (tgt := 26) dX12_helps_10 (by decide) (fun c12 => ?_) (fun c12 => ?_)
  · refine ab_iconst (v := (-1)) dX12_helps_26 (by decide) ?_
    exact ab_iret dX12_helps_27 rfl ⟨Nat.zero_le _, Nat.zero_le _⟩ ((hk6 i7 l8 dd9 x10 hp11).1 c12)
  · refine ab_aloadn dX12_helps_13 rfl ?_
    refine ab_iloadn dX12_helps_14 rfl ?_
    obtain ⟨r13, P14, hs15, hk16⟩ := ((hk6 i7 l8 dd9 x10 hp11).2 c12)
    refine ab_callV (vs := [.int a2]) (st := []) dX12_helps_15 okMX12_isVoter wd_1553 kd_205 rfl rfl rfl (Nat.le_of_ble_eq_true rfl) ⟨Nat.le_of_ble_eq_true rfl, Nat.le_of_ble_eq_true rfl⟩ hs15 ?_
    rintro v9 ⟨i17, l18, dd19, x20⟩ E9 - ⟨rfl, rfl, hp21⟩
    show ab_Fr MX12_helps (d + 1) Q 18 [some (.ref 205), some (.int a1), some (.int a2), none] [.int r13] (0, 0) (i17, l18, dd19, x20) (ab_E0 sc)
    refine ab_if_eq (tgt := 26) dX12_helps_18 (by decide) (fun c22 => ?_) (fun c22 => ?_)
    · refine ab_iconst (v := (-1)) dX12_helps_26 (by decide) ?_
      exact ab_iret dX12_helps_27 rfl ⟨Nat.zero_le _, Nat.zero_le _⟩ ((hk16 i17 l18 dd19 x20 hp21).1 c22)
    · refine ab_iloadn dX12_helps_21 rfl ?_
      refine ab_iloadn dX12_helps_22 rfl ?_
      refine ab_icmp_ne (tgt := 28) dX12_helps_23 (by decide) (fun c23 => ?_) (fun c23 => ?_)
      · refine ab_aloadn dX12_helps_28 rfl ?_
        refine ab_iconst (v := (-1)) dX12_helps_29 (by decide) ?_
        refine ab_iconst (v := (-1)) dX12_helps_30 (by decide) ?_
        obtain ⟨r24, P25, hs26, hk27⟩ := (((hk16 i17 l18 dd19 x20 hp21).2 c22).1 c23)
        refine ab_callV (vs := [.int (-1), .int (-1)]) (st := []) dX12_helps_31 okMX12_lostWithout wd_1746 kd_205 rfl rfl rfl (Nat.le_of_ble_eq_true rfl) ⟨Nat.le_of_ble_eq_true rfl, Nat.le_of_ble_eq_true rfl⟩ hs26 ?_
        rintro v9 ⟨i28, l29, dd30, x31⟩ E9 - ⟨rfl, rfl, hp32⟩
        show ab_Fr MX12_helps (d + 1) Q 34 [some (.ref 205), some (.int a1), some (.int a2), none] [.long r24] (0, 0) (i28, l29, dd30, x31) (ab_E0 sc)
        refine ab_aloadn dX12_helps_34 rfl ?_
        refine ab_iloadn dX12_helps_35 rfl ?_
        refine ab_iconst (v := (-1)) dX12_helps_36 (by decide) ?_
        obtain ⟨r33, P34, hs35, hk36⟩ := (hk27 i28 l29 dd30 x31 hp32)
        refine ab_callV (vs := [.int a1, .int (-1)]) (st := [.long r24]) dX12_helps_37 okMX12_lostWithout wd_1746 kd_205 rfl rfl rfl (Nat.le_of_ble_eq_true rfl) ⟨Nat.le_of_ble_eq_true rfl, Nat.le_of_ble_eq_true rfl⟩ hs35 ?_
        rintro v9 ⟨i37, l38, dd39, x40⟩ E9 - ⟨rfl, rfl, hp41⟩
        show ab_Fr MX12_helps (d + 1) Q 40 [some (.ref 205), some (.int a1), some (.int a2), none] [.long r33, .long r24] (0, 0) (i37, l38, dd39, x40) (ab_E0 sc)
        refine ab_lcge (tgt := 48) dX12_helps_40 dX12_helps_41 (by decide) (fun c42 => ?_) (fun c42 => ?_)
        · refine ab_iconst (v := 0) dX12_helps_48 (by decide) ?_
          exact ((hk36 i37 l38 dd39 x40 hp41).1 c42)
        · refine ab_iconst (v := 1) dX12_helps_44 (by decide) ?_
          refine ab_goto (tgt := 49) dX12_helps_45 (by decide) ?_
          exact ((hk36 i37 l38 dd39 x40 hp41).2 c42)
      · refine ab_iconst (v := (-1)) dX12_helps_26 (by decide) ?_
        exact ab_iret dX12_helps_27 rfl ⟨Nat.zero_le _, Nat.zero_le _⟩ (((hk16 i17 l18 dd19 x20 hp21).2 c22).2 c23)
theorem tMX12_helps_49 {d : Nat} {Q : ab_Qt} {sc : Nat × (Nat → Int32)} {i : Nat → Nat → Int32} {l : Nat → Nat → Int64} {dd : Nat → Nat → Value} {x : Nat} {a1 : Int32} {a2 : Int32} {s0 : Int32} 
    (h : ((s0 = 0 → Q (some (some (.int 0))) (i, l, dd, x) (ab_E0 sc)) ∧ (¬ s0 = 0 → (∃ (r2 : Int64) (P3 : ab_S → Prop), ab_Sp MX12_lostWithout d [.ref 205, .int (-1), .int a2] (i, l, dd, x) (ab_E0 sc) (some (.long r2)) P3 ∧ ∀ i6 l7 dd8 x9, P3 (i6, l7, dd8, x9) → ∃ (r11 : Int64) (P12 : ab_S → Prop), ab_Sp MX12_lostWithout d [.ref 205, .int a1, .int a2] (i6, l7, dd8, x9) (ab_E0 sc) (some (.long r11)) P12 ∧ ∀ i15 l16 dd17 x18, P12 (i15, l16, dd17, x18) → ((r2 < r11 → Q (some (some (.int 0))) (i15, l16, dd17, x18) (ab_E0 sc)) ∧ (¬ r2 < r11 → Q (some (some (.int 1))) (i15, l16, dd17, x18) (ab_E0 sc))))))) :
    ab_Fr MX12_helps (d + 1) Q 49 [some (.ref 205), some (.int a1), some (.int a2), none] [.int s0] (0, 0) (i, l, dd, x) (ab_E0 sc) := by
  refine ab_istoren dX12_helps_49 (Nat.le_of_ble_eq_true rfl) (L2 := [some (.ref 205), some (.int a1), some (.int a2), some (.int s0)]) rfl ?_
  refine ab_iloadn dX12_helps_50 rfl ?_
  refine ab_if_eq (tgt := 74) dX12_helps_51 (by decide) (fun c1 => ?_) (fun c1 => ?_)
  · refine ab_iconst (v := 0) dX12_helps_74 (by decide) ?_
    exact ab_iret dX12_helps_75 rfl ⟨Nat.zero_le _, Nat.zero_le _⟩ (h.1 c1)
  · refine ab_aloadn dX12_helps_54 rfl ?_
    refine ab_iconst (v := (-1)) dX12_helps_55 (by decide) ?_
    refine ab_iloadn dX12_helps_56 rfl ?_
    obtain ⟨r2, P3, hs4, hk5⟩ := (h.2 c1)
    refine ab_callV (vs := [.int (-1), .int a2]) (st := []) dX12_helps_57 okMX12_lostWithout wd_1746 kd_205 rfl rfl rfl (Nat.le_of_ble_eq_true rfl) ⟨Nat.le_of_ble_eq_true rfl, Nat.le_of_ble_eq_true rfl⟩ hs4 ?_
    rintro v9 ⟨i6, l7, dd8, x9⟩ E9 - ⟨rfl, rfl, hp10⟩
    show ab_Fr MX12_helps (d + 1) Q 60 [some (.ref 205), some (.int a1), some (.int a2), some (.int s0)] [.long r2] (0, 0) (i6, l7, dd8, x9) (ab_E0 sc)
    refine ab_aloadn dX12_helps_60 rfl ?_
    refine ab_iloadn dX12_helps_61 rfl ?_
    refine ab_iloadn dX12_helps_62 rfl ?_
    obtain ⟨r11, P12, hs13, hk14⟩ := (hk5 i6 l7 dd8 x9 hp10)
    refine ab_callV (vs := [.int a1, .int a2]) (st := [.long r2]) dX12_helps_63 okMX12_lostWithout wd_1746 kd_205 rfl rfl rfl (Nat.le_of_ble_eq_true rfl) ⟨Nat.le_of_ble_eq_true rfl, Nat.le_of_ble_eq_true rfl⟩ hs13 ?_
    rintro v9 ⟨i15, l16, dd17, x18⟩ E9 - ⟨rfl, rfl, hp19⟩
    show ab_Fr MX12_helps (d + 1) Q 66 [some (.ref 205), some (.int a1), some (.int a2), some (.int s0)] [.long r11, .long r2] (0, 0) (i15, l16, dd17, x18) (ab_E0 sc)
    refine ab_lclt (tgt := 74) dX12_helps_66 dX12_helps_67 (by decide) (fun c20 => ?_) (fun c20 => ?_)
    · refine ab_iconst (v := 0) dX12_helps_74 (by decide) ?_
      exact ab_iret dX12_helps_75 rfl ⟨Nat.zero_le _, Nat.zero_le _⟩ ((hk14 i15 l16 dd17 x18 hp19).1 c20)
    · refine ab_iconst (v := 1) dX12_helps_70 (by decide) ?_
      refine ab_goto (tgt := 75) dX12_helps_71 (by decide) ?_
      exact ab_iret dX12_helps_75 rfl ⟨Nat.zero_le _, Nat.zero_le _⟩ ((hk14 i15 l16 dd17 x18 hp19).2 c20)
theorem tMX12_believed_0 {d : Nat} {Q : ab_Qt} {sc : Nat × (Nat → Int32)} {i : Nat → Nat → Int32} {l : Nat → Nat → Int64} {dd : Nat → Nat → Value} {x : Nat} {a1 : Int32} {a2 : Int32} {a3 : Int32} 
    (h : (∀ i1, i1 = ab_u i 205 0 0 → ∃ (r3 : Int32) (P4 : ab_S → Prop), ab_Sp MX12_isVoter d [.ref 205, .int a1] (i1, l, dd, x) (ab_E0 sc) (some (.int r3)) P4 ∧ ∀ i7 l8 dd9 x10, P4 (i7, l8, dd9, x10) → ((r3 = 0 → Q (some (some (.int (-1)))) (i7, l8, dd9, x10) (ab_E0 sc)) ∧ (¬ r3 = 0 → (∃ (r13 : Int32) (P14 : ab_S → Prop), ab_Sp MX12_isVoter d [.ref 205, .int a2] (i7, l8, dd9, x10) (ab_E0 sc) (some (.int r13)) P14 ∧ ∀ i17 l18 dd19 x20, P14 (i17, l18, dd19, x20) → ((r13 = 0 → Q (some (some (.int (-1)))) (i17, l18, dd19, x20) (ab_E0 sc)) ∧ (¬ r13 = 0 → ((a1 = a2 → Q (some (some (.int (-1)))) (i17, l18, dd19, x20) (ab_E0 sc)) ∧ (¬ a1 = a2 → (vp_in a1 14 ∧ ((¬ (i17 212 a1.toNatClampNeg) = 3 → ab_Fr MX12_believed (d + 1) Q 43 [some (.ref 205), some (.int a1), some (.int a2), some (.int a3), none, none, none, none, none, none] [.int 1, .int 0, .int a3] (0, 0) (i17, l18, dd19, x20) (ab_E0 sc)) ∧ ((i17 212 a1.toNatClampNeg) = 3 → ab_Fr MX12_believed (d + 1) Q 43 [some (.ref 205), some (.int a1), some (.int a2), some (.int a3), none, none, none, none, none, none] [.int 4, .int 0, .int a3] (0, 0) (i17, l18, dd19, x20) (ab_E0 sc))))))))))))) :
    ab_Fr MX12_believed (d + 1) Q 0 [some (.ref 205), some (.int a1), some (.int a2), some (.int a3), none, none, none, none, none, none] [] (0, 0) (i, l, dd, x) (ab_E0 sc) := by
  refine ab_aloadn dX12_believed_0 rfl ?_
  refine ab_iconst (v := 0) dX12_believed_1 (by decide) ?_
  refine ab_putI dX12_believed_2 fl_X12_149 kd_205 rfl ?_
  obtain ⟨i1, e2⟩ : ∃ z, z = ab_u i 205 0 0 := ⟨_, rfl⟩
  show ab_Fr MX12_believed (d + 1) Q 5 [some (.ref 205), some (.int a1), some (.int a2), some (.int a3), none, none, none, none, none, none] [] (0, 0) (ab_u i 205 0 0, l, dd, x) (ab_E0 sc)
  rw [show ab_u i 205 0 0 = i1 from e2.symm]
  refine ab_aloadn dX12_believed_5 rfl ?_
  refine ab_iloadn dX12_believed_6 rfl ?_
  obtain ⟨r3, P4, hs5, hk6⟩ := (h i1 e2)
  refine ab_callV (vs := [.int a1]) (st := []) dX12_believed_7 okMX12_isVoter wd_1553 kd_205 rfl rfl rfl (Nat.le_of_ble_eq_true rfl) ⟨Nat.le_of_ble_eq_true rfl, Nat.le_of_ble_eq_true rfl⟩ hs5 ?_
  rintro v9 ⟨i7, l8, dd9, x10⟩ E9 - ⟨rfl, rfl, hp11⟩
  show ab_Fr MX12_believed (d + 1) Q 10 [some (.ref 205), some (.int a1), some (.int a2), some (.int a3), none, none, none, none, none, none] [.int r3] (0, 0) (i7, l8, dd9, x10) (ab_E0 sc)
  refine ab_if_eq (tgt := 49) dX12_believed_10 (by decide) (fun c12 => ?_) (fun c12 => ?_)
  · refine ab_iconst (v := (-1)) dX12_believed_49 (by decide) ?_
    exact ab_iret dX12_believed_50 rfl ⟨Nat.zero_le _, Nat.zero_le _⟩ ((hk6 i7 l8 dd9 x10 hp11).1 c12)
  · refine ab_aloadn dX12_believed_13 rfl ?_
    refine ab_iloadn dX12_believed_14 rfl ?_
    obtain ⟨r13, P14, hs15, hk16⟩ := ((hk6 i7 l8 dd9 x10 hp11).2 c12)
    refine ab_callV (vs := [.int a2]) (st := []) dX12_believed_15 okMX12_isVoter wd_1553 kd_205 rfl rfl rfl (Nat.le_of_ble_eq_true rfl) ⟨Nat.le_of_ble_eq_true rfl, Nat.le_of_ble_eq_true rfl⟩ hs15 ?_
    rintro v9 ⟨i17, l18, dd19, x20⟩ E9 - ⟨rfl, rfl, hp21⟩
    show ab_Fr MX12_believed (d + 1) Q 18 [some (.ref 205), some (.int a1), some (.int a2), some (.int a3), none, none, none, none, none, none] [.int r13] (0, 0) (i17, l18, dd19, x20) (ab_E0 sc)
    refine ab_if_eq (tgt := 49) dX12_believed_18 (by decide) (fun c22 => ?_) (fun c22 => ?_)
    · refine ab_iconst (v := (-1)) dX12_believed_49 (by decide) ?_
      exact ab_iret dX12_believed_50 rfl ⟨Nat.zero_le _, Nat.zero_le _⟩ ((hk16 i17 l18 dd19 x20 hp21).1 c22)
    · refine ab_iloadn dX12_believed_21 rfl ?_
      refine ab_iloadn dX12_believed_22 rfl ?_
      refine ab_icmp_eq (tgt := 49) dX12_believed_23 (by decide) (fun c23 => ?_) (fun c23 => ?_)
      · refine ab_iconst (v := (-1)) dX12_believed_49 (by decide) ?_
        exact ab_iret dX12_believed_50 rfl ⟨Nat.zero_le _, Nat.zero_le _⟩ (((hk16 i17 l18 dd19 x20 hp21).2 c22).1 c23)
      · refine ab_iloadn dX12_believed_26 rfl ?_
        refine ab_iconst (v := 0) dX12_believed_27 (by decide) ?_
        refine ab_aloadn dX12_believed_28 rfl ?_
        refine ab_getf (v := .ref 212) dX12_believed_29 fl_X12_29 kd_205 ff_205_16 ?_
        refine ab_iloadn dX12_believed_32 rfl ?_
        refine ab_iaload (v := (i17 212 a1.toNatClampNeg)) dX12_believed_33 kd_212 (((hk16 i17 l18 dd19 x20 hp21).2 c22).2 c23).1 rfl ?_
        refine ab_iconst (v := 3) dX12_believed_34 (by decide) ?_
        refine ab_icmp_ne (tgt := 42) dX12_believed_35 (by decide) (fun c24 => ?_) (fun c24 => ?_)
        · refine ab_iconst (v := 1) dX12_believed_42 (by decide) ?_
          exact ((((hk16 i17 l18 dd19 x20 hp21).2 c22).2 c23).2.1 c24)
        · refine ab_iconst (v := 4) dX12_believed_38 (by decide) ?_
          refine ab_goto (tgt := 43) dX12_believed_39 (by decide) ?_
          exact ((((hk16 i17 l18 dd19 x20 hp21).2 c22).2 c23).2.2 c24)
theorem tMX12_believed_43 {d : Nat} {Q : ab_Qt} {sc : Nat × (Nat → Int32)} {i : Nat → Nat → Int32} {l : Nat → Nat → Int64} {dd : Nat → Nat → Value} {x : Nat} {a1 : Int32} {a2 : Int32} {a3 : Int32} {s0 : Int32} {s1 : Int32} {s2 : Int32} 
    (h : (∃ (r1 : Int32) (P2 : ab_S → Prop), ab_Sp MX12_isIn d [.int s0, .int s1, .int s2] (i, l, dd, x) (ab_E0 sc) (some (.int r1)) P2 ∧ ∀ i5 l6 dd7 x8, P2 (i5, l6, dd7, x8) → ((¬ r1 = 0 → ab_Fr MX12_believed (d + 1) Q 57 [some (.ref 205), some (.int a1), some (.int a2), some (.int a3), some (.int 0), some (.int 0), none, none, none, none] [] (0, 0) (i5, l6, dd7, x8) (ab_E0 sc)) ∧ (r1 = 0 → Q (some (some (.int (-1)))) (i5, l6, dd7, x8) (ab_E0 sc))))) :
    ab_Fr MX12_believed (d + 1) Q 43 [some (.ref 205), some (.int a1), some (.int a2), some (.int a3), none, none, none, none, none, none] [.int s2, .int s1, .int s0] (0, 0) (i, l, dd, x) (ab_E0 sc) := by
  obtain ⟨r1, P2, hs3, hk4⟩ := h
  refine ab_callS (vs := [.int s0, .int s1, .int s2]) (st := []) dX12_believed_43 okMX12_isIn wd_1486 rfl rfl (Nat.le_of_ble_eq_true rfl) ⟨Nat.le_of_ble_eq_true rfl, Nat.le_of_ble_eq_true rfl⟩ hs3 ?_
  rintro v9 ⟨i5, l6, dd7, x8⟩ E9 - ⟨rfl, rfl, hp9⟩
  show ab_Fr MX12_believed (d + 1) Q 46 [some (.ref 205), some (.int a1), some (.int a2), some (.int a3), none, none, none, none, none, none] [.int r1] (0, 0) (i5, l6, dd7, x8) (ab_E0 sc)
  refine ab_if_ne (tgt := 51) dX12_believed_46 (by decide) (fun c10 => ?_) (fun c10 => ?_)
  · refine ab_iconst (v := 0) dX12_believed_51 (by decide) ?_
    refine ab_istore dX12_believed_52 (Nat.le_of_ble_eq_true rfl) (L2 := [some (.ref 205), some (.int a1), some (.int a2), some (.int a3), some (.int 0), none, none, none, none, none]) rfl ?_
    refine ab_iconst (v := 0) dX12_believed_54 (by decide) ?_
    refine ab_istore dX12_believed_55 (Nat.le_of_ble_eq_true rfl) (L2 := [some (.ref 205), some (.int a1), some (.int a2), some (.int a3), some (.int 0), some (.int 0), none, none, none, none]) rfl ?_
    exact ((hk4 i5 l6 dd7 x8 hp9).1 c10)
  · refine ab_iconst (v := (-1)) dX12_believed_49 (by decide) ?_
    exact ab_iret dX12_believed_50 rfl ⟨Nat.zero_le _, Nat.zero_le _⟩ ((hk4 i5 l6 dd7 x8 hp9).2 c10)
theorem tMX12_believed_57 {d : Nat} {Q : ab_Qt} {sc : Nat × (Nat → Int32)} {i : Nat → Nat → Int32} {l : Nat → Nat → Int64} {dd : Nat → Nat → Value} {x : Nat} {a1 : Int32} {a2 : Int32} {a3 : Int32} {a4 : Int32} {a5 : Int32} 
    (h : (vp_in a1 14 ∧ (((i 212 a1.toNatClampNeg) ≤ a5 → ab_Fr MX12_believed (d + 1) Q 110 [some (.ref 205), some (.int a1), some (.int a2), some (.int a3), some (.int a4), some (.int 0), none, none, none, none] [] (0, 0) (i, l, dd, x) (ab_E0 sc)) ∧ (¬ (i 212 a1.toNatClampNeg) ≤ a5 → (vp_in a1 14 ∧ ∃ (r2 : Int32) (P3 : ab_S → Prop), ab_Sp MX12_wordOf d [.int a5, .int (i 212 a1.toNatClampNeg), .int a3] (i, l, dd, x) (ab_E0 sc) (some (.int r2)) P3 ∧ ∀ i6 l7 dd8 x9, P3 (i6, l7, dd8, x9) → ((r2 < a4 → ab_Fr MX12_believed (d + 1) Q 57 [some (.ref 205), some (.int a1), some (.int a2), some (.int a3), some (.int a4), some (.int (a5 + 1)), none, none, none, none] [] (0, 0) (i6, l7, dd8, x9) (ab_E0 sc)) ∧ (¬ r2 < a4 → (vp_in a1 14 ∧ ∃ (r12 : Int32) (P13 : ab_S → Prop), ab_Sp MX12_wordOf d [.int a5, .int (i6 212 a1.toNatClampNeg), .int a3] (i6, l7, dd8, x9) (ab_E0 sc) (some (.int r12)) P13 ∧ ∀ i16 l17 dd18 x19, P13 (i16, l17, dd18, x19) → ab_Fr MX12_believed (d + 1) Q 57 [some (.ref 205), some (.int a1), some (.int a2), some (.int a3), some (.int (r12 + 1)), some (.int (a5 + 1)), none, none, none, none] [] (0, 0) (i16, l17, dd18, x19) (ab_E0 sc))))))))) :
    ab_Fr MX12_believed (d + 1) Q 57 [some (.ref 205), some (.int a1), some (.int a2), some (.int a3), some (.int a4), some (.int a5), none, none, none, none] [] (0, 0) (i, l, dd, x) (ab_E0 sc) := by
  refine ab_iload dX12_believed_57 rfl ?_
  refine ab_aloadn dX12_believed_59 rfl ?_
  refine ab_getf (v := .ref 212) dX12_believed_60 fl_X12_29 kd_205 ff_205_16 ?_
  refine ab_iloadn dX12_believed_63 rfl ?_
  refine ab_iaload (v := (i 212 a1.toNatClampNeg)) dX12_believed_64 kd_212 h.1 rfl ?_
  refine ab_icmp_ge (tgt := 107) dX12_believed_65 (by decide) (fun c1 => ?_) (fun c1 => ?_)
  · refine ab_iconst (v := 0) dX12_believed_107 (by decide) ?_
    refine ab_istore dX12_believed_108 (Nat.le_of_ble_eq_true rfl) (L2 := [some (.ref 205), some (.int a1), some (.int a2), some (.int a3), some (.int a4), some (.int 0), none, none, none, none]) rfl ?_
    exact (h.2.1 c1)
  · refine ab_iload dX12_believed_68 rfl ?_
    refine ab_aloadn dX12_believed_70 rfl ?_
    refine ab_getf (v := .ref 212) dX12_believed_71 fl_X12_29 kd_205 ff_205_16 ?_
    refine ab_iloadn dX12_believed_74 rfl ?_
    refine ab_iaload (v := (i 212 a1.toNatClampNeg)) dX12_believed_75 kd_212 (h.2.2 c1).1 rfl ?_
    refine ab_iloadn dX12_believed_76 rfl ?_
    obtain ⟨r2, P3, hs4, hk5⟩ := (h.2.2 c1).2
    refine ab_callS (vs := [.int a5, .int (i 212 a1.toNatClampNeg), .int a3]) (st := []) dX12_believed_77 okMX12_wordOf wd_1760 rfl rfl (Nat.le_of_ble_eq_true rfl) ⟨Nat.le_of_ble_eq_true rfl, Nat.le_of_ble_eq_true rfl⟩ hs4 ?_
    rintro v9 ⟨i6, l7, dd8, x9⟩ E9 - ⟨rfl, rfl, hp10⟩
    show ab_Fr MX12_believed (d + 1) Q 80 [some (.ref 205), some (.int a1), some (.int a2), some (.int a3), some (.int a4), some (.int a5), none, none, none, none] [.int r2] (0, 0) (i6, l7, dd8, x9) (ab_E0 sc)
    refine ab_iload dX12_believed_80 rfl ?_
    refine ab_icmp_lt (tgt := 101) dX12_believed_82 (by decide) (fun c11 => ?_) (fun c11 => ?_)
    · refine ab_iinc (v := (a5 + 1)) dX12_believed_101 rfl (by rfl) (Nat.le_of_ble_eq_true rfl) (L2 := [some (.ref 205), some (.int a1), some (.int a2), some (.int a3), some (.int a4), some (.int (a5 + 1)), none, none, none, none]) rfl ?_
      refine ab_goto (tgt := 57) dX12_believed_104 (by decide) ?_
      exact ((hk5 i6 l7 dd8 x9 hp10).1 c11)
    · refine ab_iload dX12_believed_85 rfl ?_
      refine ab_aloadn dX12_believed_87 rfl ?_
      refine ab_getf (v := .ref 212) dX12_believed_88 fl_X12_29 kd_205 ff_205_16 ?_
      refine ab_iloadn dX12_believed_91 rfl ?_
      refine ab_iaload (v := (i6 212 a1.toNatClampNeg)) dX12_believed_92 kd_212 ((hk5 i6 l7 dd8 x9 hp10).2 c11).1 rfl ?_
      refine ab_iloadn dX12_believed_93 rfl ?_
      obtain ⟨r12, P13, hs14, hk15⟩ := ((hk5 i6 l7 dd8 x9 hp10).2 c11).2
      refine ab_callS (vs := [.int a5, .int (i6 212 a1.toNatClampNeg), .int a3]) (st := []) dX12_believed_94 okMX12_wordOf wd_1760 rfl rfl (Nat.le_of_ble_eq_true rfl) ⟨Nat.le_of_ble_eq_true rfl, Nat.le_of_ble_eq_true rfl⟩ hs14 ?_
      rintro v9 ⟨i16, l17, dd18, x19⟩ E9 - ⟨rfl, rfl, hp20⟩
      show ab_Fr MX12_believed (d + 1) Q 97 [some (.ref 205), some (.int a1), some (.int a2), some (.int a3), some (.int a4), some (.int a5), none, none, none, none] [.int r12] (0, 0) (i16, l17, dd18, x19) (ab_E0 sc)
      refine ab_iconst (v := 1) dX12_believed_97 (by decide) ?_
      refine ab_iadd dX12_believed_98 ?_
      refine ab_istore dX12_believed_99 (Nat.le_of_ble_eq_true rfl) (L2 := [some (.ref 205), some (.int a1), some (.int a2), some (.int a3), some (.int (r12 + 1)), some (.int a5), none, none, none, none]) rfl ?_
      refine ab_iinc (v := (a5 + 1)) dX12_believed_101 rfl (by rfl) (Nat.le_of_ble_eq_true rfl) (L2 := [some (.ref 205), some (.int a1), some (.int a2), some (.int a3), some (.int (r12 + 1)), some (.int (a5 + 1)), none, none, none, none]) rfl ?_
      refine ab_goto (tgt := 57) dX12_believed_104 (by decide) ?_
      exact (hk15 i16 l17 dd18 x19 hp20)
theorem tMX12_believed_110 {d : Nat} {Q : ab_Qt} {sc : Nat × (Nat → Int32)} {i : Nat → Nat → Int32} {l : Nat → Nat → Int64} {dd : Nat → Nat → Value} {x : Nat} {a1 : Int32} {a2 : Int32} {a3 : Int32} {a4 : Int32} {a5 : Int32} 
    (h : (vp_in a2 14 ∧ (((i 212 a2.toNatClampNeg) ≤ a5 → ab_Fr MX12_believed (d + 1) Q 312 [some (.ref 205), some (.int a1), some (.int a2), some (.int a3), some (.int a4), some (.int 0), none, none, none, none] [] (0, 0) (i, l, dd, x) (ab_E0 sc)) ∧ (¬ (i 212 a2.toNatClampNeg) ≤ a5 → ab_Fr MX12_believed (d + 1) Q 124 [some (.ref 205), some (.int a1), some (.int a2), some (.int a3), some (.int a4), some (.int a5), some (.int 0), none, none, none] [] (0, 0) (i, l, dd, x) (ab_E0 sc))))) :
    ab_Fr MX12_believed (d + 1) Q 110 [some (.ref 205), some (.int a1), some (.int a2), some (.int a3), some (.int a4), some (.int a5), none, none, none, none] [] (0, 0) (i, l, dd, x) (ab_E0 sc) := by
  refine ab_iload dX12_believed_110 rfl ?_
  refine ab_aloadn dX12_believed_112 rfl ?_
  refine ab_getf (v := .ref 212) dX12_believed_113 fl_X12_29 kd_205 ff_205_16 ?_
  refine ab_iloadn dX12_believed_116 rfl ?_
  refine ab_iaload (v := (i 212 a2.toNatClampNeg)) dX12_believed_117 kd_212 h.1 rfl ?_
  refine ab_icmp_ge (tgt := 309) dX12_believed_118 (by decide) (fun c1 => ?_) (fun c1 => ?_)
  · refine ab_iconst (v := 0) dX12_believed_309 (by decide) ?_
    refine ab_istore dX12_believed_310 (Nat.le_of_ble_eq_true rfl) (L2 := [some (.ref 205), some (.int a1), some (.int a2), some (.int a3), some (.int a4), some (.int 0), none, none, none, none]) rfl ?_
    exact (h.2.1 c1)
  · refine ab_iconst (v := 0) dX12_believed_121 (by decide) ?_
    refine ab_istore dX12_believed_122 (Nat.le_of_ble_eq_true rfl) (L2 := [some (.ref 205), some (.int a1), some (.int a2), some (.int a3), some (.int a4), some (.int a5), some (.int 0), none, none, none]) rfl ?_
    exact (h.2.2 c1)
theorem tMX12_believed_124 {d : Nat} {Q : ab_Qt} {sc : Nat × (Nat → Int32)} {i : Nat → Nat → Int32} {l : Nat → Nat → Int64} {dd : Nat → Nat → Value} {x : Nat} {a1 : Int32} {a2 : Int32} {a3 : Int32} {a4 : Int32} {a5 : Int32} {a6 : Int32} 
    (h : ((a4 ≤ a6 → ab_Fr MX12_believed (d + 1) Q 110 [some (.ref 205), some (.int a1), some (.int a2), some (.int a3), some (.int a4), some (.int (a5 + 1)), none, none, none, none] [] (0, 0) (i, l, dd, x) (ab_E0 sc)) ∧ (¬ a4 ≤ a6 → ab_Fr MX12_believed (d + 1) Q 134 [some (.ref 205), some (.int a1), some (.int a2), some (.int a3), some (.int a4), some (.int a5), some (.int a6), some (.int 0), none, none] [] (0, 0) (i, l, dd, x) (ab_E0 sc)))) :
    ab_Fr MX12_believed (d + 1) Q 124 [some (.ref 205), some (.int a1), some (.int a2), some (.int a3), some (.int a4), some (.int a5), some (.int a6), none, none, none] [] (0, 0) (i, l, dd, x) (ab_E0 sc) := by
  refine ab_iload dX12_believed_124 rfl ?_
  refine ab_iload dX12_believed_126 rfl ?_
  refine ab_icmp_ge (tgt := 303) dX12_believed_128 (by decide) (fun c1 => ?_) (fun c1 => ?_)
  · refine ab_iinc (v := (a5 + 1)) dX12_believed_303 rfl (by rfl) (Nat.le_of_ble_eq_true rfl) (L2 := [some (.ref 205), some (.int a1), some (.int a2), some (.int a3), some (.int a4), some (.int (a5 + 1)), some (.int a6), none, none, none]) rfl ?_
    refine ab_goto (tgt := 110) dX12_believed_306 (by decide) ?_
    refine ab_forget (i := 6) (L2 := [some (.ref 205), some (.int a1), some (.int a2), some (.int a3), some (.int a4), some (.int (a5 + 1)), none, none, none, none]) rfl ?_
    exact (h.1 c1)
  · refine ab_iconst (v := 0) dX12_believed_131 (by decide) ?_
    refine ab_istore dX12_believed_132 (Nat.le_of_ble_eq_true rfl) (L2 := [some (.ref 205), some (.int a1), some (.int a2), some (.int a3), some (.int a4), some (.int a5), some (.int a6), some (.int 0), none, none]) rfl ?_
    exact (h.2 c1)
theorem tMX12_believed_134 {d : Nat} {Q : ab_Qt} {sc : Nat × (Nat → Int32)} {i : Nat → Nat → Int32} {l : Nat → Nat → Int64} {dd : Nat → Nat → Value} {x : Nat} {a1 : Int32} {a2 : Int32} {a3 : Int32} {a4 : Int32} {a5 : Int32} {a6 : Int32} {a7 : Int32} 
    (h : ((3 ≤ a7 → ab_Fr MX12_believed (d + 1) Q 157 [some (.ref 205), some (.int a1), some (.int a2), some (.int a3), some (.int a4), some (.int a5), some (.int a6), some (.int 0), none, none] [] (0, 0) (i, l, dd, x) (ab_E0 sc)) ∧ (¬ 3 ≤ a7 → (vp_in a7 4 ∧ ∀ l2, l2 = ab_u l 228 a7.toNatClampNeg 0 → ab_Fr MX12_believed (d + 1) Q 134 [some (.ref 205), some (.int a1), some (.int a2), some (.int a3), some (.int a4), some (.int a5), some (.int a6), some (.int (a7 + 1)), none, none] [] (0, 0) (i, l2, dd, x) (ab_E0 sc))))) :
    ab_Fr MX12_believed (d + 1) Q 134 [some (.ref 205), some (.int a1), some (.int a2), some (.int a3), some (.int a4), some (.int a5), some (.int a6), some (.int a7), none, none] [] (0, 0) (i, l, dd, x) (ab_E0 sc) := by
  refine ab_iload dX12_believed_134 rfl ?_
  refine ab_iconst (v := 3) dX12_believed_136 (by decide) ?_
  refine ab_icmp_ge (tgt := 154) dX12_believed_137 (by decide) (fun c1 => ?_) (fun c1 => ?_)
  · refine ab_iconst (v := 0) dX12_believed_154 (by decide) ?_
    refine ab_istore dX12_believed_155 (Nat.le_of_ble_eq_true rfl) (L2 := [some (.ref 205), some (.int a1), some (.int a2), some (.int a3), some (.int a4), some (.int a5), some (.int a6), some (.int 0), none, none]) rfl ?_
    exact (h.1 c1)
  · refine ab_aloadn dX12_believed_140 rfl ?_
    refine ab_getf (v := .ref 228) dX12_believed_141 fl_X12_77 kd_205 ff_205_37 ?_
    refine ab_iload dX12_believed_144 rfl ?_
    refine ab_lconst (v := 0) dX12_believed_146 (by decide) ?_
    refine ab_lastore dX12_believed_147 kd_228 (h.2 c1).1 ?_
    obtain ⟨l2, e3⟩ : ∃ z, z = ab_u l 228 a7.toNatClampNeg 0 := ⟨_, rfl⟩
    rw [show ab_u l 228 a7.toNatClampNeg 0 = l2 from e3.symm]
    refine ab_iinc (v := (a7 + 1)) dX12_believed_148 rfl (by rfl) (Nat.le_of_ble_eq_true rfl) (L2 := [some (.ref 205), some (.int a1), some (.int a2), some (.int a3), some (.int a4), some (.int a5), some (.int a6), some (.int (a7 + 1)), none, none]) rfl ?_
    refine ab_goto (tgt := 134) dX12_believed_151 (by decide) ?_
    exact ((h.2 c1).2 l2 e3)
theorem tMX12_believed_157 {d : Nat} {Q : ab_Qt} {sc : Nat × (Nat → Int32)} {i : Nat → Nat → Int32} {l : Nat → Nat → Int64} {dd : Nat → Nat → Value} {x : Nat} {a1 : Int32} {a2 : Int32} {a3 : Int32} {a4 : Int32} {a5 : Int32} {a6 : Int32} {a7 : Int32} 
    (h : (vp_in a1 14 ∧ (((i 212 a1.toNatClampNeg) ≤ a7 → (∃ (r2 : Int32) (P3 : ab_S → Prop), ab_Sp MX12_least d [.ref 205, .long (l 228 0), .long (l 228 1), .long (l 228 2)] (i, l, dd, x) (ab_E0 sc) (some (.int r2)) P3 ∧ ∀ i6 l7 dd8 x9, P3 (i6, l7, dd8, x9) → vp_in ((3 * a5) + a6) 9 ∧ ∀ i11, i11 = ab_u i6 246 ((3 * a5) + a6).toNatClampNeg r2 → ab_Fr MX12_believed (d + 1) Q 124 [some (.ref 205), some (.int a1), some (.int a2), some (.int a3), some (.int a4), some (.int a5), some (.int (a6 + 1)), none, none, none] [] (0, 0) (i11, l7, dd8, x9) (ab_E0 sc))) ∧ (¬ (i 212 a1.toNatClampNeg) ≤ a7 → (vp_in a1 14 ∧ ∃ (r13 : Int32) (P14 : ab_S → Prop), ab_Sp MX12_wordOf d [.int a7, .int (i 212 a1.toNatClampNeg), .int a3] (i, l, dd, x) (ab_E0 sc) (some (.int r13)) P14 ∧ ∀ i17 l18 dd19 x20, P14 (i17, l18, dd19, x20) → ((r13 = a6 → ab_Fr MX12_believed (d + 1) Q 191 [some (.ref 205), some (.int a1), some (.int a2), some (.int a3), some (.int a4), some (.int a5), some (.int a6), some (.int a7), some (.int 0), none] [] (0, 0) (i17, l18, dd19, x20) (ab_E0 sc)) ∧ (¬ r13 = a6 → ab_Fr MX12_believed (d + 1) Q 157 [some (.ref 205), some (.int a1), some (.int a2), some (.int a3), some (.int a4), some (.int a5), some (.int a6), some (.int (a7 + 1)), none, none] [] (0, 0) (i17, l18, dd19, x20) (ab_E0 sc)))))))) :
    ab_Fr MX12_believed (d + 1) Q 157 [some (.ref 205), some (.int a1), some (.int a2), some (.int a3), some (.int a4), some (.int a5), some (.int a6), some (.int a7), none, none] [] (0, 0) (i, l, dd, x) (ab_E0 sc) := by
  refine ab_iload dX12_believed_157 rfl ?_
  refine ab_aloadn dX12_believed_159 rfl ?_
  refine ab_getf (v := .ref 212) dX12_believed_160 fl_X12_29 kd_205 ff_205_16 ?_
  refine ab_iloadn dX12_believed_163 rfl ?_
  refine ab_iaload (v := (i 212 a1.toNatClampNeg)) dX12_believed_164 kd_212 h.1 rfl ?_
  refine ab_icmp_ge (tgt := 263) dX12_believed_165 (by decide) (fun c1 => ?_) (fun c1 => ?_)
  · refine ab_aloadn dX12_believed_263 rfl ?_
    refine ab_getf (v := .ref 246) dX12_believed_264 fl_X12_140 kd_205 ff_205_65 ?_
    refine ab_iconst (v := 3) dX12_believed_267 (by decide) ?_
    refine ab_iload dX12_believed_268 rfl ?_
    refine ab_imul dX12_believed_270 ?_
    refine ab_iload dX12_believed_271 rfl ?_
    refine ab_iadd dX12_believed_273 ?_
    refine ab_aloadn dX12_believed_274 rfl ?_
    refine ab_aloadn dX12_believed_275 rfl ?_
    refine ab_getf (v := .ref 228) dX12_believed_276 fl_X12_77 kd_205 ff_205_37 ?_
    refine ab_iconst (v := 0) dX12_believed_279 (by decide) ?_
    refine ab_laload (v := (l 228 0)) dX12_believed_280 kd_228 (ab_vp (by decide)) rfl ?_
    refine ab_aloadn dX12_believed_281 rfl ?_
    refine ab_getf (v := .ref 228) dX12_believed_282 fl_X12_77 kd_205 ff_205_37 ?_
    refine ab_iconst (v := 1) dX12_believed_285 (by decide) ?_
    refine ab_laload (v := (l 228 1)) dX12_believed_286 kd_228 (ab_vp (by decide)) rfl ?_
    refine ab_aloadn dX12_believed_287 rfl ?_
    refine ab_getf (v := .ref 228) dX12_believed_288 fl_X12_77 kd_205 ff_205_37 ?_
    refine ab_iconst (v := 2) dX12_believed_291 (by decide) ?_
    refine ab_laload (v := (l 228 2)) dX12_believed_292 kd_228 (ab_vp (by decide)) rfl ?_
    obtain ⟨r2, P3, hs4, hk5⟩ := (h.2.1 c1)
    refine ab_callV (vs := [.long (l 228 0), .long (l 228 1), .long (l 228 2)]) (st := [.int ((3 * a5) + a6), .ref 246]) dX12_believed_293 okMX12_least wd_1537 kd_205 rfl rfl rfl (Nat.le_of_ble_eq_true rfl) ⟨Nat.le_of_ble_eq_true rfl, Nat.le_of_ble_eq_true rfl⟩ hs4 ?_
    rintro v9 ⟨i6, l7, dd8, x9⟩ E9 - ⟨rfl, rfl, hp10⟩
    show ab_Fr MX12_believed (d + 1) Q 296 [some (.ref 205), some (.int a1), some (.int a2), some (.int a3), some (.int a4), some (.int a5), some (.int a6), some (.int a7), none, none] [.int r2, .int ((3 * a5) + a6), .ref 246] (0, 0) (i6, l7, dd8, x9) (ab_E0 sc)
    refine ab_iastore dX12_believed_296 kd_246 (hk5 i6 l7 dd8 x9 hp10).1 ?_
    obtain ⟨i11, e12⟩ : ∃ z, z = ab_u i6 246 ((3 * a5) + a6).toNatClampNeg r2 := ⟨_, rfl⟩
    rw [show ab_u i6 246 ((3 * a5) + a6).toNatClampNeg r2 = i11 from e12.symm]
    refine ab_iinc (v := (a6 + 1)) dX12_believed_297 rfl (by rfl) (Nat.le_of_ble_eq_true rfl) (L2 := [some (.ref 205), some (.int a1), some (.int a2), some (.int a3), some (.int a4), some (.int a5), some (.int (a6 + 1)), some (.int a7), none, none]) rfl ?_
    refine ab_goto (tgt := 124) dX12_believed_300 (by decide) ?_
    refine ab_forget (i := 7) (L2 := [some (.ref 205), some (.int a1), some (.int a2), some (.int a3), some (.int a4), some (.int a5), some (.int (a6 + 1)), none, none, none]) rfl ?_
    exact ((hk5 i6 l7 dd8 x9 hp10).2 i11 e12)
  · refine ab_iload dX12_believed_168 rfl ?_
    refine ab_aloadn dX12_believed_170 rfl ?_
    refine ab_getf (v := .ref 212) dX12_believed_171 fl_X12_29 kd_205 ff_205_16 ?_
    refine ab_iloadn dX12_believed_174 rfl ?_
    refine ab_iaload (v := (i 212 a1.toNatClampNeg)) dX12_believed_175 kd_212 (h.2.2 c1).1 rfl ?_
    refine ab_iloadn dX12_believed_176 rfl ?_
    obtain ⟨r13, P14, hs15, hk16⟩ := (h.2.2 c1).2
    refine ab_callS (vs := [.int a7, .int (i 212 a1.toNatClampNeg), .int a3]) (st := []) dX12_believed_177 okMX12_wordOf wd_1760 rfl rfl (Nat.le_of_ble_eq_true rfl) ⟨Nat.le_of_ble_eq_true rfl, Nat.le_of_ble_eq_true rfl⟩ hs15 ?_
    rintro v9 ⟨i17, l18, dd19, x20⟩ E9 - ⟨rfl, rfl, hp21⟩
    show ab_Fr MX12_believed (d + 1) Q 180 [some (.ref 205), some (.int a1), some (.int a2), some (.int a3), some (.int a4), some (.int a5), some (.int a6), some (.int a7), none, none] [.int r13] (0, 0) (i17, l18, dd19, x20) (ab_E0 sc)
    refine ab_iload dX12_believed_180 rfl ?_
    refine ab_icmp_eq (tgt := 188) dX12_believed_182 (by decide) (fun c22 => ?_) (fun c22 => ?_)
    · refine ab_iconst (v := 0) dX12_believed_188 (by decide) ?_
      refine ab_istore dX12_believed_189 (Nat.le_of_ble_eq_true rfl) (L2 := [some (.ref 205), some (.int a1), some (.int a2), some (.int a3), some (.int a4), some (.int a5), some (.int a6), some (.int a7), some (.int 0), none]) rfl ?_
      exact ((hk16 i17 l18 dd19 x20 hp21).1 c22)
    · refine ab_goto (tgt := 257) dX12_believed_185 (by decide) ?_
      refine ab_iinc (v := (a7 + 1)) dX12_believed_257 rfl (by rfl) (Nat.le_of_ble_eq_true rfl) (L2 := [some (.ref 205), some (.int a1), some (.int a2), some (.int a3), some (.int a4), some (.int a5), some (.int a6), some (.int (a7 + 1)), none, none]) rfl ?_
      refine ab_goto (tgt := 157) dX12_believed_260 (by decide) ?_
      exact ((hk16 i17 l18 dd19 x20 hp21).2 c22)
theorem tMX12_believed_191 {d : Nat} {Q : ab_Qt} {sc : Nat × (Nat → Int32)} {i : Nat → Nat → Int32} {l : Nat → Nat → Int64} {dd : Nat → Nat → Value} {x : Nat} {a1 : Int32} {a2 : Int32} {a3 : Int32} {a4 : Int32} {a5 : Int32} {a6 : Int32} {a7 : Int32} {a8 : Int32} 
    (h : (((i 205 29) ≤ a8 → ab_Fr MX12_believed (d + 1) Q 157 [some (.ref 205), some (.int a1), some (.int a2), some (.int a3), some (.int a4), some (.int a5), some (.int a6), some (.int (a7 + 1)), none, none] [] (0, 0) (i, l, dd, x) (ab_E0 sc)) ∧ (¬ (i 205 29) ≤ a8 → ab_Fr MX12_believed (d + 1) Q 203 [some (.ref 205), some (.int a1), some (.int a2), some (.int a3), some (.int a4), some (.int a5), some (.int a6), some (.int a7), some (.int a8), some (.int 0)] [] (0, 0) (i, l, dd, x) (ab_E0 sc)))) :
    ab_Fr MX12_believed (d + 1) Q 191 [some (.ref 205), some (.int a1), some (.int a2), some (.int a3), some (.int a4), some (.int a5), some (.int a6), some (.int a7), some (.int a8), none] [] (0, 0) (i, l, dd, x) (ab_E0 sc) := by
  refine ab_iload dX12_believed_191 rfl ?_
  refine ab_aloadn dX12_believed_193 rfl ?_
  refine ab_getf (v := .int (i 205 29)) dX12_believed_194 fl_X12_303 kd_205 rfl ?_
  refine ab_icmp_ge (tgt := 257) dX12_believed_197 (by decide) (fun c1 => ?_) (fun c1 => ?_)
  · refine ab_iinc (v := (a7 + 1)) dX12_believed_257 rfl (by rfl) (Nat.le_of_ble_eq_true rfl) (L2 := [some (.ref 205), some (.int a1), some (.int a2), some (.int a3), some (.int a4), some (.int a5), some (.int a6), some (.int (a7 + 1)), some (.int a8), none]) rfl ?_
    refine ab_goto (tgt := 157) dX12_believed_260 (by decide) ?_
    refine ab_forget (i := 8) (L2 := [some (.ref 205), some (.int a1), some (.int a2), some (.int a3), some (.int a4), some (.int a5), some (.int a6), some (.int (a7 + 1)), none, none]) rfl ?_
    exact (h.1 c1)
  · refine ab_iconst (v := 0) dX12_believed_200 (by decide) ?_
    refine ab_istore dX12_believed_201 (Nat.le_of_ble_eq_true rfl) (L2 := [some (.ref 205), some (.int a1), some (.int a2), some (.int a3), some (.int a4), some (.int a5), some (.int a6), some (.int a7), some (.int a8), some (.int 0)]) rfl ?_
    exact (h.2 c1)
theorem tMX12_believed_203 {d : Nat} {Q : ab_Qt} {sc : Nat × (Nat → Int32)} {i : Nat → Nat → Int32} {l : Nat → Nat → Int64} {dd : Nat → Nat → Value} {x : Nat} {a1 : Int32} {a2 : Int32} {a3 : Int32} {a4 : Int32} {a5 : Int32} {a6 : Int32} {a7 : Int32} {a8 : Int32} {a9 : Int32} 
    (h : (((i 205 29) ≤ a9 → ab_Fr MX12_believed (d + 1) Q 191 [some (.ref 205), some (.int a1), some (.int a2), some (.int a3), some (.int a4), some (.int a5), some (.int a6), some (.int a7), some (.int (a8 + 1)), none] [] (0, 0) (i, l, dd, x) (ab_E0 sc)) ∧ (¬ (i 205 29) ≤ a9 → (vp_in a9 4 ∧ ∃ (r2 : Int64) (P3 : ab_S → Prop), ab_Sp MX12_both d [.ref 205, .int a1, .int a7, .int a2, .int a5, .int a8] (i, l, dd, x) (ab_E0 sc) (some (.long r2)) P3 ∧ ∀ i6 l7 dd8 x9, P3 (i6, l7, dd8, x9) → ∃ (r11 : Int32) (P12 : ab_S → Prop), ab_Sp MX12_loss d [.ref 205, .int a2, .int a8, .int a9] (i6, l7, dd8, x9) (ab_E0 sc) (some (.int r11)) P12 ∧ ∀ i15 l16 dd17 x18, P12 (i15, l16, dd17, x18) → vp_in a9 4 ∧ ∀ l20, l20 = ab_u l16 228 a9.toNatClampNeg ((l 228 a9.toNatClampNeg) + (r2 * r11.toInt64)) → ab_Fr MX12_believed (d + 1) Q 203 [some (.ref 205), some (.int a1), some (.int a2), some (.int a3), some (.int a4), some (.int a5), some (.int a6), some (.int a7), some (.int a8), some (.int (a9 + 1))] [] (0, 0) (i15, l20, dd17, x18) (ab_E0 sc))))) :
    ab_Fr MX12_believed (d + 1) Q 203 [some (.ref 205), some (.int a1), some (.int a2), some (.int a3), some (.int a4), some (.int a5), some (.int a6), some (.int a7), some (.int a8), some (.int a9)] [] (0, 0) (i, l, dd, x) (ab_E0 sc) := by
  refine ab_iload dX12_believed_203 rfl ?_
  refine ab_aloadn dX12_believed_205 rfl ?_
  refine ab_getf (v := .int (i 205 29)) dX12_believed_206 fl_X12_303 kd_205 rfl ?_
  refine ab_icmp_ge (tgt := 251) dX12_believed_209 (by decide) (fun c1 => ?_) (fun c1 => ?_)
  · refine ab_iinc (v := (a8 + 1)) dX12_believed_251 rfl (by rfl) (Nat.le_of_ble_eq_true rfl) (L2 := [some (.ref 205), some (.int a1), some (.int a2), some (.int a3), some (.int a4), some (.int a5), some (.int a6), some (.int a7), some (.int (a8 + 1)), some (.int a9)]) rfl ?_
    refine ab_goto (tgt := 191) dX12_believed_254 (by decide) ?_
    refine ab_forget (i := 9) (L2 := [some (.ref 205), some (.int a1), some (.int a2), some (.int a3), some (.int a4), some (.int a5), some (.int a6), some (.int a7), some (.int (a8 + 1)), none]) rfl ?_
    exact (h.1 c1)
  · refine ab_aloadn dX12_believed_212 rfl ?_
    refine ab_getf (v := .ref 228) dX12_believed_213 fl_X12_77 kd_205 ff_205_37 ?_
    refine ab_iload dX12_believed_216 rfl ?_
    refine ab_dup2 dX12_believed_218 rfl rfl ?_
    refine ab_laload (v := (l 228 a9.toNatClampNeg)) dX12_believed_219 kd_228 (h.2 c1).1 rfl ?_
    refine ab_aloadn dX12_believed_220 rfl ?_
    refine ab_iloadn dX12_believed_221 rfl ?_
    refine ab_iload dX12_believed_222 rfl ?_
    refine ab_iloadn dX12_believed_224 rfl ?_
    refine ab_iload dX12_believed_225 rfl ?_
    refine ab_iload dX12_believed_227 rfl ?_
    obtain ⟨r2, P3, hs4, hk5⟩ := (h.2 c1).2
    refine ab_callV (vs := [.int a1, .int a7, .int a2, .int a5, .int a8]) (st := [.long (l 228 a9.toNatClampNeg), .int a9, .ref 228]) dX12_believed_229 okMX12_both wd_1763 kd_205 rfl rfl rfl (Nat.le_of_ble_eq_true rfl) ⟨Nat.le_of_ble_eq_true rfl, Nat.le_of_ble_eq_true rfl⟩ hs4 ?_
    rintro v9 ⟨i6, l7, dd8, x9⟩ E9 - ⟨rfl, rfl, hp10⟩
    show ab_Fr MX12_believed (d + 1) Q 232 [some (.ref 205), some (.int a1), some (.int a2), some (.int a3), some (.int a4), some (.int a5), some (.int a6), some (.int a7), some (.int a8), some (.int a9)] [.long r2, .long (l 228 a9.toNatClampNeg), .int a9, .ref 228] (0, 0) (i6, l7, dd8, x9) (ab_E0 sc)
    refine ab_aloadn dX12_believed_232 rfl ?_
    refine ab_iloadn dX12_believed_233 rfl ?_
    refine ab_iload dX12_believed_234 rfl ?_
    refine ab_iload dX12_believed_236 rfl ?_
    obtain ⟨r11, P12, hs13, hk14⟩ := (hk5 i6 l7 dd8 x9 hp10)
    refine ab_callV (vs := [.int a2, .int a8, .int a9]) (st := [.long r2, .long (l 228 a9.toNatClampNeg), .int a9, .ref 228]) dX12_believed_238 okMX12_loss wd_1534 kd_205 rfl rfl rfl (Nat.le_of_ble_eq_true rfl) ⟨Nat.le_of_ble_eq_true rfl, Nat.le_of_ble_eq_true rfl⟩ hs13 ?_
    rintro v9 ⟨i15, l16, dd17, x18⟩ E9 - ⟨rfl, rfl, hp19⟩
    show ab_Fr MX12_believed (d + 1) Q 241 [some (.ref 205), some (.int a1), some (.int a2), some (.int a3), some (.int a4), some (.int a5), some (.int a6), some (.int a7), some (.int a8), some (.int a9)] [.int r11, .long r2, .long (l 228 a9.toNatClampNeg), .int a9, .ref 228] (0, 0) (i15, l16, dd17, x18) (ab_E0 sc)
    refine ab_i2l dX12_believed_241 rfl ?_
    refine ab_lmul dX12_believed_242 ?_
    refine ab_ladd dX12_believed_243 ?_
    refine ab_lastore dX12_believed_244 kd_228 (hk14 i15 l16 dd17 x18 hp19).1 ?_
    obtain ⟨l20, e21⟩ : ∃ z, z = ab_u l16 228 a9.toNatClampNeg ((l 228 a9.toNatClampNeg) + (r2 * r11.toInt64)) := ⟨_, rfl⟩
    rw [show ab_u l16 228 a9.toNatClampNeg ((l 228 a9.toNatClampNeg) + (r2 * r11.toInt64)) = l20 from e21.symm]
    refine ab_iinc (v := (a9 + 1)) dX12_believed_245 rfl (by rfl) (Nat.le_of_ble_eq_true rfl) (L2 := [some (.ref 205), some (.int a1), some (.int a2), some (.int a3), some (.int a4), some (.int a5), some (.int a6), some (.int a7), some (.int a8), some (.int (a9 + 1))]) rfl ?_
    refine ab_goto (tgt := 203) dX12_believed_248 (by decide) ?_
    exact ((hk14 i15 l16 dd17 x18 hp19).2 l20 e21)
theorem tMX12_believed_312 {d : Nat} {Q : ab_Qt} {sc : Nat × (Nat → Int32)} {i : Nat → Nat → Int32} {l : Nat → Nat → Int64} {dd : Nat → Nat → Value} {x : Nat} {a1 : Int32} {a2 : Int32} {a3 : Int32} {a4 : Int32} {a5 : Int32} 
    (h : (vp_in a1 14 ∧ (((i 212 a1.toNatClampNeg) ≤ a5 → Q (some (some (.int 1))) (i, l, dd, x) (ab_E0 sc)) ∧ (¬ (i 212 a1.toNatClampNeg) ≤ a5 → (vp_in a1 14 ∧ ∃ (r2 : Int32) (P3 : ab_S → Prop), ab_Sp MX12_wordOf d [.int a5, .int (i 212 a1.toNatClampNeg), .int a3] (i, l, dd, x) (ab_E0 sc) (some (.int r2)) P3 ∧ ∀ i6 l7 dd8 x9, P3 (i6, l7, dd8, x9) → ∃ (r11 : Int64) (P12 : ab_S → Prop), ab_Sp MX12_lostByWord d [.ref 205, .int a1, .int a5, .int a2, .int r2] (i6, l7, dd8, x9) (ab_E0 sc) (some (.long r11)) P12 ∧ ∀ i15 l16 dd17 x18, P12 (i15, l16, dd17, x18) → ab_Fr MX12_believed (d + 1) Q 348 [some (.ref 205), some (.int a1), some (.int a2), some (.int a3), some (.int a4), some (.int a5), some (.long r11), none, some (.int 0), none] [] (0, 0) (i15, l16, dd17, x18) (ab_E0 sc)))))) :
    ab_Fr MX12_believed (d + 1) Q 312 [some (.ref 205), some (.int a1), some (.int a2), some (.int a3), some (.int a4), some (.int a5), none, none, none, none] [] (0, 0) (i, l, dd, x) (ab_E0 sc) := by
  refine ab_iload dX12_believed_312 rfl ?_
  refine ab_aloadn dX12_believed_314 rfl ?_
  refine ab_getf (v := .ref 212) dX12_believed_315 fl_X12_29 kd_205 ff_205_16 ?_
  refine ab_iloadn dX12_believed_318 rfl ?_
  refine ab_iaload (v := (i 212 a1.toNatClampNeg)) dX12_believed_319 kd_212 h.1 rfl ?_
  refine ab_icmp_ge (tgt := 385) dX12_believed_320 (by decide) (fun c1 => ?_) (fun c1 => ?_)
  · refine ab_iconst (v := 1) dX12_believed_385 (by decide) ?_
    exact ab_iret dX12_believed_386 rfl ⟨Nat.zero_le _, Nat.zero_le _⟩ (h.2.1 c1)
  · refine ab_aloadn dX12_believed_323 rfl ?_
    refine ab_iloadn dX12_believed_324 rfl ?_
    refine ab_iload dX12_believed_325 rfl ?_
    refine ab_iloadn dX12_believed_327 rfl ?_
    refine ab_iload dX12_believed_328 rfl ?_
    refine ab_aloadn dX12_believed_330 rfl ?_
    refine ab_getf (v := .ref 212) dX12_believed_331 fl_X12_29 kd_205 ff_205_16 ?_
    refine ab_iloadn dX12_believed_334 rfl ?_
    refine ab_iaload (v := (i 212 a1.toNatClampNeg)) dX12_believed_335 kd_212 (h.2.2 c1).1 rfl ?_
    refine ab_iloadn dX12_believed_336 rfl ?_
    obtain ⟨r2, P3, hs4, hk5⟩ := (h.2.2 c1).2
    refine ab_callS (vs := [.int a5, .int (i 212 a1.toNatClampNeg), .int a3]) (st := [.int a2, .int a5, .int a1, .ref 205]) dX12_believed_337 okMX12_wordOf wd_1760 rfl rfl (Nat.le_of_ble_eq_true rfl) ⟨Nat.le_of_ble_eq_true rfl, Nat.le_of_ble_eq_true rfl⟩ hs4 ?_
    rintro v9 ⟨i6, l7, dd8, x9⟩ E9 - ⟨rfl, rfl, hp10⟩
    show ab_Fr MX12_believed (d + 1) Q 340 [some (.ref 205), some (.int a1), some (.int a2), some (.int a3), some (.int a4), some (.int a5), none, none, none, none] [.int r2, .int a2, .int a5, .int a1, .ref 205] (0, 0) (i6, l7, dd8, x9) (ab_E0 sc)
    obtain ⟨r11, P12, hs13, hk14⟩ := (hk5 i6 l7 dd8 x9 hp10)
    refine ab_callV (vs := [.int a1, .int a5, .int a2, .int r2]) (st := []) dX12_believed_340 okMX12_lostByWord wd_1766 kd_205 rfl rfl rfl (Nat.le_of_ble_eq_true rfl) ⟨Nat.le_of_ble_eq_true rfl, Nat.le_of_ble_eq_true rfl⟩ hs13 ?_
    rintro v9 ⟨i15, l16, dd17, x18⟩ E9 - ⟨rfl, rfl, hp19⟩
    show ab_Fr MX12_believed (d + 1) Q 343 [some (.ref 205), some (.int a1), some (.int a2), some (.int a3), some (.int a4), some (.int a5), none, none, none, none] [.long r11] (0, 0) (i15, l16, dd17, x18) (ab_E0 sc)
    refine ab_lstore dX12_believed_343 (Nat.le_of_ble_eq_true rfl) (L2 := [some (.ref 205), some (.int a1), some (.int a2), some (.int a3), some (.int a4), some (.int a5), some (.long r11), none, none, none]) rfl ?_
    refine ab_iconst (v := 0) dX12_believed_345 (by decide) ?_
    refine ab_istore dX12_believed_346 (Nat.le_of_ble_eq_true rfl) (L2 := [some (.ref 205), some (.int a1), some (.int a2), some (.int a3), some (.int a4), some (.int a5), some (.long r11), none, some (.int 0), none]) rfl ?_
    exact (hk14 i15 l16 dd17 x18 hp19)
theorem tMX12_believed_348 {d : Nat} {Q : ab_Qt} {sc : Nat × (Nat → Int32)} {i : Nat → Nat → Int32} {l : Nat → Nat → Int64} {dd : Nat → Nat → Value} {x : Nat} {a1 : Int32} {a2 : Int32} {a3 : Int32} {a4 : Int32} {a5 : Int32} {a6 : Int64} {a8 : Int32} 
    (h : ((a4 ≤ a8 → ab_Fr MX12_believed (d + 1) Q 312 [some (.ref 205), some (.int a1), some (.int a2), some (.int a3), some (.int a4), some (.int (a5 + 1)), none, none, none, none] [] (0, 0) (i, l, dd, x) (ab_E0 sc)) ∧ (¬ a4 ≤ a8 → (∃ (r2 : Int64) (P3 : ab_S → Prop), ab_Sp MX12_lostByWord d [.ref 205, .int a1, .int a5, .int a2, .int a8] (i, l, dd, x) (ab_E0 sc) (some (.long r2)) P3 ∧ ∀ i6 l7 dd8 x9, P3 (i6, l7, dd8, x9) → ((¬ r2 < a6 → ab_Fr MX12_believed (d + 1) Q 348 [some (.ref 205), some (.int a1), some (.int a2), some (.int a3), some (.int a4), some (.int a5), some (.long a6), none, some (.int (a8 + 1)), none] [] (0, 0) (i6, l7, dd8, x9) (ab_E0 sc)) ∧ (r2 < a6 → Q (some (some (.int 0))) (i6, l7, dd8, x9) (ab_E0 sc))))))) :
    ab_Fr MX12_believed (d + 1) Q 348 [some (.ref 205), some (.int a1), some (.int a2), some (.int a3), some (.int a4), some (.int a5), some (.long a6), none, some (.int a8), none] [] (0, 0) (i, l, dd, x) (ab_E0 sc) := by
  refine ab_iload dX12_believed_348 rfl ?_
  refine ab_iload dX12_believed_350 rfl ?_
  refine ab_icmp_ge (tgt := 379) dX12_believed_352 (by decide) (fun c1 => ?_) (fun c1 => ?_)
  · refine ab_iinc (v := (a5 + 1)) dX12_believed_379 rfl (by rfl) (Nat.le_of_ble_eq_true rfl) (L2 := [some (.ref 205), some (.int a1), some (.int a2), some (.int a3), some (.int a4), some (.int (a5 + 1)), some (.long a6), none, some (.int a8), none]) rfl ?_
    refine ab_goto (tgt := 312) dX12_believed_382 (by decide) ?_
    refine ab_forget (i := 6) (L2 := [some (.ref 205), some (.int a1), some (.int a2), some (.int a3), some (.int a4), some (.int (a5 + 1)), none, none, some (.int a8), none]) rfl ?_
    refine ab_forget (i := 8) (L2 := [some (.ref 205), some (.int a1), some (.int a2), some (.int a3), some (.int a4), some (.int (a5 + 1)), none, none, none, none]) rfl ?_
    exact (h.1 c1)
  · refine ab_aloadn dX12_believed_355 rfl ?_
    refine ab_iloadn dX12_believed_356 rfl ?_
    refine ab_iload dX12_believed_357 rfl ?_
    refine ab_iloadn dX12_believed_359 rfl ?_
    refine ab_iload dX12_believed_360 rfl ?_
    obtain ⟨r2, P3, hs4, hk5⟩ := (h.2 c1)
    refine ab_callV (vs := [.int a1, .int a5, .int a2, .int a8]) (st := []) dX12_believed_362 okMX12_lostByWord wd_1766 kd_205 rfl rfl rfl (Nat.le_of_ble_eq_true rfl) ⟨Nat.le_of_ble_eq_true rfl, Nat.le_of_ble_eq_true rfl⟩ hs4 ?_
    rintro v9 ⟨i6, l7, dd8, x9⟩ E9 - ⟨rfl, rfl, hp10⟩
    show ab_Fr MX12_believed (d + 1) Q 365 [some (.ref 205), some (.int a1), some (.int a2), some (.int a3), some (.int a4), some (.int a5), some (.long a6), none, some (.int a8), none] [.long r2] (0, 0) (i6, l7, dd8, x9) (ab_E0 sc)
    refine ab_lload dX12_believed_365 rfl ?_
    refine ab_lcge (tgt := 373) dX12_believed_367 dX12_believed_368 (by decide) (fun c11 => ?_) (fun c11 => ?_)
    · refine ab_iinc (v := (a8 + 1)) dX12_believed_373 rfl (by rfl) (Nat.le_of_ble_eq_true rfl) (L2 := [some (.ref 205), some (.int a1), some (.int a2), some (.int a3), some (.int a4), some (.int a5), some (.long a6), none, some (.int (a8 + 1)), none]) rfl ?_
      refine ab_goto (tgt := 348) dX12_believed_376 (by decide) ?_
      exact ((hk5 i6 l7 dd8 x9 hp10).1 c11)
    · refine ab_iconst (v := 0) dX12_believed_371 (by decide) ?_
      exact ab_iret dX12_believed_372 rfl ⟨Nat.zero_le _, Nat.zero_le _⟩ ((hk5 i6 l7 dd8 x9 hp10).2 c11)
theorem tMX12_wordOf_0 {d : Nat} {Q : ab_Qt} {sc : Nat × (Nat → Int32)} {i : Nat → Nat → Int32} {l : Nat → Nat → Int64} {dd : Nat → Nat → Value} {x : Nat} {a0 : Int32} {a1 : Int32} {a2 : Int32} 
    (h : ((¬ a2 = 0 → ((a1 = 2 → Q (some (some (.int a0))) (i, l, dd, x) (ab_E0 sc)) ∧ (¬ a1 = 2 → ((¬ a2 = 4 → ((¬ a2 = 1 → ((¬ a2 = 2 → ((¬ a0 = 0 → Q (some (some (.int 1))) (i, l, dd, x) (ab_E0 sc)) ∧ (a0 = 0 → Q (some (some (.int 0))) (i, l, dd, x) (ab_E0 sc)))) ∧ (a2 = 2 → ((¬ a0 = 1 → Q (some (some (.int 0))) (i, l, dd, x) (ab_E0 sc)) ∧ (a0 = 1 → Q (some (some (.int 1))) (i, l, dd, x) (ab_E0 sc)))))) ∧ (a2 = 1 → ((¬ a0 = 2 → Q (some (some (.int 0))) (i, l, dd, x) (ab_E0 sc)) ∧ (a0 = 2 → Q (some (some (.int 1))) (i, l, dd, x) (ab_E0 sc)))))) ∧ (a2 = 4 → Q (some (some (.int a0))) (i, l, dd, x) (ab_E0 sc)))))) ∧ (a2 = 0 → Q (some (some (.int 0))) (i, l, dd, x) (ab_E0 sc)))) :
    ab_Fr MX12_wordOf (d + 1) Q 0 [some (.int a0), some (.int a1), some (.int a2)] [] (0, 0) (i, l, dd, x) (ab_E0 sc) := by
  refine ab_iloadn dX12_wordOf_0 rfl ?_
  refine ab_if_ne (tgt := 6) dX12_wordOf_1 (by decide) (fun c1 => ?_) (fun c1 => ?_)
  · refine ab_iloadn dX12_wordOf_6 rfl ?_
    refine ab_iconst (v := 2) dX12_wordOf_7 (by decide) ?_
    refine ab_icmp_eq (tgt := 16) dX12_wordOf_8 (by decide) (fun c2 => ?_) (fun c2 => ?_)
    · refine ab_iloadn dX12_wordOf_16 rfl ?_
      exact ab_iret dX12_wordOf_17 rfl ⟨Nat.zero_le _, Nat.zero_le _⟩ ((h.1 c1).1 c2)
    · refine ab_iloadn dX12_wordOf_11 rfl ?_
      refine ab_iconst (v := 4) dX12_wordOf_12 (by decide) ?_
      refine ab_icmp_ne (tgt := 18) dX12_wordOf_13 (by decide) (fun c3 => ?_) (fun c3 => ?_)
      · refine ab_iloadn dX12_wordOf_18 rfl ?_
        refine ab_iconst (v := 1) dX12_wordOf_19 (by decide) ?_
        refine ab_icmp_ne (tgt := 34) dX12_wordOf_20 (by decide) (fun c4 => ?_) (fun c4 => ?_)
        · refine ab_iloadn dX12_wordOf_34 rfl ?_
          refine ab_iconst (v := 2) dX12_wordOf_35 (by decide) ?_
          refine ab_icmp_ne (tgt := 50) dX12_wordOf_36 (by decide) (fun c5 => ?_) (fun c5 => ?_)
          · refine ab_iloadn dX12_wordOf_50 rfl ?_
            refine ab_if_ne (tgt := 58) dX12_wordOf_51 (by decide) (fun c6 => ?_) (fun c6 => ?_)
            · refine ab_iconst (v := 1) dX12_wordOf_58 (by decide) ?_
              exact ab_iret dX12_wordOf_59 rfl ⟨Nat.zero_le _, Nat.zero_le _⟩ ((((((h.1 c1).2 c2).1 c3).1 c4).1 c5).1 c6)
            · refine ab_iconst (v := 0) dX12_wordOf_54 (by decide) ?_
              refine ab_goto (tgt := 59) dX12_wordOf_55 (by decide) ?_
              exact ab_iret dX12_wordOf_59 rfl ⟨Nat.zero_le _, Nat.zero_le _⟩ ((((((h.1 c1).2 c2).1 c3).1 c4).1 c5).2 c6)
          · refine ab_iloadn dX12_wordOf_39 rfl ?_
            refine ab_iconst (v := 1) dX12_wordOf_40 (by decide) ?_
            refine ab_icmp_ne (tgt := 48) dX12_wordOf_41 (by decide) (fun c7 => ?_) (fun c7 => ?_)
            · refine ab_iconst (v := 0) dX12_wordOf_48 (by decide) ?_
              exact ab_iret dX12_wordOf_49 rfl ⟨Nat.zero_le _, Nat.zero_le _⟩ ((((((h.1 c1).2 c2).1 c3).1 c4).2 c5).1 c7)
            · refine ab_iconst (v := 1) dX12_wordOf_44 (by decide) ?_
              refine ab_goto (tgt := 49) dX12_wordOf_45 (by decide) ?_
              exact ab_iret dX12_wordOf_49 rfl ⟨Nat.zero_le _, Nat.zero_le _⟩ ((((((h.1 c1).2 c2).1 c3).1 c4).2 c5).2 c7)
        · refine ab_iloadn dX12_wordOf_23 rfl ?_
          refine ab_iconst (v := 2) dX12_wordOf_24 (by decide) ?_
          refine ab_icmp_ne (tgt := 32) dX12_wordOf_25 (by decide) (fun c8 => ?_) (fun c8 => ?_)
          · refine ab_iconst (v := 0) dX12_wordOf_32 (by decide) ?_
            exact ab_iret dX12_wordOf_33 rfl ⟨Nat.zero_le _, Nat.zero_le _⟩ (((((h.1 c1).2 c2).1 c3).2 c4).1 c8)
          · refine ab_iconst (v := 1) dX12_wordOf_28 (by decide) ?_
            refine ab_goto (tgt := 33) dX12_wordOf_29 (by decide) ?_
            exact ab_iret dX12_wordOf_33 rfl ⟨Nat.zero_le _, Nat.zero_le _⟩ (((((h.1 c1).2 c2).1 c3).2 c4).2 c8)
      · refine ab_iloadn dX12_wordOf_16 rfl ?_
        exact ab_iret dX12_wordOf_17 rfl ⟨Nat.zero_le _, Nat.zero_le _⟩ (((h.1 c1).2 c2).2 c3)
  · refine ab_iconst (v := 0) dX12_wordOf_4 (by decide) ?_
    exact ab_iret dX12_wordOf_5 rfl ⟨Nat.zero_le _, Nat.zero_le _⟩ (h.2 c1)
theorem tMX12_both_0 {d : Nat} {Q : ab_Qt} {sc : Nat × (Nat → Int32)} {i : Nat → Nat → Int32} {l : Nat → Nat → Int64} {dd : Nat → Nat → Value} {x : Nat} {a1 : Int32} {a2 : Int32} {a3 : Int32} {a4 : Int32} {a5 : Int32} 
    (h : (vp_in a5 6 ∧ vp_in (((9 * a1) + (3 * a2)) + a5) 126 ∧ vp_in (((9 * a3) + (3 * a4)) + a5) 126 ∧ Q (some (some (.long (((i 211 a5.toNatClampNeg).toInt64 * (i 213 (((9 * a1) + (3 * a2)) + a5).toNatClampNeg).toInt64) * (i 213 (((9 * a3) + (3 * a4)) + a5).toNatClampNeg).toInt64)))) (i, l, dd, x) (ab_E0 sc))) :
    ab_Fr MX12_both (d + 1) Q 0 [some (.ref 205), some (.int a1), some (.int a2), some (.int a3), some (.int a4), some (.int a5)] [] (0, 0) (i, l, dd, x) (ab_E0 sc) := by
  refine ab_aloadn dX12_both_0 rfl ?_
  refine ab_getf (v := .ref 211) dX12_both_1 fl_X12_26 kd_205 ff_205_15 ?_
  refine ab_iload dX12_both_4 rfl ?_
  refine ab_iaload (v := (i 211 a5.toNatClampNeg)) dX12_both_6 kd_211 h.1 rfl ?_
  refine ab_i2l dX12_both_7 rfl ?_
  refine ab_aloadn dX12_both_8 rfl ?_
  refine ab_getf (v := .ref 213) dX12_both_9 fl_X12_32 kd_205 ff_205_17 ?_
  refine ab_bipush (v := 9) dX12_both_12 (by decide) ?_
  refine ab_iloadn dX12_both_14 rfl ?_
  refine ab_imul dX12_both_15 ?_
  refine ab_iconst (v := 3) dX12_both_16 (by decide) ?_
  refine ab_iloadn dX12_both_17 rfl ?_
  refine ab_imul dX12_both_18 ?_
  refine ab_iadd dX12_both_19 ?_
  refine ab_iload dX12_both_20 rfl ?_
  refine ab_iadd dX12_both_22 ?_
  refine ab_iaload (v := (i 213 (((9 * a1) + (3 * a2)) + a5).toNatClampNeg)) dX12_both_23 kd_213 h.2.1 rfl ?_
  refine ab_i2l dX12_both_24 rfl ?_
  refine ab_lmul dX12_both_25 ?_
  refine ab_aloadn dX12_both_26 rfl ?_
  refine ab_getf (v := .ref 213) dX12_both_27 fl_X12_32 kd_205 ff_205_17 ?_
  refine ab_bipush (v := 9) dX12_both_30 (by decide) ?_
  refine ab_iloadn dX12_both_32 rfl ?_
  refine ab_imul dX12_both_33 ?_
  refine ab_iconst (v := 3) dX12_both_34 (by decide) ?_
  refine ab_iload dX12_both_35 rfl ?_
  refine ab_imul dX12_both_37 ?_
  refine ab_iadd dX12_both_38 ?_
  refine ab_iload dX12_both_39 rfl ?_
  refine ab_iadd dX12_both_41 ?_
  refine ab_iaload (v := (i 213 (((9 * a3) + (3 * a4)) + a5).toNatClampNeg)) dX12_both_42 kd_213 h.2.2.1 rfl ?_
  refine ab_i2l dX12_both_43 rfl ?_
  refine ab_lmul dX12_both_44 ?_
  exact ab_lret dX12_both_45 rfl ⟨Nat.zero_le _, Nat.zero_le _⟩ h.2.2.2
theorem tMX12_lostByWord_0 {d : Nat} {Q : ab_Qt} {sc : Nat × (Nat → Int32)} {i : Nat → Nat → Int32} {l : Nat → Nat → Int64} {dd : Nat → Nat → Value} {x : Nat} {a1 : Int32} {a2 : Int32} {a3 : Int32} {a4 : Int32} 
    (h : ab_Fr MX12_lostByWord (d + 1) Q 6 [some (.ref 205), some (.int a1), some (.int a2), some (.int a3), some (.int a4), some (.long 0), none, some (.int 0), none] [] (0, 0) (i, l, dd, x) (ab_E0 sc)) :
    ab_Fr MX12_lostByWord (d + 1) Q 0 [some (.ref 205), some (.int a1), some (.int a2), some (.int a3), some (.int a4), none, none, none, none] [] (0, 0) (i, l, dd, x) (ab_E0 sc) := by
  refine ab_lconst (v := 0) dX12_lostByWord_0 (by decide) ?_
  refine ab_lstore dX12_lostByWord_1 (Nat.le_of_ble_eq_true rfl) (L2 := [some (.ref 205), some (.int a1), some (.int a2), some (.int a3), some (.int a4), some (.long 0), none, none, none]) rfl ?_
  refine ab_iconst (v := 0) dX12_lostByWord_3 (by decide) ?_
  refine ab_istore dX12_lostByWord_4 (Nat.le_of_ble_eq_true rfl) (L2 := [some (.ref 205), some (.int a1), some (.int a2), some (.int a3), some (.int a4), some (.long 0), none, some (.int 0), none]) rfl ?_
  exact h
theorem tMX12_lostByWord_6 {d : Nat} {Q : ab_Qt} {sc : Nat × (Nat → Int32)} {i : Nat → Nat → Int32} {l : Nat → Nat → Int64} {dd : Nat → Nat → Value} {x : Nat} {a1 : Int32} {a2 : Int32} {a3 : Int32} {a4 : Int32} {a5 : Int64} {a7 : Int32} 
    (h : (vp_in a3 14 ∧ (((i 212 a3.toNatClampNeg) ≤ a7 → Q (some (some (.long a5))) (i, l, dd, x) (ab_E0 sc)) ∧ (¬ (i 212 a3.toNatClampNeg) ≤ a7 → ab_Fr MX12_lostByWord (d + 1) Q 20 [some (.ref 205), some (.int a1), some (.int a2), some (.int a3), some (.int a4), some (.long a5), none, some (.int a7), some (.int 0)] [] (0, 0) (i, l, dd, x) (ab_E0 sc))))) :
    ab_Fr MX12_lostByWord (d + 1) Q 6 [some (.ref 205), some (.int a1), some (.int a2), some (.int a3), some (.int a4), some (.long a5), none, some (.int a7), none] [] (0, 0) (i, l, dd, x) (ab_E0 sc) := by
  refine ab_iload dX12_lostByWord_6 rfl ?_
  refine ab_aloadn dX12_lostByWord_8 rfl ?_
  refine ab_getf (v := .ref 212) dX12_lostByWord_9 fl_X12_29 kd_205 ff_205_16 ?_
  refine ab_iloadn dX12_lostByWord_12 rfl ?_
  refine ab_iaload (v := (i 212 a3.toNatClampNeg)) dX12_lostByWord_13 kd_212 h.1 rfl ?_
  refine ab_icmp_ge (tgt := 78) dX12_lostByWord_14 (by decide) (fun c1 => ?_) (fun c1 => ?_)
  · refine ab_lload dX12_lostByWord_78 rfl ?_
    exact ab_lret dX12_lostByWord_80 rfl ⟨Nat.zero_le _, Nat.zero_le _⟩ (h.2.1 c1)
  · refine ab_iconst (v := 0) dX12_lostByWord_17 (by decide) ?_
    refine ab_istore dX12_lostByWord_18 (Nat.le_of_ble_eq_true rfl) (L2 := [some (.ref 205), some (.int a1), some (.int a2), some (.int a3), some (.int a4), some (.long a5), none, some (.int a7), some (.int 0)]) rfl ?_
    exact (h.2.2 c1)
theorem tMX12_lostByWord_20 {d : Nat} {Q : ab_Qt} {sc : Nat × (Nat → Int32)} {i : Nat → Nat → Int32} {l : Nat → Nat → Int64} {dd : Nat → Nat → Value} {x : Nat} {a1 : Int32} {a2 : Int32} {a3 : Int32} {a4 : Int32} {a5 : Int64} {a7 : Int32} {a8 : Int32} 
    (h : (((i 205 29) ≤ a8 → ab_Fr MX12_lostByWord (d + 1) Q 6 [some (.ref 205), some (.int a1), some (.int a2), some (.int a3), some (.int a4), some (.long a5), none, some (.int (a7 + 1)), none] [] (0, 0) (i, l, dd, x) (ab_E0 sc)) ∧ (¬ (i 205 29) ≤ a8 → (∃ (r2 : Int64) (P3 : ab_S → Prop), ab_Sp MX12_both d [.ref 205, .int a1, .int a2, .int a3, .int a7, .int a8] (i, l, dd, x) (ab_E0 sc) (some (.long r2)) P3 ∧ ∀ i6 l7 dd8 x9, P3 (i6, l7, dd8, x9) → vp_in ((3 * a7) + a4) 9 ∧ ∃ (r11 : Int32) (P12 : ab_S → Prop), ab_Sp MX12_loss d [.ref 205, .int a1, .int a8, .int (i6 246 ((3 * a7) + a4).toNatClampNeg)] (i6, l7, dd8, x9) (ab_E0 sc) (some (.int r11)) P12 ∧ ∀ i15 l16 dd17 x18, P12 (i15, l16, dd17, x18) → ab_Fr MX12_lostByWord (d + 1) Q 20 [some (.ref 205), some (.int a1), some (.int a2), some (.int a3), some (.int a4), some (.long (a5 + (r2 * r11.toInt64))), none, some (.int a7), some (.int (a8 + 1))] [] (0, 0) (i15, l16, dd17, x18) (ab_E0 sc))))) :
    ab_Fr MX12_lostByWord (d + 1) Q 20 [some (.ref 205), some (.int a1), some (.int a2), some (.int a3), some (.int a4), some (.long a5), none, some (.int a7), some (.int a8)] [] (0, 0) (i, l, dd, x) (ab_E0 sc) := by
  refine ab_iload dX12_lostByWord_20 rfl ?_
  refine ab_aloadn dX12_lostByWord_22 rfl ?_
  refine ab_getf (v := .int (i 205 29)) dX12_lostByWord_23 fl_X12_303 kd_205 rfl ?_
  refine ab_icmp_ge (tgt := 72) dX12_lostByWord_26 (by decide) (fun c1 => ?_) (fun c1 => ?_)
  · refine ab_iinc (v := (a7 + 1)) dX12_lostByWord_72 rfl (by rfl) (Nat.le_of_ble_eq_true rfl) (L2 := [some (.ref 205), some (.int a1), some (.int a2), some (.int a3), some (.int a4), some (.long a5), none, some (.int (a7 + 1)), some (.int a8)]) rfl ?_
    refine ab_goto (tgt := 6) dX12_lostByWord_75 (by decide) ?_
    refine ab_forget (i := 8) (L2 := [some (.ref 205), some (.int a1), some (.int a2), some (.int a3), some (.int a4), some (.long a5), none, some (.int (a7 + 1)), none]) rfl ?_
    exact (h.1 c1)
  · refine ab_lload dX12_lostByWord_29 rfl ?_
    refine ab_aloadn dX12_lostByWord_31 rfl ?_
    refine ab_iloadn dX12_lostByWord_32 rfl ?_
    refine ab_iloadn dX12_lostByWord_33 rfl ?_
    refine ab_iloadn dX12_lostByWord_34 rfl ?_
    refine ab_iload dX12_lostByWord_35 rfl ?_
    refine ab_iload dX12_lostByWord_37 rfl ?_
    obtain ⟨r2, P3, hs4, hk5⟩ := (h.2 c1)
    refine ab_callV (vs := [.int a1, .int a2, .int a3, .int a7, .int a8]) (st := [.long a5]) dX12_lostByWord_39 okMX12_both wd_1763 kd_205 rfl rfl rfl (Nat.le_of_ble_eq_true rfl) ⟨Nat.le_of_ble_eq_true rfl, Nat.le_of_ble_eq_true rfl⟩ hs4 ?_
    rintro v9 ⟨i6, l7, dd8, x9⟩ E9 - ⟨rfl, rfl, hp10⟩
    show ab_Fr MX12_lostByWord (d + 1) Q 42 [some (.ref 205), some (.int a1), some (.int a2), some (.int a3), some (.int a4), some (.long a5), none, some (.int a7), some (.int a8)] [.long r2, .long a5] (0, 0) (i6, l7, dd8, x9) (ab_E0 sc)
    refine ab_aloadn dX12_lostByWord_42 rfl ?_
    refine ab_iloadn dX12_lostByWord_43 rfl ?_
    refine ab_iload dX12_lostByWord_44 rfl ?_
    refine ab_aloadn dX12_lostByWord_46 rfl ?_
    refine ab_getf (v := .ref 246) dX12_lostByWord_47 fl_X12_140 kd_205 ff_205_65 ?_
    refine ab_iconst (v := 3) dX12_lostByWord_50 (by decide) ?_
    refine ab_iload dX12_lostByWord_51 rfl ?_
    refine ab_imul dX12_lostByWord_53 ?_
    refine ab_iload dX12_lostByWord_54 rfl ?_
    refine ab_iadd dX12_lostByWord_56 ?_
    refine ab_iaload (v := (i6 246 ((3 * a7) + a4).toNatClampNeg)) dX12_lostByWord_57 kd_246 (hk5 i6 l7 dd8 x9 hp10).1 rfl ?_
    obtain ⟨r11, P12, hs13, hk14⟩ := (hk5 i6 l7 dd8 x9 hp10).2
    refine ab_callV (vs := [.int a1, .int a8, .int (i6 246 ((3 * a7) + a4).toNatClampNeg)]) (st := [.long r2, .long a5]) dX12_lostByWord_58 okMX12_loss wd_1534 kd_205 rfl rfl rfl (Nat.le_of_ble_eq_true rfl) ⟨Nat.le_of_ble_eq_true rfl, Nat.le_of_ble_eq_true rfl⟩ hs13 ?_
    rintro v9 ⟨i15, l16, dd17, x18⟩ E9 - ⟨rfl, rfl, hp19⟩
    show ab_Fr MX12_lostByWord (d + 1) Q 61 [some (.ref 205), some (.int a1), some (.int a2), some (.int a3), some (.int a4), some (.long a5), none, some (.int a7), some (.int a8)] [.int r11, .long r2, .long a5] (0, 0) (i15, l16, dd17, x18) (ab_E0 sc)
    refine ab_i2l dX12_lostByWord_61 rfl ?_
    refine ab_lmul dX12_lostByWord_62 ?_
    refine ab_ladd dX12_lostByWord_63 ?_
    refine ab_lstore dX12_lostByWord_64 (Nat.le_of_ble_eq_true rfl) (L2 := [some (.ref 205), some (.int a1), some (.int a2), some (.int a3), some (.int a4), some (.long (a5 + (r2 * r11.toInt64))), none, some (.int a7), some (.int a8)]) rfl ?_
    refine ab_iinc (v := (a8 + 1)) dX12_lostByWord_66 rfl (by rfl) (Nat.le_of_ble_eq_true rfl) (L2 := [some (.ref 205), some (.int a1), some (.int a2), some (.int a3), some (.int a4), some (.long (a5 + (r2 * r11.toInt64))), none, some (.int a7), some (.int (a8 + 1))]) rfl ?_
    refine ab_goto (tgt := 20) dX12_lostByWord_69 (by decide) ?_
    exact (hk14 i15 l16 dd17 x18 hp19)
theorem tMX12_minutes_0 {d : Nat} {Q : ab_Qt} {sc : Nat × (Nat → Int32)} {i : Nat → Nat → Int32} {l : Nat → Nat → Int64} {dd : Nat → Nat → Value} {x : Nat} {a1 : Int32} {a2 : Int32} 
    (h : (∃ (r1 : Int32) (P2 : ab_S → Prop), ab_Sp MX12_isSign d [.ref 205, .int a1, .int a2] (i, l, dd, x) (ab_E0 sc) (some (.int r1)) P2 ∧ ∀ i5 l6 dd7 x8, P2 (i5, l6, dd7, x8) → ((r1 = 0 → ab_Fr MX12_minutes (d + 1) Q 16 [some (.ref 205), none, none, none, none, none] [] (0, 0) (i5, l6, dd7, x8) (ab_E0 sc)) ∧ (¬ r1 = 0 → (∃ (r11 : Int32) (P12 : ab_S → Prop), ab_Sp MX12_areVotesTold d [.ref 205] (i5, l6, dd7, x8) (ab_E0 sc) (some (.int r11)) P12 ∧ ∀ i15 l16 dd17 x18, P12 (i15, l16, dd17, x18) → ((¬ r11 = 0 → (∀ i21, i21 = ab_u i15 205 0 0 → ∀ i23, i23 = ab_u i21 205 2 0 → ab_Fr MX12_minutes (d + 1) Q 36 [some (.ref 205), some (.int a1), some (.int a2), some (.long 0), none, some (.int 0)] [] (0, 0) (i23, l16, dd17, x18) (ab_E0 sc))) ∧ (r11 = 0 → ab_Fr MX12_minutes (d + 1) Q 16 [some (.ref 205), none, none, none, none, none] [] (0, 0) (i15, l16, dd17, x18) (ab_E0 sc)))))))) :
    ab_Fr MX12_minutes (d + 1) Q 0 [some (.ref 205), some (.int a1), some (.int a2), none, none, none] [] (0, 0) (i, l, dd, x) (ab_E0 sc) := by
  refine ab_aloadn dX12_minutes_0 rfl ?_
  refine ab_iloadn dX12_minutes_1 rfl ?_
  refine ab_iloadn dX12_minutes_2 rfl ?_
  obtain ⟨r1, P2, hs3, hk4⟩ := h
  refine ab_callV (vs := [.int a1, .int a2]) (st := []) dX12_minutes_3 okMX12_isSign wd_1577 kd_205 rfl rfl rfl (Nat.le_of_ble_eq_true rfl) ⟨Nat.le_of_ble_eq_true rfl, Nat.le_of_ble_eq_true rfl⟩ hs3 ?_
  rintro v9 ⟨i5, l6, dd7, x8⟩ E9 - ⟨rfl, rfl, hp9⟩
  show ab_Fr MX12_minutes (d + 1) Q 6 [some (.ref 205), some (.int a1), some (.int a2), none, none, none] [.int r1] (0, 0) (i5, l6, dd7, x8) (ab_E0 sc)
  refine ab_if_eq (tgt := 16) dX12_minutes_6 (by decide) (fun c10 => ?_) (fun c10 => ?_)
  · refine ab_forget (i := 1) (L2 := [some (.ref 205), none, some (.int a2), none, none, none]) rfl ?_
    refine ab_forget (i := 2) (L2 := [some (.ref 205), none, none, none, none, none]) rfl ?_
    exact ((hk4 i5 l6 dd7 x8 hp9).1 c10)
  · refine ab_aloadn dX12_minutes_9 rfl ?_
    obtain ⟨r11, P12, hs13, hk14⟩ := ((hk4 i5 l6 dd7 x8 hp9).2 c10)
    refine ab_callV (vs := []) (st := []) dX12_minutes_10 okMX12_areVotesTold wd_1773 kd_205 rfl rfl rfl (Nat.le_of_ble_eq_true rfl) ⟨Nat.le_of_ble_eq_true rfl, Nat.le_of_ble_eq_true rfl⟩ hs13 ?_
    rintro v9 ⟨i15, l16, dd17, x18⟩ E9 - ⟨rfl, rfl, hp19⟩
    show ab_Fr MX12_minutes (d + 1) Q 13 [some (.ref 205), some (.int a1), some (.int a2), none, none, none] [.int r11] (0, 0) (i15, l16, dd17, x18) (ab_E0 sc)
    refine ab_if_ne (tgt := 21) dX12_minutes_13 (by decide) (fun c20 => ?_) (fun c20 => ?_)
    · refine ab_aloadn dX12_minutes_21 rfl ?_
      refine ab_iconst (v := 0) dX12_minutes_22 (by decide) ?_
      refine ab_putI dX12_minutes_23 fl_X12_149 kd_205 rfl ?_
      obtain ⟨i21, e22⟩ : ∃ z, z = ab_u i15 205 0 0 := ⟨_, rfl⟩
      show ab_Fr MX12_minutes (d + 1) Q 26 [some (.ref 205), some (.int a1), some (.int a2), none, none, none] [] (0, 0) (ab_u i15 205 0 0, l16, dd17, x18) (ab_E0 sc)
      rw [show ab_u i15 205 0 0 = i21 from e22.symm]
      refine ab_aloadn dX12_minutes_26 rfl ?_
      refine ab_iconst (v := 0) dX12_minutes_27 (by decide) ?_
      refine ab_putI dX12_minutes_28 fl_X12_153 kd_205 rfl ?_
      obtain ⟨i23, e24⟩ : ∃ z, z = ab_u i21 205 2 0 := ⟨_, rfl⟩
      show ab_Fr MX12_minutes (d + 1) Q 31 [some (.ref 205), some (.int a1), some (.int a2), none, none, none] [] (0, 0) (ab_u i21 205 2 0, l16, dd17, x18) (ab_E0 sc)
      rw [show ab_u i21 205 2 0 = i23 from e24.symm]
      refine ab_lconst (v := 0) dX12_minutes_31 (by decide) ?_
      refine ab_lstoren dX12_minutes_32 (Nat.le_of_ble_eq_true rfl) (L2 := [some (.ref 205), some (.int a1), some (.int a2), some (.long 0), none, none]) rfl ?_
      refine ab_iconst (v := 0) dX12_minutes_33 (by decide) ?_
      refine ab_istore dX12_minutes_34 (Nat.le_of_ble_eq_true rfl) (L2 := [some (.ref 205), some (.int a1), some (.int a2), some (.long 0), none, some (.int 0)]) rfl ?_
      exact ((((hk14 i15 l16 dd17 x18 hp19).1 c20) i21 e22) i23 e24)
    · refine ab_forget (i := 1) (L2 := [some (.ref 205), none, some (.int a2), none, none, none]) rfl ?_
      refine ab_forget (i := 2) (L2 := [some (.ref 205), none, none, none, none, none]) rfl ?_
      exact ((hk14 i15 l16 dd17 x18 hp19).2 c20)
theorem tMX12_minutes_16 {d : Nat} {Q : ab_Qt} {sc : Nat × (Nat → Int32)} {i : Nat → Nat → Int32} {l : Nat → Nat → Int64} {dd : Nat → Nat → Value} {x : Nat}  
    (h : (∃ (r1 : Int64) (P2 : ab_S → Prop), ab_Sp MX12_refuse d [.ref 205] (i, l, dd, x) (ab_E0 sc) (some (.long r1)) P2 ∧ ∀ i5 l6 dd7 x8, P2 (i5, l6, dd7, x8) → Q (some (some (.long r1))) (i5, l6, dd7, x8) (ab_E0 sc))) :
    ab_Fr MX12_minutes (d + 1) Q 16 [some (.ref 205), none, none, none, none, none] [] (0, 0) (i, l, dd, x) (ab_E0 sc) := by
  refine ab_aloadn dX12_minutes_16 rfl ?_
  obtain ⟨r1, P2, hs3, hk4⟩ := h
  refine ab_callV (vs := []) (st := []) dX12_minutes_17 okMX12_refuse wd_1566 kd_205 rfl rfl rfl (Nat.le_of_ble_eq_true rfl) ⟨Nat.le_of_ble_eq_true rfl, Nat.le_of_ble_eq_true rfl⟩ hs3 ?_
  rintro v9 ⟨i5, l6, dd7, x8⟩ E9 - ⟨rfl, rfl, hp9⟩
  show ab_Fr MX12_minutes (d + 1) Q 20 [some (.ref 205), none, none, none, none, none] [.long r1] (0, 0) (i5, l6, dd7, x8) (ab_E0 sc)
  exact ab_lret dX12_minutes_20 rfl ⟨Nat.zero_le _, Nat.zero_le _⟩ (hk4 i5 l6 dd7 x8 hp9)
theorem tMX12_minutes_36 {d : Nat} {Q : ab_Qt} {sc : Nat × (Nat → Int32)} {i : Nat → Nat → Int32} {l : Nat → Nat → Int64} {dd : Nat → Nat → Value} {x : Nat} {a1 : Int32} {a2 : Int32} {a3 : Int64} {a5 : Int32} 
    (h : (((i 205 31) ≤ a5 → Q (some (some (.long a3))) (i, l, dd, x) (ab_E0 sc)) ∧ (¬ (i 205 31) ≤ a5 → (∃ (r2 : Int32) (P3 : ab_S → Prop), ab_Sp MX12_sign d [.ref 205, .int a5, .int a1] (i, l, dd, x) (ab_E0 sc) (some (.int r2)) P3 ∧ ∀ i6 l7 dd8 x9, P3 (i6, l7, dd8, x9) → ((¬ r2 = a2 → ab_Fr MX12_minutes (d + 1) Q 36 [some (.ref 205), some (.int a1), some (.int a2), some (.long a3), none, some (.int (a5 + 1))] [] (0, 0) (i6, l7, dd8, x9) (ab_E0 sc)) ∧ (r2 = a2 → (∃ (r12 : Int32) (P13 : ab_S → Prop), ab_Sp MX12_votesAsTold d [.ref 205, .int a5] (i6, l7, dd8, x9) (ab_E0 sc) (some (.int r12)) P13 ∧ ∀ i16 l17 dd18 x19, P13 (i16, l17, dd18, x19) → ((r12 = 0 → ab_Fr MX12_minutes (d + 1) Q 36 [some (.ref 205), some (.int a1), some (.int a2), some (.long a3), none, some (.int (a5 + 1))] [] (0, 0) (i16, l17, dd18, x19) (ab_E0 sc)) ∧ (¬ r12 = 0 → (∃ (r22 : Int64) (P23 : ab_S → Prop), ab_Sp MX12_allOf d [.ref 205, .int a5] (i16, l17, dd18, x19) (ab_E0 sc) (some (.long r22)) P23 ∧ ∀ i26 l27 dd28 x29, P23 (i26, l27, dd28, x29) → ab_Fr MX12_minutes (d + 1) Q 36 [some (.ref 205), some (.int a1), some (.int a2), some (.long (a3 + r22)), none, some (.int (a5 + 1))] [] (0, 0) (i26, l27, dd28, x29) (ab_E0 sc))))))))))) :
    ab_Fr MX12_minutes (d + 1) Q 36 [some (.ref 205), some (.int a1), some (.int a2), some (.long a3), none, some (.int a5)] [] (0, 0) (i, l, dd, x) (ab_E0 sc) := by
  refine ab_iload dX12_minutes_36 rfl ?_
  refine ab_aloadn dX12_minutes_38 rfl ?_
  refine ab_getf (v := .int (i 205 31)) dX12_minutes_39 fl_X12_309 kd_205 rfl ?_
  refine ab_icmp_ge (tgt := 80) dX12_minutes_42 (by decide) (fun c1 => ?_) (fun c1 => ?_)
  · refine ab_lloadn dX12_minutes_80 rfl ?_
    exact ab_lret dX12_minutes_81 rfl ⟨Nat.zero_le _, Nat.zero_le _⟩ (h.1 c1)
  · refine ab_aloadn dX12_minutes_45 rfl ?_
    refine ab_iload dX12_minutes_46 rfl ?_
    refine ab_iloadn dX12_minutes_48 rfl ?_
    obtain ⟨r2, P3, hs4, hk5⟩ := (h.2 c1)
    refine ab_callV (vs := [.int a5, .int a1]) (st := []) dX12_minutes_49 okMX12_sign wd_1516 kd_205 rfl rfl rfl (Nat.le_of_ble_eq_true rfl) ⟨Nat.le_of_ble_eq_true rfl, Nat.le_of_ble_eq_true rfl⟩ hs4 ?_
    rintro v9 ⟨i6, l7, dd8, x9⟩ E9 - ⟨rfl, rfl, hp10⟩
    show ab_Fr MX12_minutes (d + 1) Q 52 [some (.ref 205), some (.int a1), some (.int a2), some (.long a3), none, some (.int a5)] [.int r2] (0, 0) (i6, l7, dd8, x9) (ab_E0 sc)
    refine ab_iloadn dX12_minutes_52 rfl ?_
    refine ab_icmp_ne (tgt := 74) dX12_minutes_53 (by decide) (fun c11 => ?_) (fun c11 => ?_)
    · refine ab_iinc (v := (a5 + 1)) dX12_minutes_74 rfl (by rfl) (Nat.le_of_ble_eq_true rfl) (L2 := [some (.ref 205), some (.int a1), some (.int a2), some (.long a3), none, some (.int (a5 + 1))]) rfl ?_
      refine ab_goto (tgt := 36) dX12_minutes_77 (by decide) ?_
      exact ((hk5 i6 l7 dd8 x9 hp10).1 c11)
    · refine ab_aloadn dX12_minutes_56 rfl ?_
      refine ab_iload dX12_minutes_57 rfl ?_
      obtain ⟨r12, P13, hs14, hk15⟩ := ((hk5 i6 l7 dd8 x9 hp10).2 c11)
      refine ab_callV (vs := [.int a5]) (st := []) dX12_minutes_59 okMX12_votesAsTold wd_1776 kd_205 rfl rfl rfl (Nat.le_of_ble_eq_true rfl) ⟨Nat.le_of_ble_eq_true rfl, Nat.le_of_ble_eq_true rfl⟩ hs14 ?_
      rintro v9 ⟨i16, l17, dd18, x19⟩ E9 - ⟨rfl, rfl, hp20⟩
      show ab_Fr MX12_minutes (d + 1) Q 62 [some (.ref 205), some (.int a1), some (.int a2), some (.long a3), none, some (.int a5)] [.int r12] (0, 0) (i16, l17, dd18, x19) (ab_E0 sc)
      refine ab_if_eq (tgt := 74) dX12_minutes_62 (by decide) (fun c21 => ?_) (fun c21 => ?_)
      · refine ab_iinc (v := (a5 + 1)) dX12_minutes_74 rfl (by rfl) (Nat.le_of_ble_eq_true rfl) (L2 := [some (.ref 205), some (.int a1), some (.int a2), some (.long a3), none, some (.int (a5 + 1))]) rfl ?_
        refine ab_goto (tgt := 36) dX12_minutes_77 (by decide) ?_
        exact ((hk15 i16 l17 dd18 x19 hp20).1 c21)
      · refine ab_lloadn dX12_minutes_65 rfl ?_
        refine ab_aloadn dX12_minutes_66 rfl ?_
        refine ab_iload dX12_minutes_67 rfl ?_
        obtain ⟨r22, P23, hs24, hk25⟩ := ((hk15 i16 l17 dd18 x19 hp20).2 c21)
        refine ab_callV (vs := [.int a5]) (st := [.long a3]) dX12_minutes_69 okMX12_allOf wd_1779 kd_205 rfl rfl rfl (Nat.le_of_ble_eq_true rfl) ⟨Nat.le_of_ble_eq_true rfl, Nat.le_of_ble_eq_true rfl⟩ hs24 ?_
        rintro v9 ⟨i26, l27, dd28, x29⟩ E9 - ⟨rfl, rfl, hp30⟩
        show ab_Fr MX12_minutes (d + 1) Q 72 [some (.ref 205), some (.int a1), some (.int a2), some (.long a3), none, some (.int a5)] [.long r22, .long a3] (0, 0) (i26, l27, dd28, x29) (ab_E0 sc)
        refine ab_ladd dX12_minutes_72 ?_
        refine ab_lstoren dX12_minutes_73 (Nat.le_of_ble_eq_true rfl) (L2 := [some (.ref 205), some (.int a1), some (.int a2), some (.long (a3 + r22)), none, some (.int a5)]) rfl ?_
        refine ab_iinc (v := (a5 + 1)) dX12_minutes_74 rfl (by rfl) (Nat.le_of_ble_eq_true rfl) (L2 := [some (.ref 205), some (.int a1), some (.int a2), some (.long (a3 + r22)), none, some (.int (a5 + 1))]) rfl ?_
        refine ab_goto (tgt := 36) dX12_minutes_77 (by decide) ?_
        exact (hk25 i26 l27 dd28 x29 hp30)
theorem tMX12_areVotesTold_0 {d : Nat} {Q : ab_Qt} {sc : Nat × (Nat → Int32)} {i : Nat → Nat → Int32} {l : Nat → Nat → Int64} {dd : Nat → Nat → Value} {x : Nat}  
    (h : (((i 205 30) = 0 → Q (some (some (.int 0))) (i, l, dd, x) (ab_E0 sc)) ∧ (¬ (i 205 30) = 0 → (((i 205 2) = (i 205 30) → ab_Fr MX12_areVotesTold (d + 1) Q 22 [some (.ref 205), some (.int 0)] [] (0, 0) (i, l, dd, x) (ab_E0 sc)) ∧ (¬ (i 205 2) = (i 205 30) → Q (some (some (.int 0))) (i, l, dd, x) (ab_E0 sc)))))) :
    ab_Fr MX12_areVotesTold (d + 1) Q 0 [some (.ref 205), none] [] (0, 0) (i, l, dd, x) (ab_E0 sc) := by
  refine ab_aloadn dX12_areVotesTold_0 rfl ?_
  refine ab_getf (v := .int (i 205 30)) dX12_areVotesTold_1 fl_X12_306 kd_205 rfl ?_
  refine ab_if_eq (tgt := 18) dX12_areVotesTold_4 (by decide) (fun c1 => ?_) (fun c1 => ?_)
  · refine ab_iconst (v := 0) dX12_areVotesTold_18 (by decide) ?_
    exact ab_zret dX12_areVotesTold_19 rfl (by decide) ⟨Nat.zero_le _, Nat.zero_le _⟩ (h.1 c1)
  · refine ab_aloadn dX12_areVotesTold_7 rfl ?_
    refine ab_getf (v := .int (i 205 2)) dX12_areVotesTold_8 fl_X12_153 kd_205 rfl ?_
    refine ab_aloadn dX12_areVotesTold_11 rfl ?_
    refine ab_getf (v := .int (i 205 30)) dX12_areVotesTold_12 fl_X12_306 kd_205 rfl ?_
    refine ab_icmp_eq (tgt := 20) dX12_areVotesTold_15 (by decide) (fun c2 => ?_) (fun c2 => ?_)
    · refine ab_iconst (v := 0) dX12_areVotesTold_20 (by decide) ?_
      refine ab_istoren dX12_areVotesTold_21 (Nat.le_of_ble_eq_true rfl) (L2 := [some (.ref 205), some (.int 0)]) rfl ?_
      exact ((h.2 c1).1 c2)
    · refine ab_iconst (v := 0) dX12_areVotesTold_18 (by decide) ?_
      exact ab_zret dX12_areVotesTold_19 rfl (by decide) ⟨Nat.zero_le _, Nat.zero_le _⟩ ((h.2 c1).2 c2)
theorem tMX12_areVotesTold_22 {d : Nat} {Q : ab_Qt} {sc : Nat × (Nat → Int32)} {i : Nat → Nat → Int32} {l : Nat → Nat → Int64} {dd : Nat → Nat → Value} {x : Nat} {a1 : Int32} 
    (h : (((i 205 30) ≤ a1 → Q (some (some (.int 1))) (i, l, dd, x) (ab_E0 sc)) ∧ (¬ (i 205 30) ≤ a1 → (vp_in a1 740 ∧ (((i 206 a1.toNatClampNeg) < (i 205 29) → ab_Fr MX12_areVotesTold (d + 1) Q 22 [some (.ref 205), some (.int (a1 + 1))] [] (0, 0) (i, l, dd, x) (ab_E0 sc)) ∧ (¬ (i 206 a1.toNatClampNeg) < (i 205 29) → (vp_in a1 740 ∧ (((i 206 a1.toNatClampNeg) = 9 → ab_Fr MX12_areVotesTold (d + 1) Q 22 [some (.ref 205), some (.int (a1 + 1))] [] (0, 0) (i, l, dd, x) (ab_E0 sc)) ∧ (¬ (i 206 a1.toNatClampNeg) = 9 → Q (some (some (.int 0))) (i, l, dd, x) (ab_E0 sc)))))))))) :
    ab_Fr MX12_areVotesTold (d + 1) Q 22 [some (.ref 205), some (.int a1)] [] (0, 0) (i, l, dd, x) (ab_E0 sc) := by
  refine ab_iloadn dX12_areVotesTold_22 rfl ?_
  refine ab_aloadn dX12_areVotesTold_23 rfl ?_
  refine ab_getf (v := .int (i 205 30)) dX12_areVotesTold_24 fl_X12_306 kd_205 rfl ?_
  refine ab_icmp_ge (tgt := 62) dX12_areVotesTold_27 (by decide) (fun c1 => ?_) (fun c1 => ?_)
  · refine ab_iconst (v := 1) dX12_areVotesTold_62 (by decide) ?_
    exact ab_zret dX12_areVotesTold_63 rfl (by decide) ⟨Nat.zero_le _, Nat.zero_le _⟩ (h.1 c1)
  · refine ab_aloadn dX12_areVotesTold_30 rfl ?_
    refine ab_getf (v := .ref 206) dX12_areVotesTold_31 fl_X12_7 kd_205 ff_205_1 ?_
    refine ab_iloadn dX12_areVotesTold_34 rfl ?_
    refine ab_iaload (v := (i 206 a1.toNatClampNeg)) dX12_areVotesTold_35 kd_206 (h.2 c1).1 rfl ?_
    refine ab_aloadn dX12_areVotesTold_36 rfl ?_
    refine ab_getf (v := .int (i 205 29)) dX12_areVotesTold_37 fl_X12_303 kd_205 rfl ?_
    refine ab_icmp_lt (tgt := 56) dX12_areVotesTold_40 (by decide) (fun c2 => ?_) (fun c2 => ?_)
    · refine ab_iinc (v := (a1 + 1)) dX12_areVotesTold_56 rfl (by rfl) (Nat.le_of_ble_eq_true rfl) (L2 := [some (.ref 205), some (.int (a1 + 1))]) rfl ?_
      refine ab_goto (tgt := 22) dX12_areVotesTold_59 (by decide) ?_
      exact ((h.2 c1).2.1 c2)
    · refine ab_aloadn dX12_areVotesTold_43 rfl ?_
      refine ab_getf (v := .ref 206) dX12_areVotesTold_44 fl_X12_7 kd_205 ff_205_1 ?_
      refine ab_iloadn dX12_areVotesTold_47 rfl ?_
      refine ab_iaload (v := (i 206 a1.toNatClampNeg)) dX12_areVotesTold_48 kd_206 ((h.2 c1).2.2 c2).1 rfl ?_
      refine ab_bipush (v := 9) dX12_areVotesTold_49 (by decide) ?_
      refine ab_icmp_eq (tgt := 56) dX12_areVotesTold_51 (by decide) (fun c3 => ?_) (fun c3 => ?_)
      · refine ab_iinc (v := (a1 + 1)) dX12_areVotesTold_56 rfl (by rfl) (Nat.le_of_ble_eq_true rfl) (L2 := [some (.ref 205), some (.int (a1 + 1))]) rfl ?_
        refine ab_goto (tgt := 22) dX12_areVotesTold_59 (by decide) ?_
        exact (((h.2 c1).2.2 c2).2.1 c3)
      · refine ab_iconst (v := 0) dX12_areVotesTold_54 (by decide) ?_
        exact ab_zret dX12_areVotesTold_55 rfl (by decide) ⟨Nat.zero_le _, Nat.zero_le _⟩ (((h.2 c1).2.2 c2).2.2 c3)
theorem tMX12_votesAsTold_0 {d : Nat} {Q : ab_Qt} {sc : Nat × (Nat → Int32)} {i : Nat → Nat → Int32} {l : Nat → Nat → Int64} {dd : Nat → Nat → Value} {x : Nat} {a1 : Int32} 
    (h : ab_Fr MX12_votesAsTold (d + 1) Q 2 [some (.ref 205), some (.int a1), some (.int 0)] [] (0, 0) (i, l, dd, x) (ab_E0 sc)) :
    ab_Fr MX12_votesAsTold (d + 1) Q 0 [some (.ref 205), some (.int a1), none] [] (0, 0) (i, l, dd, x) (ab_E0 sc) := by
  refine ab_iconst (v := 0) dX12_votesAsTold_0 (by decide) ?_
  refine ab_istoren dX12_votesAsTold_1 (Nat.le_of_ble_eq_true rfl) (L2 := [some (.ref 205), some (.int a1), some (.int 0)]) rfl ?_
  exact h
theorem tMX12_votesAsTold_2 {d : Nat} {Q : ab_Qt} {sc : Nat × (Nat → Int32)} {i : Nat → Nat → Int32} {l : Nat → Nat → Int64} {dd : Nat → Nat → Value} {x : Nat} {a1 : Int32} {a2 : Int32} 
    (h : (((i 205 30) ≤ a2 → Q (some (some (.int 1))) (i, l, dd, x) (ab_E0 sc)) ∧ (¬ (i 205 30) ≤ a2 → (∃ (r2 : Int32) (P3 : ab_S → Prop), ab_Sp MX12_sign d [.ref 205, .int a1, .int a2] (i, l, dd, x) (ab_E0 sc) (some (.int r2)) P3 ∧ ∀ i6 l7 dd8 x9, P3 (i6, l7, dd8, x9) → vp_in ((3 * a2) + r2) 42 ∧ vp_in a2 740 ∧ (((i6 225 ((3 * a2) + r2).toNatClampNeg) = (i6 206 a2.toNatClampNeg) → ab_Fr MX12_votesAsTold (d + 1) Q 2 [some (.ref 205), some (.int a1), some (.int (a2 + 1))] [] (0, 0) (i6, l7, dd8, x9) (ab_E0 sc)) ∧ (¬ (i6 225 ((3 * a2) + r2).toNatClampNeg) = (i6 206 a2.toNatClampNeg) → Q (some (some (.int 0))) (i6, l7, dd8, x9) (ab_E0 sc))))))) :
    ab_Fr MX12_votesAsTold (d + 1) Q 2 [some (.ref 205), some (.int a1), some (.int a2)] [] (0, 0) (i, l, dd, x) (ab_E0 sc) := by
  refine ab_iloadn dX12_votesAsTold_2 rfl ?_
  refine ab_aloadn dX12_votesAsTold_3 rfl ?_
  refine ab_getf (v := .int (i 205 30)) dX12_votesAsTold_4 fl_X12_306 kd_205 rfl ?_
  refine ab_icmp_ge (tgt := 42) dX12_votesAsTold_7 (by decide) (fun c1 => ?_) (fun c1 => ?_)
  · refine ab_iconst (v := 1) dX12_votesAsTold_42 (by decide) ?_
    exact ab_zret dX12_votesAsTold_43 rfl (by decide) ⟨Nat.zero_le _, Nat.zero_le _⟩ (h.1 c1)
  · refine ab_aloadn dX12_votesAsTold_10 rfl ?_
    refine ab_getf (v := .ref 225) dX12_votesAsTold_11 fl_X12_68 kd_205 ff_205_34 ?_
    refine ab_iconst (v := 3) dX12_votesAsTold_14 (by decide) ?_
    refine ab_iloadn dX12_votesAsTold_15 rfl ?_
    refine ab_imul dX12_votesAsTold_16 ?_
    refine ab_aloadn dX12_votesAsTold_17 rfl ?_
    refine ab_iloadn dX12_votesAsTold_18 rfl ?_
    refine ab_iloadn dX12_votesAsTold_19 rfl ?_
    obtain ⟨r2, P3, hs4, hk5⟩ := (h.2 c1)
    refine ab_callV (vs := [.int a1, .int a2]) (st := [.int (3 * a2), .ref 225]) dX12_votesAsTold_20 okMX12_sign wd_1516 kd_205 rfl rfl rfl (Nat.le_of_ble_eq_true rfl) ⟨Nat.le_of_ble_eq_true rfl, Nat.le_of_ble_eq_true rfl⟩ hs4 ?_
    rintro v9 ⟨i6, l7, dd8, x9⟩ E9 - ⟨rfl, rfl, hp10⟩
    show ab_Fr MX12_votesAsTold (d + 1) Q 23 [some (.ref 205), some (.int a1), some (.int a2)] [.int r2, .int (3 * a2), .ref 225] (0, 0) (i6, l7, dd8, x9) (ab_E0 sc)
    refine ab_iadd dX12_votesAsTold_23 ?_
    refine ab_iaload (v := (i6 225 ((3 * a2) + r2).toNatClampNeg)) dX12_votesAsTold_24 kd_225 (hk5 i6 l7 dd8 x9 hp10).1 rfl ?_
    refine ab_aloadn dX12_votesAsTold_25 rfl ?_
    refine ab_getf (v := .ref 206) dX12_votesAsTold_26 fl_X12_7 kd_205 ff_205_1 ?_
    refine ab_iloadn dX12_votesAsTold_29 rfl ?_
    refine ab_iaload (v := (i6 206 a2.toNatClampNeg)) dX12_votesAsTold_30 kd_206 (hk5 i6 l7 dd8 x9 hp10).2.1 rfl ?_
    refine ab_icmp_eq (tgt := 36) dX12_votesAsTold_31 (by decide) (fun c11 => ?_) (fun c11 => ?_)
    · refine ab_iinc (v := (a2 + 1)) dX12_votesAsTold_36 rfl (by rfl) (Nat.le_of_ble_eq_true rfl) (L2 := [some (.ref 205), some (.int a1), some (.int (a2 + 1))]) rfl ?_
      refine ab_goto (tgt := 2) dX12_votesAsTold_39 (by decide) ?_
      exact ((hk5 i6 l7 dd8 x9 hp10).2.2.1 c11)
    · refine ab_iconst (v := 0) dX12_votesAsTold_34 (by decide) ?_
      exact ab_zret dX12_votesAsTold_35 rfl (by decide) ⟨Nat.zero_le _, Nat.zero_le _⟩ ((hk5 i6 l7 dd8 x9 hp10).2.2.2 c11)
theorem tMX12_allOf_0 {d : Nat} {Q : ab_Qt} {sc : Nat × (Nat → Int32)} {i : Nat → Nat → Int32} {l : Nat → Nat → Int64} {dd : Nat → Nat → Value} {x : Nat} {a1 : Int32} 
    (h : ab_Fr MX12_allOf (d + 1) Q 5 [some (.ref 205), some (.int a1), some (.long 0), none, some (.int 0)] [] (0, 0) (i, l, dd, x) (ab_E0 sc)) :
    ab_Fr MX12_allOf (d + 1) Q 0 [some (.ref 205), some (.int a1), none, none, none] [] (0, 0) (i, l, dd, x) (ab_E0 sc) := by
  refine ab_lconst (v := 0) dX12_allOf_0 (by decide) ?_
  refine ab_lstoren dX12_allOf_1 (Nat.le_of_ble_eq_true rfl) (L2 := [some (.ref 205), some (.int a1), some (.long 0), none, none]) rfl ?_
  refine ab_iconst (v := 0) dX12_allOf_2 (by decide) ?_
  refine ab_istore dX12_allOf_3 (Nat.le_of_ble_eq_true rfl) (L2 := [some (.ref 205), some (.int a1), some (.long 0), none, some (.int 0)]) rfl ?_
  exact h
theorem tMX12_allOf_5 {d : Nat} {Q : ab_Qt} {sc : Nat × (Nat → Int32)} {i : Nat → Nat → Int32} {l : Nat → Nat → Int64} {dd : Nat → Nat → Value} {x : Nat} {a1 : Int32} {a2 : Int64} {a4 : Int32} 
    (h : (((i 205 29) ≤ a4 → Q (some (some (.long a2))) (i, l, dd, x) (ab_E0 sc)) ∧ (¬ (i 205 29) ≤ a4 → (vp_in ((3 * a1) + a4) 6561 ∧ ab_Fr MX12_allOf (d + 1) Q 5 [some (.ref 205), some (.int a1), some (.long (a2 + (l 224 ((3 * a1) + a4).toNatClampNeg))), none, some (.int (a4 + 1))] [] (0, 0) (i, l, dd, x) (ab_E0 sc))))) :
    ab_Fr MX12_allOf (d + 1) Q 5 [some (.ref 205), some (.int a1), some (.long a2), none, some (.int a4)] [] (0, 0) (i, l, dd, x) (ab_E0 sc) := by
  refine ab_iload dX12_allOf_5 rfl ?_
  refine ab_aloadn dX12_allOf_7 rfl ?_
  refine ab_getf (v := .int (i 205 29)) dX12_allOf_8 fl_X12_303 kd_205 rfl ?_
  refine ab_icmp_ge (tgt := 34) dX12_allOf_11 (by decide) (fun c1 => ?_) (fun c1 => ?_)
  · refine ab_lloadn dX12_allOf_34 rfl ?_
    exact ab_lret dX12_allOf_35 rfl ⟨Nat.zero_le _, Nat.zero_le _⟩ (h.1 c1)
  · refine ab_lloadn dX12_allOf_14 rfl ?_
    refine ab_aloadn dX12_allOf_15 rfl ?_
    refine ab_getf (v := .ref 224) dX12_allOf_16 fl_X12_65 kd_205 ff_205_33 ?_
    refine ab_iconst (v := 3) dX12_allOf_19 (by decide) ?_
    refine ab_iloadn dX12_allOf_20 rfl ?_
    refine ab_imul dX12_allOf_21 ?_
    refine ab_iload dX12_allOf_22 rfl ?_
    refine ab_iadd dX12_allOf_24 ?_
    refine ab_laload (v := (l 224 ((3 * a1) + a4).toNatClampNeg)) dX12_allOf_25 kd_224 (h.2 c1).1 rfl ?_
    refine ab_ladd dX12_allOf_26 ?_
    refine ab_lstoren dX12_allOf_27 (Nat.le_of_ble_eq_true rfl) (L2 := [some (.ref 205), some (.int a1), some (.long (a2 + (l 224 ((3 * a1) + a4).toNatClampNeg))), none, some (.int a4)]) rfl ?_
    refine ab_iinc (v := (a4 + 1)) dX12_allOf_28 rfl (by rfl) (Nat.le_of_ble_eq_true rfl) (L2 := [some (.ref 205), some (.int a1), some (.long (a2 + (l 224 ((3 * a1) + a4).toNatClampNeg))), none, some (.int (a4 + 1))]) rfl ?_
    refine ab_goto (tgt := 5) dX12_allOf_31 (by decide) ?_
    exact (h.2 c1).2
theorem tMX12_shut_0 {d : Nat} {Q : ab_Qt} {sc : Nat × (Nat → Int32)} {i : Nat → Nat → Int32} {l : Nat → Nat → Int64} {dd : Nat → Nat → Value} {x : Nat} {a1 : Int32} {a2 : Int32} {a3 : Int32} 
    (h : (∃ (r1 : Int32) (P2 : ab_S → Prop), ab_Sp MX12_isTruth d [.ref 205, .int a1] (i, l, dd, x) (ab_E0 sc) (some (.int r1)) P2 ∧ ∀ i5 l6 dd7 x8, P2 (i5, l6, dd7, x8) → ((r1 = 0 → ab_Fr MX12_shut (d + 1) Q 17 [some (.ref 205), none, none, none, none, none, none] [] (0, 0) (i5, l6, dd7, x8) (ab_E0 sc)) ∧ (¬ r1 = 0 → (∃ (r11 : Int32) (P12 : ab_S → Prop), ab_Sp MX12_isSign d [.ref 205, .int a2, .int a3] (i5, l6, dd7, x8) (ab_E0 sc) (some (.int r11)) P12 ∧ ∀ i15 l16 dd17 x18, P12 (i15, l16, dd17, x18) → ((¬ r11 = 0 → (∀ i21, i21 = ab_u i15 205 0 0 → ab_Fr MX12_shut (d + 1) Q 33 [some (.ref 205), some (.int a1), some (.int a2), some (.int a3), some (.long 0), none, some (.int 0)] [] (0, 0) (i21, l16, dd17, x18) (ab_E0 sc))) ∧ (r11 = 0 → ab_Fr MX12_shut (d + 1) Q 17 [some (.ref 205), none, none, none, none, none, none] [] (0, 0) (i15, l16, dd17, x18) (ab_E0 sc)))))))) :
    ab_Fr MX12_shut (d + 1) Q 0 [some (.ref 205), some (.int a1), some (.int a2), some (.int a3), none, none, none] [] (0, 0) (i, l, dd, x) (ab_E0 sc) := by
  refine ab_aloadn dX12_shut_0 rfl ?_
  refine ab_iloadn dX12_shut_1 rfl ?_
  obtain ⟨r1, P2, hs3, hk4⟩ := h
  refine ab_callV (vs := [.int a1]) (st := []) dX12_shut_2 okMX12_isTruth wd_1563 kd_205 rfl rfl rfl (Nat.le_of_ble_eq_true rfl) ⟨Nat.le_of_ble_eq_true rfl, Nat.le_of_ble_eq_true rfl⟩ hs3 ?_
  rintro v9 ⟨i5, l6, dd7, x8⟩ E9 - ⟨rfl, rfl, hp9⟩
  show ab_Fr MX12_shut (d + 1) Q 5 [some (.ref 205), some (.int a1), some (.int a2), some (.int a3), none, none, none] [.int r1] (0, 0) (i5, l6, dd7, x8) (ab_E0 sc)
  refine ab_if_eq (tgt := 17) dX12_shut_5 (by decide) (fun c10 => ?_) (fun c10 => ?_)
  · refine ab_forget (i := 1) (L2 := [some (.ref 205), none, some (.int a2), some (.int a3), none, none, none]) rfl ?_
    refine ab_forget (i := 2) (L2 := [some (.ref 205), none, none, some (.int a3), none, none, none]) rfl ?_
    refine ab_forget (i := 3) (L2 := [some (.ref 205), none, none, none, none, none, none]) rfl ?_
    exact ((hk4 i5 l6 dd7 x8 hp9).1 c10)
  · refine ab_aloadn dX12_shut_8 rfl ?_
    refine ab_iloadn dX12_shut_9 rfl ?_
    refine ab_iloadn dX12_shut_10 rfl ?_
    obtain ⟨r11, P12, hs13, hk14⟩ := ((hk4 i5 l6 dd7 x8 hp9).2 c10)
    refine ab_callV (vs := [.int a2, .int a3]) (st := []) dX12_shut_11 okMX12_isSign wd_1577 kd_205 rfl rfl rfl (Nat.le_of_ble_eq_true rfl) ⟨Nat.le_of_ble_eq_true rfl, Nat.le_of_ble_eq_true rfl⟩ hs13 ?_
    rintro v9 ⟨i15, l16, dd17, x18⟩ E9 - ⟨rfl, rfl, hp19⟩
    show ab_Fr MX12_shut (d + 1) Q 14 [some (.ref 205), some (.int a1), some (.int a2), some (.int a3), none, none, none] [.int r11] (0, 0) (i15, l16, dd17, x18) (ab_E0 sc)
    refine ab_if_ne (tgt := 22) dX12_shut_14 (by decide) (fun c20 => ?_) (fun c20 => ?_)
    · refine ab_aloadn dX12_shut_22 rfl ?_
      refine ab_iconst (v := 0) dX12_shut_23 (by decide) ?_
      refine ab_putI dX12_shut_24 fl_X12_149 kd_205 rfl ?_
      obtain ⟨i21, e22⟩ : ∃ z, z = ab_u i15 205 0 0 := ⟨_, rfl⟩
      show ab_Fr MX12_shut (d + 1) Q 27 [some (.ref 205), some (.int a1), some (.int a2), some (.int a3), none, none, none] [] (0, 0) (ab_u i15 205 0 0, l16, dd17, x18) (ab_E0 sc)
      rw [show ab_u i15 205 0 0 = i21 from e22.symm]
      refine ab_lconst (v := 0) dX12_shut_27 (by decide) ?_
      refine ab_lstore dX12_shut_28 (Nat.le_of_ble_eq_true rfl) (L2 := [some (.ref 205), some (.int a1), some (.int a2), some (.int a3), some (.long 0), none, none]) rfl ?_
      refine ab_iconst (v := 0) dX12_shut_30 (by decide) ?_
      refine ab_istore dX12_shut_31 (Nat.le_of_ble_eq_true rfl) (L2 := [some (.ref 205), some (.int a1), some (.int a2), some (.int a3), some (.long 0), none, some (.int 0)]) rfl ?_
      exact (((hk14 i15 l16 dd17 x18 hp19).1 c20) i21 e22)
    · refine ab_forget (i := 1) (L2 := [some (.ref 205), none, some (.int a2), some (.int a3), none, none, none]) rfl ?_
      refine ab_forget (i := 2) (L2 := [some (.ref 205), none, none, some (.int a3), none, none, none]) rfl ?_
      refine ab_forget (i := 3) (L2 := [some (.ref 205), none, none, none, none, none, none]) rfl ?_
      exact ((hk14 i15 l16 dd17 x18 hp19).2 c20)
theorem tMX12_shut_17 {d : Nat} {Q : ab_Qt} {sc : Nat × (Nat → Int32)} {i : Nat → Nat → Int32} {l : Nat → Nat → Int64} {dd : Nat → Nat → Value} {x : Nat}  
    (h : (∃ (r1 : Int64) (P2 : ab_S → Prop), ab_Sp MX12_refuse d [.ref 205] (i, l, dd, x) (ab_E0 sc) (some (.long r1)) P2 ∧ ∀ i5 l6 dd7 x8, P2 (i5, l6, dd7, x8) → Q (some (some (.long r1))) (i5, l6, dd7, x8) (ab_E0 sc))) :
    ab_Fr MX12_shut (d + 1) Q 17 [some (.ref 205), none, none, none, none, none, none] [] (0, 0) (i, l, dd, x) (ab_E0 sc) := by
  refine ab_aloadn dX12_shut_17 rfl ?_
  obtain ⟨r1, P2, hs3, hk4⟩ := h
  refine ab_callV (vs := []) (st := []) dX12_shut_18 okMX12_refuse wd_1566 kd_205 rfl rfl rfl (Nat.le_of_ble_eq_true rfl) ⟨Nat.le_of_ble_eq_true rfl, Nat.le_of_ble_eq_true rfl⟩ hs3 ?_
  rintro v9 ⟨i5, l6, dd7, x8⟩ E9 - ⟨rfl, rfl, hp9⟩
  show ab_Fr MX12_shut (d + 1) Q 21 [some (.ref 205), none, none, none, none, none, none] [.long r1] (0, 0) (i5, l6, dd7, x8) (ab_E0 sc)
  exact ab_lret dX12_shut_21 rfl ⟨Nat.zero_le _, Nat.zero_le _⟩ (hk4 i5 l6 dd7 x8 hp9)
theorem tMX12_shut_33 {d : Nat} {Q : ab_Qt} {sc : Nat × (Nat → Int32)} {i : Nat → Nat → Int32} {l : Nat → Nat → Int64} {dd : Nat → Nat → Value} {x : Nat} {a1 : Int32} {a2 : Int32} {a3 : Int32} {a4 : Int64} {a6 : Int32} 
    (h : (((i 205 31) ≤ a6 → Q (some (some (.long a4))) (i, l, dd, x) (ab_E0 sc)) ∧ (¬ (i 205 31) ≤ a6 → (∃ (r2 : Int32) (P3 : ab_S → Prop), ab_Sp MX12_sign d [.ref 205, .int a6, .int a2] (i, l, dd, x) (ab_E0 sc) (some (.int r2)) P3 ∧ ∀ i6 l7 dd8 x9, P3 (i6, l7, dd8, x9) → ((¬ r2 = a3 → ab_Fr MX12_shut (d + 1) Q 33 [some (.ref 205), some (.int a1), some (.int a2), some (.int a3), some (.long a4), none, some (.int (a6 + 1))] [] (0, 0) (i6, l7, dd8, x9) (ab_E0 sc)) ∧ (r2 = a3 → (∃ (r12 : Int32) (P13 : ab_S → Prop), ab_Sp MX12_decideRow d [.ref 205, .int a6, .int 0] (i6, l7, dd8, x9) (ab_E0 sc) (some (.int r12)) P13 ∧ ∀ i16 l17 dd18 x19, P13 (i16, l17, dd18, x19) → ((¬ r12 = a1 → ab_Fr MX12_shut (d + 1) Q 33 [some (.ref 205), some (.int a1), some (.int a2), some (.int a3), some (.long a4), none, some (.int (a6 + 1))] [] (0, 0) (i16, l17, dd18, x19) (ab_E0 sc)) ∧ (r12 = a1 → (∃ (r22 : Int64) (P23 : ab_S → Prop), ab_Sp MX12_allOf d [.ref 205, .int a6] (i16, l17, dd18, x19) (ab_E0 sc) (some (.long r22)) P23 ∧ ∀ i26 l27 dd28 x29, P23 (i26, l27, dd28, x29) → ab_Fr MX12_shut (d + 1) Q 33 [some (.ref 205), some (.int a1), some (.int a2), some (.int a3), some (.long (a4 + r22)), none, some (.int (a6 + 1))] [] (0, 0) (i26, l27, dd28, x29) (ab_E0 sc))))))))))) :
    ab_Fr MX12_shut (d + 1) Q 33 [some (.ref 205), some (.int a1), some (.int a2), some (.int a3), some (.long a4), none, some (.int a6)] [] (0, 0) (i, l, dd, x) (ab_E0 sc) := by
  refine ab_iload dX12_shut_33 rfl ?_
  refine ab_aloadn dX12_shut_35 rfl ?_
  refine ab_getf (v := .int (i 205 31)) dX12_shut_36 fl_X12_309 kd_205 rfl ?_
  refine ab_icmp_ge (tgt := 81) dX12_shut_39 (by decide) (fun c1 => ?_) (fun c1 => ?_)
  · refine ab_lload dX12_shut_81 rfl ?_
    exact ab_lret dX12_shut_83 rfl ⟨Nat.zero_le _, Nat.zero_le _⟩ (h.1 c1)
  · refine ab_aloadn dX12_shut_42 rfl ?_
    refine ab_iload dX12_shut_43 rfl ?_
    refine ab_iloadn dX12_shut_45 rfl ?_
    obtain ⟨r2, P3, hs4, hk5⟩ := (h.2 c1)
    refine ab_callV (vs := [.int a6, .int a2]) (st := []) dX12_shut_46 okMX12_sign wd_1516 kd_205 rfl rfl rfl (Nat.le_of_ble_eq_true rfl) ⟨Nat.le_of_ble_eq_true rfl, Nat.le_of_ble_eq_true rfl⟩ hs4 ?_
    rintro v9 ⟨i6, l7, dd8, x9⟩ E9 - ⟨rfl, rfl, hp10⟩
    show ab_Fr MX12_shut (d + 1) Q 49 [some (.ref 205), some (.int a1), some (.int a2), some (.int a3), some (.long a4), none, some (.int a6)] [.int r2] (0, 0) (i6, l7, dd8, x9) (ab_E0 sc)
    refine ab_iloadn dX12_shut_49 rfl ?_
    refine ab_icmp_ne (tgt := 75) dX12_shut_50 (by decide) (fun c11 => ?_) (fun c11 => ?_)
    · refine ab_iinc (v := (a6 + 1)) dX12_shut_75 rfl (by rfl) (Nat.le_of_ble_eq_true rfl) (L2 := [some (.ref 205), some (.int a1), some (.int a2), some (.int a3), some (.long a4), none, some (.int (a6 + 1))]) rfl ?_
      refine ab_goto (tgt := 33) dX12_shut_78 (by decide) ?_
      exact ((hk5 i6 l7 dd8 x9 hp10).1 c11)
    · refine ab_aloadn dX12_shut_53 rfl ?_
      refine ab_iload dX12_shut_54 rfl ?_
      refine ab_iconst (v := 0) dX12_shut_56 (by decide) ?_
      obtain ⟨r12, P13, hs14, hk15⟩ := ((hk5 i6 l7 dd8 x9 hp10).2 c11)
      refine ab_callV (vs := [.int a6, .int 0]) (st := []) dX12_shut_57 okMX12_decideRow wd_1584 kd_205 rfl rfl rfl (Nat.le_of_ble_eq_true rfl) ⟨Nat.le_of_ble_eq_true rfl, Nat.le_of_ble_eq_true rfl⟩ hs14 ?_
      rintro v9 ⟨i16, l17, dd18, x19⟩ E9 - ⟨rfl, rfl, hp20⟩
      show ab_Fr MX12_shut (d + 1) Q 60 [some (.ref 205), some (.int a1), some (.int a2), some (.int a3), some (.long a4), none, some (.int a6)] [.int r12] (0, 0) (i16, l17, dd18, x19) (ab_E0 sc)
      refine ab_iloadn dX12_shut_60 rfl ?_
      refine ab_icmp_ne (tgt := 75) dX12_shut_61 (by decide) (fun c21 => ?_) (fun c21 => ?_)
      · refine ab_iinc (v := (a6 + 1)) dX12_shut_75 rfl (by rfl) (Nat.le_of_ble_eq_true rfl) (L2 := [some (.ref 205), some (.int a1), some (.int a2), some (.int a3), some (.long a4), none, some (.int (a6 + 1))]) rfl ?_
        refine ab_goto (tgt := 33) dX12_shut_78 (by decide) ?_
        exact ((hk15 i16 l17 dd18 x19 hp20).1 c21)
      · refine ab_lload dX12_shut_64 rfl ?_
        refine ab_aloadn dX12_shut_66 rfl ?_
        refine ab_iload dX12_shut_67 rfl ?_
        obtain ⟨r22, P23, hs24, hk25⟩ := ((hk15 i16 l17 dd18 x19 hp20).2 c21)
        refine ab_callV (vs := [.int a6]) (st := [.long a4]) dX12_shut_69 okMX12_allOf wd_1779 kd_205 rfl rfl rfl (Nat.le_of_ble_eq_true rfl) ⟨Nat.le_of_ble_eq_true rfl, Nat.le_of_ble_eq_true rfl⟩ hs24 ?_
        rintro v9 ⟨i26, l27, dd28, x29⟩ E9 - ⟨rfl, rfl, hp30⟩
        show ab_Fr MX12_shut (d + 1) Q 72 [some (.ref 205), some (.int a1), some (.int a2), some (.int a3), some (.long a4), none, some (.int a6)] [.long r22, .long a4] (0, 0) (i26, l27, dd28, x29) (ab_E0 sc)
        refine ab_ladd dX12_shut_72 ?_
        refine ab_lstore dX12_shut_73 (Nat.le_of_ble_eq_true rfl) (L2 := [some (.ref 205), some (.int a1), some (.int a2), some (.int a3), some (.long (a4 + r22)), none, some (.int a6)]) rfl ?_
        refine ab_iinc (v := (a6 + 1)) dX12_shut_75 rfl (by rfl) (Nat.le_of_ble_eq_true rfl) (L2 := [some (.ref 205), some (.int a1), some (.int a2), some (.int a3), some (.long (a4 + r22)), none, some (.int (a6 + 1))]) rfl ?_
        refine ab_goto (tgt := 33) dX12_shut_78 (by decide) ?_
        exact (hk25 i26 l27 dd28 x29 hp30)
theorem tMX12_guess_0 {d : Nat} {Q : ab_Qt} {sc : Nat × (Nat → Int32)} {i : Nat → Nat → Int32} {l : Nat → Nat → Int64} {dd : Nat → Nat → Value} {x : Nat}  
    (h : (∀ i1, i1 = ab_u i 205 0 0 → ∃ (r3 : Int32) (P4 : ab_S → Prop), ab_Sp MX12_areVotesTold d [.ref 205] (i1, l, dd, x) (ab_E0 sc) (some (.int r3)) P4 ∧ ∀ i7 l8 dd9 x10, P4 (i7, l8, dd9, x10) → ∀ i12, i12 = ab_u i7 205 2 0 → ((¬ r3 = 0 → ab_Fr MX12_guess (d + 1) Q 23 [some (.ref 205), none, some (.int 0), none] [] (0, 0) (i12, l8, dd9, x10) (ab_E0 sc)) ∧ (r3 = 0 → Q (some (some (.int (-1)))) (i12, l8, dd9, x10) (ab_E0 sc))))) :
    ab_Fr MX12_guess (d + 1) Q 0 [some (.ref 205), none, none, none] [] (0, 0) (i, l, dd, x) (ab_E0 sc) := by
  refine ab_aloadn dX12_guess_0 rfl ?_
  refine ab_iconst (v := 0) dX12_guess_1 (by decide) ?_
  refine ab_putI dX12_guess_2 fl_X12_149 kd_205 rfl ?_
  obtain ⟨i1, e2⟩ : ∃ z, z = ab_u i 205 0 0 := ⟨_, rfl⟩
  show ab_Fr MX12_guess (d + 1) Q 5 [some (.ref 205), none, none, none] [] (0, 0) (ab_u i 205 0 0, l, dd, x) (ab_E0 sc)
  rw [show ab_u i 205 0 0 = i1 from e2.symm]
  refine ab_aloadn dX12_guess_5 rfl ?_
  obtain ⟨r3, P4, hs5, hk6⟩ := (h i1 e2)
  refine ab_callV (vs := []) (st := []) dX12_guess_6 okMX12_areVotesTold wd_1773 kd_205 rfl rfl rfl (Nat.le_of_ble_eq_true rfl) ⟨Nat.le_of_ble_eq_true rfl, Nat.le_of_ble_eq_true rfl⟩ hs5 ?_
  rintro v9 ⟨i7, l8, dd9, x10⟩ E9 - ⟨rfl, rfl, hp11⟩
  show ab_Fr MX12_guess (d + 1) Q 9 [some (.ref 205), none, none, none] [.int r3] (0, 0) (i7, l8, dd9, x10) (ab_E0 sc)
  refine ab_istoren dX12_guess_9 (Nat.le_of_ble_eq_true rfl) (L2 := [some (.ref 205), some (.int r3), none, none]) rfl ?_
  refine ab_aloadn dX12_guess_10 rfl ?_
  refine ab_iconst (v := 0) dX12_guess_11 (by decide) ?_
  refine ab_putI dX12_guess_12 fl_X12_153 kd_205 rfl ?_
  obtain ⟨i12, e13⟩ : ∃ z, z = ab_u i7 205 2 0 := ⟨_, rfl⟩
  show ab_Fr MX12_guess (d + 1) Q 15 [some (.ref 205), some (.int r3), none, none] [] (0, 0) (ab_u i7 205 2 0, l8, dd9, x10) (ab_E0 sc)
  rw [show ab_u i7 205 2 0 = i12 from e13.symm]
  refine ab_iloadn dX12_guess_15 rfl ?_
  refine ab_if_ne (tgt := 21) dX12_guess_16 (by decide) (fun c14 => ?_) (fun c14 => ?_)
  · refine ab_iconst (v := 0) dX12_guess_21 (by decide) ?_
    refine ab_istoren dX12_guess_22 (Nat.le_of_ble_eq_true rfl) (L2 := [some (.ref 205), some (.int r3), some (.int 0), none]) rfl ?_
    refine ab_forget (i := 1) (L2 := [some (.ref 205), none, some (.int 0), none]) rfl ?_
    exact (((hk6 i7 l8 dd9 x10 hp11) i12 e13).1 c14)
  · refine ab_iconst (v := (-1)) dX12_guess_19 (by decide) ?_
    exact ab_iret dX12_guess_20 rfl ⟨Nat.zero_le _, Nat.zero_le _⟩ (((hk6 i7 l8 dd9 x10 hp11) i12 e13).2 c14)
theorem tMX12_guess_23 {d : Nat} {Q : ab_Qt} {sc : Nat × (Nat → Int32)} {i : Nat → Nat → Int32} {l : Nat → Nat → Int64} {dd : Nat → Nat → Value} {x : Nat} {a2 : Int32} 
    (h : ((3 ≤ a2 → ab_Fr MX12_guess (d + 1) Q 43 [some (.ref 205), none, some (.int 0), none] [] (0, 0) (i, l, dd, x) (ab_E0 sc)) ∧ (¬ 3 ≤ a2 → (vp_in a2 4 ∧ ∀ l2, l2 = ab_u l 228 a2.toNatClampNeg 0 → ab_Fr MX12_guess (d + 1) Q 23 [some (.ref 205), none, some (.int (a2 + 1)), none] [] (0, 0) (i, l2, dd, x) (ab_E0 sc))))) :
    ab_Fr MX12_guess (d + 1) Q 23 [some (.ref 205), none, some (.int a2), none] [] (0, 0) (i, l, dd, x) (ab_E0 sc) := by
  refine ab_iloadn dX12_guess_23 rfl ?_
  refine ab_iconst (v := 3) dX12_guess_24 (by decide) ?_
  refine ab_icmp_ge (tgt := 41) dX12_guess_25 (by decide) (fun c1 => ?_) (fun c1 => ?_)
  · refine ab_iconst (v := 0) dX12_guess_41 (by decide) ?_
    refine ab_istoren dX12_guess_42 (Nat.le_of_ble_eq_true rfl) (L2 := [some (.ref 205), none, some (.int 0), none]) rfl ?_
    exact (h.1 c1)
  · refine ab_aloadn dX12_guess_28 rfl ?_
    refine ab_getf (v := .ref 228) dX12_guess_29 fl_X12_77 kd_205 ff_205_37 ?_
    refine ab_iloadn dX12_guess_32 rfl ?_
    refine ab_lconst (v := 0) dX12_guess_33 (by decide) ?_
    refine ab_lastore dX12_guess_34 kd_228 (h.2 c1).1 ?_
    obtain ⟨l2, e3⟩ : ∃ z, z = ab_u l 228 a2.toNatClampNeg 0 := ⟨_, rfl⟩
    rw [show ab_u l 228 a2.toNatClampNeg 0 = l2 from e3.symm]
    refine ab_iinc (v := (a2 + 1)) dX12_guess_35 rfl (by rfl) (Nat.le_of_ble_eq_true rfl) (L2 := [some (.ref 205), none, some (.int (a2 + 1)), none]) rfl ?_
    refine ab_goto (tgt := 23) dX12_guess_38 (by decide) ?_
    exact ((h.2 c1).2 l2 e3)
theorem tMX12_guess_43 {d : Nat} {Q : ab_Qt} {sc : Nat × (Nat → Int32)} {i : Nat → Nat → Int32} {l : Nat → Nat → Int64} {dd : Nat → Nat → Value} {x : Nat} {a2 : Int32} 
    (h : (((i 205 31) ≤ a2 → (∃ (r2 : Int32) (P3 : ab_S → Prop), ab_Sp MX12_least d [.ref 205, .long (l 228 0), .long (l 228 1), .long (l 228 2)] (i, l, dd, x) (ab_E0 sc) (some (.int r2)) P3 ∧ ∀ i6 l7 dd8 x9, P3 (i6, l7, dd8, x9) → vp_in r2 4 ∧ ((¬ (l7 228 r2.toNatClampNeg) = 0 → Q (some (some (.int r2))) (i6, l7, dd8, x9) (ab_E0 sc)) ∧ ((l7 228 r2.toNatClampNeg) = 0 → Q (some (some (.int (-1)))) (i6, l7, dd8, x9) (ab_E0 sc))))) ∧ (¬ (i 205 31) ≤ a2 → (∃ (r12 : Int32) (P13 : ab_S → Prop), ab_Sp MX12_votesAsTold d [.ref 205, .int a2] (i, l, dd, x) (ab_E0 sc) (some (.int r12)) P13 ∧ ∀ i16 l17 dd18 x19, P13 (i16, l17, dd18, x19) → ((r12 = 0 → ab_Fr MX12_guess (d + 1) Q 43 [some (.ref 205), none, some (.int (a2 + 1)), none] [] (0, 0) (i16, l17, dd18, x19) (ab_E0 sc)) ∧ (¬ r12 = 0 → ab_Fr MX12_guess (d + 1) Q 61 [some (.ref 205), none, some (.int a2), some (.int 0)] [] (0, 0) (i16, l17, dd18, x19) (ab_E0 sc))))))) :
    ab_Fr MX12_guess (d + 1) Q 43 [some (.ref 205), none, some (.int a2), none] [] (0, 0) (i, l, dd, x) (ab_E0 sc) := by
  refine ab_iloadn dX12_guess_43 rfl ?_
  refine ab_aloadn dX12_guess_44 rfl ?_
  refine ab_getf (v := .int (i 205 31)) dX12_guess_45 fl_X12_309 kd_205 rfl ?_
  refine ab_icmp_ge (tgt := 100) dX12_guess_48 (by decide) (fun c1 => ?_) (fun c1 => ?_)
  · refine ab_aloadn dX12_guess_100 rfl ?_
    refine ab_aloadn dX12_guess_101 rfl ?_
    refine ab_getf (v := .ref 228) dX12_guess_102 fl_X12_77 kd_205 ff_205_37 ?_
    refine ab_iconst (v := 0) dX12_guess_105 (by decide) ?_
    refine ab_laload (v := (l 228 0)) dX12_guess_106 kd_228 (ab_vp (by decide)) rfl ?_
    refine ab_aloadn dX12_guess_107 rfl ?_
    refine ab_getf (v := .ref 228) dX12_guess_108 fl_X12_77 kd_205 ff_205_37 ?_
    refine ab_iconst (v := 1) dX12_guess_111 (by decide) ?_
    refine ab_laload (v := (l 228 1)) dX12_guess_112 kd_228 (ab_vp (by decide)) rfl ?_
    refine ab_aloadn dX12_guess_113 rfl ?_
    refine ab_getf (v := .ref 228) dX12_guess_114 fl_X12_77 kd_205 ff_205_37 ?_
    refine ab_iconst (v := 2) dX12_guess_117 (by decide) ?_
    refine ab_laload (v := (l 228 2)) dX12_guess_118 kd_228 (ab_vp (by decide)) rfl ?_
    obtain ⟨r2, P3, hs4, hk5⟩ := (h.1 c1)
    refine ab_callV (vs := [.long (l 228 0), .long (l 228 1), .long (l 228 2)]) (st := []) dX12_guess_119 okMX12_least wd_1537 kd_205 rfl rfl rfl (Nat.le_of_ble_eq_true rfl) ⟨Nat.le_of_ble_eq_true rfl, Nat.le_of_ble_eq_true rfl⟩ hs4 ?_
    rintro v9 ⟨i6, l7, dd8, x9⟩ E9 - ⟨rfl, rfl, hp10⟩
    show ab_Fr MX12_guess (d + 1) Q 122 [some (.ref 205), none, some (.int a2), none] [.int r2] (0, 0) (i6, l7, dd8, x9) (ab_E0 sc)
    refine ab_istoren dX12_guess_122 (Nat.le_of_ble_eq_true rfl) (L2 := [some (.ref 205), none, some (.int r2), none]) rfl ?_
    refine ab_aloadn dX12_guess_123 rfl ?_
    refine ab_getf (v := .ref 228) dX12_guess_124 fl_X12_77 kd_205 ff_205_37 ?_
    refine ab_iloadn dX12_guess_127 rfl ?_
    refine ab_laload (v := (l7 228 r2.toNatClampNeg)) dX12_guess_128 kd_228 (hk5 i6 l7 dd8 x9 hp10).1 rfl ?_
    refine ab_lconst (v := 0) dX12_guess_129 (by decide) ?_
    refine ab_lcne (tgt := 138) dX12_guess_130 dX12_guess_131 (by decide) (fun c11 => ?_) (fun c11 => ?_)
    · refine ab_iloadn dX12_guess_138 rfl ?_
      exact ab_iret dX12_guess_139 rfl ⟨Nat.zero_le _, Nat.zero_le _⟩ ((hk5 i6 l7 dd8 x9 hp10).2.1 c11)
    · refine ab_iconst (v := (-1)) dX12_guess_134 (by decide) ?_
      refine ab_goto (tgt := 139) dX12_guess_135 (by decide) ?_
      exact ab_iret dX12_guess_139 rfl ⟨Nat.zero_le _, Nat.zero_le _⟩ ((hk5 i6 l7 dd8 x9 hp10).2.2 c11)
  · refine ab_aloadn dX12_guess_51 rfl ?_
    refine ab_iloadn dX12_guess_52 rfl ?_
    obtain ⟨r12, P13, hs14, hk15⟩ := (h.2 c1)
    refine ab_callV (vs := [.int a2]) (st := []) dX12_guess_53 okMX12_votesAsTold wd_1776 kd_205 rfl rfl rfl (Nat.le_of_ble_eq_true rfl) ⟨Nat.le_of_ble_eq_true rfl, Nat.le_of_ble_eq_true rfl⟩ hs14 ?_
    rintro v9 ⟨i16, l17, dd18, x19⟩ E9 - ⟨rfl, rfl, hp20⟩
    show ab_Fr MX12_guess (d + 1) Q 56 [some (.ref 205), none, some (.int a2), none] [.int r12] (0, 0) (i16, l17, dd18, x19) (ab_E0 sc)
    refine ab_if_eq (tgt := 94) dX12_guess_56 (by decide) (fun c21 => ?_) (fun c21 => ?_)
    · refine ab_iinc (v := (a2 + 1)) dX12_guess_94 rfl (by rfl) (Nat.le_of_ble_eq_true rfl) (L2 := [some (.ref 205), none, some (.int (a2 + 1)), none]) rfl ?_
      refine ab_goto (tgt := 43) dX12_guess_97 (by decide) ?_
      exact ((hk15 i16 l17 dd18 x19 hp20).1 c21)
    · refine ab_iconst (v := 0) dX12_guess_59 (by decide) ?_
      refine ab_istoren dX12_guess_60 (Nat.le_of_ble_eq_true rfl) (L2 := [some (.ref 205), none, some (.int a2), some (.int 0)]) rfl ?_
      exact ((hk15 i16 l17 dd18 x19 hp20).2 c21)
theorem tMX12_guess_61 {d : Nat} {Q : ab_Qt} {sc : Nat × (Nat → Int32)} {i : Nat → Nat → Int32} {l : Nat → Nat → Int64} {dd : Nat → Nat → Value} {x : Nat} {a2 : Int32} {a3 : Int32} 
    (h : (((i 205 29) ≤ a3 → ab_Fr MX12_guess (d + 1) Q 43 [some (.ref 205), none, some (.int (a2 + 1)), none] [] (0, 0) (i, l, dd, x) (ab_E0 sc)) ∧ (¬ (i 205 29) ≤ a3 → (vp_in a3 4 ∧ vp_in ((3 * a2) + a3) 6561 ∧ vp_in a3 4 ∧ ∀ l2, l2 = ab_u l 228 a3.toNatClampNeg ((l 228 a3.toNatClampNeg) - (l 224 ((3 * a2) + a3).toNatClampNeg)) → ab_Fr MX12_guess (d + 1) Q 61 [some (.ref 205), none, some (.int a2), some (.int (a3 + 1))] [] (0, 0) (i, l2, dd, x) (ab_E0 sc))))) :
    ab_Fr MX12_guess (d + 1) Q 61 [some (.ref 205), none, some (.int a2), some (.int a3)] [] (0, 0) (i, l, dd, x) (ab_E0 sc) := by
  refine ab_iloadn dX12_guess_61 rfl ?_
  refine ab_aloadn dX12_guess_62 rfl ?_
  refine ab_getf (v := .int (i 205 29)) dX12_guess_63 fl_X12_303 kd_205 rfl ?_
  refine ab_icmp_ge (tgt := 94) dX12_guess_66 (by decide) (fun c1 => ?_) (fun c1 => ?_)
  · refine ab_iinc (v := (a2 + 1)) dX12_guess_94 rfl (by rfl) (Nat.le_of_ble_eq_true rfl) (L2 := [some (.ref 205), none, some (.int (a2 + 1)), some (.int a3)]) rfl ?_
    refine ab_goto (tgt := 43) dX12_guess_97 (by decide) ?_
    refine ab_forget (i := 3) (L2 := [some (.ref 205), none, some (.int (a2 + 1)), none]) rfl ?_
    exact (h.1 c1)
  · refine ab_aloadn dX12_guess_69 rfl ?_
    refine ab_getf (v := .ref 228) dX12_guess_70 fl_X12_77 kd_205 ff_205_37 ?_
    refine ab_iloadn dX12_guess_73 rfl ?_
    refine ab_dup2 dX12_guess_74 rfl rfl ?_
    refine ab_laload (v := (l 228 a3.toNatClampNeg)) dX12_guess_75 kd_228 (h.2 c1).1 rfl ?_
    refine ab_aloadn dX12_guess_76 rfl ?_
    refine ab_getf (v := .ref 224) dX12_guess_77 fl_X12_65 kd_205 ff_205_33 ?_
    refine ab_iconst (v := 3) dX12_guess_80 (by decide) ?_
    refine ab_iloadn dX12_guess_81 rfl ?_
    refine ab_imul dX12_guess_82 ?_
    refine ab_iloadn dX12_guess_83 rfl ?_
    refine ab_iadd dX12_guess_84 ?_
    refine ab_laload (v := (l 224 ((3 * a2) + a3).toNatClampNeg)) dX12_guess_85 kd_224 (h.2 c1).2.1 rfl ?_
    refine ab_lsub dX12_guess_86 ?_
    refine ab_lastore dX12_guess_87 kd_228 (h.2 c1).2.2.1 ?_
    obtain ⟨l2, e3⟩ : ∃ z, z = ab_u l 228 a3.toNatClampNeg ((l 228 a3.toNatClampNeg) - (l 224 ((3 * a2) + a3).toNatClampNeg)) := ⟨_, rfl⟩
    rw [show ab_u l 228 a3.toNatClampNeg ((l 228 a3.toNatClampNeg) - (l 224 ((3 * a2) + a3).toNatClampNeg)) = l2 from e3.symm]
    refine ab_iinc (v := (a3 + 1)) dX12_guess_88 rfl (by rfl) (Nat.le_of_ble_eq_true rfl) (L2 := [some (.ref 205), none, some (.int a2), some (.int (a3 + 1))]) rfl ?_
    refine ab_goto (tgt := 61) dX12_guess_91 (by decide) ?_
    exact ((h.2 c1).2.2.2 l2 e3)
theorem tMX12_fits_0 {d : Nat} {Q : ab_Qt} {sc : Nat × (Nat → Int32)} {i : Nat → Nat → Int32} {l : Nat → Nat → Int64} {dd : Nat → Nat → Value} {x : Nat}  
    (h : (∀ i1, i1 = ab_u i 205 0 0 → ab_Fr MX12_fits (d + 1) Q 9 [some (.ref 205), some (.int 0), some (.int 0), none, none, none, none, none, none, none, none] [] (0, 0) (i1, l, dd, x) (ab_E0 sc))) :
    ab_Fr MX12_fits (d + 1) Q 0 [some (.ref 205), none, none, none, none, none, none, none, none, none, none] [] (0, 0) (i, l, dd, x) (ab_E0 sc) := by
  refine ab_aloadn dX12_fits_0 rfl ?_
  refine ab_iconst (v := 0) dX12_fits_1 (by decide) ?_
  refine ab_putI dX12_fits_2 fl_X12_149 kd_205 rfl ?_
  obtain ⟨i1, e2⟩ : ∃ z, z = ab_u i 205 0 0 := ⟨_, rfl⟩
  show ab_Fr MX12_fits (d + 1) Q 5 [some (.ref 205), none, none, none, none, none, none, none, none, none, none] [] (0, 0) (ab_u i 205 0 0, l, dd, x) (ab_E0 sc)
  rw [show ab_u i 205 0 0 = i1 from e2.symm]
  refine ab_iconst (v := 0) dX12_fits_5 (by decide) ?_
  refine ab_istoren dX12_fits_6 (Nat.le_of_ble_eq_true rfl) (L2 := [some (.ref 205), some (.int 0), none, none, none, none, none, none, none, none, none]) rfl ?_
  refine ab_iconst (v := 0) dX12_fits_7 (by decide) ?_
  refine ab_istoren dX12_fits_8 (Nat.le_of_ble_eq_true rfl) (L2 := [some (.ref 205), some (.int 0), some (.int 0), none, none, none, none, none, none, none, none]) rfl ?_
  exact (h i1 e2)
theorem tMX12_fits_9 {d : Nat} {Q : ab_Qt} {sc : Nat × (Nat → Int32)} {i : Nat → Nat → Int32} {l : Nat → Nat → Int64} {dd : Nat → Nat → Value} {x : Nat} {a1 : Int32} {a2 : Int32} 
    (h : (((i 205 30) ≤ a2 → (((i 205 30) = 0 → Q (some (some (.int (-1)))) (i, l, dd, x) (ab_E0 sc)) ∧ (¬ (i 205 30) = 0 → ((a1 ≤ 6 → ab_Fr MX12_fits (d + 1) Q 51 [some (.ref 205), some (.int a1), some (.int 1), some (.int 0), none, none, none, none, none, none, none] [] (0, 0) (i, l, dd, x) (ab_E0 sc)) ∧ (¬ a1 ≤ 6 → Q (some (some (.int (-1)))) (i, l, dd, x) (ab_E0 sc)))))) ∧ (¬ (i 205 30) ≤ a2 → (vp_in a2 14 ∧ ab_Fr MX12_fits (d + 1) Q 9 [some (.ref 205), some (.int (a1 + (i 212 a2.toNatClampNeg))), some (.int (a2 + 1)), none, none, none, none, none, none, none, none] [] (0, 0) (i, l, dd, x) (ab_E0 sc))))) :
    ab_Fr MX12_fits (d + 1) Q 9 [some (.ref 205), some (.int a1), some (.int a2), none, none, none, none, none, none, none, none] [] (0, 0) (i, l, dd, x) (ab_E0 sc) := by
  refine ab_iloadn dX12_fits_9 rfl ?_
  refine ab_aloadn dX12_fits_10 rfl ?_
  refine ab_getf (v := .int (i 205 30)) dX12_fits_11 fl_X12_306 kd_205 rfl ?_
  refine ab_icmp_ge (tgt := 32) dX12_fits_14 (by decide) (fun c1 => ?_) (fun c1 => ?_)
  · refine ab_aloadn dX12_fits_32 rfl ?_
    refine ab_getf (v := .int (i 205 30)) dX12_fits_33 fl_X12_306 kd_205 rfl ?_
    refine ab_if_eq (tgt := 45) dX12_fits_36 (by decide) (fun c2 => ?_) (fun c2 => ?_)
    · refine ab_iconst (v := (-1)) dX12_fits_45 (by decide) ?_
      exact ab_iret dX12_fits_46 rfl ⟨Nat.zero_le _, Nat.zero_le _⟩ ((h.1 c1).1 c2)
    · refine ab_iloadn dX12_fits_39 rfl ?_
      refine ab_bipush (v := 6) dX12_fits_40 (by decide) ?_
      refine ab_icmp_le (tgt := 47) dX12_fits_42 (by decide) (fun c3 => ?_) (fun c3 => ?_)
      · refine ab_iconst (v := 1) dX12_fits_47 (by decide) ?_
        refine ab_istoren dX12_fits_48 (Nat.le_of_ble_eq_true rfl) (L2 := [some (.ref 205), some (.int a1), some (.int 1), none, none, none, none, none, none, none, none]) rfl ?_
        refine ab_iconst (v := 0) dX12_fits_49 (by decide) ?_
        refine ab_istoren dX12_fits_50 (Nat.le_of_ble_eq_true rfl) (L2 := [some (.ref 205), some (.int a1), some (.int 1), some (.int 0), none, none, none, none, none, none, none]) rfl ?_
        exact (((h.1 c1).2 c2).1 c3)
      · refine ab_iconst (v := (-1)) dX12_fits_45 (by decide) ?_
        exact ab_iret dX12_fits_46 rfl ⟨Nat.zero_le _, Nat.zero_le _⟩ (((h.1 c1).2 c2).2 c3)
  · refine ab_iloadn dX12_fits_17 rfl ?_
    refine ab_aloadn dX12_fits_18 rfl ?_
    refine ab_getf (v := .ref 212) dX12_fits_19 fl_X12_29 kd_205 ff_205_16 ?_
    refine ab_iloadn dX12_fits_22 rfl ?_
    refine ab_iaload (v := (i 212 a2.toNatClampNeg)) dX12_fits_23 kd_212 (h.2 c1).1 rfl ?_
    refine ab_iadd dX12_fits_24 ?_
    refine ab_istoren dX12_fits_25 (Nat.le_of_ble_eq_true rfl) (L2 := [some (.ref 205), some (.int (a1 + (i 212 a2.toNatClampNeg))), some (.int a2), none, none, none, none, none, none, none, none]) rfl ?_
    refine ab_iinc (v := (a2 + 1)) dX12_fits_26 rfl (by rfl) (Nat.le_of_ble_eq_true rfl) (L2 := [some (.ref 205), some (.int (a1 + (i 212 a2.toNatClampNeg))), some (.int (a2 + 1)), none, none, none, none, none, none, none, none]) rfl ?_
    refine ab_goto (tgt := 9) dX12_fits_29 (by decide) ?_
    exact (h.2 c1).2
theorem tMX12_fits_51 {d : Nat} {Q : ab_Qt} {sc : Nat × (Nat → Int32)} {i : Nat → Nat → Int32} {l : Nat → Nat → Int64} {dd : Nat → Nat → Value} {x : Nat} {a1 : Int32} {a2 : Int32} {a3 : Int32} 
    (h : ((a1 ≤ a3 → ab_Fr MX12_fits (d + 1) Q 81 [some (.ref 205), none, some (.int a2), some (.int 0), some (.long 1000000000000000000), none, some (.int 0), none, none, none, none] [] (0, 0) (i, l, dd, x) (ab_E0 sc)) ∧ (¬ a1 ≤ a3 → ab_Fr MX12_fits (d + 1) Q 51 [some (.ref 205), some (.int a1), some (.int (a2 * ((i 205 29) + 1))), some (.int (a3 + 1)), none, none, none, none, none, none, none] [] (0, 0) (i, l, dd, x) (ab_E0 sc)))) :
    ab_Fr MX12_fits (d + 1) Q 51 [some (.ref 205), some (.int a1), some (.int a2), some (.int a3), none, none, none, none, none, none, none] [] (0, 0) (i, l, dd, x) (ab_E0 sc) := by
  refine ab_iloadn dX12_fits_51 rfl ?_
  refine ab_iloadn dX12_fits_52 rfl ?_
  refine ab_icmp_ge (tgt := 71) dX12_fits_53 (by decide) (fun c1 => ?_) (fun c1 => ?_)
  · refine ab_iconst (v := 0) dX12_fits_71 (by decide) ?_
    refine ab_istoren dX12_fits_72 (Nat.le_of_ble_eq_true rfl) (L2 := [some (.ref 205), some (.int a1), some (.int a2), some (.int 0), none, none, none, none, none, none, none]) rfl ?_
    refine ab_ldc2 dX12_fits_73 wd_1703 ?_
    refine ab_lstore dX12_fits_76 (Nat.le_of_ble_eq_true rfl) (L2 := [some (.ref 205), some (.int a1), some (.int a2), some (.int 0), some (.long 1000000000000000000), none, none, none, none, none, none]) rfl ?_
    refine ab_iconst (v := 0) dX12_fits_78 (by decide) ?_
    refine ab_istore dX12_fits_79 (Nat.le_of_ble_eq_true rfl) (L2 := [some (.ref 205), some (.int a1), some (.int a2), some (.int 0), some (.long 1000000000000000000), none, some (.int 0), none, none, none, none]) rfl ?_
    refine ab_forget (i := 1) (L2 := [some (.ref 205), none, some (.int a2), some (.int 0), some (.long 1000000000000000000), none, some (.int 0), none, none, none, none]) rfl ?_
    exact (h.1 c1)
  · refine ab_iloadn dX12_fits_56 rfl ?_
    refine ab_aloadn dX12_fits_57 rfl ?_
    refine ab_getf (v := .int (i 205 29)) dX12_fits_58 fl_X12_303 kd_205 rfl ?_
    refine ab_iconst (v := 1) dX12_fits_61 (by decide) ?_
    refine ab_iadd dX12_fits_62 ?_
    refine ab_imul dX12_fits_63 ?_
    refine ab_istoren dX12_fits_64 (Nat.le_of_ble_eq_true rfl) (L2 := [some (.ref 205), some (.int a1), some (.int (a2 * ((i 205 29) + 1))), some (.int a3), none, none, none, none, none, none, none]) rfl ?_
    refine ab_iinc (v := (a3 + 1)) dX12_fits_65 rfl (by rfl) (Nat.le_of_ble_eq_true rfl) (L2 := [some (.ref 205), some (.int a1), some (.int (a2 * ((i 205 29) + 1))), some (.int (a3 + 1)), none, none, none, none, none, none, none]) rfl ?_
    refine ab_goto (tgt := 51) dX12_fits_68 (by decide) ?_
    exact (h.2 c1)
theorem tMX12_fits_81 {d : Nat} {Q : ab_Qt} {sc : Nat × (Nat → Int32)} {i : Nat → Nat → Int32} {l : Nat → Nat → Int64} {dd : Nat → Nat → Value} {x : Nat} {a2 : Int32} {a3 : Int32} {a4 : Int64} {a6 : Int32} 
    (h : ((a2 ≤ a6 → ((a3 ≤ 0 → Q (some (some (.int a3))) (i, l, dd, x) (ab_E0 sc)) ∧ (¬ a3 ≤ 0 → (∀ i3, i3 = ab_u i 205 68 (i 205 30) → ab_Fr MX12_fits (d + 1) Q 275 [some (.ref 205), none, none, some (.int a3), none, none, some (.int 0), none, none, none, none] [] (0, 0) (i3, l, dd, x) (ab_E0 sc))))) ∧ (¬ a2 ≤ a6 → ab_Fr MX12_fits (d + 1) Q 99 [some (.ref 205), none, some (.int a2), some (.int a3), some (.long a4), none, some (.int a6), some (.int a6), some (.int ((i 205 30) - 1)), none, none] [] (0, 0) (i, l, dd, x) (ab_E0 sc)))) :
    ab_Fr MX12_fits (d + 1) Q 81 [some (.ref 205), none, some (.int a2), some (.int a3), some (.long a4), none, some (.int a6), none, none, none, none] [] (0, 0) (i, l, dd, x) (ab_E0 sc) := by
  refine ab_iload dX12_fits_81 rfl ?_
  refine ab_iloadn dX12_fits_83 rfl ?_
  refine ab_icmp_ge (tgt := 260) dX12_fits_84 (by decide) (fun c1 => ?_) (fun c1 => ?_)
  · refine ab_iloadn dX12_fits_260 rfl ?_
    refine ab_if_le (tgt := 304) dX12_fits_261 (by decide) (fun c2 => ?_) (fun c2 => ?_)
    · refine ab_iloadn dX12_fits_304 rfl ?_
      exact ab_iret dX12_fits_305 rfl ⟨Nat.zero_le _, Nat.zero_le _⟩ ((h.1 c1).1 c2)
    · refine ab_aloadn dX12_fits_264 rfl ?_
      refine ab_aloadn dX12_fits_265 rfl ?_
      refine ab_getf (v := .int (i 205 30)) dX12_fits_266 fl_X12_306 kd_205 rfl ?_
      refine ab_putI dX12_fits_269 fl_X12_479 kd_205 rfl ?_
      obtain ⟨i3, e4⟩ : ∃ z, z = ab_u i 205 68 (i 205 30) := ⟨_, rfl⟩
      show ab_Fr MX12_fits (d + 1) Q 272 [some (.ref 205), none, some (.int a2), some (.int a3), some (.long a4), none, some (.int a6), none, none, none, none] [] (0, 0) (ab_u i 205 68 (i 205 30), l, dd, x) (ab_E0 sc)
      rw [show ab_u i 205 68 (i 205 30) = i3 from e4.symm]
      refine ab_iconst (v := 0) dX12_fits_272 (by decide) ?_
      refine ab_istore dX12_fits_273 (Nat.le_of_ble_eq_true rfl) (L2 := [some (.ref 205), none, some (.int a2), some (.int a3), some (.long a4), none, some (.int 0), none, none, none, none]) rfl ?_
      refine ab_forget (i := 2) (L2 := [some (.ref 205), none, none, some (.int a3), some (.long a4), none, some (.int 0), none, none, none, none]) rfl ?_
      refine ab_forget (i := 4) (L2 := [some (.ref 205), none, none, some (.int a3), none, none, some (.int 0), none, none, none, none]) rfl ?_
      exact (((h.1 c1).2 c2) i3 e4)
  · refine ab_iload dX12_fits_87 rfl ?_
    refine ab_istore dX12_fits_89 (Nat.le_of_ble_eq_true rfl) (L2 := [some (.ref 205), none, some (.int a2), some (.int a3), some (.long a4), none, some (.int a6), some (.int a6), none, none, none]) rfl ?_
    refine ab_aloadn dX12_fits_91 rfl ?_
    refine ab_getf (v := .int (i 205 30)) dX12_fits_92 fl_X12_306 kd_205 rfl ?_
    refine ab_iconst (v := 1) dX12_fits_95 (by decide) ?_
    refine ab_isub dX12_fits_96 ?_
    refine ab_istore dX12_fits_97 (Nat.le_of_ble_eq_true rfl) (L2 := [some (.ref 205), none, some (.int a2), some (.int a3), some (.long a4), none, some (.int a6), some (.int a6), some (.int ((i 205 30) - 1)), none, none]) rfl ?_
    exact (h.2 c1)
theorem tMX12_fits_99 {d : Nat} {Q : ab_Qt} {sc : Nat × (Nat → Int32)} {i : Nat → Nat → Int32} {l : Nat → Nat → Int64} {dd : Nat → Nat → Value} {x : Nat} {a2 : Int32} {a3 : Int32} {a4 : Int64} {a6 : Int32} {a7 : Int32} {a8 : Int32} 
    (h : ((a8 < 0 → (∃ (r2 : Int32) (P3 : ab_S → Prop), ab_Sp MX12_isFitBy d [.ref 205, .int 1] (i, l, dd, x) (ab_E0 sc) (some (.int r2)) P3 ∧ ∀ i6 l7 dd8 x9, P3 (i6, l7, dd8, x9) → ((¬ r2 = 0 → (∃ (r12 : Int64) (P13 : ab_S → Prop), ab_Sp MX12_lostBy d [.ref 205, .int 1] (i6, l7, dd8, x9) (ab_E0 sc) (some (.long r12)) P13 ∧ ∀ i16 l17 dd18 x19, P13 (i16, l17, dd18, x19) → ((r12 < a4 → ab_Fr MX12_fits (d + 1) Q 224 [some (.ref 205), none, some (.int a2), some (.int (a3 + 1)), some (.long r12), none, some (.int a6), none, none, none, some (.int 0)] [] (0, 0) (i16, l17, dd18, x19) (ab_E0 sc)) ∧ (¬ r12 < a4 → ab_Fr MX12_fits (d + 1) Q 81 [some (.ref 205), none, some (.int a2), some (.int (a3 + 1)), some (.long a4), none, some (.int (a6 + 1)), none, none, none, none] [] (0, 0) (i16, l17, dd18, x19) (ab_E0 sc))))) ∧ (r2 = 0 → ab_Fr MX12_fits (d + 1) Q 81 [some (.ref 205), none, some (.int a2), some (.int a3), some (.long a4), none, some (.int (a6 + 1)), none, none, none, none] [] (0, 0) (i6, l7, dd8, x9) (ab_E0 sc))))) ∧ (¬ a8 < 0 → (vp_in a8 14 ∧ ab_Fr MX12_fits (d + 1) Q 115 [some (.ref 205), none, some (.int a2), some (.int a3), some (.long a4), none, some (.int a6), some (.int a7), some (.int a8), some (.int ((i 212 a8.toNatClampNeg) - 1)), none] [] (0, 0) (i, l, dd, x) (ab_E0 sc))))) :
    ab_Fr MX12_fits (d + 1) Q 99 [some (.ref 205), none, some (.int a2), some (.int a3), some (.long a4), none, some (.int a6), some (.int a7), some (.int a8), none, none] [] (0, 0) (i, l, dd, x) (ab_E0 sc) := by
  refine ab_iload dX12_fits_99 rfl ?_
  refine ab_if_lt (tgt := 185) dX12_fits_101 (by decide) (fun c1 => ?_) (fun c1 => ?_)
  · refine ab_aloadn dX12_fits_185 rfl ?_
    refine ab_iconst (v := 1) dX12_fits_186 (by decide) ?_
    obtain ⟨r2, P3, hs4, hk5⟩ := (h.1 c1)
    refine ab_callV (vs := [.int 1]) (st := []) dX12_fits_187 okMX12_isFitBy wd_1650 kd_205 rfl rfl rfl (Nat.le_of_ble_eq_true rfl) ⟨Nat.le_of_ble_eq_true rfl, Nat.le_of_ble_eq_true rfl⟩ hs4 ?_
    rintro v9 ⟨i6, l7, dd8, x9⟩ E9 - ⟨rfl, rfl, hp10⟩
    show ab_Fr MX12_fits (d + 1) Q 190 [some (.ref 205), none, some (.int a2), some (.int a3), some (.long a4), none, some (.int a6), some (.int a7), some (.int a8), none, none] [.int r2] (0, 0) (i6, l7, dd8, x9) (ab_E0 sc)
    refine ab_if_ne (tgt := 196) dX12_fits_190 (by decide) (fun c11 => ?_) (fun c11 => ?_)
    · refine ab_iinc (v := (a3 + 1)) dX12_fits_196 rfl (by rfl) (Nat.le_of_ble_eq_true rfl) (L2 := [some (.ref 205), none, some (.int a2), some (.int (a3 + 1)), some (.long a4), none, some (.int a6), some (.int a7), some (.int a8), none, none]) rfl ?_
      refine ab_aloadn dX12_fits_199 rfl ?_
      refine ab_iconst (v := 1) dX12_fits_200 (by decide) ?_
      obtain ⟨r12, P13, hs14, hk15⟩ := ((hk5 i6 l7 dd8 x9 hp10).1 c11)
      refine ab_callV (vs := [.int 1]) (st := []) dX12_fits_201 okMX12_lostBy wd_1601 kd_205 rfl rfl rfl (Nat.le_of_ble_eq_true rfl) ⟨Nat.le_of_ble_eq_true rfl, Nat.le_of_ble_eq_true rfl⟩ hs14 ?_
      rintro v9 ⟨i16, l17, dd18, x19⟩ E9 - ⟨rfl, rfl, hp20⟩
      show ab_Fr MX12_fits (d + 1) Q 204 [some (.ref 205), none, some (.int a2), some (.int (a3 + 1)), some (.long a4), none, some (.int a6), some (.int a7), some (.int a8), none, none] [.long r12] (0, 0) (i16, l17, dd18, x19) (ab_E0 sc)
      refine ab_lstore dX12_fits_204 (Nat.le_of_ble_eq_true rfl) (L2 := [some (.ref 205), none, some (.int a2), some (.int (a3 + 1)), some (.long a4), none, some (.int a6), some (.int a7), some (.long r12), none, none]) rfl ?_
      refine ab_lload dX12_fits_206 rfl ?_
      refine ab_lload dX12_fits_208 rfl ?_
      refine ab_lclt (tgt := 217) dX12_fits_210 dX12_fits_211 (by decide) (fun c21 => ?_) (fun c21 => ?_)
      · refine ab_lload dX12_fits_217 rfl ?_
        refine ab_lstore dX12_fits_219 (Nat.le_of_ble_eq_true rfl) (L2 := [some (.ref 205), none, some (.int a2), some (.int (a3 + 1)), some (.long r12), none, some (.int a6), some (.int a7), some (.long r12), none, none]) rfl ?_
        refine ab_iconst (v := 0) dX12_fits_221 (by decide) ?_
        refine ab_istore dX12_fits_222 (Nat.le_of_ble_eq_true rfl) (L2 := [some (.ref 205), none, some (.int a2), some (.int (a3 + 1)), some (.long r12), none, some (.int a6), some (.int a7), some (.long r12), none, some (.int 0)]) rfl ?_
        refine ab_forget (i := 7) (L2 := [some (.ref 205), none, some (.int a2), some (.int (a3 + 1)), some (.long r12), none, some (.int a6), none, some (.long r12), none, some (.int 0)]) rfl ?_
        refine ab_forget (i := 8) (L2 := [some (.ref 205), none, some (.int a2), some (.int (a3 + 1)), some (.long r12), none, some (.int a6), none, none, none, some (.int 0)]) rfl ?_
        exact ((hk15 i16 l17 dd18 x19 hp20).1 c21)
      · refine ab_goto (tgt := 254) dX12_fits_214 (by decide) ?_
        refine ab_iinc (v := (a6 + 1)) dX12_fits_254 rfl (by rfl) (Nat.le_of_ble_eq_true rfl) (L2 := [some (.ref 205), none, some (.int a2), some (.int (a3 + 1)), some (.long a4), none, some (.int (a6 + 1)), some (.int a7), some (.long r12), none, none]) rfl ?_
        refine ab_goto (tgt := 81) dX12_fits_257 (by decide) ?_
        refine ab_forget (i := 7) (L2 := [some (.ref 205), none, some (.int a2), some (.int (a3 + 1)), some (.long a4), none, some (.int (a6 + 1)), none, some (.long r12), none, none]) rfl ?_
        refine ab_forget (i := 8) (L2 := [some (.ref 205), none, some (.int a2), some (.int (a3 + 1)), some (.long a4), none, some (.int (a6 + 1)), none, none, none, none]) rfl ?_
        exact ((hk15 i16 l17 dd18 x19 hp20).2 c21)
    · refine ab_goto (tgt := 254) dX12_fits_193 (by decide) ?_
      refine ab_iinc (v := (a6 + 1)) dX12_fits_254 rfl (by rfl) (Nat.le_of_ble_eq_true rfl) (L2 := [some (.ref 205), none, some (.int a2), some (.int a3), some (.long a4), none, some (.int (a6 + 1)), some (.int a7), some (.int a8), none, none]) rfl ?_
      refine ab_goto (tgt := 81) dX12_fits_257 (by decide) ?_
      refine ab_forget (i := 7) (L2 := [some (.ref 205), none, some (.int a2), some (.int a3), some (.long a4), none, some (.int (a6 + 1)), none, some (.int a8), none, none]) rfl ?_
      refine ab_forget (i := 8) (L2 := [some (.ref 205), none, some (.int a2), some (.int a3), some (.long a4), none, some (.int (a6 + 1)), none, none, none, none]) rfl ?_
      exact ((hk5 i6 l7 dd8 x9 hp10).2 c11)
  · refine ab_aloadn dX12_fits_104 rfl ?_
    refine ab_getf (v := .ref 212) dX12_fits_105 fl_X12_29 kd_205 ff_205_16 ?_
    refine ab_iload dX12_fits_108 rfl ?_
    refine ab_iaload (v := (i 212 a8.toNatClampNeg)) dX12_fits_110 kd_212 (h.2 c1).1 rfl ?_
    refine ab_iconst (v := 1) dX12_fits_111 (by decide) ?_
    refine ab_isub dX12_fits_112 ?_
    refine ab_istore dX12_fits_113 (Nat.le_of_ble_eq_true rfl) (L2 := [some (.ref 205), none, some (.int a2), some (.int a3), some (.long a4), none, some (.int a6), some (.int a7), some (.int a8), some (.int ((i 212 a8.toNatClampNeg) - 1)), none]) rfl ?_
    exact (h.2 c1).2
theorem tMX12_fits_115 {d : Nat} {Q : ab_Qt} {sc : Nat × (Nat → Int32)} {i : Nat → Nat → Int32} {l : Nat → Nat → Int64} {dd : Nat → Nat → Value} {x : Nat} {a2 : Int32} {a3 : Int32} {a4 : Int64} {a6 : Int32} {a7 : Int32} {a8 : Int32} {a9 : Int32} 
    (h : ((a9 < 0 → ab_Fr MX12_fits (d + 1) Q 99 [some (.ref 205), none, some (.int a2), some (.int a3), some (.long a4), none, some (.int a6), some (.int a7), some (.int (a8 + (-1))), none, none] [] (0, 0) (i, l, dd, x) (ab_E0 sc)) ∧ (¬ a9 < 0 → (¬ ((i 205 29) + 1) = 0 ∧ ¬ ((i 205 29) + 1) = 0 ∧ ((¬ (a7 - a7 / ((i 205 29) + 1) * ((i 205 29) + 1)) = (i 205 29) → (vp_in ((21 + (3 * a8)) + a9) 42 ∧ ∀ i3, i3 = ab_u i 225 ((21 + (3 * a8)) + a9).toNatClampNeg (a7 - a7 / ((i 205 29) + 1) * ((i 205 29) + 1)) → ab_Fr MX12_fits (d + 1) Q 115 [some (.ref 205), none, some (.int a2), some (.int a3), some (.long a4), none, some (.int a6), some (.int (a7 / ((i 205 29) + 1))), some (.int a8), some (.int (a9 + (-1))), none] [] (0, 0) (i3, l, dd, x) (ab_E0 sc))) ∧ ((a7 - a7 / ((i 205 29) + 1) * ((i 205 29) + 1)) = (i 205 29) → (vp_in ((21 + (3 * a8)) + a9) 42 ∧ ∀ i5, i5 = ab_u i 225 ((21 + (3 * a8)) + a9).toNatClampNeg 9 → ab_Fr MX12_fits (d + 1) Q 115 [some (.ref 205), none, some (.int a2), some (.int a3), some (.long a4), none, some (.int a6), some (.int (a7 / ((i 205 29) + 1))), some (.int a8), some (.int (a9 + (-1))), none] [] (0, 0) (i5, l, dd, x) (ab_E0 sc)))))))) :
    ab_Fr MX12_fits (d + 1) Q 115 [some (.ref 205), none, some (.int a2), some (.int a3), some (.long a4), none, some (.int a6), some (.int a7), some (.int a8), some (.int a9), none] [] (0, 0) (i, l, dd, x) (ab_E0 sc) := by
  refine ab_iload dX12_fits_115 rfl ?_
  refine ab_if_lt (tgt := 179) dX12_fits_117 (by decide) (fun c1 => ?_) (fun c1 => ?_)
  · refine ab_iinc (v := (a8 + (-1))) dX12_fits_179 rfl (by rfl) (Nat.le_of_ble_eq_true rfl) (L2 := [some (.ref 205), none, some (.int a2), some (.int a3), some (.long a4), none, some (.int a6), some (.int a7), some (.int (a8 + (-1))), some (.int a9), none]) rfl ?_
    refine ab_goto (tgt := 99) dX12_fits_182 (by decide) ?_
    refine ab_forget (i := 9) (L2 := [some (.ref 205), none, some (.int a2), some (.int a3), some (.long a4), none, some (.int a6), some (.int a7), some (.int (a8 + (-1))), none, none]) rfl ?_
    exact (h.1 c1)
  · refine ab_iload dX12_fits_120 rfl ?_
    refine ab_aloadn dX12_fits_122 rfl ?_
    refine ab_getf (v := .int (i 205 29)) dX12_fits_123 fl_X12_303 kd_205 rfl ?_
    refine ab_iconst (v := 1) dX12_fits_126 (by decide) ?_
    refine ab_iadd dX12_fits_127 ?_
    refine ab_irem dX12_fits_128 (h.2 c1).1 ?_
    refine ab_istore dX12_fits_129 (Nat.le_of_ble_eq_true rfl) (L2 := [some (.ref 205), none, some (.int a2), some (.int a3), some (.long a4), none, some (.int a6), some (.int a7), some (.int a8), some (.int a9), some (.int (a7 - a7 / ((i 205 29) + 1) * ((i 205 29) + 1)))]) rfl ?_
    refine ab_iload dX12_fits_131 rfl ?_
    refine ab_aloadn dX12_fits_133 rfl ?_
    refine ab_getf (v := .int (i 205 29)) dX12_fits_134 fl_X12_303 kd_205 rfl ?_
    refine ab_iconst (v := 1) dX12_fits_137 (by decide) ?_
    refine ab_iadd dX12_fits_138 ?_
    refine ab_idiv dX12_fits_139 (h.2 c1).2.1 ?_
    refine ab_istore dX12_fits_140 (Nat.le_of_ble_eq_true rfl) (L2 := [some (.ref 205), none, some (.int a2), some (.int a3), some (.long a4), none, some (.int a6), some (.int (a7 / ((i 205 29) + 1))), some (.int a8), some (.int a9), some (.int (a7 - a7 / ((i 205 29) + 1) * ((i 205 29) + 1)))]) rfl ?_
    refine ab_aloadn dX12_fits_142 rfl ?_
    refine ab_getf (v := .ref 225) dX12_fits_143 fl_X12_68 kd_205 ff_205_34 ?_
    refine ab_bipush (v := 21) dX12_fits_146 (by decide) ?_
    refine ab_iconst (v := 3) dX12_fits_148 (by decide) ?_
    refine ab_iload dX12_fits_149 rfl ?_
    refine ab_imul dX12_fits_151 ?_
    refine ab_iadd dX12_fits_152 ?_
    refine ab_iload dX12_fits_153 rfl ?_
    refine ab_iadd dX12_fits_155 ?_
    refine ab_iload dX12_fits_156 rfl ?_
    refine ab_aloadn dX12_fits_158 rfl ?_
    refine ab_getf (v := .int (i 205 29)) dX12_fits_159 fl_X12_303 kd_205 rfl ?_
    refine ab_icmp_ne (tgt := 170) dX12_fits_162 (by decide) (fun c2 => ?_) (fun c2 => ?_)
    · refine ab_iload dX12_fits_170 rfl ?_
      refine ab_iastore dX12_fits_172 kd_225 ((h.2 c1).2.2.1 c2).1 ?_
      obtain ⟨i3, e4⟩ : ∃ z, z = ab_u i 225 ((21 + (3 * a8)) + a9).toNatClampNeg (a7 - a7 / ((i 205 29) + 1) * ((i 205 29) + 1)) := ⟨_, rfl⟩
      rw [show ab_u i 225 ((21 + (3 * a8)) + a9).toNatClampNeg (a7 - a7 / ((i 205 29) + 1) * ((i 205 29) + 1)) = i3 from e4.symm]
      refine ab_iinc (v := (a9 + (-1))) dX12_fits_173 rfl (by rfl) (Nat.le_of_ble_eq_true rfl) (L2 := [some (.ref 205), none, some (.int a2), some (.int a3), some (.long a4), none, some (.int a6), some (.int (a7 / ((i 205 29) + 1))), some (.int a8), some (.int (a9 + (-1))), some (.int (a7 - a7 / ((i 205 29) + 1) * ((i 205 29) + 1)))]) rfl ?_
      refine ab_goto (tgt := 115) dX12_fits_176 (by decide) ?_
      refine ab_forget (i := 10) (L2 := [some (.ref 205), none, some (.int a2), some (.int a3), some (.long a4), none, some (.int a6), some (.int (a7 / ((i 205 29) + 1))), some (.int a8), some (.int (a9 + (-1))), none]) rfl ?_
      exact (((h.2 c1).2.2.1 c2).2 i3 e4)
    · refine ab_bipush (v := 9) dX12_fits_165 (by decide) ?_
      refine ab_goto (tgt := 172) dX12_fits_167 (by decide) ?_
      refine ab_iastore dX12_fits_172 kd_225 ((h.2 c1).2.2.2 c2).1 ?_
      obtain ⟨i5, e6⟩ : ∃ z, z = ab_u i 225 ((21 + (3 * a8)) + a9).toNatClampNeg 9 := ⟨_, rfl⟩
      rw [show ab_u i 225 ((21 + (3 * a8)) + a9).toNatClampNeg 9 = i5 from e6.symm]
      refine ab_iinc (v := (a9 + (-1))) dX12_fits_173 rfl (by rfl) (Nat.le_of_ble_eq_true rfl) (L2 := [some (.ref 205), none, some (.int a2), some (.int a3), some (.long a4), none, some (.int a6), some (.int (a7 / ((i 205 29) + 1))), some (.int a8), some (.int (a9 + (-1))), some (.int (a7 - a7 / ((i 205 29) + 1) * ((i 205 29) + 1)))]) rfl ?_
      refine ab_goto (tgt := 115) dX12_fits_176 (by decide) ?_
      refine ab_forget (i := 10) (L2 := [some (.ref 205), none, some (.int a2), some (.int a3), some (.long a4), none, some (.int a6), some (.int (a7 / ((i 205 29) + 1))), some (.int a8), some (.int (a9 + (-1))), none]) rfl ?_
      exact (((h.2 c1).2.2.2 c2).2 i5 e6)
theorem tMX12_fits_224 {d : Nat} {Q : ab_Qt} {sc : Nat × (Nat → Int32)} {i : Nat → Nat → Int32} {l : Nat → Nat → Int64} {dd : Nat → Nat → Value} {x : Nat} {a2 : Int32} {a3 : Int32} {a4 : Int64} {a6 : Int32} {a10 : Int32} 
    (h : ((21 ≤ a10 → ab_Fr MX12_fits (d + 1) Q 81 [some (.ref 205), none, some (.int a2), some (.int a3), some (.long a4), none, some (.int (a6 + 1)), none, none, none, none] [] (0, 0) (i, l, dd, x) (ab_E0 sc)) ∧ (¬ 21 ≤ a10 → (vp_in (21 + a10) 42 ∧ vp_in a10 21 ∧ ∀ i2, i2 = ab_u i 247 a10.toNatClampNeg (i 225 (21 + a10).toNatClampNeg) → ab_Fr MX12_fits (d + 1) Q 224 [some (.ref 205), none, some (.int a2), some (.int a3), some (.long a4), none, some (.int a6), none, none, none, some (.int (a10 + 1))] [] (0, 0) (i2, l, dd, x) (ab_E0 sc))))) :
    ab_Fr MX12_fits (d + 1) Q 224 [some (.ref 205), none, some (.int a2), some (.int a3), some (.long a4), none, some (.int a6), none, none, none, some (.int a10)] [] (0, 0) (i, l, dd, x) (ab_E0 sc) := by
  refine ab_iload dX12_fits_224 rfl ?_
  refine ab_bipush (v := 21) dX12_fits_226 (by decide) ?_
  refine ab_icmp_ge (tgt := 254) dX12_fits_228 (by decide) (fun c1 => ?_) (fun c1 => ?_)
  · refine ab_iinc (v := (a6 + 1)) dX12_fits_254 rfl (by rfl) (Nat.le_of_ble_eq_true rfl) (L2 := [some (.ref 205), none, some (.int a2), some (.int a3), some (.long a4), none, some (.int (a6 + 1)), none, none, none, some (.int a10)]) rfl ?_
    refine ab_goto (tgt := 81) dX12_fits_257 (by decide) ?_
    refine ab_forget (i := 10) (L2 := [some (.ref 205), none, some (.int a2), some (.int a3), some (.long a4), none, some (.int (a6 + 1)), none, none, none, none]) rfl ?_
    exact (h.1 c1)
  · refine ab_aloadn dX12_fits_231 rfl ?_
    refine ab_getf (v := .ref 247) dX12_fits_232 fl_X12_143 kd_205 ff_205_66 ?_
    refine ab_iload dX12_fits_235 rfl ?_
    refine ab_aloadn dX12_fits_237 rfl ?_
    refine ab_getf (v := .ref 225) dX12_fits_238 fl_X12_68 kd_205 ff_205_34 ?_
    refine ab_bipush (v := 21) dX12_fits_241 (by decide) ?_
    refine ab_iload dX12_fits_243 rfl ?_
    refine ab_iadd dX12_fits_245 ?_
    refine ab_iaload (v := (i 225 (21 + a10).toNatClampNeg)) dX12_fits_246 kd_225 (h.2 c1).1 rfl ?_
    refine ab_iastore dX12_fits_247 kd_247 (h.2 c1).2.1 ?_
    obtain ⟨i2, e3⟩ : ∃ z, z = ab_u i 247 a10.toNatClampNeg (i 225 (21 + a10).toNatClampNeg) := ⟨_, rfl⟩
    rw [show ab_u i 247 a10.toNatClampNeg (i 225 (21 + a10).toNatClampNeg) = i2 from e3.symm]
    refine ab_iinc (v := (a10 + 1)) dX12_fits_248 rfl (by rfl) (Nat.le_of_ble_eq_true rfl) (L2 := [some (.ref 205), none, some (.int a2), some (.int a3), some (.long a4), none, some (.int a6), none, none, none, some (.int (a10 + 1))]) rfl ?_
    refine ab_goto (tgt := 224) dX12_fits_251 (by decide) ?_
    exact ((h.2 c1).2.2 i2 e3)
theorem tMX12_fits_275 {d : Nat} {Q : ab_Qt} {sc : Nat × (Nat → Int32)} {i : Nat → Nat → Int32} {l : Nat → Nat → Int64} {dd : Nat → Nat → Value} {x : Nat} {a3 : Int32} {a6 : Int32} 
    (h : (((i 205 30) ≤ a6 → Q (some (some (.int a3))) (i, l, dd, x) (ab_E0 sc)) ∧ (¬ (i 205 30) ≤ a6 → (vp_in a6 14 ∧ vp_in a6 7 ∧ ∀ i2, i2 = ab_u i 248 a6.toNatClampNeg (i 212 a6.toNatClampNeg) → ab_Fr MX12_fits (d + 1) Q 275 [some (.ref 205), none, none, some (.int a3), none, none, some (.int (a6 + 1)), none, none, none, none] [] (0, 0) (i2, l, dd, x) (ab_E0 sc))))) :
    ab_Fr MX12_fits (d + 1) Q 275 [some (.ref 205), none, none, some (.int a3), none, none, some (.int a6), none, none, none, none] [] (0, 0) (i, l, dd, x) (ab_E0 sc) := by
  refine ab_iload dX12_fits_275 rfl ?_
  refine ab_aloadn dX12_fits_277 rfl ?_
  refine ab_getf (v := .int (i 205 30)) dX12_fits_278 fl_X12_306 kd_205 rfl ?_
  refine ab_icmp_ge (tgt := 304) dX12_fits_281 (by decide) (fun c1 => ?_) (fun c1 => ?_)
  · refine ab_iloadn dX12_fits_304 rfl ?_
    exact ab_iret dX12_fits_305 rfl ⟨Nat.zero_le _, Nat.zero_le _⟩ (h.1 c1)
  · refine ab_aloadn dX12_fits_284 rfl ?_
    refine ab_getf (v := .ref 248) dX12_fits_285 fl_X12_146 kd_205 ff_205_67 ?_
    refine ab_iload dX12_fits_288 rfl ?_
    refine ab_aloadn dX12_fits_290 rfl ?_
    refine ab_getf (v := .ref 212) dX12_fits_291 fl_X12_29 kd_205 ff_205_16 ?_
    refine ab_iload dX12_fits_294 rfl ?_
    refine ab_iaload (v := (i 212 a6.toNatClampNeg)) dX12_fits_296 kd_212 (h.2 c1).1 rfl ?_
    refine ab_iastore dX12_fits_297 kd_248 (h.2 c1).2.1 ?_
    obtain ⟨i2, e3⟩ : ∃ z, z = ab_u i 248 a6.toNatClampNeg (i 212 a6.toNatClampNeg) := ⟨_, rfl⟩
    rw [show ab_u i 248 a6.toNatClampNeg (i 212 a6.toNatClampNeg) = i2 from e3.symm]
    refine ab_iinc (v := (a6 + 1)) dX12_fits_298 rfl (by rfl) (Nat.le_of_ble_eq_true rfl) (L2 := [some (.ref 205), none, none, some (.int a3), none, none, some (.int (a6 + 1)), none, none, none, none]) rfl ?_
    refine ab_goto (tgt := 275) dX12_fits_301 (by decide) ?_
    exact ((h.2 c1).2.2 i2 e3)
theorem tMX12_fitAt_0 {d : Nat} {Q : ab_Qt} {sc : Nat × (Nat → Int32)} {i : Nat → Nat → Int32} {l : Nat → Nat → Int64} {dd : Nat → Nat → Value} {x : Nat} {a1 : Int32} {a2 : Int32} 
    (h : (∀ i1, i1 = ab_u i 205 0 0 → ((a1 < 0 → Q (some (some (.int (-1)))) (i1, l, dd, x) (ab_E0 sc)) ∧ (¬ a1 < 0 → (((i1 205 68) ≤ a1 → Q (some (some (.int (-1)))) (i1, l, dd, x) (ab_E0 sc)) ∧ (¬ (i1 205 68) ≤ a1 → ((a2 < 0 → Q (some (some (.int (-1)))) (i1, l, dd, x) (ab_E0 sc)) ∧ (¬ a2 < 0 → (vp_in a1 7 ∧ (((i1 248 a1.toNatClampNeg) ≤ a2 → Q (some (some (.int (-1)))) (i1, l, dd, x) (ab_E0 sc)) ∧ (¬ (i1 248 a1.toNatClampNeg) ≤ a2 → (vp_in ((3 * a1) + a2) 21 ∧ Q (some (some (.int (i1 247 ((3 * a1) + a2).toNatClampNeg)))) (i1, l, dd, x) (ab_E0 sc))))))))))))) :
    ab_Fr MX12_fitAt (d + 1) Q 0 [some (.ref 205), some (.int a1), some (.int a2)] [] (0, 0) (i, l, dd, x) (ab_E0 sc) := by
  refine ab_aloadn dX12_fitAt_0 rfl ?_
  refine ab_iconst (v := 0) dX12_fitAt_1 (by decide) ?_
  refine ab_putI dX12_fitAt_2 fl_X12_149 kd_205 rfl ?_
  obtain ⟨i1, e2⟩ : ∃ z, z = ab_u i 205 0 0 := ⟨_, rfl⟩
  show ab_Fr MX12_fitAt (d + 1) Q 5 [some (.ref 205), some (.int a1), some (.int a2)] [] (0, 0) (ab_u i 205 0 0, l, dd, x) (ab_E0 sc)
  rw [show ab_u i 205 0 0 = i1 from e2.symm]
  refine ab_iloadn dX12_fitAt_5 rfl ?_
  refine ab_if_lt (tgt := 44) dX12_fitAt_6 (by decide) (fun c3 => ?_) (fun c3 => ?_)
  · refine ab_iconst (v := (-1)) dX12_fitAt_44 (by decide) ?_
    exact ab_iret dX12_fitAt_45 rfl ⟨Nat.zero_le _, Nat.zero_le _⟩ ((h i1 e2).1 c3)
  · refine ab_iloadn dX12_fitAt_9 rfl ?_
    refine ab_aloadn dX12_fitAt_10 rfl ?_
    refine ab_getf (v := .int (i1 205 68)) dX12_fitAt_11 fl_X12_479 kd_205 rfl ?_
    refine ab_icmp_ge (tgt := 44) dX12_fitAt_14 (by decide) (fun c4 => ?_) (fun c4 => ?_)
    · refine ab_iconst (v := (-1)) dX12_fitAt_44 (by decide) ?_
      exact ab_iret dX12_fitAt_45 rfl ⟨Nat.zero_le _, Nat.zero_le _⟩ (((h i1 e2).2 c3).1 c4)
    · refine ab_iloadn dX12_fitAt_17 rfl ?_
      refine ab_if_lt (tgt := 44) dX12_fitAt_18 (by decide) (fun c5 => ?_) (fun c5 => ?_)
      · refine ab_iconst (v := (-1)) dX12_fitAt_44 (by decide) ?_
        exact ab_iret dX12_fitAt_45 rfl ⟨Nat.zero_le _, Nat.zero_le _⟩ ((((h i1 e2).2 c3).2 c4).1 c5)
      · refine ab_iloadn dX12_fitAt_21 rfl ?_
        refine ab_aloadn dX12_fitAt_22 rfl ?_
        refine ab_getf (v := .ref 248) dX12_fitAt_23 fl_X12_146 kd_205 ff_205_67 ?_
        refine ab_iloadn dX12_fitAt_26 rfl ?_
        refine ab_iaload (v := (i1 248 a1.toNatClampNeg)) dX12_fitAt_27 kd_248 ((((h i1 e2).2 c3).2 c4).2 c5).1 rfl ?_
        refine ab_icmp_ge (tgt := 44) dX12_fitAt_28 (by decide) (fun c6 => ?_) (fun c6 => ?_)
        · refine ab_iconst (v := (-1)) dX12_fitAt_44 (by decide) ?_
          exact ab_iret dX12_fitAt_45 rfl ⟨Nat.zero_le _, Nat.zero_le _⟩ (((((h i1 e2).2 c3).2 c4).2 c5).2.1 c6)
        · refine ab_aloadn dX12_fitAt_31 rfl ?_
          refine ab_getf (v := .ref 247) dX12_fitAt_32 fl_X12_143 kd_205 ff_205_66 ?_
          refine ab_iconst (v := 3) dX12_fitAt_35 (by decide) ?_
          refine ab_iloadn dX12_fitAt_36 rfl ?_
          refine ab_imul dX12_fitAt_37 ?_
          refine ab_iloadn dX12_fitAt_38 rfl ?_
          refine ab_iadd dX12_fitAt_39 ?_
          refine ab_iaload (v := (i1 247 ((3 * a1) + a2).toNatClampNeg)) dX12_fitAt_40 kd_247 (((((h i1 e2).2 c3).2 c4).2 c5).2.2 c6).1 rfl ?_
          refine ab_goto (tgt := 45) dX12_fitAt_41 (by decide) ?_
          exact ab_iret dX12_fitAt_45 rfl ⟨Nat.zero_le _, Nat.zero_le _⟩ (((((h i1 e2).2 c3).2 c4).2 c5).2.2 c6).2
theorem tMX12_many_0 {d : Nat} {Q : ab_Qt} {sc : Nat × (Nat → Int32)} {i : Nat → Nat → Int32} {l : Nat → Nat → Int64} {dd : Nat → Nat → Value} {x : Nat} {a1 : Int32} {a2 : Int32} 
    (h : (∃ (r1 : Int32) (P2 : ab_S → Prop), ab_Sp MX12_isIn d [.int a1, .int 1, .int 11] (i, l, dd, x) (ab_E0 sc) (some (.int r1)) P2 ∧ ∀ i5 l6 dd7 x8, P2 (i5, l6, dd7, x8) → ((r1 = 0 → ab_Fr MX12_many (d + 1) Q 26 [some (.ref 205), none, none, none, none, none, none, none, none] [] (0, 0) (i5, l6, dd7, x8) (ab_E0 sc)) ∧ (¬ r1 = 0 → (((a1 - a1 / 2 * 2) = 0 → ab_Fr MX12_many (d + 1) Q 26 [some (.ref 205), none, none, none, none, none, none, none, none] [] (0, 0) (i5, l6, dd7, x8) (ab_E0 sc)) ∧ (¬ (a1 - a1 / 2 * 2) = 0 → (∃ (r12 : Int32) (P13 : ab_S → Prop), ab_Sp MX12_isIn d [.int a2, .int 0, .int 20] (i5, l6, dd7, x8) (ab_E0 sc) (some (.int r12)) P13 ∧ ∀ i16 l17 dd18 x19, P13 (i16, l17, dd18, x19) → ((¬ r12 = 0 → (∀ i22, i22 = ab_u i16 205 0 0 → ab_Fr MX12_many (d + 1) Q 45 [none, some (.int a1), some (.int a2), some (.long 0), none, some (.int ((a1 / 2) + 1)), none, none, none] [] (0, 0) (i22, l17, dd18, x19) (ab_E0 sc))) ∧ (r12 = 0 → ab_Fr MX12_many (d + 1) Q 26 [some (.ref 205), none, none, none, none, none, none, none, none] [] (0, 0) (i16, l17, dd18, x19) (ab_E0 sc)))))))))) :
    ab_Fr MX12_many (d + 1) Q 0 [some (.ref 205), some (.int a1), some (.int a2), none, none, none, none, none, none] [] (0, 0) (i, l, dd, x) (ab_E0 sc) := by
  refine ab_iloadn dX12_many_0 rfl ?_
  refine ab_iconst (v := 1) dX12_many_1 (by decide) ?_
  refine ab_bipush (v := 11) dX12_many_2 (by decide) ?_
  obtain ⟨r1, P2, hs3, hk4⟩ := h
  refine ab_callS (vs := [.int a1, .int 1, .int 11]) (st := []) dX12_many_4 okMX12_isIn wd_1486 rfl rfl (Nat.le_of_ble_eq_true rfl) ⟨Nat.le_of_ble_eq_true rfl, Nat.le_of_ble_eq_true rfl⟩ hs3 ?_
  rintro v9 ⟨i5, l6, dd7, x8⟩ E9 - ⟨rfl, rfl, hp9⟩
  show ab_Fr MX12_many (d + 1) Q 7 [some (.ref 205), some (.int a1), some (.int a2), none, none, none, none, none, none] [.int r1] (0, 0) (i5, l6, dd7, x8) (ab_E0 sc)
  refine ab_if_eq (tgt := 26) dX12_many_7 (by decide) (fun c10 => ?_) (fun c10 => ?_)
  · refine ab_forget (i := 1) (L2 := [some (.ref 205), none, some (.int a2), none, none, none, none, none, none]) rfl ?_
    refine ab_forget (i := 2) (L2 := [some (.ref 205), none, none, none, none, none, none, none, none]) rfl ?_
    exact ((hk4 i5 l6 dd7 x8 hp9).1 c10)
  · refine ab_iloadn dX12_many_10 rfl ?_
    refine ab_iconst (v := 2) dX12_many_11 (by decide) ?_
    refine ab_irem dX12_many_12 (by decide) ?_
    refine ab_if_eq (tgt := 26) dX12_many_13 (by decide) (fun c11 => ?_) (fun c11 => ?_)
    · refine ab_forget (i := 1) (L2 := [some (.ref 205), none, some (.int a2), none, none, none, none, none, none]) rfl ?_
      refine ab_forget (i := 2) (L2 := [some (.ref 205), none, none, none, none, none, none, none, none]) rfl ?_
      exact (((hk4 i5 l6 dd7 x8 hp9).2 c10).1 c11)
    · refine ab_iloadn dX12_many_16 rfl ?_
      refine ab_iconst (v := 0) dX12_many_17 (by decide) ?_
      refine ab_bipush (v := 20) dX12_many_18 (by decide) ?_
      obtain ⟨r12, P13, hs14, hk15⟩ := (((hk4 i5 l6 dd7 x8 hp9).2 c10).2 c11)
      refine ab_callS (vs := [.int a2, .int 0, .int 20]) (st := []) dX12_many_20 okMX12_isIn wd_1486 rfl rfl (Nat.le_of_ble_eq_true rfl) ⟨Nat.le_of_ble_eq_true rfl, Nat.le_of_ble_eq_true rfl⟩ hs14 ?_
      rintro v9 ⟨i16, l17, dd18, x19⟩ E9 - ⟨rfl, rfl, hp20⟩
      show ab_Fr MX12_many (d + 1) Q 23 [some (.ref 205), some (.int a1), some (.int a2), none, none, none, none, none, none] [.int r12] (0, 0) (i16, l17, dd18, x19) (ab_E0 sc)
      refine ab_if_ne (tgt := 31) dX12_many_23 (by decide) (fun c21 => ?_) (fun c21 => ?_)
      · refine ab_aloadn dX12_many_31 rfl ?_
        refine ab_iconst (v := 0) dX12_many_32 (by decide) ?_
        refine ab_putI dX12_many_33 fl_X12_149 kd_205 rfl ?_
        obtain ⟨i22, e23⟩ : ∃ z, z = ab_u i16 205 0 0 := ⟨_, rfl⟩
        show ab_Fr MX12_many (d + 1) Q 36 [some (.ref 205), some (.int a1), some (.int a2), none, none, none, none, none, none] [] (0, 0) (ab_u i16 205 0 0, l17, dd18, x19) (ab_E0 sc)
        rw [show ab_u i16 205 0 0 = i22 from e23.symm]
        refine ab_lconst (v := 0) dX12_many_36 (by decide) ?_
        refine ab_lstoren dX12_many_37 (Nat.le_of_ble_eq_true rfl) (L2 := [some (.ref 205), some (.int a1), some (.int a2), some (.long 0), none, none, none, none, none]) rfl ?_
        refine ab_iloadn dX12_many_38 rfl ?_
        refine ab_iconst (v := 2) dX12_many_39 (by decide) ?_
        refine ab_idiv dX12_many_40 (by decide) ?_
        refine ab_iconst (v := 1) dX12_many_41 (by decide) ?_
        refine ab_iadd dX12_many_42 ?_
        refine ab_istore dX12_many_43 (Nat.le_of_ble_eq_true rfl) (L2 := [some (.ref 205), some (.int a1), some (.int a2), some (.long 0), none, some (.int ((a1 / 2) + 1)), none, none, none]) rfl ?_
        refine ab_forget (i := 0) (L2 := [none, some (.int a1), some (.int a2), some (.long 0), none, some (.int ((a1 / 2) + 1)), none, none, none]) rfl ?_
        exact (((hk15 i16 l17 dd18 x19 hp20).1 c21) i22 e23)
      · refine ab_forget (i := 1) (L2 := [some (.ref 205), none, some (.int a2), none, none, none, none, none, none]) rfl ?_
        refine ab_forget (i := 2) (L2 := [some (.ref 205), none, none, none, none, none, none, none, none]) rfl ?_
        exact ((hk15 i16 l17 dd18 x19 hp20).2 c21)
theorem tMX12_many_26 {d : Nat} {Q : ab_Qt} {sc : Nat × (Nat → Int32)} {i : Nat → Nat → Int32} {l : Nat → Nat → Int64} {dd : Nat → Nat → Value} {x : Nat}  
    (h : (∃ (r1 : Int64) (P2 : ab_S → Prop), ab_Sp MX12_refuse d [.ref 205] (i, l, dd, x) (ab_E0 sc) (some (.long r1)) P2 ∧ ∀ i5 l6 dd7 x8, P2 (i5, l6, dd7, x8) → Q (some (some (.long r1))) (i5, l6, dd7, x8) (ab_E0 sc))) :
    ab_Fr MX12_many (d + 1) Q 26 [some (.ref 205), none, none, none, none, none, none, none, none] [] (0, 0) (i, l, dd, x) (ab_E0 sc) := by
  refine ab_aloadn dX12_many_26 rfl ?_
  obtain ⟨r1, P2, hs3, hk4⟩ := h
  refine ab_callV (vs := []) (st := []) dX12_many_27 okMX12_refuse wd_1566 kd_205 rfl rfl rfl (Nat.le_of_ble_eq_true rfl) ⟨Nat.le_of_ble_eq_true rfl, Nat.le_of_ble_eq_true rfl⟩ hs3 ?_
  rintro v9 ⟨i5, l6, dd7, x8⟩ E9 - ⟨rfl, rfl, hp9⟩
  show ab_Fr MX12_many (d + 1) Q 30 [some (.ref 205), none, none, none, none, none, none, none, none] [.long r1] (0, 0) (i5, l6, dd7, x8) (ab_E0 sc)
  exact ab_lret dX12_many_30 rfl ⟨Nat.zero_le _, Nat.zero_le _⟩ (hk4 i5 l6 dd7 x8 hp9)
theorem tMX12_many_45 {d : Nat} {Q : ab_Qt} {sc : Nat × (Nat → Int32)} {i : Nat → Nat → Int32} {l : Nat → Nat → Int64} {dd : Nat → Nat → Value} {x : Nat} {a1 : Int32} {a2 : Int32} {a3 : Int64} {a5 : Int32} 
    (h : ((a1 < a5 → Q (some (some (.long a3))) (i, l, dd, x) (ab_E0 sc)) ∧ (¬ a1 < a5 → ab_Fr MX12_many (d + 1) Q 57 [none, some (.int a1), some (.int a2), some (.long a3), none, some (.int a5), some (.long 1), none, some (.int 1)] [] (0, 0) (i, l, dd, x) (ab_E0 sc)))) :
    ab_Fr MX12_many (d + 1) Q 45 [none, some (.int a1), some (.int a2), some (.long a3), none, some (.int a5), none, none, none] [] (0, 0) (i, l, dd, x) (ab_E0 sc) := by
  refine ab_iload dX12_many_45 rfl ?_
  refine ab_iloadn dX12_many_47 rfl ?_
  refine ab_icmp_gt (tgt := 135) dX12_many_48 (by decide) (fun c1 => ?_) (fun c1 => ?_)
  · refine ab_lloadn dX12_many_135 rfl ?_
    exact ab_lret dX12_many_136 rfl ⟨Nat.zero_le _, Nat.zero_le _⟩ (h.1 c1)
  · refine ab_lconst (v := 1) dX12_many_51 (by decide) ?_
    refine ab_lstore dX12_many_52 (Nat.le_of_ble_eq_true rfl) (L2 := [none, some (.int a1), some (.int a2), some (.long a3), none, some (.int a5), some (.long 1), none, none]) rfl ?_
    refine ab_iconst (v := 1) dX12_many_54 (by decide) ?_
    refine ab_istore dX12_many_55 (Nat.le_of_ble_eq_true rfl) (L2 := [none, some (.int a1), some (.int a2), some (.long a3), none, some (.int a5), some (.long 1), none, some (.int 1)]) rfl ?_
    exact (h.2 c1)
theorem tMX12_many_57 {d : Nat} {Q : ab_Qt} {sc : Nat × (Nat → Int32)} {i : Nat → Nat → Int32} {l : Nat → Nat → Int64} {dd : Nat → Nat → Value} {x : Nat} {a1 : Int32} {a2 : Int32} {a3 : Int64} {a5 : Int32} {a6 : Int64} {a8 : Int32} 
    (h : ((a5 < a8 → ab_Fr MX12_many (d + 1) Q 90 [none, some (.int a1), some (.int a2), some (.long a3), none, some (.int a5), some (.long a6), none, some (.int 0)] [] (0, 0) (i, l, dd, x) (ab_E0 sc)) ∧ (¬ a5 < a8 → (¬ a8.toInt64 = 0 ∧ ab_Fr MX12_many (d + 1) Q 57 [none, some (.int a1), some (.int a2), some (.long a3), none, some (.int a5), some (.long ((a6 * ((a1 - a5) + a8).toInt64) / a8.toInt64)), none, some (.int (a8 + 1))] [] (0, 0) (i, l, dd, x) (ab_E0 sc))))) :
    ab_Fr MX12_many (d + 1) Q 57 [none, some (.int a1), some (.int a2), some (.long a3), none, some (.int a5), some (.long a6), none, some (.int a8)] [] (0, 0) (i, l, dd, x) (ab_E0 sc) := by
  refine ab_iload dX12_many_57 rfl ?_
  refine ab_iload dX12_many_59 rfl ?_
  refine ab_icmp_gt (tgt := 87) dX12_many_61 (by decide) (fun c1 => ?_) (fun c1 => ?_)
  · refine ab_iconst (v := 0) dX12_many_87 (by decide) ?_
    refine ab_istore dX12_many_88 (Nat.le_of_ble_eq_true rfl) (L2 := [none, some (.int a1), some (.int a2), some (.long a3), none, some (.int a5), some (.long a6), none, some (.int 0)]) rfl ?_
    exact (h.1 c1)
  · refine ab_lload dX12_many_64 rfl ?_
    refine ab_iloadn dX12_many_66 rfl ?_
    refine ab_iload dX12_many_67 rfl ?_
    refine ab_isub dX12_many_69 ?_
    refine ab_iload dX12_many_70 rfl ?_
    refine ab_iadd dX12_many_72 ?_
    refine ab_i2l dX12_many_73 rfl ?_
    refine ab_lmul dX12_many_74 ?_
    refine ab_iload dX12_many_75 rfl ?_
    refine ab_i2l dX12_many_77 rfl ?_
    refine ab_ldiv dX12_many_78 (h.2 c1).1 ?_
    refine ab_lstore dX12_many_79 (Nat.le_of_ble_eq_true rfl) (L2 := [none, some (.int a1), some (.int a2), some (.long a3), none, some (.int a5), some (.long ((a6 * ((a1 - a5) + a8).toInt64) / a8.toInt64)), none, some (.int a8)]) rfl ?_
    refine ab_iinc (v := (a8 + 1)) dX12_many_81 rfl (by rfl) (Nat.le_of_ble_eq_true rfl) (L2 := [none, some (.int a1), some (.int a2), some (.long a3), none, some (.int a5), some (.long ((a6 * ((a1 - a5) + a8).toInt64) / a8.toInt64)), none, some (.int (a8 + 1))]) rfl ?_
    refine ab_goto (tgt := 57) dX12_many_84 (by decide) ?_
    exact (h.2 c1).2
theorem tMX12_many_90 {d : Nat} {Q : ab_Qt} {sc : Nat × (Nat → Int32)} {i : Nat → Nat → Int32} {l : Nat → Nat → Int64} {dd : Nat → Nat → Value} {x : Nat} {a1 : Int32} {a2 : Int32} {a3 : Int64} {a5 : Int32} {a6 : Int64} {a8 : Int32} 
    (h : ((a1 ≤ a8 → ab_Fr MX12_many (d + 1) Q 45 [none, some (.int a1), some (.int a2), some (.long (a3 + a6)), none, some (.int (a5 + 1)), none, none, none] [] (0, 0) (i, l, dd, x) (ab_E0 sc)) ∧ (¬ a1 ≤ a8 → ((a5 ≤ a8 → ab_Fr MX12_many (d + 1) Q 90 [none, some (.int a1), some (.int a2), some (.long a3), none, some (.int a5), some (.long (a6 * (20 - a2).toInt64)), none, some (.int (a8 + 1))] [] (0, 0) (i, l, dd, x) (ab_E0 sc)) ∧ (¬ a5 ≤ a8 → ab_Fr MX12_many (d + 1) Q 90 [none, some (.int a1), some (.int a2), some (.long a3), none, some (.int a5), some (.long (a6 * a2.toInt64)), none, some (.int (a8 + 1))] [] (0, 0) (i, l, dd, x) (ab_E0 sc)))))) :
    ab_Fr MX12_many (d + 1) Q 90 [none, some (.int a1), some (.int a2), some (.long a3), none, some (.int a5), some (.long a6), none, some (.int a8)] [] (0, 0) (i, l, dd, x) (ab_E0 sc) := by
  refine ab_iload dX12_many_90 rfl ?_
  refine ab_iloadn dX12_many_92 rfl ?_
  refine ab_icmp_ge (tgt := 124) dX12_many_93 (by decide) (fun c1 => ?_) (fun c1 => ?_)
  · refine ab_lloadn dX12_many_124 rfl ?_
    refine ab_lload dX12_many_125 rfl ?_
    refine ab_ladd dX12_many_127 ?_
    refine ab_lstoren dX12_many_128 (Nat.le_of_ble_eq_true rfl) (L2 := [none, some (.int a1), some (.int a2), some (.long (a3 + a6)), none, some (.int a5), some (.long a6), none, some (.int a8)]) rfl ?_
    refine ab_iinc (v := (a5 + 1)) dX12_many_129 rfl (by rfl) (Nat.le_of_ble_eq_true rfl) (L2 := [none, some (.int a1), some (.int a2), some (.long (a3 + a6)), none, some (.int (a5 + 1)), some (.long a6), none, some (.int a8)]) rfl ?_
    refine ab_goto (tgt := 45) dX12_many_132 (by decide) ?_
    refine ab_forget (i := 6) (L2 := [none, some (.int a1), some (.int a2), some (.long (a3 + a6)), none, some (.int (a5 + 1)), none, none, some (.int a8)]) rfl ?_
    refine ab_forget (i := 8) (L2 := [none, some (.int a1), some (.int a2), some (.long (a3 + a6)), none, some (.int (a5 + 1)), none, none, none]) rfl ?_
    exact (h.1 c1)
  · refine ab_lload dX12_many_96 rfl ?_
    refine ab_iload dX12_many_98 rfl ?_
    refine ab_iload dX12_many_100 rfl ?_
    refine ab_icmp_ge (tgt := 110) dX12_many_102 (by decide) (fun c2 => ?_) (fun c2 => ?_)
    · refine ab_bipush (v := 20) dX12_many_110 (by decide) ?_
      refine ab_iloadn dX12_many_112 rfl ?_
      refine ab_isub dX12_many_113 ?_
      refine ab_i2l dX12_many_114 rfl ?_
      refine ab_lmul dX12_many_115 ?_
      refine ab_lstore dX12_many_116 (Nat.le_of_ble_eq_true rfl) (L2 := [none, some (.int a1), some (.int a2), some (.long a3), none, some (.int a5), some (.long (a6 * (20 - a2).toInt64)), none, some (.int a8)]) rfl ?_
      refine ab_iinc (v := (a8 + 1)) dX12_many_118 rfl (by rfl) (Nat.le_of_ble_eq_true rfl) (L2 := [none, some (.int a1), some (.int a2), some (.long a3), none, some (.int a5), some (.long (a6 * (20 - a2).toInt64)), none, some (.int (a8 + 1))]) rfl ?_
      refine ab_goto (tgt := 90) dX12_many_121 (by decide) ?_
      exact ((h.2 c1).1 c2)
    · refine ab_iloadn dX12_many_105 rfl ?_
      refine ab_i2l dX12_many_106 rfl ?_
      refine ab_goto (tgt := 115) dX12_many_107 (by decide) ?_
      refine ab_lmul dX12_many_115 ?_
      refine ab_lstore dX12_many_116 (Nat.le_of_ble_eq_true rfl) (L2 := [none, some (.int a1), some (.int a2), some (.long a3), none, some (.int a5), some (.long (a6 * a2.toInt64)), none, some (.int a8)]) rfl ?_
      refine ab_iinc (v := (a8 + 1)) dX12_many_118 rfl (by rfl) (Nat.le_of_ble_eq_true rfl) (L2 := [none, some (.int a1), some (.int a2), some (.long a3), none, some (.int a5), some (.long (a6 * a2.toInt64)), none, some (.int (a8 + 1))]) rfl ?_
      refine ab_goto (tgt := 90) dX12_many_121 (by decide) ?_
      exact ((h.2 c1).2 c2)
theorem tMX12_run_0 {d : Nat} {Q : ab_Qt} {sc : Nat × (Nat → Int32)} {i : Nat → Nat → Int32} {l : Nat → Nat → Int64} {dd : Nat → Nat → Value} {x : Nat} {a1 : Int32} {a2 : Int32} 
    (h : (∀ i1, i1 = ab_u i 205 0 0 → (((i1 205 30) = 0 → Q (some (some (.int (-1)))) (i1, l, dd, x) (ab_E0 sc)) ∧ (¬ (i1 205 30) = 0 → (∃ (r4 : Int32) (P5 : ab_S → Prop), ab_Sp MX12_isIn d [.int a2, .int 1, .int 1000] (i1, l, dd, x) (ab_E0 sc) (some (.int r4)) P5 ∧ ∀ i8 l9 dd10 x11, P5 (i8, l9, dd10, x11) → ((¬ r4 = 0 → (∀ i14, i14 = ab_u i8 205 69 a1 → ab_Fr MX12_run (d + 1) Q 35 [some (.ref 205), none, some (.int a2), some (.int 0), some (.int 0), none, none, none, none] [] (0, 0) (i14, l9, dd10, x11) (ab_E0 sc))) ∧ (r4 = 0 → Q (some (some (.int (-1)))) (i8, l9, dd10, x11) (ab_E0 sc)))))))) :
    ab_Fr MX12_run (d + 1) Q 0 [some (.ref 205), some (.int a1), some (.int a2), none, none, none, none, none, none] [] (0, 0) (i, l, dd, x) (ab_E0 sc) := by
  refine ab_aloadn dX12_run_0 rfl ?_
  refine ab_iconst (v := 0) dX12_run_1 (by decide) ?_
  refine ab_putI dX12_run_2 fl_X12_149 kd_205 rfl ?_
  obtain ⟨i1, e2⟩ : ∃ z, z = ab_u i 205 0 0 := ⟨_, rfl⟩
  show ab_Fr MX12_run (d + 1) Q 5 [some (.ref 205), some (.int a1), some (.int a2), none, none, none, none, none, none] [] (0, 0) (ab_u i 205 0 0, l, dd, x) (ab_E0 sc)
  rw [show ab_u i 205 0 0 = i1 from e2.symm]
  refine ab_aloadn dX12_run_5 rfl ?_
  refine ab_getf (v := .int (i1 205 30)) dX12_run_6 fl_X12_306 kd_205 rfl ?_
  refine ab_if_eq (tgt := 23) dX12_run_9 (by decide) (fun c3 => ?_) (fun c3 => ?_)
  · refine ab_iconst (v := (-1)) dX12_run_23 (by decide) ?_
    exact ab_iret dX12_run_24 rfl ⟨Nat.zero_le _, Nat.zero_le _⟩ ((h i1 e2).1 c3)
  · refine ab_iloadn dX12_run_12 rfl ?_
    refine ab_iconst (v := 1) dX12_run_13 (by decide) ?_
    refine ab_sipush (v := 1000) dX12_run_14 (by decide) ?_
    obtain ⟨r4, P5, hs6, hk7⟩ := ((h i1 e2).2 c3)
    refine ab_callS (vs := [.int a2, .int 1, .int 1000]) (st := []) dX12_run_17 okMX12_isIn wd_1486 rfl rfl (Nat.le_of_ble_eq_true rfl) ⟨Nat.le_of_ble_eq_true rfl, Nat.le_of_ble_eq_true rfl⟩ hs6 ?_
    rintro v9 ⟨i8, l9, dd10, x11⟩ E9 - ⟨rfl, rfl, hp12⟩
    show ab_Fr MX12_run (d + 1) Q 20 [some (.ref 205), some (.int a1), some (.int a2), none, none, none, none, none, none] [.int r4] (0, 0) (i8, l9, dd10, x11) (ab_E0 sc)
    refine ab_if_ne (tgt := 25) dX12_run_20 (by decide) (fun c13 => ?_) (fun c13 => ?_)
    · refine ab_aloadn dX12_run_25 rfl ?_
      refine ab_iloadn dX12_run_26 rfl ?_
      refine ab_putI dX12_run_27 fl_X12_482 kd_205 rfl ?_
      obtain ⟨i14, e15⟩ : ∃ z, z = ab_u i8 205 69 a1 := ⟨_, rfl⟩
      show ab_Fr MX12_run (d + 1) Q 30 [some (.ref 205), some (.int a1), some (.int a2), none, none, none, none, none, none] [] (0, 0) (ab_u i8 205 69 a1, l9, dd10, x11) (ab_E0 sc)
      rw [show ab_u i8 205 69 a1 = i14 from e15.symm]
      refine ab_iconst (v := 0) dX12_run_30 (by decide) ?_
      refine ab_istoren dX12_run_31 (Nat.le_of_ble_eq_true rfl) (L2 := [some (.ref 205), some (.int a1), some (.int a2), some (.int 0), none, none, none, none, none]) rfl ?_
      refine ab_iconst (v := 0) dX12_run_32 (by decide) ?_
      refine ab_istore dX12_run_33 (Nat.le_of_ble_eq_true rfl) (L2 := [some (.ref 205), some (.int a1), some (.int a2), some (.int 0), some (.int 0), none, none, none, none]) rfl ?_
      refine ab_forget (i := 1) (L2 := [some (.ref 205), none, some (.int a2), some (.int 0), some (.int 0), none, none, none, none]) rfl ?_
      exact (((hk7 i8 l9 dd10 x11 hp12).1 c13) i14 e15)
    · refine ab_iconst (v := (-1)) dX12_run_23 (by decide) ?_
      exact ab_iret dX12_run_24 rfl ⟨Nat.zero_le _, Nat.zero_le _⟩ ((hk7 i8 l9 dd10 x11 hp12).2 c13)
theorem tMX12_run_35 {d : Nat} {Q : ab_Qt} {sc : Nat × (Nat → Int32)} {i : Nat → Nat → Int32} {l : Nat → Nat → Int64} {dd : Nat → Nat → Value} {x : Nat} {a2 : Int32} {a3 : Int32} {a4 : Int32} 
    (h : ((a2 ≤ a4 → Q (some (some (.int a3))) (i, l, dd, x) (ab_E0 sc)) ∧ (¬ a2 ≤ a4 → (∃ (r2 : Int32) (P3 : ab_S → Prop), ab_Sp MX12_draw d [.ref 205] (i, l, dd, x) (ab_E0 sc) (some (.int r2)) P3 ∧ ∀ i6 l7 dd8 x9, P3 (i6, l7, dd8, x9) → ab_Fr MX12_run (d + 1) Q 50 [some (.ref 205), none, some (.int a2), some (.int a3), some (.int a4), some (.int r2), some (.int 0), none, none] [] (0, 0) (i6, l7, dd8, x9) (ab_E0 sc))))) :
    ab_Fr MX12_run (d + 1) Q 35 [some (.ref 205), none, some (.int a2), some (.int a3), some (.int a4), none, none, none, none] [] (0, 0) (i, l, dd, x) (ab_E0 sc) := by
  refine ab_iload dX12_run_35 rfl ?_
  refine ab_iloadn dX12_run_37 rfl ?_
  refine ab_icmp_ge (tgt := 196) dX12_run_38 (by decide) (fun c1 => ?_) (fun c1 => ?_)
  · refine ab_iloadn dX12_run_196 rfl ?_
    exact ab_iret dX12_run_197 rfl ⟨Nat.zero_le _, Nat.zero_le _⟩ (h.1 c1)
  · refine ab_aloadn dX12_run_41 rfl ?_
    obtain ⟨r2, P3, hs4, hk5⟩ := (h.2 c1)
    refine ab_callV (vs := []) (st := []) dX12_run_42 okMX12_draw wd_1806 kd_205 rfl rfl rfl (Nat.le_of_ble_eq_true rfl) ⟨Nat.le_of_ble_eq_true rfl, Nat.le_of_ble_eq_true rfl⟩ hs4 ?_
    rintro v9 ⟨i6, l7, dd8, x9⟩ E9 - ⟨rfl, rfl, hp10⟩
    show ab_Fr MX12_run (d + 1) Q 45 [some (.ref 205), none, some (.int a2), some (.int a3), some (.int a4), none, none, none, none] [.int r2] (0, 0) (i6, l7, dd8, x9) (ab_E0 sc)
    refine ab_istore dX12_run_45 (Nat.le_of_ble_eq_true rfl) (L2 := [some (.ref 205), none, some (.int a2), some (.int a3), some (.int a4), some (.int r2), none, none, none]) rfl ?_
    refine ab_iconst (v := 0) dX12_run_47 (by decide) ?_
    refine ab_istore dX12_run_48 (Nat.le_of_ble_eq_true rfl) (L2 := [some (.ref 205), none, some (.int a2), some (.int a3), some (.int a4), some (.int r2), some (.int 0), none, none]) rfl ?_
    exact (hk5 i6 l7 dd8 x9 hp10)
theorem tMX12_run_50 {d : Nat} {Q : ab_Qt} {sc : Nat × (Nat → Int32)} {i : Nat → Nat → Int32} {l : Nat → Nat → Int64} {dd : Nat → Nat → Value} {x : Nat} {a2 : Int32} {a3 : Int32} {a4 : Int32} {a5 : Int32} {a6 : Int32} 
    (h : (vp_in a6 6 ∧ ((a5 < (i 211 a6.toNatClampNeg) → ab_Fr MX12_run (d + 1) Q 83 [some (.ref 205), none, some (.int a2), some (.int a3), some (.int a4), none, some (.int a6), some (.int 0), none] [] (0, 0) (i, l, dd, x) (ab_E0 sc)) ∧ (¬ a5 < (i 211 a6.toNatClampNeg) → (vp_in a6 6 ∧ ab_Fr MX12_run (d + 1) Q 50 [some (.ref 205), none, some (.int a2), some (.int a3), some (.int a4), some (.int (a5 - (i 211 a6.toNatClampNeg))), some (.int (a6 + 1)), none, none] [] (0, 0) (i, l, dd, x) (ab_E0 sc)))))) :
    ab_Fr MX12_run (d + 1) Q 50 [some (.ref 205), none, some (.int a2), some (.int a3), some (.int a4), some (.int a5), some (.int a6), none, none] [] (0, 0) (i, l, dd, x) (ab_E0 sc) := by
  refine ab_iload dX12_run_50 rfl ?_
  refine ab_aloadn dX12_run_52 rfl ?_
  refine ab_getf (v := .ref 211) dX12_run_53 fl_X12_26 kd_205 ff_205_15 ?_
  refine ab_iload dX12_run_56 rfl ?_
  refine ab_iaload (v := (i 211 a6.toNatClampNeg)) dX12_run_58 kd_211 h.1 rfl ?_
  refine ab_icmp_lt (tgt := 80) dX12_run_59 (by decide) (fun c1 => ?_) (fun c1 => ?_)
  · refine ab_iconst (v := 0) dX12_run_80 (by decide) ?_
    refine ab_istore dX12_run_81 (Nat.le_of_ble_eq_true rfl) (L2 := [some (.ref 205), none, some (.int a2), some (.int a3), some (.int a4), some (.int a5), some (.int a6), some (.int 0), none]) rfl ?_
    refine ab_forget (i := 5) (L2 := [some (.ref 205), none, some (.int a2), some (.int a3), some (.int a4), none, some (.int a6), some (.int 0), none]) rfl ?_
    exact (h.2.1 c1)
  · refine ab_iload dX12_run_62 rfl ?_
    refine ab_aloadn dX12_run_64 rfl ?_
    refine ab_getf (v := .ref 211) dX12_run_65 fl_X12_26 kd_205 ff_205_15 ?_
    refine ab_iload dX12_run_68 rfl ?_
    refine ab_iaload (v := (i 211 a6.toNatClampNeg)) dX12_run_70 kd_211 (h.2.2 c1).1 rfl ?_
    refine ab_isub dX12_run_71 ?_
    refine ab_istore dX12_run_72 (Nat.le_of_ble_eq_true rfl) (L2 := [some (.ref 205), none, some (.int a2), some (.int a3), some (.int a4), some (.int (a5 - (i 211 a6.toNatClampNeg))), some (.int a6), none, none]) rfl ?_
    refine ab_iinc (v := (a6 + 1)) dX12_run_74 rfl (by rfl) (Nat.le_of_ble_eq_true rfl) (L2 := [some (.ref 205), none, some (.int a2), some (.int a3), some (.int a4), some (.int (a5 - (i 211 a6.toNatClampNeg))), some (.int (a6 + 1)), none, none]) rfl ?_
    refine ab_goto (tgt := 50) dX12_run_77 (by decide) ?_
    exact (h.2.2 c1).2
theorem tMX12_run_83 {d : Nat} {Q : ab_Qt} {sc : Nat × (Nat → Int32)} {i : Nat → Nat → Int32} {l : Nat → Nat → Int64} {dd : Nat → Nat → Value} {x : Nat} {a2 : Int32} {a3 : Int32} {a4 : Int32} {a6 : Int32} {a7 : Int32} 
    (h : (((i 205 30) ≤ a7 → (∃ (r2 : Int32) (P3 : ab_S → Prop), ab_Sp MX12_decide d [.ref 205] (i, l, dd, x) (ab_E0 sc) (some (.int r2)) P3 ∧ ∀ i6 l7 dd8 x9, P3 (i6, l7, dd8, x9) → ((¬ r2 = a6 → ab_Fr MX12_run (d + 1) Q 35 [some (.ref 205), none, some (.int a2), some (.int a3), some (.int (a4 + 1)), none, none, none, none] [] (0, 0) (i6, l7, dd8, x9) (ab_E0 sc)) ∧ (r2 = a6 → ab_Fr MX12_run (d + 1) Q 35 [some (.ref 205), none, some (.int a2), some (.int (a3 + 1)), some (.int (a4 + 1)), none, none, none, none] [] (0, 0) (i6, l7, dd8, x9) (ab_E0 sc))))) ∧ (¬ (i 205 30) ≤ a7 → (∃ (r12 : Int32) (P13 : ab_S → Prop), ab_Sp MX12_draw d [.ref 205] (i, l, dd, x) (ab_E0 sc) (some (.int r12)) P13 ∧ ∀ i16 l17 dd18 x19, P13 (i16, l17, dd18, x19) → ab_Fr MX12_run (d + 1) Q 101 [some (.ref 205), none, some (.int a2), some (.int a3), some (.int a4), some (.int r12), some (.int a6), some (.int a7), some (.int 0)] [] (0, 0) (i16, l17, dd18, x19) (ab_E0 sc))))) :
    ab_Fr MX12_run (d + 1) Q 83 [some (.ref 205), none, some (.int a2), some (.int a3), some (.int a4), none, some (.int a6), some (.int a7), none] [] (0, 0) (i, l, dd, x) (ab_E0 sc) := by
  refine ab_iload dX12_run_83 rfl ?_
  refine ab_aloadn dX12_run_85 rfl ?_
  refine ab_getf (v := .int (i 205 30)) dX12_run_86 fl_X12_306 kd_205 rfl ?_
  refine ab_icmp_ge (tgt := 178) dX12_run_89 (by decide) (fun c1 => ?_) (fun c1 => ?_)
  · refine ab_aloadn dX12_run_178 rfl ?_
    obtain ⟨r2, P3, hs4, hk5⟩ := (h.1 c1)
    refine ab_callV (vs := []) (st := []) dX12_run_179 okMX12_decide wd_1587 kd_205 rfl rfl rfl (Nat.le_of_ble_eq_true rfl) ⟨Nat.le_of_ble_eq_true rfl, Nat.le_of_ble_eq_true rfl⟩ hs4 ?_
    rintro v9 ⟨i6, l7, dd8, x9⟩ E9 - ⟨rfl, rfl, hp10⟩
    show ab_Fr MX12_run (d + 1) Q 182 [some (.ref 205), none, some (.int a2), some (.int a3), some (.int a4), none, some (.int a6), some (.int a7), none] [.int r2] (0, 0) (i6, l7, dd8, x9) (ab_E0 sc)
    refine ab_iload dX12_run_182 rfl ?_
    refine ab_icmp_ne (tgt := 190) dX12_run_184 (by decide) (fun c11 => ?_) (fun c11 => ?_)
    · refine ab_iinc (v := (a4 + 1)) dX12_run_190 rfl (by rfl) (Nat.le_of_ble_eq_true rfl) (L2 := [some (.ref 205), none, some (.int a2), some (.int a3), some (.int (a4 + 1)), none, some (.int a6), some (.int a7), none]) rfl ?_
      refine ab_goto (tgt := 35) dX12_run_193 (by decide) ?_
      refine ab_forget (i := 6) (L2 := [some (.ref 205), none, some (.int a2), some (.int a3), some (.int (a4 + 1)), none, none, some (.int a7), none]) rfl ?_
      refine ab_forget (i := 7) (L2 := [some (.ref 205), none, some (.int a2), some (.int a3), some (.int (a4 + 1)), none, none, none, none]) rfl ?_
      exact ((hk5 i6 l7 dd8 x9 hp10).1 c11)
    · refine ab_iinc (v := (a3 + 1)) dX12_run_187 rfl (by rfl) (Nat.le_of_ble_eq_true rfl) (L2 := [some (.ref 205), none, some (.int a2), some (.int (a3 + 1)), some (.int a4), none, some (.int a6), some (.int a7), none]) rfl ?_
      refine ab_iinc (v := (a4 + 1)) dX12_run_190 rfl (by rfl) (Nat.le_of_ble_eq_true rfl) (L2 := [some (.ref 205), none, some (.int a2), some (.int (a3 + 1)), some (.int (a4 + 1)), none, some (.int a6), some (.int a7), none]) rfl ?_
      refine ab_goto (tgt := 35) dX12_run_193 (by decide) ?_
      refine ab_forget (i := 6) (L2 := [some (.ref 205), none, some (.int a2), some (.int (a3 + 1)), some (.int (a4 + 1)), none, none, some (.int a7), none]) rfl ?_
      refine ab_forget (i := 7) (L2 := [some (.ref 205), none, some (.int a2), some (.int (a3 + 1)), some (.int (a4 + 1)), none, none, none, none]) rfl ?_
      exact ((hk5 i6 l7 dd8 x9 hp10).2 c11)
  · refine ab_aloadn dX12_run_92 rfl ?_
    obtain ⟨r12, P13, hs14, hk15⟩ := (h.2 c1)
    refine ab_callV (vs := []) (st := []) dX12_run_93 okMX12_draw wd_1806 kd_205 rfl rfl rfl (Nat.le_of_ble_eq_true rfl) ⟨Nat.le_of_ble_eq_true rfl, Nat.le_of_ble_eq_true rfl⟩ hs14 ?_
    rintro v9 ⟨i16, l17, dd18, x19⟩ E9 - ⟨rfl, rfl, hp20⟩
    show ab_Fr MX12_run (d + 1) Q 96 [some (.ref 205), none, some (.int a2), some (.int a3), some (.int a4), none, some (.int a6), some (.int a7), none] [.int r12] (0, 0) (i16, l17, dd18, x19) (ab_E0 sc)
    refine ab_istore dX12_run_96 (Nat.le_of_ble_eq_true rfl) (L2 := [some (.ref 205), none, some (.int a2), some (.int a3), some (.int a4), some (.int r12), some (.int a6), some (.int a7), none]) rfl ?_
    refine ab_iconst (v := 0) dX12_run_98 (by decide) ?_
    refine ab_istore dX12_run_99 (Nat.le_of_ble_eq_true rfl) (L2 := [some (.ref 205), none, some (.int a2), some (.int a3), some (.int a4), some (.int r12), some (.int a6), some (.int a7), some (.int 0)]) rfl ?_
    exact (hk15 i16 l17 dd18 x19 hp20)
theorem tMX12_run_101 {d : Nat} {Q : ab_Qt} {sc : Nat × (Nat → Int32)} {i : Nat → Nat → Int32} {l : Nat → Nat → Int64} {dd : Nat → Nat → Value} {x : Nat} {a2 : Int32} {a3 : Int32} {a4 : Int32} {a5 : Int32} {a6 : Int32} {a7 : Int32} {a8 : Int32} 
    (h : (vp_in (((9 * a7) + (3 * a8)) + a6) 126 ∧ ((a5 < (i 213 (((9 * a7) + (3 * a8)) + a6).toNatClampNeg) → (vp_in ((3 * a7) + a8) 42 ∧ vp_in a7 7 ∧ ∀ i2, i2 = ab_u i 226 a7.toNatClampNeg (i 225 ((3 * a7) + a8).toNatClampNeg) → ab_Fr MX12_run (d + 1) Q 83 [some (.ref 205), none, some (.int a2), some (.int a3), some (.int a4), none, some (.int a6), some (.int (a7 + 1)), none] [] (0, 0) (i2, l, dd, x) (ab_E0 sc))) ∧ (¬ a5 < (i 213 (((9 * a7) + (3 * a8)) + a6).toNatClampNeg) → (vp_in (((9 * a7) + (3 * a8)) + a6) 126 ∧ ab_Fr MX12_run (d + 1) Q 101 [some (.ref 205), none, some (.int a2), some (.int a3), some (.int a4), some (.int (a5 - (i 213 (((9 * a7) + (3 * a8)) + a6).toNatClampNeg))), some (.int a6), some (.int a7), some (.int (a8 + 1))] [] (0, 0) (i, l, dd, x) (ab_E0 sc)))))) :
    ab_Fr MX12_run (d + 1) Q 101 [some (.ref 205), none, some (.int a2), some (.int a3), some (.int a4), some (.int a5), some (.int a6), some (.int a7), some (.int a8)] [] (0, 0) (i, l, dd, x) (ab_E0 sc) := by
  refine ab_iload dX12_run_101 rfl ?_
  refine ab_aloadn dX12_run_103 rfl ?_
  refine ab_getf (v := .ref 213) dX12_run_104 fl_X12_32 kd_205 ff_205_17 ?_
  refine ab_bipush (v := 9) dX12_run_107 (by decide) ?_
  refine ab_iload dX12_run_109 rfl ?_
  refine ab_imul dX12_run_111 ?_
  refine ab_iconst (v := 3) dX12_run_112 (by decide) ?_
  refine ab_iload dX12_run_113 rfl ?_
  refine ab_imul dX12_run_115 ?_
  refine ab_iadd dX12_run_116 ?_
  refine ab_iload dX12_run_117 rfl ?_
  refine ab_iadd dX12_run_119 ?_
  refine ab_iaload (v := (i 213 (((9 * a7) + (3 * a8)) + a6).toNatClampNeg)) dX12_run_120 kd_213 h.1 rfl ?_
  refine ab_icmp_lt (tgt := 153) dX12_run_121 (by decide) (fun c1 => ?_) (fun c1 => ?_)
  · refine ab_aloadn dX12_run_153 rfl ?_
    refine ab_getf (v := .ref 226) dX12_run_154 fl_X12_71 kd_205 ff_205_35 ?_
    refine ab_iload dX12_run_157 rfl ?_
    refine ab_aloadn dX12_run_159 rfl ?_
    refine ab_getf (v := .ref 225) dX12_run_160 fl_X12_68 kd_205 ff_205_34 ?_
    refine ab_iconst (v := 3) dX12_run_163 (by decide) ?_
    refine ab_iload dX12_run_164 rfl ?_
    refine ab_imul dX12_run_166 ?_
    refine ab_iload dX12_run_167 rfl ?_
    refine ab_iadd dX12_run_169 ?_
    refine ab_iaload (v := (i 225 ((3 * a7) + a8).toNatClampNeg)) dX12_run_170 kd_225 (h.2.1 c1).1 rfl ?_
    refine ab_iastore dX12_run_171 kd_226 (h.2.1 c1).2.1 ?_
    obtain ⟨i2, e3⟩ : ∃ z, z = ab_u i 226 a7.toNatClampNeg (i 225 ((3 * a7) + a8).toNatClampNeg) := ⟨_, rfl⟩
    rw [show ab_u i 226 a7.toNatClampNeg (i 225 ((3 * a7) + a8).toNatClampNeg) = i2 from e3.symm]
    refine ab_iinc (v := (a7 + 1)) dX12_run_172 rfl (by rfl) (Nat.le_of_ble_eq_true rfl) (L2 := [some (.ref 205), none, some (.int a2), some (.int a3), some (.int a4), some (.int a5), some (.int a6), some (.int (a7 + 1)), some (.int a8)]) rfl ?_
    refine ab_goto (tgt := 83) dX12_run_175 (by decide) ?_
    refine ab_forget (i := 5) (L2 := [some (.ref 205), none, some (.int a2), some (.int a3), some (.int a4), none, some (.int a6), some (.int (a7 + 1)), some (.int a8)]) rfl ?_
    refine ab_forget (i := 8) (L2 := [some (.ref 205), none, some (.int a2), some (.int a3), some (.int a4), none, some (.int a6), some (.int (a7 + 1)), none]) rfl ?_
    exact ((h.2.1 c1).2.2 i2 e3)
  · refine ab_iload dX12_run_124 rfl ?_
    refine ab_aloadn dX12_run_126 rfl ?_
    refine ab_getf (v := .ref 213) dX12_run_127 fl_X12_32 kd_205 ff_205_17 ?_
    refine ab_bipush (v := 9) dX12_run_130 (by decide) ?_
    refine ab_iload dX12_run_132 rfl ?_
    refine ab_imul dX12_run_134 ?_
    refine ab_iconst (v := 3) dX12_run_135 (by decide) ?_
    refine ab_iload dX12_run_136 rfl ?_
    refine ab_imul dX12_run_138 ?_
    refine ab_iadd dX12_run_139 ?_
    refine ab_iload dX12_run_140 rfl ?_
    refine ab_iadd dX12_run_142 ?_
    refine ab_iaload (v := (i 213 (((9 * a7) + (3 * a8)) + a6).toNatClampNeg)) dX12_run_143 kd_213 (h.2.2 c1).1 rfl ?_
    refine ab_isub dX12_run_144 ?_
    refine ab_istore dX12_run_145 (Nat.le_of_ble_eq_true rfl) (L2 := [some (.ref 205), none, some (.int a2), some (.int a3), some (.int a4), some (.int (a5 - (i 213 (((9 * a7) + (3 * a8)) + a6).toNatClampNeg))), some (.int a6), some (.int a7), some (.int a8)]) rfl ?_
    refine ab_iinc (v := (a8 + 1)) dX12_run_147 rfl (by rfl) (Nat.le_of_ble_eq_true rfl) (L2 := [some (.ref 205), none, some (.int a2), some (.int a3), some (.int a4), some (.int (a5 - (i 213 (((9 * a7) + (3 * a8)) + a6).toNatClampNeg))), some (.int a6), some (.int a7), some (.int (a8 + 1))]) rfl ?_
    refine ab_goto (tgt := 101) dX12_run_150 (by decide) ?_
    exact (h.2.2 c1).2
theorem tMX12_draw_0 {d : Nat} {Q : ab_Qt} {sc : Nat × (Nat → Int32)} {i : Nat → Nat → Int32} {l : Nat → Nat → Int64} {dd : Nat → Nat → Value} {x : Nat}  
    (h : (∀ i1, i1 = ab_u i 205 69 (((i 205 69) * 1103515245) + 12345) → Q (some (some (.int ((ab_ushr (i1 205 69) 8) - (ab_ushr (i1 205 69) 8) / 20 * 20)))) (i1, l, dd, x) (ab_E0 sc))) :
    ab_Fr MX12_draw (d + 1) Q 0 [some (.ref 205)] [] (0, 0) (i, l, dd, x) (ab_E0 sc) := by
  refine ab_aloadn dX12_draw_0 rfl ?_
  refine ab_aloadn dX12_draw_1 rfl ?_
  refine ab_getf (v := .int (i 205 69)) dX12_draw_2 fl_X12_482 kd_205 rfl ?_
  refine ab_ldcw dX12_draw_5 wd_1809 ?_
  refine ab_imul dX12_draw_8 ?_
  refine ab_sipush (v := 12345) dX12_draw_9 (by decide) ?_
  refine ab_iadd dX12_draw_12 ?_
  refine ab_putI dX12_draw_13 fl_X12_482 kd_205 rfl ?_
  obtain ⟨i1, e2⟩ : ∃ z, z = ab_u i 205 69 (((i 205 69) * 1103515245) + 12345) := ⟨_, rfl⟩
  show ab_Fr MX12_draw (d + 1) Q 16 [some (.ref 205)] [] (0, 0) (ab_u i 205 69 (((i 205 69) * 1103515245) + 12345), l, dd, x) (ab_E0 sc)
  rw [show ab_u i 205 69 (((i 205 69) * 1103515245) + 12345) = i1 from e2.symm]
  refine ab_aloadn dX12_draw_16 rfl ?_
  refine ab_getf (v := .int (i1 205 69)) dX12_draw_17 fl_X12_482 kd_205 rfl ?_
  refine ab_bipush (v := 8) dX12_draw_20 (by decide) ?_
  refine ab_iushr (v := (ab_ushr (i1 205 69) 8)) dX12_draw_22 rfl ?_
  refine ab_bipush (v := 20) dX12_draw_23 (by decide) ?_
  refine ab_irem dX12_draw_25 (by decide) ?_
  exact ab_iret dX12_draw_26 rfl ⟨Nat.zero_le _, Nat.zero_le _⟩ (h i1 e2)
