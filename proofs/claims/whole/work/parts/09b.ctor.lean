set_option maxRecDepth 100000 in
theorem kI_1 {d : Nat} {sc : Nat × (Nat → Int32)} : ab_Call MX7_init (d + 1) [.ref 4] cS_2 (cE_2 sc) (fun v σ E => v = none ∧ σ = cS_3 ∧ E = cE_4 sc) := by
  refine ab_enter (n := 0) okMX7_init (fun G => Nat.le_of_ble_eq_true rfl) ?_
  show ab_Fr MX7_init (d + 1) _ 0 [some (.ref 4)] [] (0, 0) cS_2 (cE_2 sc)
  refine ab_aloadn dX7_init_0 rfl ?_
  refine ab_oinit dX7_init_1 wd_169 wd_162 wd_163 (Nat.le_of_ble_eq_true rfl) ?_
  refine ab_aloadn dX7_init_4 rfl ?_
  refine ab_sipush (v := 740) dX7_init_5 (by decide) ?_
  refine ab_newArr (t := 0) (n := 740) (ty := .int) (E2 := cE_3 sc) (σ2 := cS_3) dX7_init_8 rfl (Or.inl ⟨rfl, rfl⟩) wd_180 rfl (by decide) (by decide) (Nat.le_of_ble_eq_true rfl) ⟨Nat.le_of_ble_eq_true rfl, Nat.le_of_ble_eq_true rfl⟩ rfl rfl ?_
  show ab_Fr MX7_init (d + 1) _ 10 [some (.ref 4)] [.ref 5, .ref 4] (1, 740) cS_3 (cE_3 sc)
  refine ab_putF (E2 := cE_4 sc) dX7_init_10 fl_X7_11 (fun C T N ty h9 => by have h8 := h9.1; cases h8; rfl) rfl rfl rfl rfl ?_
  show ab_Fr MX7_init (d + 1) _ 13 [some (.ref 4)] [] (1, 740) cS_3 (cE_4 sc)
  exact ab_vret dX7_init_13 rfl ⟨Nat.le_of_ble_eq_true rfl, Nat.le_of_ble_eq_true rfl⟩ ⟨none, rfl, rfl, rfl, rfl⟩
set_option maxRecDepth 100000 in
theorem kI_2 {d : Nat} {sc : Nat × (Nat → Int32)} : ab_Call MX0_init (d + 1) [.ref 9] cS_8 (cE_11 sc) (fun v σ E => v = none ∧ σ = cS_9 ∧ E = cE_13 sc) := by
  refine ab_enter (n := 0) okMX0_init (fun G => Nat.le_of_ble_eq_true rfl) ?_
  show ab_Fr MX0_init (d + 1) _ 0 [some (.ref 9)] [] (0, 0) cS_8 (cE_11 sc)
  refine ab_aloadn dX0_init_0 rfl ?_
  refine ab_oinit dX0_init_1 wd_192 wd_162 wd_163 (Nat.le_of_ble_eq_true rfl) ?_
  refine ab_aloadn dX0_init_4 rfl ?_
  refine ab_bipush (v := 9) dX0_init_5 (by decide) ?_
  refine ab_newArr (t := 0) (n := 9) (ty := .int) (E2 := cE_12 sc) (σ2 := cS_9) dX0_init_7 rfl (Or.inl ⟨rfl, rfl⟩) wd_180 rfl (by decide) (by decide) (Nat.le_of_ble_eq_true rfl) ⟨Nat.le_of_ble_eq_true rfl, Nat.le_of_ble_eq_true rfl⟩ rfl rfl ?_
  show ab_Fr MX0_init (d + 1) _ 9 [some (.ref 9)] [.ref 10, .ref 9] (1, 9) cS_9 (cE_12 sc)
  refine ab_putF (E2 := cE_13 sc) dX0_init_9 fl_X0_9 (fun C T N ty h9 => by have h8 := h9.1; cases h8; rfl) rfl rfl rfl rfl ?_
  show ab_Fr MX0_init (d + 1) _ 12 [some (.ref 9)] [] (1, 9) cS_9 (cE_13 sc)
  exact ab_vret dX0_init_12 rfl ⟨Nat.le_of_ble_eq_true rfl, Nat.le_of_ble_eq_true rfl⟩ ⟨none, rfl, rfl, rfl, rfl⟩
set_option maxRecDepth 100000 in
theorem kI_3 {d : Nat} {sc : Nat × (Nat → Int32)} : ab_Call MX0_init (d + 1) [.ref 15] cS_14 (cE_22 sc) (fun v σ E => v = none ∧ σ = cS_15 ∧ E = cE_24 sc) := by
  refine ab_enter (n := 0) okMX0_init (fun G => Nat.le_of_ble_eq_true rfl) ?_
  show ab_Fr MX0_init (d + 1) _ 0 [some (.ref 15)] [] (0, 0) cS_14 (cE_22 sc)
  refine ab_aloadn dX0_init_0 rfl ?_
  refine ab_oinit dX0_init_1 wd_192 wd_162 wd_163 (Nat.le_of_ble_eq_true rfl) ?_
  refine ab_aloadn dX0_init_4 rfl ?_
  refine ab_bipush (v := 9) dX0_init_5 (by decide) ?_
  refine ab_newArr (t := 0) (n := 9) (ty := .int) (E2 := cE_23 sc) (σ2 := cS_15) dX0_init_7 rfl (Or.inl ⟨rfl, rfl⟩) wd_180 rfl (by decide) (by decide) (Nat.le_of_ble_eq_true rfl) ⟨Nat.le_of_ble_eq_true rfl, Nat.le_of_ble_eq_true rfl⟩ rfl rfl ?_
  show ab_Fr MX0_init (d + 1) _ 9 [some (.ref 15)] [.ref 16, .ref 15] (1, 9) cS_15 (cE_23 sc)
  refine ab_putF (E2 := cE_24 sc) dX0_init_9 fl_X0_9 (fun C T N ty h9 => by have h8 := h9.1; cases h8; rfl) rfl rfl rfl rfl ?_
  show ab_Fr MX0_init (d + 1) _ 12 [some (.ref 15)] [] (1, 9) cS_15 (cE_24 sc)
  exact ab_vret dX0_init_12 rfl ⟨Nat.le_of_ble_eq_true rfl, Nat.le_of_ble_eq_true rfl⟩ ⟨none, rfl, rfl, rfl, rfl⟩
set_option maxRecDepth 100000 in
theorem kI_4 {d : Nat} {sc : Nat × (Nat → Int32)} : ab_Call MX9_init (d + 2) [.ref 12] cS_11 (cE_17 sc) (fun v σ E => v = none ∧ σ = cS_16 ∧ E = cE_27 sc) := by
  refine ab_enter (n := 0) okMX9_init (fun G => Nat.le_of_ble_eq_true rfl) ?_
  show ab_Fr MX9_init (d + 2) _ 0 [some (.ref 12)] [] (0, 0) cS_11 (cE_17 sc)
  refine ab_aloadn dX9_init_0 rfl ?_
  refine ab_oinit dX9_init_1 wd_203 wd_162 wd_163 (Nat.le_of_ble_eq_true rfl) ?_
  refine ab_aloadn dX9_init_4 rfl ?_
  refine ab_bipush (v := 9) dX9_init_5 (by decide) ?_
  refine ab_newArr (t := 0) (n := 9) (ty := .int) (E2 := cE_18 sc) (σ2 := cS_12) dX9_init_7 rfl (Or.inl ⟨rfl, rfl⟩) wd_180 rfl (by decide) (by decide) (Nat.le_of_ble_eq_true rfl) ⟨Nat.le_of_ble_eq_true rfl, Nat.le_of_ble_eq_true rfl⟩ rfl rfl ?_
  show ab_Fr MX9_init (d + 2) _ 9 [some (.ref 12)] [.ref 13, .ref 12] (1, 9) cS_12 (cE_18 sc)
  refine ab_putF (E2 := cE_19 sc) dX9_init_9 fl_X9_9 (fun C T N ty h9 => by have h8 := h9.1; cases h8; rfl) rfl rfl rfl rfl ?_
  show ab_Fr MX9_init (d + 2) _ 12 [some (.ref 12)] [] (1, 9) cS_12 (cE_19 sc)
  refine ab_aloadn dX9_init_12 rfl ?_
  refine ab_bipush (v := 9) dX9_init_13 (by decide) ?_
  refine ab_newArr (t := 0) (n := 9) (ty := .int) (E2 := cE_20 sc) (σ2 := cS_13) dX9_init_15 rfl (Or.inl ⟨rfl, rfl⟩) wd_180 rfl (by decide) (by decide) (Nat.le_of_ble_eq_true rfl) ⟨Nat.le_of_ble_eq_true rfl, Nat.le_of_ble_eq_true rfl⟩ rfl rfl ?_
  show ab_Fr MX9_init (d + 2) _ 17 [some (.ref 12)] [.ref 14, .ref 12] (2, 18) cS_13 (cE_20 sc)
  refine ab_putF (E2 := cE_21 sc) dX9_init_17 fl_X9_15 (fun C T N ty h9 => by have h8 := h9.1; cases h8; rfl) rfl rfl rfl rfl ?_
  show ab_Fr MX9_init (d + 2) _ 20 [some (.ref 12)] [] (2, 18) cS_13 (cE_21 sc)
  refine ab_aloadn dX9_init_20 rfl ?_
  refine ab_new (E2 := cE_22 sc) (σ2 := cS_14) dX9_init_21 ck_0 wd_204 wd_188 wd_141 rfl ⟨Nat.le_of_ble_eq_true rfl, Nat.le_of_ble_eq_true rfl⟩ rfl rfl ?_
  show ab_Fr MX9_init (d + 2) _ 24 [some (.ref 12)] [.ref 15, .ref 12] (3, 19) cS_14 (cE_22 sc)
  refine ab_dup dX9_init_24 rfl ?_
  refine ab_callI (vs := []) (st := [.ref 15, .ref 12]) dX9_init_25 okMX0_init rfl rfl wd_190 wd_205 rfl rfl (Nat.le_of_ble_eq_true rfl) ⟨Nat.le_of_ble_eq_true rfl, Nat.le_of_ble_eq_true rfl⟩ (kI_3 (d := d + 0)) ?_
  rintro v9 σ9 E9 - ⟨rfl, rfl, rfl⟩
  show ab_Fr MX9_init (d + 2) _ 28 [some (.ref 12)] [.ref 15, .ref 12] (4, 28) cS_15 (cE_24 sc)
  refine ab_putF (E2 := cE_25 sc) dX9_init_28 fl_X9_21 (fun C T N ty h9 => by have h8 := h9.1; cases h8; rfl) rfl rfl rfl rfl ?_
  show ab_Fr MX9_init (d + 2) _ 31 [some (.ref 12)] [] (4, 28) cS_15 (cE_25 sc)
  refine ab_aloadn dX9_init_31 rfl ?_
  refine ab_iconst (v := 3) dX9_init_32 (by decide) ?_
  refine ab_newArr (t := 0) (n := 3) (ty := .int) (E2 := cE_26 sc) (σ2 := cS_16) dX9_init_33 rfl (Or.inl ⟨rfl, rfl⟩) wd_180 rfl (by decide) (by decide) (Nat.le_of_ble_eq_true rfl) ⟨Nat.le_of_ble_eq_true rfl, Nat.le_of_ble_eq_true rfl⟩ rfl rfl ?_
  show ab_Fr MX9_init (d + 2) _ 35 [some (.ref 12)] [.ref 17, .ref 12] (5, 31) cS_16 (cE_26 sc)
  refine ab_putF (E2 := cE_27 sc) dX9_init_35 fl_X9_25 (fun C T N ty h9 => by have h8 := h9.1; cases h8; rfl) rfl rfl rfl rfl ?_
  show ab_Fr MX9_init (d + 2) _ 38 [some (.ref 12)] [] (5, 31) cS_16 (cE_27 sc)
  exact ab_vret dX9_init_38 rfl ⟨Nat.le_of_ble_eq_true rfl, Nat.le_of_ble_eq_true rfl⟩ ⟨none, rfl, rfl, rfl, rfl⟩
set_option maxRecDepth 100000 in
theorem kI_5 {d : Nat} {sc : Nat × (Nat → Int32)} : ab_Call MX0_init (d + 1) [.ref 21] cS_20 (cE_34 sc) (fun v σ E => v = none ∧ σ = cS_21 ∧ E = cE_36 sc) := by
  refine ab_enter (n := 0) okMX0_init (fun G => Nat.le_of_ble_eq_true rfl) ?_
  show ab_Fr MX0_init (d + 1) _ 0 [some (.ref 21)] [] (0, 0) cS_20 (cE_34 sc)
  refine ab_aloadn dX0_init_0 rfl ?_
  refine ab_oinit dX0_init_1 wd_192 wd_162 wd_163 (Nat.le_of_ble_eq_true rfl) ?_
  refine ab_aloadn dX0_init_4 rfl ?_
  refine ab_bipush (v := 9) dX0_init_5 (by decide) ?_
  refine ab_newArr (t := 0) (n := 9) (ty := .int) (E2 := cE_35 sc) (σ2 := cS_21) dX0_init_7 rfl (Or.inl ⟨rfl, rfl⟩) wd_180 rfl (by decide) (by decide) (Nat.le_of_ble_eq_true rfl) ⟨Nat.le_of_ble_eq_true rfl, Nat.le_of_ble_eq_true rfl⟩ rfl rfl ?_
  show ab_Fr MX0_init (d + 1) _ 9 [some (.ref 21)] [.ref 22, .ref 21] (1, 9) cS_21 (cE_35 sc)
  refine ab_putF (E2 := cE_36 sc) dX0_init_9 fl_X0_9 (fun C T N ty h9 => by have h8 := h9.1; cases h8; rfl) rfl rfl rfl rfl ?_
  show ab_Fr MX0_init (d + 1) _ 12 [some (.ref 21)] [] (1, 9) cS_21 (cE_36 sc)
  exact ab_vret dX0_init_12 rfl ⟨Nat.le_of_ble_eq_true rfl, Nat.le_of_ble_eq_true rfl⟩ ⟨none, rfl, rfl, rfl, rfl⟩
set_option maxRecDepth 100000 in
theorem kI_6 {d : Nat} {sc : Nat × (Nat → Int32)} : ab_Call MX9_init (d + 2) [.ref 18] cS_17 (cE_29 sc) (fun v σ E => v = none ∧ σ = cS_22 ∧ E = cE_39 sc) := by
  refine ab_enter (n := 0) okMX9_init (fun G => Nat.le_of_ble_eq_true rfl) ?_
  show ab_Fr MX9_init (d + 2) _ 0 [some (.ref 18)] [] (0, 0) cS_17 (cE_29 sc)
  refine ab_aloadn dX9_init_0 rfl ?_
  refine ab_oinit dX9_init_1 wd_203 wd_162 wd_163 (Nat.le_of_ble_eq_true rfl) ?_
  refine ab_aloadn dX9_init_4 rfl ?_
  refine ab_bipush (v := 9) dX9_init_5 (by decide) ?_
  refine ab_newArr (t := 0) (n := 9) (ty := .int) (E2 := cE_30 sc) (σ2 := cS_18) dX9_init_7 rfl (Or.inl ⟨rfl, rfl⟩) wd_180 rfl (by decide) (by decide) (Nat.le_of_ble_eq_true rfl) ⟨Nat.le_of_ble_eq_true rfl, Nat.le_of_ble_eq_true rfl⟩ rfl rfl ?_
  show ab_Fr MX9_init (d + 2) _ 9 [some (.ref 18)] [.ref 19, .ref 18] (1, 9) cS_18 (cE_30 sc)
  refine ab_putF (E2 := cE_31 sc) dX9_init_9 fl_X9_9 (fun C T N ty h9 => by have h8 := h9.1; cases h8; rfl) rfl rfl rfl rfl ?_
  show ab_Fr MX9_init (d + 2) _ 12 [some (.ref 18)] [] (1, 9) cS_18 (cE_31 sc)
  refine ab_aloadn dX9_init_12 rfl ?_
  refine ab_bipush (v := 9) dX9_init_13 (by decide) ?_
  refine ab_newArr (t := 0) (n := 9) (ty := .int) (E2 := cE_32 sc) (σ2 := cS_19) dX9_init_15 rfl (Or.inl ⟨rfl, rfl⟩) wd_180 rfl (by decide) (by decide) (Nat.le_of_ble_eq_true rfl) ⟨Nat.le_of_ble_eq_true rfl, Nat.le_of_ble_eq_true rfl⟩ rfl rfl ?_
  show ab_Fr MX9_init (d + 2) _ 17 [some (.ref 18)] [.ref 20, .ref 18] (2, 18) cS_19 (cE_32 sc)
  refine ab_putF (E2 := cE_33 sc) dX9_init_17 fl_X9_15 (fun C T N ty h9 => by have h8 := h9.1; cases h8; rfl) rfl rfl rfl rfl ?_
  show ab_Fr MX9_init (d + 2) _ 20 [some (.ref 18)] [] (2, 18) cS_19 (cE_33 sc)
  refine ab_aloadn dX9_init_20 rfl ?_
  refine ab_new (E2 := cE_34 sc) (σ2 := cS_20) dX9_init_21 ck_0 wd_204 wd_188 wd_141 rfl ⟨Nat.le_of_ble_eq_true rfl, Nat.le_of_ble_eq_true rfl⟩ rfl rfl ?_
  show ab_Fr MX9_init (d + 2) _ 24 [some (.ref 18)] [.ref 21, .ref 18] (3, 19) cS_20 (cE_34 sc)
  refine ab_dup dX9_init_24 rfl ?_
  refine ab_callI (vs := []) (st := [.ref 21, .ref 18]) dX9_init_25 okMX0_init rfl rfl wd_190 wd_205 rfl rfl (Nat.le_of_ble_eq_true rfl) ⟨Nat.le_of_ble_eq_true rfl, Nat.le_of_ble_eq_true rfl⟩ (kI_5 (d := d + 0)) ?_
  rintro v9 σ9 E9 - ⟨rfl, rfl, rfl⟩
  show ab_Fr MX9_init (d + 2) _ 28 [some (.ref 18)] [.ref 21, .ref 18] (4, 28) cS_21 (cE_36 sc)
  refine ab_putF (E2 := cE_37 sc) dX9_init_28 fl_X9_21 (fun C T N ty h9 => by have h8 := h9.1; cases h8; rfl) rfl rfl rfl rfl ?_
  show ab_Fr MX9_init (d + 2) _ 31 [some (.ref 18)] [] (4, 28) cS_21 (cE_37 sc)
  refine ab_aloadn dX9_init_31 rfl ?_
  refine ab_iconst (v := 3) dX9_init_32 (by decide) ?_
  refine ab_newArr (t := 0) (n := 3) (ty := .int) (E2 := cE_38 sc) (σ2 := cS_22) dX9_init_33 rfl (Or.inl ⟨rfl, rfl⟩) wd_180 rfl (by decide) (by decide) (Nat.le_of_ble_eq_true rfl) ⟨Nat.le_of_ble_eq_true rfl, Nat.le_of_ble_eq_true rfl⟩ rfl rfl ?_
  show ab_Fr MX9_init (d + 2) _ 35 [some (.ref 18)] [.ref 23, .ref 18] (5, 31) cS_22 (cE_38 sc)
  refine ab_putF (E2 := cE_39 sc) dX9_init_35 fl_X9_25 (fun C T N ty h9 => by have h8 := h9.1; cases h8; rfl) rfl rfl rfl rfl ?_
  show ab_Fr MX9_init (d + 2) _ 38 [some (.ref 18)] [] (5, 31) cS_22 (cE_39 sc)
  exact ab_vret dX9_init_38 rfl ⟨Nat.le_of_ble_eq_true rfl, Nat.le_of_ble_eq_true rfl⟩ ⟨none, rfl, rfl, rfl, rfl⟩
set_option maxRecDepth 100000 in
theorem kI_7 {d : Nat} {sc : Nat × (Nat → Int32)} : ab_Call MX0_init (d + 1) [.ref 27] cS_26 (cE_46 sc) (fun v σ E => v = none ∧ σ = cS_27 ∧ E = cE_48 sc) := by
  refine ab_enter (n := 0) okMX0_init (fun G => Nat.le_of_ble_eq_true rfl) ?_
  show ab_Fr MX0_init (d + 1) _ 0 [some (.ref 27)] [] (0, 0) cS_26 (cE_46 sc)
  refine ab_aloadn dX0_init_0 rfl ?_
  refine ab_oinit dX0_init_1 wd_192 wd_162 wd_163 (Nat.le_of_ble_eq_true rfl) ?_
  refine ab_aloadn dX0_init_4 rfl ?_
  refine ab_bipush (v := 9) dX0_init_5 (by decide) ?_
  refine ab_newArr (t := 0) (n := 9) (ty := .int) (E2 := cE_47 sc) (σ2 := cS_27) dX0_init_7 rfl (Or.inl ⟨rfl, rfl⟩) wd_180 rfl (by decide) (by decide) (Nat.le_of_ble_eq_true rfl) ⟨Nat.le_of_ble_eq_true rfl, Nat.le_of_ble_eq_true rfl⟩ rfl rfl ?_
  show ab_Fr MX0_init (d + 1) _ 9 [some (.ref 27)] [.ref 28, .ref 27] (1, 9) cS_27 (cE_47 sc)
  refine ab_putF (E2 := cE_48 sc) dX0_init_9 fl_X0_9 (fun C T N ty h9 => by have h8 := h9.1; cases h8; rfl) rfl rfl rfl rfl ?_
  show ab_Fr MX0_init (d + 1) _ 12 [some (.ref 27)] [] (1, 9) cS_27 (cE_48 sc)
  exact ab_vret dX0_init_12 rfl ⟨Nat.le_of_ble_eq_true rfl, Nat.le_of_ble_eq_true rfl⟩ ⟨none, rfl, rfl, rfl, rfl⟩
set_option maxRecDepth 100000 in
theorem kI_8 {d : Nat} {sc : Nat × (Nat → Int32)} : ab_Call MX9_init (d + 2) [.ref 24] cS_23 (cE_41 sc) (fun v σ E => v = none ∧ σ = cS_28 ∧ E = cE_51 sc) := by
  refine ab_enter (n := 0) okMX9_init (fun G => Nat.le_of_ble_eq_true rfl) ?_
  show ab_Fr MX9_init (d + 2) _ 0 [some (.ref 24)] [] (0, 0) cS_23 (cE_41 sc)
  refine ab_aloadn dX9_init_0 rfl ?_
  refine ab_oinit dX9_init_1 wd_203 wd_162 wd_163 (Nat.le_of_ble_eq_true rfl) ?_
  refine ab_aloadn dX9_init_4 rfl ?_
  refine ab_bipush (v := 9) dX9_init_5 (by decide) ?_
  refine ab_newArr (t := 0) (n := 9) (ty := .int) (E2 := cE_42 sc) (σ2 := cS_24) dX9_init_7 rfl (Or.inl ⟨rfl, rfl⟩) wd_180 rfl (by decide) (by decide) (Nat.le_of_ble_eq_true rfl) ⟨Nat.le_of_ble_eq_true rfl, Nat.le_of_ble_eq_true rfl⟩ rfl rfl ?_
  show ab_Fr MX9_init (d + 2) _ 9 [some (.ref 24)] [.ref 25, .ref 24] (1, 9) cS_24 (cE_42 sc)
  refine ab_putF (E2 := cE_43 sc) dX9_init_9 fl_X9_9 (fun C T N ty h9 => by have h8 := h9.1; cases h8; rfl) rfl rfl rfl rfl ?_
  show ab_Fr MX9_init (d + 2) _ 12 [some (.ref 24)] [] (1, 9) cS_24 (cE_43 sc)
  refine ab_aloadn dX9_init_12 rfl ?_
  refine ab_bipush (v := 9) dX9_init_13 (by decide) ?_
  refine ab_newArr (t := 0) (n := 9) (ty := .int) (E2 := cE_44 sc) (σ2 := cS_25) dX9_init_15 rfl (Or.inl ⟨rfl, rfl⟩) wd_180 rfl (by decide) (by decide) (Nat.le_of_ble_eq_true rfl) ⟨Nat.le_of_ble_eq_true rfl, Nat.le_of_ble_eq_true rfl⟩ rfl rfl ?_
  show ab_Fr MX9_init (d + 2) _ 17 [some (.ref 24)] [.ref 26, .ref 24] (2, 18) cS_25 (cE_44 sc)
  refine ab_putF (E2 := cE_45 sc) dX9_init_17 fl_X9_15 (fun C T N ty h9 => by have h8 := h9.1; cases h8; rfl) rfl rfl rfl rfl ?_
  show ab_Fr MX9_init (d + 2) _ 20 [some (.ref 24)] [] (2, 18) cS_25 (cE_45 sc)
  refine ab_aloadn dX9_init_20 rfl ?_
  refine ab_new (E2 := cE_46 sc) (σ2 := cS_26) dX9_init_21 ck_0 wd_204 wd_188 wd_141 rfl ⟨Nat.le_of_ble_eq_true rfl, Nat.le_of_ble_eq_true rfl⟩ rfl rfl ?_
  show ab_Fr MX9_init (d + 2) _ 24 [some (.ref 24)] [.ref 27, .ref 24] (3, 19) cS_26 (cE_46 sc)
  refine ab_dup dX9_init_24 rfl ?_
  refine ab_callI (vs := []) (st := [.ref 27, .ref 24]) dX9_init_25 okMX0_init rfl rfl wd_190 wd_205 rfl rfl (Nat.le_of_ble_eq_true rfl) ⟨Nat.le_of_ble_eq_true rfl, Nat.le_of_ble_eq_true rfl⟩ (kI_7 (d := d + 0)) ?_
  rintro v9 σ9 E9 - ⟨rfl, rfl, rfl⟩
  show ab_Fr MX9_init (d + 2) _ 28 [some (.ref 24)] [.ref 27, .ref 24] (4, 28) cS_27 (cE_48 sc)
  refine ab_putF (E2 := cE_49 sc) dX9_init_28 fl_X9_21 (fun C T N ty h9 => by have h8 := h9.1; cases h8; rfl) rfl rfl rfl rfl ?_
  show ab_Fr MX9_init (d + 2) _ 31 [some (.ref 24)] [] (4, 28) cS_27 (cE_49 sc)
  refine ab_aloadn dX9_init_31 rfl ?_
  refine ab_iconst (v := 3) dX9_init_32 (by decide) ?_
  refine ab_newArr (t := 0) (n := 3) (ty := .int) (E2 := cE_50 sc) (σ2 := cS_28) dX9_init_33 rfl (Or.inl ⟨rfl, rfl⟩) wd_180 rfl (by decide) (by decide) (Nat.le_of_ble_eq_true rfl) ⟨Nat.le_of_ble_eq_true rfl, Nat.le_of_ble_eq_true rfl⟩ rfl rfl ?_
  show ab_Fr MX9_init (d + 2) _ 35 [some (.ref 24)] [.ref 29, .ref 24] (5, 31) cS_28 (cE_50 sc)
  refine ab_putF (E2 := cE_51 sc) dX9_init_35 fl_X9_25 (fun C T N ty h9 => by have h8 := h9.1; cases h8; rfl) rfl rfl rfl rfl ?_
  show ab_Fr MX9_init (d + 2) _ 38 [some (.ref 24)] [] (5, 31) cS_28 (cE_51 sc)
  exact ab_vret dX9_init_38 rfl ⟨Nat.le_of_ble_eq_true rfl, Nat.le_of_ble_eq_true rfl⟩ ⟨none, rfl, rfl, rfl, rfl⟩
set_option maxRecDepth 100000 in
theorem kI_9 {d : Nat} {sc : Nat × (Nat → Int32)} : ab_Call MX0_init (d + 1) [.ref 33] cS_32 (cE_58 sc) (fun v σ E => v = none ∧ σ = cS_33 ∧ E = cE_60 sc) := by
  refine ab_enter (n := 0) okMX0_init (fun G => Nat.le_of_ble_eq_true rfl) ?_
  show ab_Fr MX0_init (d + 1) _ 0 [some (.ref 33)] [] (0, 0) cS_32 (cE_58 sc)
  refine ab_aloadn dX0_init_0 rfl ?_
  refine ab_oinit dX0_init_1 wd_192 wd_162 wd_163 (Nat.le_of_ble_eq_true rfl) ?_
  refine ab_aloadn dX0_init_4 rfl ?_
  refine ab_bipush (v := 9) dX0_init_5 (by decide) ?_
  refine ab_newArr (t := 0) (n := 9) (ty := .int) (E2 := cE_59 sc) (σ2 := cS_33) dX0_init_7 rfl (Or.inl ⟨rfl, rfl⟩) wd_180 rfl (by decide) (by decide) (Nat.le_of_ble_eq_true rfl) ⟨Nat.le_of_ble_eq_true rfl, Nat.le_of_ble_eq_true rfl⟩ rfl rfl ?_
  show ab_Fr MX0_init (d + 1) _ 9 [some (.ref 33)] [.ref 34, .ref 33] (1, 9) cS_33 (cE_59 sc)
  refine ab_putF (E2 := cE_60 sc) dX0_init_9 fl_X0_9 (fun C T N ty h9 => by have h8 := h9.1; cases h8; rfl) rfl rfl rfl rfl ?_
  show ab_Fr MX0_init (d + 1) _ 12 [some (.ref 33)] [] (1, 9) cS_33 (cE_60 sc)
  exact ab_vret dX0_init_12 rfl ⟨Nat.le_of_ble_eq_true rfl, Nat.le_of_ble_eq_true rfl⟩ ⟨none, rfl, rfl, rfl, rfl⟩
set_option maxRecDepth 100000 in
theorem kI_10 {d : Nat} {sc : Nat × (Nat → Int32)} : ab_Call MX9_init (d + 2) [.ref 30] cS_29 (cE_53 sc) (fun v σ E => v = none ∧ σ = cS_34 ∧ E = cE_63 sc) := by
  refine ab_enter (n := 0) okMX9_init (fun G => Nat.le_of_ble_eq_true rfl) ?_
  show ab_Fr MX9_init (d + 2) _ 0 [some (.ref 30)] [] (0, 0) cS_29 (cE_53 sc)
  refine ab_aloadn dX9_init_0 rfl ?_
  refine ab_oinit dX9_init_1 wd_203 wd_162 wd_163 (Nat.le_of_ble_eq_true rfl) ?_
  refine ab_aloadn dX9_init_4 rfl ?_
  refine ab_bipush (v := 9) dX9_init_5 (by decide) ?_
  refine ab_newArr (t := 0) (n := 9) (ty := .int) (E2 := cE_54 sc) (σ2 := cS_30) dX9_init_7 rfl (Or.inl ⟨rfl, rfl⟩) wd_180 rfl (by decide) (by decide) (Nat.le_of_ble_eq_true rfl) ⟨Nat.le_of_ble_eq_true rfl, Nat.le_of_ble_eq_true rfl⟩ rfl rfl ?_
  show ab_Fr MX9_init (d + 2) _ 9 [some (.ref 30)] [.ref 31, .ref 30] (1, 9) cS_30 (cE_54 sc)
  refine ab_putF (E2 := cE_55 sc) dX9_init_9 fl_X9_9 (fun C T N ty h9 => by have h8 := h9.1; cases h8; rfl) rfl rfl rfl rfl ?_
  show ab_Fr MX9_init (d + 2) _ 12 [some (.ref 30)] [] (1, 9) cS_30 (cE_55 sc)
  refine ab_aloadn dX9_init_12 rfl ?_
  refine ab_bipush (v := 9) dX9_init_13 (by decide) ?_
  refine ab_newArr (t := 0) (n := 9) (ty := .int) (E2 := cE_56 sc) (σ2 := cS_31) dX9_init_15 rfl (Or.inl ⟨rfl, rfl⟩) wd_180 rfl (by decide) (by decide) (Nat.le_of_ble_eq_true rfl) ⟨Nat.le_of_ble_eq_true rfl, Nat.le_of_ble_eq_true rfl⟩ rfl rfl ?_
  show ab_Fr MX9_init (d + 2) _ 17 [some (.ref 30)] [.ref 32, .ref 30] (2, 18) cS_31 (cE_56 sc)
  refine ab_putF (E2 := cE_57 sc) dX9_init_17 fl_X9_15 (fun C T N ty h9 => by have h8 := h9.1; cases h8; rfl) rfl rfl rfl rfl ?_
  show ab_Fr MX9_init (d + 2) _ 20 [some (.ref 30)] [] (2, 18) cS_31 (cE_57 sc)
  refine ab_aloadn dX9_init_20 rfl ?_
  refine ab_new (E2 := cE_58 sc) (σ2 := cS_32) dX9_init_21 ck_0 wd_204 wd_188 wd_141 rfl ⟨Nat.le_of_ble_eq_true rfl, Nat.le_of_ble_eq_true rfl⟩ rfl rfl ?_
  show ab_Fr MX9_init (d + 2) _ 24 [some (.ref 30)] [.ref 33, .ref 30] (3, 19) cS_32 (cE_58 sc)
  refine ab_dup dX9_init_24 rfl ?_
  refine ab_callI (vs := []) (st := [.ref 33, .ref 30]) dX9_init_25 okMX0_init rfl rfl wd_190 wd_205 rfl rfl (Nat.le_of_ble_eq_true rfl) ⟨Nat.le_of_ble_eq_true rfl, Nat.le_of_ble_eq_true rfl⟩ (kI_9 (d := d + 0)) ?_
  rintro v9 σ9 E9 - ⟨rfl, rfl, rfl⟩
  show ab_Fr MX9_init (d + 2) _ 28 [some (.ref 30)] [.ref 33, .ref 30] (4, 28) cS_33 (cE_60 sc)
  refine ab_putF (E2 := cE_61 sc) dX9_init_28 fl_X9_21 (fun C T N ty h9 => by have h8 := h9.1; cases h8; rfl) rfl rfl rfl rfl ?_
  show ab_Fr MX9_init (d + 2) _ 31 [some (.ref 30)] [] (4, 28) cS_33 (cE_61 sc)
  refine ab_aloadn dX9_init_31 rfl ?_
  refine ab_iconst (v := 3) dX9_init_32 (by decide) ?_
  refine ab_newArr (t := 0) (n := 3) (ty := .int) (E2 := cE_62 sc) (σ2 := cS_34) dX9_init_33 rfl (Or.inl ⟨rfl, rfl⟩) wd_180 rfl (by decide) (by decide) (Nat.le_of_ble_eq_true rfl) ⟨Nat.le_of_ble_eq_true rfl, Nat.le_of_ble_eq_true rfl⟩ rfl rfl ?_
  show ab_Fr MX9_init (d + 2) _ 35 [some (.ref 30)] [.ref 35, .ref 30] (5, 31) cS_34 (cE_62 sc)
  refine ab_putF (E2 := cE_63 sc) dX9_init_35 fl_X9_25 (fun C T N ty h9 => by have h8 := h9.1; cases h8; rfl) rfl rfl rfl rfl ?_
  show ab_Fr MX9_init (d + 2) _ 38 [some (.ref 30)] [] (5, 31) cS_34 (cE_63 sc)
  exact ab_vret dX9_init_38 rfl ⟨Nat.le_of_ble_eq_true rfl, Nat.le_of_ble_eq_true rfl⟩ ⟨none, rfl, rfl, rfl, rfl⟩
set_option maxRecDepth 100000 in
theorem kI_11 {d : Nat} {sc : Nat × (Nat → Int32)} : ab_Call MX0_init (d + 1) [.ref 39] cS_38 (cE_70 sc) (fun v σ E => v = none ∧ σ = cS_39 ∧ E = cE_72 sc) := by
  refine ab_enter (n := 0) okMX0_init (fun G => Nat.le_of_ble_eq_true rfl) ?_
  show ab_Fr MX0_init (d + 1) _ 0 [some (.ref 39)] [] (0, 0) cS_38 (cE_70 sc)
  refine ab_aloadn dX0_init_0 rfl ?_
  refine ab_oinit dX0_init_1 wd_192 wd_162 wd_163 (Nat.le_of_ble_eq_true rfl) ?_
  refine ab_aloadn dX0_init_4 rfl ?_
  refine ab_bipush (v := 9) dX0_init_5 (by decide) ?_
  refine ab_newArr (t := 0) (n := 9) (ty := .int) (E2 := cE_71 sc) (σ2 := cS_39) dX0_init_7 rfl (Or.inl ⟨rfl, rfl⟩) wd_180 rfl (by decide) (by decide) (Nat.le_of_ble_eq_true rfl) ⟨Nat.le_of_ble_eq_true rfl, Nat.le_of_ble_eq_true rfl⟩ rfl rfl ?_
  show ab_Fr MX0_init (d + 1) _ 9 [some (.ref 39)] [.ref 40, .ref 39] (1, 9) cS_39 (cE_71 sc)
  refine ab_putF (E2 := cE_72 sc) dX0_init_9 fl_X0_9 (fun C T N ty h9 => by have h8 := h9.1; cases h8; rfl) rfl rfl rfl rfl ?_
  show ab_Fr MX0_init (d + 1) _ 12 [some (.ref 39)] [] (1, 9) cS_39 (cE_72 sc)
  exact ab_vret dX0_init_12 rfl ⟨Nat.le_of_ble_eq_true rfl, Nat.le_of_ble_eq_true rfl⟩ ⟨none, rfl, rfl, rfl, rfl⟩
set_option maxRecDepth 100000 in
theorem kI_12 {d : Nat} {sc : Nat × (Nat → Int32)} : ab_Call MX9_init (d + 2) [.ref 36] cS_35 (cE_65 sc) (fun v σ E => v = none ∧ σ = cS_40 ∧ E = cE_75 sc) := by
  refine ab_enter (n := 0) okMX9_init (fun G => Nat.le_of_ble_eq_true rfl) ?_
  show ab_Fr MX9_init (d + 2) _ 0 [some (.ref 36)] [] (0, 0) cS_35 (cE_65 sc)
  refine ab_aloadn dX9_init_0 rfl ?_
  refine ab_oinit dX9_init_1 wd_203 wd_162 wd_163 (Nat.le_of_ble_eq_true rfl) ?_
  refine ab_aloadn dX9_init_4 rfl ?_
  refine ab_bipush (v := 9) dX9_init_5 (by decide) ?_
  refine ab_newArr (t := 0) (n := 9) (ty := .int) (E2 := cE_66 sc) (σ2 := cS_36) dX9_init_7 rfl (Or.inl ⟨rfl, rfl⟩) wd_180 rfl (by decide) (by decide) (Nat.le_of_ble_eq_true rfl) ⟨Nat.le_of_ble_eq_true rfl, Nat.le_of_ble_eq_true rfl⟩ rfl rfl ?_
  show ab_Fr MX9_init (d + 2) _ 9 [some (.ref 36)] [.ref 37, .ref 36] (1, 9) cS_36 (cE_66 sc)
  refine ab_putF (E2 := cE_67 sc) dX9_init_9 fl_X9_9 (fun C T N ty h9 => by have h8 := h9.1; cases h8; rfl) rfl rfl rfl rfl ?_
  show ab_Fr MX9_init (d + 2) _ 12 [some (.ref 36)] [] (1, 9) cS_36 (cE_67 sc)
  refine ab_aloadn dX9_init_12 rfl ?_
  refine ab_bipush (v := 9) dX9_init_13 (by decide) ?_
  refine ab_newArr (t := 0) (n := 9) (ty := .int) (E2 := cE_68 sc) (σ2 := cS_37) dX9_init_15 rfl (Or.inl ⟨rfl, rfl⟩) wd_180 rfl (by decide) (by decide) (Nat.le_of_ble_eq_true rfl) ⟨Nat.le_of_ble_eq_true rfl, Nat.le_of_ble_eq_true rfl⟩ rfl rfl ?_
  show ab_Fr MX9_init (d + 2) _ 17 [some (.ref 36)] [.ref 38, .ref 36] (2, 18) cS_37 (cE_68 sc)
  refine ab_putF (E2 := cE_69 sc) dX9_init_17 fl_X9_15 (fun C T N ty h9 => by have h8 := h9.1; cases h8; rfl) rfl rfl rfl rfl ?_
  show ab_Fr MX9_init (d + 2) _ 20 [some (.ref 36)] [] (2, 18) cS_37 (cE_69 sc)
  refine ab_aloadn dX9_init_20 rfl ?_
  refine ab_new (E2 := cE_70 sc) (σ2 := cS_38) dX9_init_21 ck_0 wd_204 wd_188 wd_141 rfl ⟨Nat.le_of_ble_eq_true rfl, Nat.le_of_ble_eq_true rfl⟩ rfl rfl ?_
  show ab_Fr MX9_init (d + 2) _ 24 [some (.ref 36)] [.ref 39, .ref 36] (3, 19) cS_38 (cE_70 sc)
  refine ab_dup dX9_init_24 rfl ?_
  refine ab_callI (vs := []) (st := [.ref 39, .ref 36]) dX9_init_25 okMX0_init rfl rfl wd_190 wd_205 rfl rfl (Nat.le_of_ble_eq_true rfl) ⟨Nat.le_of_ble_eq_true rfl, Nat.le_of_ble_eq_true rfl⟩ (kI_11 (d := d + 0)) ?_
  rintro v9 σ9 E9 - ⟨rfl, rfl, rfl⟩
  show ab_Fr MX9_init (d + 2) _ 28 [some (.ref 36)] [.ref 39, .ref 36] (4, 28) cS_39 (cE_72 sc)
  refine ab_putF (E2 := cE_73 sc) dX9_init_28 fl_X9_21 (fun C T N ty h9 => by have h8 := h9.1; cases h8; rfl) rfl rfl rfl rfl ?_
  show ab_Fr MX9_init (d + 2) _ 31 [some (.ref 36)] [] (4, 28) cS_39 (cE_73 sc)
  refine ab_aloadn dX9_init_31 rfl ?_
  refine ab_iconst (v := 3) dX9_init_32 (by decide) ?_
  refine ab_newArr (t := 0) (n := 3) (ty := .int) (E2 := cE_74 sc) (σ2 := cS_40) dX9_init_33 rfl (Or.inl ⟨rfl, rfl⟩) wd_180 rfl (by decide) (by decide) (Nat.le_of_ble_eq_true rfl) ⟨Nat.le_of_ble_eq_true rfl, Nat.le_of_ble_eq_true rfl⟩ rfl rfl ?_
  show ab_Fr MX9_init (d + 2) _ 35 [some (.ref 36)] [.ref 41, .ref 36] (5, 31) cS_40 (cE_74 sc)
  refine ab_putF (E2 := cE_75 sc) dX9_init_35 fl_X9_25 (fun C T N ty h9 => by have h8 := h9.1; cases h8; rfl) rfl rfl rfl rfl ?_
  show ab_Fr MX9_init (d + 2) _ 38 [some (.ref 36)] [] (5, 31) cS_40 (cE_75 sc)
  exact ab_vret dX9_init_38 rfl ⟨Nat.le_of_ble_eq_true rfl, Nat.le_of_ble_eq_true rfl⟩ ⟨none, rfl, rfl, rfl, rfl⟩
set_option maxRecDepth 100000 in
theorem kI_13 {d : Nat} {sc : Nat × (Nat → Int32)} : ab_Call MX0_init (d + 1) [.ref 45] cS_44 (cE_82 sc) (fun v σ E => v = none ∧ σ = cS_45 ∧ E = cE_84 sc) := by
  refine ab_enter (n := 0) okMX0_init (fun G => Nat.le_of_ble_eq_true rfl) ?_
  show ab_Fr MX0_init (d + 1) _ 0 [some (.ref 45)] [] (0, 0) cS_44 (cE_82 sc)
  refine ab_aloadn dX0_init_0 rfl ?_
  refine ab_oinit dX0_init_1 wd_192 wd_162 wd_163 (Nat.le_of_ble_eq_true rfl) ?_
  refine ab_aloadn dX0_init_4 rfl ?_
  refine ab_bipush (v := 9) dX0_init_5 (by decide) ?_
  refine ab_newArr (t := 0) (n := 9) (ty := .int) (E2 := cE_83 sc) (σ2 := cS_45) dX0_init_7 rfl (Or.inl ⟨rfl, rfl⟩) wd_180 rfl (by decide) (by decide) (Nat.le_of_ble_eq_true rfl) ⟨Nat.le_of_ble_eq_true rfl, Nat.le_of_ble_eq_true rfl⟩ rfl rfl ?_
  show ab_Fr MX0_init (d + 1) _ 9 [some (.ref 45)] [.ref 46, .ref 45] (1, 9) cS_45 (cE_83 sc)
  refine ab_putF (E2 := cE_84 sc) dX0_init_9 fl_X0_9 (fun C T N ty h9 => by have h8 := h9.1; cases h8; rfl) rfl rfl rfl rfl ?_
  show ab_Fr MX0_init (d + 1) _ 12 [some (.ref 45)] [] (1, 9) cS_45 (cE_84 sc)
  exact ab_vret dX0_init_12 rfl ⟨Nat.le_of_ble_eq_true rfl, Nat.le_of_ble_eq_true rfl⟩ ⟨none, rfl, rfl, rfl, rfl⟩
set_option maxRecDepth 100000 in
theorem kI_14 {d : Nat} {sc : Nat × (Nat → Int32)} : ab_Call MX9_init (d + 2) [.ref 42] cS_41 (cE_77 sc) (fun v σ E => v = none ∧ σ = cS_46 ∧ E = cE_87 sc) := by
  refine ab_enter (n := 0) okMX9_init (fun G => Nat.le_of_ble_eq_true rfl) ?_
  show ab_Fr MX9_init (d + 2) _ 0 [some (.ref 42)] [] (0, 0) cS_41 (cE_77 sc)
  refine ab_aloadn dX9_init_0 rfl ?_
  refine ab_oinit dX9_init_1 wd_203 wd_162 wd_163 (Nat.le_of_ble_eq_true rfl) ?_
  refine ab_aloadn dX9_init_4 rfl ?_
  refine ab_bipush (v := 9) dX9_init_5 (by decide) ?_
  refine ab_newArr (t := 0) (n := 9) (ty := .int) (E2 := cE_78 sc) (σ2 := cS_42) dX9_init_7 rfl (Or.inl ⟨rfl, rfl⟩) wd_180 rfl (by decide) (by decide) (Nat.le_of_ble_eq_true rfl) ⟨Nat.le_of_ble_eq_true rfl, Nat.le_of_ble_eq_true rfl⟩ rfl rfl ?_
  show ab_Fr MX9_init (d + 2) _ 9 [some (.ref 42)] [.ref 43, .ref 42] (1, 9) cS_42 (cE_78 sc)
  refine ab_putF (E2 := cE_79 sc) dX9_init_9 fl_X9_9 (fun C T N ty h9 => by have h8 := h9.1; cases h8; rfl) rfl rfl rfl rfl ?_
  show ab_Fr MX9_init (d + 2) _ 12 [some (.ref 42)] [] (1, 9) cS_42 (cE_79 sc)
  refine ab_aloadn dX9_init_12 rfl ?_
  refine ab_bipush (v := 9) dX9_init_13 (by decide) ?_
  refine ab_newArr (t := 0) (n := 9) (ty := .int) (E2 := cE_80 sc) (σ2 := cS_43) dX9_init_15 rfl (Or.inl ⟨rfl, rfl⟩) wd_180 rfl (by decide) (by decide) (Nat.le_of_ble_eq_true rfl) ⟨Nat.le_of_ble_eq_true rfl, Nat.le_of_ble_eq_true rfl⟩ rfl rfl ?_
  show ab_Fr MX9_init (d + 2) _ 17 [some (.ref 42)] [.ref 44, .ref 42] (2, 18) cS_43 (cE_80 sc)
  refine ab_putF (E2 := cE_81 sc) dX9_init_17 fl_X9_15 (fun C T N ty h9 => by have h8 := h9.1; cases h8; rfl) rfl rfl rfl rfl ?_
  show ab_Fr MX9_init (d + 2) _ 20 [some (.ref 42)] [] (2, 18) cS_43 (cE_81 sc)
  refine ab_aloadn dX9_init_20 rfl ?_
  refine ab_new (E2 := cE_82 sc) (σ2 := cS_44) dX9_init_21 ck_0 wd_204 wd_188 wd_141 rfl ⟨Nat.le_of_ble_eq_true rfl, Nat.le_of_ble_eq_true rfl⟩ rfl rfl ?_
  show ab_Fr MX9_init (d + 2) _ 24 [some (.ref 42)] [.ref 45, .ref 42] (3, 19) cS_44 (cE_82 sc)
  refine ab_dup dX9_init_24 rfl ?_
  refine ab_callI (vs := []) (st := [.ref 45, .ref 42]) dX9_init_25 okMX0_init rfl rfl wd_190 wd_205 rfl rfl (Nat.le_of_ble_eq_true rfl) ⟨Nat.le_of_ble_eq_true rfl, Nat.le_of_ble_eq_true rfl⟩ (kI_13 (d := d + 0)) ?_
  rintro v9 σ9 E9 - ⟨rfl, rfl, rfl⟩
  show ab_Fr MX9_init (d + 2) _ 28 [some (.ref 42)] [.ref 45, .ref 42] (4, 28) cS_45 (cE_84 sc)
  refine ab_putF (E2 := cE_85 sc) dX9_init_28 fl_X9_21 (fun C T N ty h9 => by have h8 := h9.1; cases h8; rfl) rfl rfl rfl rfl ?_
  show ab_Fr MX9_init (d + 2) _ 31 [some (.ref 42)] [] (4, 28) cS_45 (cE_85 sc)
  refine ab_aloadn dX9_init_31 rfl ?_
  refine ab_iconst (v := 3) dX9_init_32 (by decide) ?_
  refine ab_newArr (t := 0) (n := 3) (ty := .int) (E2 := cE_86 sc) (σ2 := cS_46) dX9_init_33 rfl (Or.inl ⟨rfl, rfl⟩) wd_180 rfl (by decide) (by decide) (Nat.le_of_ble_eq_true rfl) ⟨Nat.le_of_ble_eq_true rfl, Nat.le_of_ble_eq_true rfl⟩ rfl rfl ?_
  show ab_Fr MX9_init (d + 2) _ 35 [some (.ref 42)] [.ref 47, .ref 42] (5, 31) cS_46 (cE_86 sc)
  refine ab_putF (E2 := cE_87 sc) dX9_init_35 fl_X9_25 (fun C T N ty h9 => by have h8 := h9.1; cases h8; rfl) rfl rfl rfl rfl ?_
  show ab_Fr MX9_init (d + 2) _ 38 [some (.ref 42)] [] (5, 31) cS_46 (cE_87 sc)
  exact ab_vret dX9_init_38 rfl ⟨Nat.le_of_ble_eq_true rfl, Nat.le_of_ble_eq_true rfl⟩ ⟨none, rfl, rfl, rfl, rfl⟩
set_option maxRecDepth 100000 in
theorem kI_15 {d : Nat} {sc : Nat × (Nat → Int32)} : ab_Call MX0_init (d + 1) [.ref 51] cS_50 (cE_94 sc) (fun v σ E => v = none ∧ σ = cS_51 ∧ E = cE_96 sc) := by
  refine ab_enter (n := 0) okMX0_init (fun G => Nat.le_of_ble_eq_true rfl) ?_
  show ab_Fr MX0_init (d + 1) _ 0 [some (.ref 51)] [] (0, 0) cS_50 (cE_94 sc)
  refine ab_aloadn dX0_init_0 rfl ?_
  refine ab_oinit dX0_init_1 wd_192 wd_162 wd_163 (Nat.le_of_ble_eq_true rfl) ?_
  refine ab_aloadn dX0_init_4 rfl ?_
  refine ab_bipush (v := 9) dX0_init_5 (by decide) ?_
  refine ab_newArr (t := 0) (n := 9) (ty := .int) (E2 := cE_95 sc) (σ2 := cS_51) dX0_init_7 rfl (Or.inl ⟨rfl, rfl⟩) wd_180 rfl (by decide) (by decide) (Nat.le_of_ble_eq_true rfl) ⟨Nat.le_of_ble_eq_true rfl, Nat.le_of_ble_eq_true rfl⟩ rfl rfl ?_
  show ab_Fr MX0_init (d + 1) _ 9 [some (.ref 51)] [.ref 52, .ref 51] (1, 9) cS_51 (cE_95 sc)
  refine ab_putF (E2 := cE_96 sc) dX0_init_9 fl_X0_9 (fun C T N ty h9 => by have h8 := h9.1; cases h8; rfl) rfl rfl rfl rfl ?_
  show ab_Fr MX0_init (d + 1) _ 12 [some (.ref 51)] [] (1, 9) cS_51 (cE_96 sc)
  exact ab_vret dX0_init_12 rfl ⟨Nat.le_of_ble_eq_true rfl, Nat.le_of_ble_eq_true rfl⟩ ⟨none, rfl, rfl, rfl, rfl⟩
set_option maxRecDepth 100000 in
theorem kI_16 {d : Nat} {sc : Nat × (Nat → Int32)} : ab_Call MX9_init (d + 2) [.ref 48] cS_47 (cE_89 sc) (fun v σ E => v = none ∧ σ = cS_52 ∧ E = cE_99 sc) := by
  refine ab_enter (n := 0) okMX9_init (fun G => Nat.le_of_ble_eq_true rfl) ?_
  show ab_Fr MX9_init (d + 2) _ 0 [some (.ref 48)] [] (0, 0) cS_47 (cE_89 sc)
  refine ab_aloadn dX9_init_0 rfl ?_
  refine ab_oinit dX9_init_1 wd_203 wd_162 wd_163 (Nat.le_of_ble_eq_true rfl) ?_
  refine ab_aloadn dX9_init_4 rfl ?_
  refine ab_bipush (v := 9) dX9_init_5 (by decide) ?_
  refine ab_newArr (t := 0) (n := 9) (ty := .int) (E2 := cE_90 sc) (σ2 := cS_48) dX9_init_7 rfl (Or.inl ⟨rfl, rfl⟩) wd_180 rfl (by decide) (by decide) (Nat.le_of_ble_eq_true rfl) ⟨Nat.le_of_ble_eq_true rfl, Nat.le_of_ble_eq_true rfl⟩ rfl rfl ?_
  show ab_Fr MX9_init (d + 2) _ 9 [some (.ref 48)] [.ref 49, .ref 48] (1, 9) cS_48 (cE_90 sc)
  refine ab_putF (E2 := cE_91 sc) dX9_init_9 fl_X9_9 (fun C T N ty h9 => by have h8 := h9.1; cases h8; rfl) rfl rfl rfl rfl ?_
  show ab_Fr MX9_init (d + 2) _ 12 [some (.ref 48)] [] (1, 9) cS_48 (cE_91 sc)
  refine ab_aloadn dX9_init_12 rfl ?_
  refine ab_bipush (v := 9) dX9_init_13 (by decide) ?_
  refine ab_newArr (t := 0) (n := 9) (ty := .int) (E2 := cE_92 sc) (σ2 := cS_49) dX9_init_15 rfl (Or.inl ⟨rfl, rfl⟩) wd_180 rfl (by decide) (by decide) (Nat.le_of_ble_eq_true rfl) ⟨Nat.le_of_ble_eq_true rfl, Nat.le_of_ble_eq_true rfl⟩ rfl rfl ?_
  show ab_Fr MX9_init (d + 2) _ 17 [some (.ref 48)] [.ref 50, .ref 48] (2, 18) cS_49 (cE_92 sc)
  refine ab_putF (E2 := cE_93 sc) dX9_init_17 fl_X9_15 (fun C T N ty h9 => by have h8 := h9.1; cases h8; rfl) rfl rfl rfl rfl ?_
  show ab_Fr MX9_init (d + 2) _ 20 [some (.ref 48)] [] (2, 18) cS_49 (cE_93 sc)
  refine ab_aloadn dX9_init_20 rfl ?_
  refine ab_new (E2 := cE_94 sc) (σ2 := cS_50) dX9_init_21 ck_0 wd_204 wd_188 wd_141 rfl ⟨Nat.le_of_ble_eq_true rfl, Nat.le_of_ble_eq_true rfl⟩ rfl rfl ?_
  show ab_Fr MX9_init (d + 2) _ 24 [some (.ref 48)] [.ref 51, .ref 48] (3, 19) cS_50 (cE_94 sc)
  refine ab_dup dX9_init_24 rfl ?_
  refine ab_callI (vs := []) (st := [.ref 51, .ref 48]) dX9_init_25 okMX0_init rfl rfl wd_190 wd_205 rfl rfl (Nat.le_of_ble_eq_true rfl) ⟨Nat.le_of_ble_eq_true rfl, Nat.le_of_ble_eq_true rfl⟩ (kI_15 (d := d + 0)) ?_
  rintro v9 σ9 E9 - ⟨rfl, rfl, rfl⟩
  show ab_Fr MX9_init (d + 2) _ 28 [some (.ref 48)] [.ref 51, .ref 48] (4, 28) cS_51 (cE_96 sc)
  refine ab_putF (E2 := cE_97 sc) dX9_init_28 fl_X9_21 (fun C T N ty h9 => by have h8 := h9.1; cases h8; rfl) rfl rfl rfl rfl ?_
  show ab_Fr MX9_init (d + 2) _ 31 [some (.ref 48)] [] (4, 28) cS_51 (cE_97 sc)
  refine ab_aloadn dX9_init_31 rfl ?_
  refine ab_iconst (v := 3) dX9_init_32 (by decide) ?_
  refine ab_newArr (t := 0) (n := 3) (ty := .int) (E2 := cE_98 sc) (σ2 := cS_52) dX9_init_33 rfl (Or.inl ⟨rfl, rfl⟩) wd_180 rfl (by decide) (by decide) (Nat.le_of_ble_eq_true rfl) ⟨Nat.le_of_ble_eq_true rfl, Nat.le_of_ble_eq_true rfl⟩ rfl rfl ?_
  show ab_Fr MX9_init (d + 2) _ 35 [some (.ref 48)] [.ref 53, .ref 48] (5, 31) cS_52 (cE_98 sc)
  refine ab_putF (E2 := cE_99 sc) dX9_init_35 fl_X9_25 (fun C T N ty h9 => by have h8 := h9.1; cases h8; rfl) rfl rfl rfl rfl ?_
  show ab_Fr MX9_init (d + 2) _ 38 [some (.ref 48)] [] (5, 31) cS_52 (cE_99 sc)
  exact ab_vret dX9_init_38 rfl ⟨Nat.le_of_ble_eq_true rfl, Nat.le_of_ble_eq_true rfl⟩ ⟨none, rfl, rfl, rfl, rfl⟩
set_option maxRecDepth 100000 in
theorem kI_17 {d : Nat} {sc : Nat × (Nat → Int32)} : ab_Call MX1_init (d + 3) [.ref 7] cS_5 (cE_8 sc) (fun v σ E => v = none ∧ σ = cS_55 ∧ E = cE_106 sc) := by
  refine ab_enter (n := 0) okMX1_init (fun G => Nat.le_of_ble_eq_true rfl) ?_
  show ab_Fr MX1_init (d + 3) _ 0 [some (.ref 7), none] [] (0, 0) cS_5 (cE_8 sc)
  refine ab_aloadn dX1_init_0 rfl ?_
  refine ab_oinit dX1_init_1 wd_186 wd_162 wd_163 (Nat.le_of_ble_eq_true rfl) ?_
  refine ab_aloadn dX1_init_4 rfl ?_
  refine ab_iconst (v := (-1)) dX1_init_5 (by decide) ?_
  refine ab_putI dX1_init_6 fl_X1_9 rfl rfl ?_
  show ab_Fr MX1_init (d + 3) _ 9 [some (.ref 7), none] [] (0, 0) cS_6 (cE_8 sc)
  refine ab_aloadn dX1_init_9 rfl ?_
  refine ab_iconst (v := 3) dX1_init_10 (by decide) ?_
  refine ab_newArr (t := 0) (n := 3) (ty := .int) (E2 := cE_9 sc) (σ2 := cS_7) dX1_init_11 rfl (Or.inl ⟨rfl, rfl⟩) wd_180 rfl (by decide) (by decide) (Nat.le_of_ble_eq_true rfl) ⟨Nat.le_of_ble_eq_true rfl, Nat.le_of_ble_eq_true rfl⟩ rfl rfl ?_
  show ab_Fr MX1_init (d + 3) _ 13 [some (.ref 7), none] [.ref 8, .ref 7] (1, 3) cS_7 (cE_9 sc)
  refine ab_putF (E2 := cE_10 sc) dX1_init_13 fl_X1_15 (fun C T N ty h9 => by have h8 := h9.1; cases h8; rfl) rfl rfl rfl rfl ?_
  show ab_Fr MX1_init (d + 3) _ 16 [some (.ref 7), none] [] (1, 3) cS_7 (cE_10 sc)
  refine ab_aloadn dX1_init_16 rfl ?_
  refine ab_new (E2 := cE_11 sc) (σ2 := cS_8) dX1_init_17 ck_0 wd_187 wd_188 wd_141 rfl ⟨Nat.le_of_ble_eq_true rfl, Nat.le_of_ble_eq_true rfl⟩ rfl rfl ?_
  show ab_Fr MX1_init (d + 3) _ 20 [some (.ref 7), none] [.ref 9, .ref 7] (2, 4) cS_8 (cE_11 sc)
  refine ab_dup dX1_init_20 rfl ?_
  refine ab_callI (vs := []) (st := [.ref 9, .ref 7]) dX1_init_21 okMX0_init rfl rfl wd_190 wd_189 rfl rfl (Nat.le_of_ble_eq_true rfl) ⟨Nat.le_of_ble_eq_true rfl, Nat.le_of_ble_eq_true rfl⟩ (kI_2 (d := d + 1)) ?_
  rintro v9 σ9 E9 - ⟨rfl, rfl, rfl⟩
  show ab_Fr MX1_init (d + 3) _ 24 [some (.ref 7), none] [.ref 9, .ref 7] (3, 13) cS_9 (cE_13 sc)
  refine ab_putF (E2 := cE_14 sc) dX1_init_24 fl_X1_22 (fun C T N ty h9 => by have h8 := h9.1; cases h8; rfl) rfl rfl rfl rfl ?_
  show ab_Fr MX1_init (d + 3) _ 27 [some (.ref 7), none] [] (3, 13) cS_9 (cE_14 sc)
  refine ab_aloadn dX1_init_27 rfl ?_
  refine ab_bipush (v := 7) dX1_init_28 (by decide) ?_
  refine ab_newRef (t := 3) (n := 7) (D := RX9) (E2 := cE_15 sc) (σ2 := cS_10) dX1_init_30 (Or.inl ⟨rfl, rfl⟩) wd_198 rfl (by decide) (by decide) (Nat.le_of_ble_eq_true rfl) ⟨Nat.le_of_ble_eq_true rfl, Nat.le_of_ble_eq_true rfl⟩ rfl rfl ?_
  show ab_Fr MX1_init (d + 3) _ 33 [some (.ref 7), none] [.ref 11, .ref 7] (4, 20) cS_10 (cE_15 sc)
  refine ab_putF (E2 := cE_16 sc) dX1_init_33 fl_X1_28 (fun C T N ty h9 => by have h8 := h9.1; cases h8; rfl) rfl rfl rfl rfl ?_
  show ab_Fr MX1_init (d + 3) _ 36 [some (.ref 7), none] [] (4, 20) cS_10 (cE_16 sc)
  refine ab_iconst (v := 0) dX1_init_36 (by decide) ?_
  refine ab_istoren dX1_init_37 (Nat.le_of_ble_eq_true rfl) (L2 := [some (.ref 7), some (.int 0)]) rfl ?_
  refine ab_iloadn dX1_init_38 rfl ?_
  refine ab_bipush (v := 7) dX1_init_39 (by decide) ?_
  refine ab_icmp_ge (tgt := 63) dX1_init_41 (by decide) (fun q => absurd q (by decide)) (fun _ => ?_)
  refine ab_aloadn dX1_init_44 rfl ?_
  refine ab_getf (v := .ref 11) dX1_init_45 fl_X1_28 rfl rfl ?_
  refine ab_iloadn dX1_init_48 rfl ?_
  refine ab_new (E2 := cE_17 sc) (σ2 := cS_11) dX1_init_49 ck_9 wd_198 wd_199 wd_142 rfl ⟨Nat.le_of_ble_eq_true rfl, Nat.le_of_ble_eq_true rfl⟩ rfl rfl ?_
  show ab_Fr MX1_init (d + 3) _ 52 [some (.ref 7), some (.int 0)] [.ref 12, .int 0, .ref 11] (5, 28) cS_11 (cE_17 sc)
  refine ab_dup dX1_init_52 rfl ?_
  refine ab_callI (vs := []) (st := [.ref 12, .int 0, .ref 11]) dX1_init_53 okMX9_init rfl rfl wd_201 wd_200 rfl rfl (Nat.le_of_ble_eq_true rfl) ⟨Nat.le_of_ble_eq_true rfl, Nat.le_of_ble_eq_true rfl⟩ (kI_4 (d := d + 0)) ?_
  rintro v9 σ9 E9 - ⟨rfl, rfl, rfl⟩
  show ab_Fr MX1_init (d + 3) _ 56 [some (.ref 7), some (.int 0)] [.ref 12, .int 0, .ref 11] (10, 59) cS_16 (cE_27 sc)
  refine ab_aastore (E2 := cE_28 sc) dX1_init_56 (Or.inl ⟨rfl, rfl⟩) rfl rfl (ab_vp (by decide)) rfl ?_
  show ab_Fr MX1_init (d + 3) _ 57 [some (.ref 7), some (.int 0)] [] (10, 59) cS_16 (cE_28 sc)
  refine ab_iinc (v := 1) dX1_init_57 rfl (by decide) (Nat.le_of_ble_eq_true rfl) (L2 := [some (.ref 7), some (.int 1)]) rfl ?_
  refine ab_goto (tgt := 38) dX1_init_60 (by decide) ?_
  refine ab_iloadn dX1_init_38 rfl ?_
  refine ab_bipush (v := 7) dX1_init_39 (by decide) ?_
  refine ab_icmp_ge (tgt := 63) dX1_init_41 (by decide) (fun q => absurd q (by decide)) (fun _ => ?_)
  refine ab_aloadn dX1_init_44 rfl ?_
  refine ab_getf (v := .ref 11) dX1_init_45 fl_X1_28 rfl rfl ?_
  refine ab_iloadn dX1_init_48 rfl ?_
  refine ab_new (E2 := cE_29 sc) (σ2 := cS_17) dX1_init_49 ck_9 wd_198 wd_199 wd_142 rfl ⟨Nat.le_of_ble_eq_true rfl, Nat.le_of_ble_eq_true rfl⟩ rfl rfl ?_
  show ab_Fr MX1_init (d + 3) _ 52 [some (.ref 7), some (.int 1)] [.ref 18, .int 1, .ref 11] (11, 67) cS_17 (cE_29 sc)
  refine ab_dup dX1_init_52 rfl ?_
  refine ab_callI (vs := []) (st := [.ref 18, .int 1, .ref 11]) dX1_init_53 okMX9_init rfl rfl wd_201 wd_200 rfl rfl (Nat.le_of_ble_eq_true rfl) ⟨Nat.le_of_ble_eq_true rfl, Nat.le_of_ble_eq_true rfl⟩ (kI_6 (d := d + 0)) ?_
  rintro v9 σ9 E9 - ⟨rfl, rfl, rfl⟩
  show ab_Fr MX1_init (d + 3) _ 56 [some (.ref 7), some (.int 1)] [.ref 18, .int 1, .ref 11] (16, 98) cS_22 (cE_39 sc)
  refine ab_aastore (E2 := cE_40 sc) dX1_init_56 (Or.inl ⟨rfl, rfl⟩) rfl rfl (ab_vp (by decide)) rfl ?_
  show ab_Fr MX1_init (d + 3) _ 57 [some (.ref 7), some (.int 1)] [] (16, 98) cS_22 (cE_40 sc)
  refine ab_iinc (v := 2) dX1_init_57 rfl (by decide) (Nat.le_of_ble_eq_true rfl) (L2 := [some (.ref 7), some (.int 2)]) rfl ?_
  refine ab_goto (tgt := 38) dX1_init_60 (by decide) ?_
  refine ab_iloadn dX1_init_38 rfl ?_
  refine ab_bipush (v := 7) dX1_init_39 (by decide) ?_
  refine ab_icmp_ge (tgt := 63) dX1_init_41 (by decide) (fun q => absurd q (by decide)) (fun _ => ?_)
  refine ab_aloadn dX1_init_44 rfl ?_
  refine ab_getf (v := .ref 11) dX1_init_45 fl_X1_28 rfl rfl ?_
  refine ab_iloadn dX1_init_48 rfl ?_
  refine ab_new (E2 := cE_41 sc) (σ2 := cS_23) dX1_init_49 ck_9 wd_198 wd_199 wd_142 rfl ⟨Nat.le_of_ble_eq_true rfl, Nat.le_of_ble_eq_true rfl⟩ rfl rfl ?_
  show ab_Fr MX1_init (d + 3) _ 52 [some (.ref 7), some (.int 2)] [.ref 24, .int 2, .ref 11] (17, 106) cS_23 (cE_41 sc)
  refine ab_dup dX1_init_52 rfl ?_
  refine ab_callI (vs := []) (st := [.ref 24, .int 2, .ref 11]) dX1_init_53 okMX9_init rfl rfl wd_201 wd_200 rfl rfl (Nat.le_of_ble_eq_true rfl) ⟨Nat.le_of_ble_eq_true rfl, Nat.le_of_ble_eq_true rfl⟩ (kI_8 (d := d + 0)) ?_
  rintro v9 σ9 E9 - ⟨rfl, rfl, rfl⟩
  show ab_Fr MX1_init (d + 3) _ 56 [some (.ref 7), some (.int 2)] [.ref 24, .int 2, .ref 11] (22, 137) cS_28 (cE_51 sc)
  refine ab_aastore (E2 := cE_52 sc) dX1_init_56 (Or.inl ⟨rfl, rfl⟩) rfl rfl (ab_vp (by decide)) rfl ?_
  show ab_Fr MX1_init (d + 3) _ 57 [some (.ref 7), some (.int 2)] [] (22, 137) cS_28 (cE_52 sc)
  refine ab_iinc (v := 3) dX1_init_57 rfl (by decide) (Nat.le_of_ble_eq_true rfl) (L2 := [some (.ref 7), some (.int 3)]) rfl ?_
  refine ab_goto (tgt := 38) dX1_init_60 (by decide) ?_
  refine ab_iloadn dX1_init_38 rfl ?_
  refine ab_bipush (v := 7) dX1_init_39 (by decide) ?_
  refine ab_icmp_ge (tgt := 63) dX1_init_41 (by decide) (fun q => absurd q (by decide)) (fun _ => ?_)
  refine ab_aloadn dX1_init_44 rfl ?_
  refine ab_getf (v := .ref 11) dX1_init_45 fl_X1_28 rfl rfl ?_
  refine ab_iloadn dX1_init_48 rfl ?_
  refine ab_new (E2 := cE_53 sc) (σ2 := cS_29) dX1_init_49 ck_9 wd_198 wd_199 wd_142 rfl ⟨Nat.le_of_ble_eq_true rfl, Nat.le_of_ble_eq_true rfl⟩ rfl rfl ?_
  show ab_Fr MX1_init (d + 3) _ 52 [some (.ref 7), some (.int 3)] [.ref 30, .int 3, .ref 11] (23, 145) cS_29 (cE_53 sc)
  refine ab_dup dX1_init_52 rfl ?_
  refine ab_callI (vs := []) (st := [.ref 30, .int 3, .ref 11]) dX1_init_53 okMX9_init rfl rfl wd_201 wd_200 rfl rfl (Nat.le_of_ble_eq_true rfl) ⟨Nat.le_of_ble_eq_true rfl, Nat.le_of_ble_eq_true rfl⟩ (kI_10 (d := d + 0)) ?_
  rintro v9 σ9 E9 - ⟨rfl, rfl, rfl⟩
  show ab_Fr MX1_init (d + 3) _ 56 [some (.ref 7), some (.int 3)] [.ref 30, .int 3, .ref 11] (28, 176) cS_34 (cE_63 sc)
  refine ab_aastore (E2 := cE_64 sc) dX1_init_56 (Or.inl ⟨rfl, rfl⟩) rfl rfl (ab_vp (by decide)) rfl ?_
  show ab_Fr MX1_init (d + 3) _ 57 [some (.ref 7), some (.int 3)] [] (28, 176) cS_34 (cE_64 sc)
  refine ab_iinc (v := 4) dX1_init_57 rfl (by decide) (Nat.le_of_ble_eq_true rfl) (L2 := [some (.ref 7), some (.int 4)]) rfl ?_
  refine ab_goto (tgt := 38) dX1_init_60 (by decide) ?_
  refine ab_iloadn dX1_init_38 rfl ?_
  refine ab_bipush (v := 7) dX1_init_39 (by decide) ?_
  refine ab_icmp_ge (tgt := 63) dX1_init_41 (by decide) (fun q => absurd q (by decide)) (fun _ => ?_)
  refine ab_aloadn dX1_init_44 rfl ?_
  refine ab_getf (v := .ref 11) dX1_init_45 fl_X1_28 rfl rfl ?_
  refine ab_iloadn dX1_init_48 rfl ?_
  refine ab_new (E2 := cE_65 sc) (σ2 := cS_35) dX1_init_49 ck_9 wd_198 wd_199 wd_142 rfl ⟨Nat.le_of_ble_eq_true rfl, Nat.le_of_ble_eq_true rfl⟩ rfl rfl ?_
  show ab_Fr MX1_init (d + 3) _ 52 [some (.ref 7), some (.int 4)] [.ref 36, .int 4, .ref 11] (29, 184) cS_35 (cE_65 sc)
  refine ab_dup dX1_init_52 rfl ?_
  refine ab_callI (vs := []) (st := [.ref 36, .int 4, .ref 11]) dX1_init_53 okMX9_init rfl rfl wd_201 wd_200 rfl rfl (Nat.le_of_ble_eq_true rfl) ⟨Nat.le_of_ble_eq_true rfl, Nat.le_of_ble_eq_true rfl⟩ (kI_12 (d := d + 0)) ?_
  rintro v9 σ9 E9 - ⟨rfl, rfl, rfl⟩
  show ab_Fr MX1_init (d + 3) _ 56 [some (.ref 7), some (.int 4)] [.ref 36, .int 4, .ref 11] (34, 215) cS_40 (cE_75 sc)
  refine ab_aastore (E2 := cE_76 sc) dX1_init_56 (Or.inl ⟨rfl, rfl⟩) rfl rfl (ab_vp (by decide)) rfl ?_
  show ab_Fr MX1_init (d + 3) _ 57 [some (.ref 7), some (.int 4)] [] (34, 215) cS_40 (cE_76 sc)
  refine ab_iinc (v := 5) dX1_init_57 rfl (by decide) (Nat.le_of_ble_eq_true rfl) (L2 := [some (.ref 7), some (.int 5)]) rfl ?_
  refine ab_goto (tgt := 38) dX1_init_60 (by decide) ?_
  refine ab_iloadn dX1_init_38 rfl ?_
  refine ab_bipush (v := 7) dX1_init_39 (by decide) ?_
  refine ab_icmp_ge (tgt := 63) dX1_init_41 (by decide) (fun q => absurd q (by decide)) (fun _ => ?_)
  refine ab_aloadn dX1_init_44 rfl ?_
  refine ab_getf (v := .ref 11) dX1_init_45 fl_X1_28 rfl rfl ?_
  refine ab_iloadn dX1_init_48 rfl ?_
  refine ab_new (E2 := cE_77 sc) (σ2 := cS_41) dX1_init_49 ck_9 wd_198 wd_199 wd_142 rfl ⟨Nat.le_of_ble_eq_true rfl, Nat.le_of_ble_eq_true rfl⟩ rfl rfl ?_
  show ab_Fr MX1_init (d + 3) _ 52 [some (.ref 7), some (.int 5)] [.ref 42, .int 5, .ref 11] (35, 223) cS_41 (cE_77 sc)
  refine ab_dup dX1_init_52 rfl ?_
  refine ab_callI (vs := []) (st := [.ref 42, .int 5, .ref 11]) dX1_init_53 okMX9_init rfl rfl wd_201 wd_200 rfl rfl (Nat.le_of_ble_eq_true rfl) ⟨Nat.le_of_ble_eq_true rfl, Nat.le_of_ble_eq_true rfl⟩ (kI_14 (d := d + 0)) ?_
  rintro v9 σ9 E9 - ⟨rfl, rfl, rfl⟩
  show ab_Fr MX1_init (d + 3) _ 56 [some (.ref 7), some (.int 5)] [.ref 42, .int 5, .ref 11] (40, 254) cS_46 (cE_87 sc)
  refine ab_aastore (E2 := cE_88 sc) dX1_init_56 (Or.inl ⟨rfl, rfl⟩) rfl rfl (ab_vp (by decide)) rfl ?_
  show ab_Fr MX1_init (d + 3) _ 57 [some (.ref 7), some (.int 5)] [] (40, 254) cS_46 (cE_88 sc)
  refine ab_iinc (v := 6) dX1_init_57 rfl (by decide) (Nat.le_of_ble_eq_true rfl) (L2 := [some (.ref 7), some (.int 6)]) rfl ?_
  refine ab_goto (tgt := 38) dX1_init_60 (by decide) ?_
  refine ab_iloadn dX1_init_38 rfl ?_
  refine ab_bipush (v := 7) dX1_init_39 (by decide) ?_
  refine ab_icmp_ge (tgt := 63) dX1_init_41 (by decide) (fun q => absurd q (by decide)) (fun _ => ?_)
  refine ab_aloadn dX1_init_44 rfl ?_
  refine ab_getf (v := .ref 11) dX1_init_45 fl_X1_28 rfl rfl ?_
  refine ab_iloadn dX1_init_48 rfl ?_
  refine ab_new (E2 := cE_89 sc) (σ2 := cS_47) dX1_init_49 ck_9 wd_198 wd_199 wd_142 rfl ⟨Nat.le_of_ble_eq_true rfl, Nat.le_of_ble_eq_true rfl⟩ rfl rfl ?_
  show ab_Fr MX1_init (d + 3) _ 52 [some (.ref 7), some (.int 6)] [.ref 48, .int 6, .ref 11] (41, 262) cS_47 (cE_89 sc)
  refine ab_dup dX1_init_52 rfl ?_
  refine ab_callI (vs := []) (st := [.ref 48, .int 6, .ref 11]) dX1_init_53 okMX9_init rfl rfl wd_201 wd_200 rfl rfl (Nat.le_of_ble_eq_true rfl) ⟨Nat.le_of_ble_eq_true rfl, Nat.le_of_ble_eq_true rfl⟩ (kI_16 (d := d + 0)) ?_
  rintro v9 σ9 E9 - ⟨rfl, rfl, rfl⟩
  show ab_Fr MX1_init (d + 3) _ 56 [some (.ref 7), some (.int 6)] [.ref 48, .int 6, .ref 11] (46, 293) cS_52 (cE_99 sc)
  refine ab_aastore (E2 := cE_100 sc) dX1_init_56 (Or.inl ⟨rfl, rfl⟩) rfl rfl (ab_vp (by decide)) rfl ?_
  show ab_Fr MX1_init (d + 3) _ 57 [some (.ref 7), some (.int 6)] [] (46, 293) cS_52 (cE_100 sc)
  refine ab_iinc (v := 7) dX1_init_57 rfl (by decide) (Nat.le_of_ble_eq_true rfl) (L2 := [some (.ref 7), some (.int 7)]) rfl ?_
  refine ab_goto (tgt := 38) dX1_init_60 (by decide) ?_
  refine ab_iloadn dX1_init_38 rfl ?_
  refine ab_bipush (v := 7) dX1_init_39 (by decide) ?_
  refine ab_icmp_ge (tgt := 63) dX1_init_41 (by decide) (fun _ => ?_) (fun q => absurd (by decide) q)
  refine ab_aloadn dX1_init_63 rfl ?_
  refine ab_bipush (v := 21) dX1_init_64 (by decide) ?_
  refine ab_newArr (t := 0) (n := 21) (ty := .int) (E2 := cE_101 sc) (σ2 := cS_53) dX1_init_66 rfl (Or.inl ⟨rfl, rfl⟩) wd_180 rfl (by decide) (by decide) (Nat.le_of_ble_eq_true rfl) ⟨Nat.le_of_ble_eq_true rfl, Nat.le_of_ble_eq_true rfl⟩ rfl rfl ?_
  show ab_Fr MX1_init (d + 3) _ 68 [some (.ref 7), some (.int 7)] [.ref 54, .ref 7] (47, 314) cS_53 (cE_101 sc)
  refine ab_putF (E2 := cE_102 sc) dX1_init_68 fl_X1_33 (fun C T N ty h9 => by have h8 := h9.1; cases h8; rfl) rfl rfl rfl rfl ?_
  show ab_Fr MX1_init (d + 3) _ 71 [some (.ref 7), some (.int 7)] [] (47, 314) cS_53 (cE_102 sc)
  refine ab_aloadn dX1_init_71 rfl ?_
  refine ab_iconst (v := 3) dX1_init_72 (by decide) ?_
  refine ab_newArr (t := 0) (n := 3) (ty := .int) (E2 := cE_103 sc) (σ2 := cS_54) dX1_init_73 rfl (Or.inl ⟨rfl, rfl⟩) wd_180 rfl (by decide) (by decide) (Nat.le_of_ble_eq_true rfl) ⟨Nat.le_of_ble_eq_true rfl, Nat.le_of_ble_eq_true rfl⟩ rfl rfl ?_
  show ab_Fr MX1_init (d + 3) _ 75 [some (.ref 7), some (.int 7)] [.ref 55, .ref 7] (48, 317) cS_54 (cE_103 sc)
  refine ab_putF (E2 := cE_104 sc) dX1_init_75 fl_X1_36 (fun C T N ty h9 => by have h8 := h9.1; cases h8; rfl) rfl rfl rfl rfl ?_
  show ab_Fr MX1_init (d + 3) _ 78 [some (.ref 7), some (.int 7)] [] (48, 317) cS_54 (cE_104 sc)
  refine ab_aloadn dX1_init_78 rfl ?_
  refine ab_iconst (v := 3) dX1_init_79 (by decide) ?_
  refine ab_newArr (t := 1) (n := 3) (ty := .long) (E2 := cE_105 sc) (σ2 := cS_55) dX1_init_80 rfl (Or.inr (Or.inl ⟨rfl, rfl⟩)) wd_315 rfl (by decide) (by decide) (Nat.le_of_ble_eq_true rfl) ⟨Nat.le_of_ble_eq_true rfl, Nat.le_of_ble_eq_true rfl⟩ rfl rfl ?_
  show ab_Fr MX1_init (d + 3) _ 82 [some (.ref 7), some (.int 7)] [.ref 56, .ref 7] (49, 320) cS_55 (cE_105 sc)
  refine ab_putF (E2 := cE_106 sc) dX1_init_82 fl_X1_39 (fun C T N ty h9 => by have h8 := h9.1; cases h8; rfl) rfl rfl rfl rfl ?_
  show ab_Fr MX1_init (d + 3) _ 85 [some (.ref 7), some (.int 7)] [] (49, 320) cS_55 (cE_106 sc)
  exact ab_vret dX1_init_85 rfl ⟨Nat.le_of_ble_eq_true rfl, Nat.le_of_ble_eq_true rfl⟩ ⟨none, rfl, rfl, rfl, rfl⟩
set_option maxRecDepth 100000 in
theorem kI_18 {d : Nat} {sc : Nat × (Nat → Int32)} : ab_Call MX0_init (d + 1) [.ref 59] cS_59 (cE_111 sc) (fun v σ E => v = none ∧ σ = cS_60 ∧ E = cE_113 sc) := by
  refine ab_enter (n := 0) okMX0_init (fun G => Nat.le_of_ble_eq_true rfl) ?_
  show ab_Fr MX0_init (d + 1) _ 0 [some (.ref 59)] [] (0, 0) cS_59 (cE_111 sc)
  refine ab_aloadn dX0_init_0 rfl ?_
  refine ab_oinit dX0_init_1 wd_192 wd_162 wd_163 (Nat.le_of_ble_eq_true rfl) ?_
  refine ab_aloadn dX0_init_4 rfl ?_
  refine ab_bipush (v := 9) dX0_init_5 (by decide) ?_
  refine ab_newArr (t := 0) (n := 9) (ty := .int) (E2 := cE_112 sc) (σ2 := cS_60) dX0_init_7 rfl (Or.inl ⟨rfl, rfl⟩) wd_180 rfl (by decide) (by decide) (Nat.le_of_ble_eq_true rfl) ⟨Nat.le_of_ble_eq_true rfl, Nat.le_of_ble_eq_true rfl⟩ rfl rfl ?_
  show ab_Fr MX0_init (d + 1) _ 9 [some (.ref 59)] [.ref 60, .ref 59] (1, 9) cS_60 (cE_112 sc)
  refine ab_putF (E2 := cE_113 sc) dX0_init_9 fl_X0_9 (fun C T N ty h9 => by have h8 := h9.1; cases h8; rfl) rfl rfl rfl rfl ?_
  show ab_Fr MX0_init (d + 1) _ 12 [some (.ref 59)] [] (1, 9) cS_60 (cE_113 sc)
  exact ab_vret dX0_init_12 rfl ⟨Nat.le_of_ble_eq_true rfl, Nat.le_of_ble_eq_true rfl⟩ ⟨none, rfl, rfl, rfl, rfl⟩
set_option maxRecDepth 100000 in
theorem kI_19 {d : Nat} {sc : Nat × (Nat → Int32)} : ab_Call MX0_init (d + 1) [.ref 65] cS_65 (cE_122 sc) (fun v σ E => v = none ∧ σ = cS_66 ∧ E = cE_124 sc) := by
  refine ab_enter (n := 0) okMX0_init (fun G => Nat.le_of_ble_eq_true rfl) ?_
  show ab_Fr MX0_init (d + 1) _ 0 [some (.ref 65)] [] (0, 0) cS_65 (cE_122 sc)
  refine ab_aloadn dX0_init_0 rfl ?_
  refine ab_oinit dX0_init_1 wd_192 wd_162 wd_163 (Nat.le_of_ble_eq_true rfl) ?_
  refine ab_aloadn dX0_init_4 rfl ?_
  refine ab_bipush (v := 9) dX0_init_5 (by decide) ?_
  refine ab_newArr (t := 0) (n := 9) (ty := .int) (E2 := cE_123 sc) (σ2 := cS_66) dX0_init_7 rfl (Or.inl ⟨rfl, rfl⟩) wd_180 rfl (by decide) (by decide) (Nat.le_of_ble_eq_true rfl) ⟨Nat.le_of_ble_eq_true rfl, Nat.le_of_ble_eq_true rfl⟩ rfl rfl ?_
  show ab_Fr MX0_init (d + 1) _ 9 [some (.ref 65)] [.ref 66, .ref 65] (1, 9) cS_66 (cE_123 sc)
  refine ab_putF (E2 := cE_124 sc) dX0_init_9 fl_X0_9 (fun C T N ty h9 => by have h8 := h9.1; cases h8; rfl) rfl rfl rfl rfl ?_
  show ab_Fr MX0_init (d + 1) _ 12 [some (.ref 65)] [] (1, 9) cS_66 (cE_124 sc)
  exact ab_vret dX0_init_12 rfl ⟨Nat.le_of_ble_eq_true rfl, Nat.le_of_ble_eq_true rfl⟩ ⟨none, rfl, rfl, rfl, rfl⟩
set_option maxRecDepth 100000 in
theorem kI_20 {d : Nat} {sc : Nat × (Nat → Int32)} : ab_Call MX9_init (d + 2) [.ref 62] cS_62 (cE_117 sc) (fun v σ E => v = none ∧ σ = cS_67 ∧ E = cE_127 sc) := by
  refine ab_enter (n := 0) okMX9_init (fun G => Nat.le_of_ble_eq_true rfl) ?_
  show ab_Fr MX9_init (d + 2) _ 0 [some (.ref 62)] [] (0, 0) cS_62 (cE_117 sc)
  refine ab_aloadn dX9_init_0 rfl ?_
  refine ab_oinit dX9_init_1 wd_203 wd_162 wd_163 (Nat.le_of_ble_eq_true rfl) ?_
  refine ab_aloadn dX9_init_4 rfl ?_
  refine ab_bipush (v := 9) dX9_init_5 (by decide) ?_
  refine ab_newArr (t := 0) (n := 9) (ty := .int) (E2 := cE_118 sc) (σ2 := cS_63) dX9_init_7 rfl (Or.inl ⟨rfl, rfl⟩) wd_180 rfl (by decide) (by decide) (Nat.le_of_ble_eq_true rfl) ⟨Nat.le_of_ble_eq_true rfl, Nat.le_of_ble_eq_true rfl⟩ rfl rfl ?_
  show ab_Fr MX9_init (d + 2) _ 9 [some (.ref 62)] [.ref 63, .ref 62] (1, 9) cS_63 (cE_118 sc)
  refine ab_putF (E2 := cE_119 sc) dX9_init_9 fl_X9_9 (fun C T N ty h9 => by have h8 := h9.1; cases h8; rfl) rfl rfl rfl rfl ?_
  show ab_Fr MX9_init (d + 2) _ 12 [some (.ref 62)] [] (1, 9) cS_63 (cE_119 sc)
  refine ab_aloadn dX9_init_12 rfl ?_
  refine ab_bipush (v := 9) dX9_init_13 (by decide) ?_
  refine ab_newArr (t := 0) (n := 9) (ty := .int) (E2 := cE_120 sc) (σ2 := cS_64) dX9_init_15 rfl (Or.inl ⟨rfl, rfl⟩) wd_180 rfl (by decide) (by decide) (Nat.le_of_ble_eq_true rfl) ⟨Nat.le_of_ble_eq_true rfl, Nat.le_of_ble_eq_true rfl⟩ rfl rfl ?_
  show ab_Fr MX9_init (d + 2) _ 17 [some (.ref 62)] [.ref 64, .ref 62] (2, 18) cS_64 (cE_120 sc)
  refine ab_putF (E2 := cE_121 sc) dX9_init_17 fl_X9_15 (fun C T N ty h9 => by have h8 := h9.1; cases h8; rfl) rfl rfl rfl rfl ?_
  show ab_Fr MX9_init (d + 2) _ 20 [some (.ref 62)] [] (2, 18) cS_64 (cE_121 sc)
  refine ab_aloadn dX9_init_20 rfl ?_
  refine ab_new (E2 := cE_122 sc) (σ2 := cS_65) dX9_init_21 ck_0 wd_204 wd_188 wd_141 rfl ⟨Nat.le_of_ble_eq_true rfl, Nat.le_of_ble_eq_true rfl⟩ rfl rfl ?_
  show ab_Fr MX9_init (d + 2) _ 24 [some (.ref 62)] [.ref 65, .ref 62] (3, 19) cS_65 (cE_122 sc)
  refine ab_dup dX9_init_24 rfl ?_
  refine ab_callI (vs := []) (st := [.ref 65, .ref 62]) dX9_init_25 okMX0_init rfl rfl wd_190 wd_205 rfl rfl (Nat.le_of_ble_eq_true rfl) ⟨Nat.le_of_ble_eq_true rfl, Nat.le_of_ble_eq_true rfl⟩ (kI_19 (d := d + 0)) ?_
  rintro v9 σ9 E9 - ⟨rfl, rfl, rfl⟩
  show ab_Fr MX9_init (d + 2) _ 28 [some (.ref 62)] [.ref 65, .ref 62] (4, 28) cS_66 (cE_124 sc)
  refine ab_putF (E2 := cE_125 sc) dX9_init_28 fl_X9_21 (fun C T N ty h9 => by have h8 := h9.1; cases h8; rfl) rfl rfl rfl rfl ?_
  show ab_Fr MX9_init (d + 2) _ 31 [some (.ref 62)] [] (4, 28) cS_66 (cE_125 sc)
  refine ab_aloadn dX9_init_31 rfl ?_
  refine ab_iconst (v := 3) dX9_init_32 (by decide) ?_
  refine ab_newArr (t := 0) (n := 3) (ty := .int) (E2 := cE_126 sc) (σ2 := cS_67) dX9_init_33 rfl (Or.inl ⟨rfl, rfl⟩) wd_180 rfl (by decide) (by decide) (Nat.le_of_ble_eq_true rfl) ⟨Nat.le_of_ble_eq_true rfl, Nat.le_of_ble_eq_true rfl⟩ rfl rfl ?_
  show ab_Fr MX9_init (d + 2) _ 35 [some (.ref 62)] [.ref 67, .ref 62] (5, 31) cS_67 (cE_126 sc)
  refine ab_putF (E2 := cE_127 sc) dX9_init_35 fl_X9_25 (fun C T N ty h9 => by have h8 := h9.1; cases h8; rfl) rfl rfl rfl rfl ?_
  show ab_Fr MX9_init (d + 2) _ 38 [some (.ref 62)] [] (5, 31) cS_67 (cE_127 sc)
  exact ab_vret dX9_init_38 rfl ⟨Nat.le_of_ble_eq_true rfl, Nat.le_of_ble_eq_true rfl⟩ ⟨none, rfl, rfl, rfl, rfl⟩
set_option maxRecDepth 100000 in
theorem kI_21 {d : Nat} {sc : Nat × (Nat → Int32)} : ab_Call MX0_init (d + 1) [.ref 71] cS_71 (cE_134 sc) (fun v σ E => v = none ∧ σ = cS_72 ∧ E = cE_136 sc) := by
  refine ab_enter (n := 0) okMX0_init (fun G => Nat.le_of_ble_eq_true rfl) ?_
  show ab_Fr MX0_init (d + 1) _ 0 [some (.ref 71)] [] (0, 0) cS_71 (cE_134 sc)
  refine ab_aloadn dX0_init_0 rfl ?_
  refine ab_oinit dX0_init_1 wd_192 wd_162 wd_163 (Nat.le_of_ble_eq_true rfl) ?_
  refine ab_aloadn dX0_init_4 rfl ?_
  refine ab_bipush (v := 9) dX0_init_5 (by decide) ?_
  refine ab_newArr (t := 0) (n := 9) (ty := .int) (E2 := cE_135 sc) (σ2 := cS_72) dX0_init_7 rfl (Or.inl ⟨rfl, rfl⟩) wd_180 rfl (by decide) (by decide) (Nat.le_of_ble_eq_true rfl) ⟨Nat.le_of_ble_eq_true rfl, Nat.le_of_ble_eq_true rfl⟩ rfl rfl ?_
  show ab_Fr MX0_init (d + 1) _ 9 [some (.ref 71)] [.ref 72, .ref 71] (1, 9) cS_72 (cE_135 sc)
  refine ab_putF (E2 := cE_136 sc) dX0_init_9 fl_X0_9 (fun C T N ty h9 => by have h8 := h9.1; cases h8; rfl) rfl rfl rfl rfl ?_
  show ab_Fr MX0_init (d + 1) _ 12 [some (.ref 71)] [] (1, 9) cS_72 (cE_136 sc)
  exact ab_vret dX0_init_12 rfl ⟨Nat.le_of_ble_eq_true rfl, Nat.le_of_ble_eq_true rfl⟩ ⟨none, rfl, rfl, rfl, rfl⟩
set_option maxRecDepth 100000 in
theorem kI_22 {d : Nat} {sc : Nat × (Nat → Int32)} : ab_Call MX9_init (d + 2) [.ref 68] cS_68 (cE_129 sc) (fun v σ E => v = none ∧ σ = cS_73 ∧ E = cE_139 sc) := by
  refine ab_enter (n := 0) okMX9_init (fun G => Nat.le_of_ble_eq_true rfl) ?_
  show ab_Fr MX9_init (d + 2) _ 0 [some (.ref 68)] [] (0, 0) cS_68 (cE_129 sc)
  refine ab_aloadn dX9_init_0 rfl ?_
  refine ab_oinit dX9_init_1 wd_203 wd_162 wd_163 (Nat.le_of_ble_eq_true rfl) ?_
  refine ab_aloadn dX9_init_4 rfl ?_
  refine ab_bipush (v := 9) dX9_init_5 (by decide) ?_
  refine ab_newArr (t := 0) (n := 9) (ty := .int) (E2 := cE_130 sc) (σ2 := cS_69) dX9_init_7 rfl (Or.inl ⟨rfl, rfl⟩) wd_180 rfl (by decide) (by decide) (Nat.le_of_ble_eq_true rfl) ⟨Nat.le_of_ble_eq_true rfl, Nat.le_of_ble_eq_true rfl⟩ rfl rfl ?_
  show ab_Fr MX9_init (d + 2) _ 9 [some (.ref 68)] [.ref 69, .ref 68] (1, 9) cS_69 (cE_130 sc)
  refine ab_putF (E2 := cE_131 sc) dX9_init_9 fl_X9_9 (fun C T N ty h9 => by have h8 := h9.1; cases h8; rfl) rfl rfl rfl rfl ?_
  show ab_Fr MX9_init (d + 2) _ 12 [some (.ref 68)] [] (1, 9) cS_69 (cE_131 sc)
  refine ab_aloadn dX9_init_12 rfl ?_
  refine ab_bipush (v := 9) dX9_init_13 (by decide) ?_
  refine ab_newArr (t := 0) (n := 9) (ty := .int) (E2 := cE_132 sc) (σ2 := cS_70) dX9_init_15 rfl (Or.inl ⟨rfl, rfl⟩) wd_180 rfl (by decide) (by decide) (Nat.le_of_ble_eq_true rfl) ⟨Nat.le_of_ble_eq_true rfl, Nat.le_of_ble_eq_true rfl⟩ rfl rfl ?_
  show ab_Fr MX9_init (d + 2) _ 17 [some (.ref 68)] [.ref 70, .ref 68] (2, 18) cS_70 (cE_132 sc)
  refine ab_putF (E2 := cE_133 sc) dX9_init_17 fl_X9_15 (fun C T N ty h9 => by have h8 := h9.1; cases h8; rfl) rfl rfl rfl rfl ?_
  show ab_Fr MX9_init (d + 2) _ 20 [some (.ref 68)] [] (2, 18) cS_70 (cE_133 sc)
  refine ab_aloadn dX9_init_20 rfl ?_
  refine ab_new (E2 := cE_134 sc) (σ2 := cS_71) dX9_init_21 ck_0 wd_204 wd_188 wd_141 rfl ⟨Nat.le_of_ble_eq_true rfl, Nat.le_of_ble_eq_true rfl⟩ rfl rfl ?_
  show ab_Fr MX9_init (d + 2) _ 24 [some (.ref 68)] [.ref 71, .ref 68] (3, 19) cS_71 (cE_134 sc)
  refine ab_dup dX9_init_24 rfl ?_
  refine ab_callI (vs := []) (st := [.ref 71, .ref 68]) dX9_init_25 okMX0_init rfl rfl wd_190 wd_205 rfl rfl (Nat.le_of_ble_eq_true rfl) ⟨Nat.le_of_ble_eq_true rfl, Nat.le_of_ble_eq_true rfl⟩ (kI_21 (d := d + 0)) ?_
  rintro v9 σ9 E9 - ⟨rfl, rfl, rfl⟩
  show ab_Fr MX9_init (d + 2) _ 28 [some (.ref 68)] [.ref 71, .ref 68] (4, 28) cS_72 (cE_136 sc)
  refine ab_putF (E2 := cE_137 sc) dX9_init_28 fl_X9_21 (fun C T N ty h9 => by have h8 := h9.1; cases h8; rfl) rfl rfl rfl rfl ?_
  show ab_Fr MX9_init (d + 2) _ 31 [some (.ref 68)] [] (4, 28) cS_72 (cE_137 sc)
  refine ab_aloadn dX9_init_31 rfl ?_
  refine ab_iconst (v := 3) dX9_init_32 (by decide) ?_
  refine ab_newArr (t := 0) (n := 3) (ty := .int) (E2 := cE_138 sc) (σ2 := cS_73) dX9_init_33 rfl (Or.inl ⟨rfl, rfl⟩) wd_180 rfl (by decide) (by decide) (Nat.le_of_ble_eq_true rfl) ⟨Nat.le_of_ble_eq_true rfl, Nat.le_of_ble_eq_true rfl⟩ rfl rfl ?_
  show ab_Fr MX9_init (d + 2) _ 35 [some (.ref 68)] [.ref 73, .ref 68] (5, 31) cS_73 (cE_138 sc)
  refine ab_putF (E2 := cE_139 sc) dX9_init_35 fl_X9_25 (fun C T N ty h9 => by have h8 := h9.1; cases h8; rfl) rfl rfl rfl rfl ?_
  show ab_Fr MX9_init (d + 2) _ 38 [some (.ref 68)] [] (5, 31) cS_73 (cE_139 sc)
  exact ab_vret dX9_init_38 rfl ⟨Nat.le_of_ble_eq_true rfl, Nat.le_of_ble_eq_true rfl⟩ ⟨none, rfl, rfl, rfl, rfl⟩
set_option maxRecDepth 100000 in
theorem kI_23 {d : Nat} {sc : Nat × (Nat → Int32)} : ab_Call MX0_init (d + 1) [.ref 77] cS_77 (cE_146 sc) (fun v σ E => v = none ∧ σ = cS_78 ∧ E = cE_148 sc) := by
  refine ab_enter (n := 0) okMX0_init (fun G => Nat.le_of_ble_eq_true rfl) ?_
  show ab_Fr MX0_init (d + 1) _ 0 [some (.ref 77)] [] (0, 0) cS_77 (cE_146 sc)
  refine ab_aloadn dX0_init_0 rfl ?_
  refine ab_oinit dX0_init_1 wd_192 wd_162 wd_163 (Nat.le_of_ble_eq_true rfl) ?_
  refine ab_aloadn dX0_init_4 rfl ?_
  refine ab_bipush (v := 9) dX0_init_5 (by decide) ?_
  refine ab_newArr (t := 0) (n := 9) (ty := .int) (E2 := cE_147 sc) (σ2 := cS_78) dX0_init_7 rfl (Or.inl ⟨rfl, rfl⟩) wd_180 rfl (by decide) (by decide) (Nat.le_of_ble_eq_true rfl) ⟨Nat.le_of_ble_eq_true rfl, Nat.le_of_ble_eq_true rfl⟩ rfl rfl ?_
  show ab_Fr MX0_init (d + 1) _ 9 [some (.ref 77)] [.ref 78, .ref 77] (1, 9) cS_78 (cE_147 sc)
  refine ab_putF (E2 := cE_148 sc) dX0_init_9 fl_X0_9 (fun C T N ty h9 => by have h8 := h9.1; cases h8; rfl) rfl rfl rfl rfl ?_
  show ab_Fr MX0_init (d + 1) _ 12 [some (.ref 77)] [] (1, 9) cS_78 (cE_148 sc)
  exact ab_vret dX0_init_12 rfl ⟨Nat.le_of_ble_eq_true rfl, Nat.le_of_ble_eq_true rfl⟩ ⟨none, rfl, rfl, rfl, rfl⟩
set_option maxRecDepth 100000 in
theorem kI_24 {d : Nat} {sc : Nat × (Nat → Int32)} : ab_Call MX9_init (d + 2) [.ref 74] cS_74 (cE_141 sc) (fun v σ E => v = none ∧ σ = cS_79 ∧ E = cE_151 sc) := by
  refine ab_enter (n := 0) okMX9_init (fun G => Nat.le_of_ble_eq_true rfl) ?_
  show ab_Fr MX9_init (d + 2) _ 0 [some (.ref 74)] [] (0, 0) cS_74 (cE_141 sc)
  refine ab_aloadn dX9_init_0 rfl ?_
  refine ab_oinit dX9_init_1 wd_203 wd_162 wd_163 (Nat.le_of_ble_eq_true rfl) ?_
  refine ab_aloadn dX9_init_4 rfl ?_
  refine ab_bipush (v := 9) dX9_init_5 (by decide) ?_
  refine ab_newArr (t := 0) (n := 9) (ty := .int) (E2 := cE_142 sc) (σ2 := cS_75) dX9_init_7 rfl (Or.inl ⟨rfl, rfl⟩) wd_180 rfl (by decide) (by decide) (Nat.le_of_ble_eq_true rfl) ⟨Nat.le_of_ble_eq_true rfl, Nat.le_of_ble_eq_true rfl⟩ rfl rfl ?_
  show ab_Fr MX9_init (d + 2) _ 9 [some (.ref 74)] [.ref 75, .ref 74] (1, 9) cS_75 (cE_142 sc)
  refine ab_putF (E2 := cE_143 sc) dX9_init_9 fl_X9_9 (fun C T N ty h9 => by have h8 := h9.1; cases h8; rfl) rfl rfl rfl rfl ?_
  show ab_Fr MX9_init (d + 2) _ 12 [some (.ref 74)] [] (1, 9) cS_75 (cE_143 sc)
  refine ab_aloadn dX9_init_12 rfl ?_
  refine ab_bipush (v := 9) dX9_init_13 (by decide) ?_
  refine ab_newArr (t := 0) (n := 9) (ty := .int) (E2 := cE_144 sc) (σ2 := cS_76) dX9_init_15 rfl (Or.inl ⟨rfl, rfl⟩) wd_180 rfl (by decide) (by decide) (Nat.le_of_ble_eq_true rfl) ⟨Nat.le_of_ble_eq_true rfl, Nat.le_of_ble_eq_true rfl⟩ rfl rfl ?_
  show ab_Fr MX9_init (d + 2) _ 17 [some (.ref 74)] [.ref 76, .ref 74] (2, 18) cS_76 (cE_144 sc)
  refine ab_putF (E2 := cE_145 sc) dX9_init_17 fl_X9_15 (fun C T N ty h9 => by have h8 := h9.1; cases h8; rfl) rfl rfl rfl rfl ?_
  show ab_Fr MX9_init (d + 2) _ 20 [some (.ref 74)] [] (2, 18) cS_76 (cE_145 sc)
  refine ab_aloadn dX9_init_20 rfl ?_
  refine ab_new (E2 := cE_146 sc) (σ2 := cS_77) dX9_init_21 ck_0 wd_204 wd_188 wd_141 rfl ⟨Nat.le_of_ble_eq_true rfl, Nat.le_of_ble_eq_true rfl⟩ rfl rfl ?_
  show ab_Fr MX9_init (d + 2) _ 24 [some (.ref 74)] [.ref 77, .ref 74] (3, 19) cS_77 (cE_146 sc)
  refine ab_dup dX9_init_24 rfl ?_
  refine ab_callI (vs := []) (st := [.ref 77, .ref 74]) dX9_init_25 okMX0_init rfl rfl wd_190 wd_205 rfl rfl (Nat.le_of_ble_eq_true rfl) ⟨Nat.le_of_ble_eq_true rfl, Nat.le_of_ble_eq_true rfl⟩ (kI_23 (d := d + 0)) ?_
  rintro v9 σ9 E9 - ⟨rfl, rfl, rfl⟩
  show ab_Fr MX9_init (d + 2) _ 28 [some (.ref 74)] [.ref 77, .ref 74] (4, 28) cS_78 (cE_148 sc)
  refine ab_putF (E2 := cE_149 sc) dX9_init_28 fl_X9_21 (fun C T N ty h9 => by have h8 := h9.1; cases h8; rfl) rfl rfl rfl rfl ?_
  show ab_Fr MX9_init (d + 2) _ 31 [some (.ref 74)] [] (4, 28) cS_78 (cE_149 sc)
  refine ab_aloadn dX9_init_31 rfl ?_
  refine ab_iconst (v := 3) dX9_init_32 (by decide) ?_
  refine ab_newArr (t := 0) (n := 3) (ty := .int) (E2 := cE_150 sc) (σ2 := cS_79) dX9_init_33 rfl (Or.inl ⟨rfl, rfl⟩) wd_180 rfl (by decide) (by decide) (Nat.le_of_ble_eq_true rfl) ⟨Nat.le_of_ble_eq_true rfl, Nat.le_of_ble_eq_true rfl⟩ rfl rfl ?_
  show ab_Fr MX9_init (d + 2) _ 35 [some (.ref 74)] [.ref 79, .ref 74] (5, 31) cS_79 (cE_150 sc)
  refine ab_putF (E2 := cE_151 sc) dX9_init_35 fl_X9_25 (fun C T N ty h9 => by have h8 := h9.1; cases h8; rfl) rfl rfl rfl rfl ?_
  show ab_Fr MX9_init (d + 2) _ 38 [some (.ref 74)] [] (5, 31) cS_79 (cE_151 sc)
  exact ab_vret dX9_init_38 rfl ⟨Nat.le_of_ble_eq_true rfl, Nat.le_of_ble_eq_true rfl⟩ ⟨none, rfl, rfl, rfl, rfl⟩
set_option maxRecDepth 100000 in
theorem kI_25 {d : Nat} {sc : Nat × (Nat → Int32)} : ab_Call MX0_init (d + 1) [.ref 83] cS_83 (cE_158 sc) (fun v σ E => v = none ∧ σ = cS_84 ∧ E = cE_160 sc) := by
  refine ab_enter (n := 0) okMX0_init (fun G => Nat.le_of_ble_eq_true rfl) ?_
  show ab_Fr MX0_init (d + 1) _ 0 [some (.ref 83)] [] (0, 0) cS_83 (cE_158 sc)
  refine ab_aloadn dX0_init_0 rfl ?_
  refine ab_oinit dX0_init_1 wd_192 wd_162 wd_163 (Nat.le_of_ble_eq_true rfl) ?_
  refine ab_aloadn dX0_init_4 rfl ?_
  refine ab_bipush (v := 9) dX0_init_5 (by decide) ?_
  refine ab_newArr (t := 0) (n := 9) (ty := .int) (E2 := cE_159 sc) (σ2 := cS_84) dX0_init_7 rfl (Or.inl ⟨rfl, rfl⟩) wd_180 rfl (by decide) (by decide) (Nat.le_of_ble_eq_true rfl) ⟨Nat.le_of_ble_eq_true rfl, Nat.le_of_ble_eq_true rfl⟩ rfl rfl ?_
  show ab_Fr MX0_init (d + 1) _ 9 [some (.ref 83)] [.ref 84, .ref 83] (1, 9) cS_84 (cE_159 sc)
  refine ab_putF (E2 := cE_160 sc) dX0_init_9 fl_X0_9 (fun C T N ty h9 => by have h8 := h9.1; cases h8; rfl) rfl rfl rfl rfl ?_
  show ab_Fr MX0_init (d + 1) _ 12 [some (.ref 83)] [] (1, 9) cS_84 (cE_160 sc)
  exact ab_vret dX0_init_12 rfl ⟨Nat.le_of_ble_eq_true rfl, Nat.le_of_ble_eq_true rfl⟩ ⟨none, rfl, rfl, rfl, rfl⟩
set_option maxRecDepth 100000 in
theorem kI_26 {d : Nat} {sc : Nat × (Nat → Int32)} : ab_Call MX9_init (d + 2) [.ref 80] cS_80 (cE_153 sc) (fun v σ E => v = none ∧ σ = cS_85 ∧ E = cE_163 sc) := by
  refine ab_enter (n := 0) okMX9_init (fun G => Nat.le_of_ble_eq_true rfl) ?_
  show ab_Fr MX9_init (d + 2) _ 0 [some (.ref 80)] [] (0, 0) cS_80 (cE_153 sc)
  refine ab_aloadn dX9_init_0 rfl ?_
  refine ab_oinit dX9_init_1 wd_203 wd_162 wd_163 (Nat.le_of_ble_eq_true rfl) ?_
  refine ab_aloadn dX9_init_4 rfl ?_
  refine ab_bipush (v := 9) dX9_init_5 (by decide) ?_
  refine ab_newArr (t := 0) (n := 9) (ty := .int) (E2 := cE_154 sc) (σ2 := cS_81) dX9_init_7 rfl (Or.inl ⟨rfl, rfl⟩) wd_180 rfl (by decide) (by decide) (Nat.le_of_ble_eq_true rfl) ⟨Nat.le_of_ble_eq_true rfl, Nat.le_of_ble_eq_true rfl⟩ rfl rfl ?_
  show ab_Fr MX9_init (d + 2) _ 9 [some (.ref 80)] [.ref 81, .ref 80] (1, 9) cS_81 (cE_154 sc)
  refine ab_putF (E2 := cE_155 sc) dX9_init_9 fl_X9_9 (fun C T N ty h9 => by have h8 := h9.1; cases h8; rfl) rfl rfl rfl rfl ?_
  show ab_Fr MX9_init (d + 2) _ 12 [some (.ref 80)] [] (1, 9) cS_81 (cE_155 sc)
  refine ab_aloadn dX9_init_12 rfl ?_
  refine ab_bipush (v := 9) dX9_init_13 (by decide) ?_
  refine ab_newArr (t := 0) (n := 9) (ty := .int) (E2 := cE_156 sc) (σ2 := cS_82) dX9_init_15 rfl (Or.inl ⟨rfl, rfl⟩) wd_180 rfl (by decide) (by decide) (Nat.le_of_ble_eq_true rfl) ⟨Nat.le_of_ble_eq_true rfl, Nat.le_of_ble_eq_true rfl⟩ rfl rfl ?_
  show ab_Fr MX9_init (d + 2) _ 17 [some (.ref 80)] [.ref 82, .ref 80] (2, 18) cS_82 (cE_156 sc)
  refine ab_putF (E2 := cE_157 sc) dX9_init_17 fl_X9_15 (fun C T N ty h9 => by have h8 := h9.1; cases h8; rfl) rfl rfl rfl rfl ?_
  show ab_Fr MX9_init (d + 2) _ 20 [some (.ref 80)] [] (2, 18) cS_82 (cE_157 sc)
  refine ab_aloadn dX9_init_20 rfl ?_
  refine ab_new (E2 := cE_158 sc) (σ2 := cS_83) dX9_init_21 ck_0 wd_204 wd_188 wd_141 rfl ⟨Nat.le_of_ble_eq_true rfl, Nat.le_of_ble_eq_true rfl⟩ rfl rfl ?_
  show ab_Fr MX9_init (d + 2) _ 24 [some (.ref 80)] [.ref 83, .ref 80] (3, 19) cS_83 (cE_158 sc)
  refine ab_dup dX9_init_24 rfl ?_
  refine ab_callI (vs := []) (st := [.ref 83, .ref 80]) dX9_init_25 okMX0_init rfl rfl wd_190 wd_205 rfl rfl (Nat.le_of_ble_eq_true rfl) ⟨Nat.le_of_ble_eq_true rfl, Nat.le_of_ble_eq_true rfl⟩ (kI_25 (d := d + 0)) ?_
  rintro v9 σ9 E9 - ⟨rfl, rfl, rfl⟩
  show ab_Fr MX9_init (d + 2) _ 28 [some (.ref 80)] [.ref 83, .ref 80] (4, 28) cS_84 (cE_160 sc)
  refine ab_putF (E2 := cE_161 sc) dX9_init_28 fl_X9_21 (fun C T N ty h9 => by have h8 := h9.1; cases h8; rfl) rfl rfl rfl rfl ?_
  show ab_Fr MX9_init (d + 2) _ 31 [some (.ref 80)] [] (4, 28) cS_84 (cE_161 sc)
  refine ab_aloadn dX9_init_31 rfl ?_
  refine ab_iconst (v := 3) dX9_init_32 (by decide) ?_
  refine ab_newArr (t := 0) (n := 3) (ty := .int) (E2 := cE_162 sc) (σ2 := cS_85) dX9_init_33 rfl (Or.inl ⟨rfl, rfl⟩) wd_180 rfl (by decide) (by decide) (Nat.le_of_ble_eq_true rfl) ⟨Nat.le_of_ble_eq_true rfl, Nat.le_of_ble_eq_true rfl⟩ rfl rfl ?_
  show ab_Fr MX9_init (d + 2) _ 35 [some (.ref 80)] [.ref 85, .ref 80] (5, 31) cS_85 (cE_162 sc)
  refine ab_putF (E2 := cE_163 sc) dX9_init_35 fl_X9_25 (fun C T N ty h9 => by have h8 := h9.1; cases h8; rfl) rfl rfl rfl rfl ?_
  show ab_Fr MX9_init (d + 2) _ 38 [some (.ref 80)] [] (5, 31) cS_85 (cE_163 sc)
  exact ab_vret dX9_init_38 rfl ⟨Nat.le_of_ble_eq_true rfl, Nat.le_of_ble_eq_true rfl⟩ ⟨none, rfl, rfl, rfl, rfl⟩
set_option maxRecDepth 100000 in
theorem kI_27 {d : Nat} {sc : Nat × (Nat → Int32)} : ab_Call MX0_init (d + 1) [.ref 89] cS_89 (cE_170 sc) (fun v σ E => v = none ∧ σ = cS_90 ∧ E = cE_172 sc) := by
  refine ab_enter (n := 0) okMX0_init (fun G => Nat.le_of_ble_eq_true rfl) ?_
  show ab_Fr MX0_init (d + 1) _ 0 [some (.ref 89)] [] (0, 0) cS_89 (cE_170 sc)
  refine ab_aloadn dX0_init_0 rfl ?_
  refine ab_oinit dX0_init_1 wd_192 wd_162 wd_163 (Nat.le_of_ble_eq_true rfl) ?_
  refine ab_aloadn dX0_init_4 rfl ?_
  refine ab_bipush (v := 9) dX0_init_5 (by decide) ?_
  refine ab_newArr (t := 0) (n := 9) (ty := .int) (E2 := cE_171 sc) (σ2 := cS_90) dX0_init_7 rfl (Or.inl ⟨rfl, rfl⟩) wd_180 rfl (by decide) (by decide) (Nat.le_of_ble_eq_true rfl) ⟨Nat.le_of_ble_eq_true rfl, Nat.le_of_ble_eq_true rfl⟩ rfl rfl ?_
  show ab_Fr MX0_init (d + 1) _ 9 [some (.ref 89)] [.ref 90, .ref 89] (1, 9) cS_90 (cE_171 sc)
  refine ab_putF (E2 := cE_172 sc) dX0_init_9 fl_X0_9 (fun C T N ty h9 => by have h8 := h9.1; cases h8; rfl) rfl rfl rfl rfl ?_
  show ab_Fr MX0_init (d + 1) _ 12 [some (.ref 89)] [] (1, 9) cS_90 (cE_172 sc)
  exact ab_vret dX0_init_12 rfl ⟨Nat.le_of_ble_eq_true rfl, Nat.le_of_ble_eq_true rfl⟩ ⟨none, rfl, rfl, rfl, rfl⟩
set_option maxRecDepth 100000 in
theorem kI_28 {d : Nat} {sc : Nat × (Nat → Int32)} : ab_Call MX9_init (d + 2) [.ref 86] cS_86 (cE_165 sc) (fun v σ E => v = none ∧ σ = cS_91 ∧ E = cE_175 sc) := by
  refine ab_enter (n := 0) okMX9_init (fun G => Nat.le_of_ble_eq_true rfl) ?_
  show ab_Fr MX9_init (d + 2) _ 0 [some (.ref 86)] [] (0, 0) cS_86 (cE_165 sc)
  refine ab_aloadn dX9_init_0 rfl ?_
  refine ab_oinit dX9_init_1 wd_203 wd_162 wd_163 (Nat.le_of_ble_eq_true rfl) ?_
  refine ab_aloadn dX9_init_4 rfl ?_
  refine ab_bipush (v := 9) dX9_init_5 (by decide) ?_
  refine ab_newArr (t := 0) (n := 9) (ty := .int) (E2 := cE_166 sc) (σ2 := cS_87) dX9_init_7 rfl (Or.inl ⟨rfl, rfl⟩) wd_180 rfl (by decide) (by decide) (Nat.le_of_ble_eq_true rfl) ⟨Nat.le_of_ble_eq_true rfl, Nat.le_of_ble_eq_true rfl⟩ rfl rfl ?_
  show ab_Fr MX9_init (d + 2) _ 9 [some (.ref 86)] [.ref 87, .ref 86] (1, 9) cS_87 (cE_166 sc)
  refine ab_putF (E2 := cE_167 sc) dX9_init_9 fl_X9_9 (fun C T N ty h9 => by have h8 := h9.1; cases h8; rfl) rfl rfl rfl rfl ?_
  show ab_Fr MX9_init (d + 2) _ 12 [some (.ref 86)] [] (1, 9) cS_87 (cE_167 sc)
  refine ab_aloadn dX9_init_12 rfl ?_
  refine ab_bipush (v := 9) dX9_init_13 (by decide) ?_
  refine ab_newArr (t := 0) (n := 9) (ty := .int) (E2 := cE_168 sc) (σ2 := cS_88) dX9_init_15 rfl (Or.inl ⟨rfl, rfl⟩) wd_180 rfl (by decide) (by decide) (Nat.le_of_ble_eq_true rfl) ⟨Nat.le_of_ble_eq_true rfl, Nat.le_of_ble_eq_true rfl⟩ rfl rfl ?_
  show ab_Fr MX9_init (d + 2) _ 17 [some (.ref 86)] [.ref 88, .ref 86] (2, 18) cS_88 (cE_168 sc)
  refine ab_putF (E2 := cE_169 sc) dX9_init_17 fl_X9_15 (fun C T N ty h9 => by have h8 := h9.1; cases h8; rfl) rfl rfl rfl rfl ?_
  show ab_Fr MX9_init (d + 2) _ 20 [some (.ref 86)] [] (2, 18) cS_88 (cE_169 sc)
  refine ab_aloadn dX9_init_20 rfl ?_
  refine ab_new (E2 := cE_170 sc) (σ2 := cS_89) dX9_init_21 ck_0 wd_204 wd_188 wd_141 rfl ⟨Nat.le_of_ble_eq_true rfl, Nat.le_of_ble_eq_true rfl⟩ rfl rfl ?_
  show ab_Fr MX9_init (d + 2) _ 24 [some (.ref 86)] [.ref 89, .ref 86] (3, 19) cS_89 (cE_170 sc)
  refine ab_dup dX9_init_24 rfl ?_
  refine ab_callI (vs := []) (st := [.ref 89, .ref 86]) dX9_init_25 okMX0_init rfl rfl wd_190 wd_205 rfl rfl (Nat.le_of_ble_eq_true rfl) ⟨Nat.le_of_ble_eq_true rfl, Nat.le_of_ble_eq_true rfl⟩ (kI_27 (d := d + 0)) ?_
  rintro v9 σ9 E9 - ⟨rfl, rfl, rfl⟩
  show ab_Fr MX9_init (d + 2) _ 28 [some (.ref 86)] [.ref 89, .ref 86] (4, 28) cS_90 (cE_172 sc)
  refine ab_putF (E2 := cE_173 sc) dX9_init_28 fl_X9_21 (fun C T N ty h9 => by have h8 := h9.1; cases h8; rfl) rfl rfl rfl rfl ?_
  show ab_Fr MX9_init (d + 2) _ 31 [some (.ref 86)] [] (4, 28) cS_90 (cE_173 sc)
  refine ab_aloadn dX9_init_31 rfl ?_
  refine ab_iconst (v := 3) dX9_init_32 (by decide) ?_
  refine ab_newArr (t := 0) (n := 3) (ty := .int) (E2 := cE_174 sc) (σ2 := cS_91) dX9_init_33 rfl (Or.inl ⟨rfl, rfl⟩) wd_180 rfl (by decide) (by decide) (Nat.le_of_ble_eq_true rfl) ⟨Nat.le_of_ble_eq_true rfl, Nat.le_of_ble_eq_true rfl⟩ rfl rfl ?_
  show ab_Fr MX9_init (d + 2) _ 35 [some (.ref 86)] [.ref 91, .ref 86] (5, 31) cS_91 (cE_174 sc)
  refine ab_putF (E2 := cE_175 sc) dX9_init_35 fl_X9_25 (fun C T N ty h9 => by have h8 := h9.1; cases h8; rfl) rfl rfl rfl rfl ?_
  show ab_Fr MX9_init (d + 2) _ 38 [some (.ref 86)] [] (5, 31) cS_91 (cE_175 sc)
  exact ab_vret dX9_init_38 rfl ⟨Nat.le_of_ble_eq_true rfl, Nat.le_of_ble_eq_true rfl⟩ ⟨none, rfl, rfl, rfl, rfl⟩
set_option maxRecDepth 100000 in
theorem kI_29 {d : Nat} {sc : Nat × (Nat → Int32)} : ab_Call MX0_init (d + 1) [.ref 95] cS_95 (cE_182 sc) (fun v σ E => v = none ∧ σ = cS_96 ∧ E = cE_184 sc) := by
  refine ab_enter (n := 0) okMX0_init (fun G => Nat.le_of_ble_eq_true rfl) ?_
  show ab_Fr MX0_init (d + 1) _ 0 [some (.ref 95)] [] (0, 0) cS_95 (cE_182 sc)
  refine ab_aloadn dX0_init_0 rfl ?_
  refine ab_oinit dX0_init_1 wd_192 wd_162 wd_163 (Nat.le_of_ble_eq_true rfl) ?_
  refine ab_aloadn dX0_init_4 rfl ?_
  refine ab_bipush (v := 9) dX0_init_5 (by decide) ?_
  refine ab_newArr (t := 0) (n := 9) (ty := .int) (E2 := cE_183 sc) (σ2 := cS_96) dX0_init_7 rfl (Or.inl ⟨rfl, rfl⟩) wd_180 rfl (by decide) (by decide) (Nat.le_of_ble_eq_true rfl) ⟨Nat.le_of_ble_eq_true rfl, Nat.le_of_ble_eq_true rfl⟩ rfl rfl ?_
  show ab_Fr MX0_init (d + 1) _ 9 [some (.ref 95)] [.ref 96, .ref 95] (1, 9) cS_96 (cE_183 sc)
  refine ab_putF (E2 := cE_184 sc) dX0_init_9 fl_X0_9 (fun C T N ty h9 => by have h8 := h9.1; cases h8; rfl) rfl rfl rfl rfl ?_
  show ab_Fr MX0_init (d + 1) _ 12 [some (.ref 95)] [] (1, 9) cS_96 (cE_184 sc)
  exact ab_vret dX0_init_12 rfl ⟨Nat.le_of_ble_eq_true rfl, Nat.le_of_ble_eq_true rfl⟩ ⟨none, rfl, rfl, rfl, rfl⟩
set_option maxRecDepth 100000 in
theorem kI_30 {d : Nat} {sc : Nat × (Nat → Int32)} : ab_Call MX9_init (d + 2) [.ref 92] cS_92 (cE_177 sc) (fun v σ E => v = none ∧ σ = cS_97 ∧ E = cE_187 sc) := by
  refine ab_enter (n := 0) okMX9_init (fun G => Nat.le_of_ble_eq_true rfl) ?_
  show ab_Fr MX9_init (d + 2) _ 0 [some (.ref 92)] [] (0, 0) cS_92 (cE_177 sc)
  refine ab_aloadn dX9_init_0 rfl ?_
  refine ab_oinit dX9_init_1 wd_203 wd_162 wd_163 (Nat.le_of_ble_eq_true rfl) ?_
  refine ab_aloadn dX9_init_4 rfl ?_
  refine ab_bipush (v := 9) dX9_init_5 (by decide) ?_
  refine ab_newArr (t := 0) (n := 9) (ty := .int) (E2 := cE_178 sc) (σ2 := cS_93) dX9_init_7 rfl (Or.inl ⟨rfl, rfl⟩) wd_180 rfl (by decide) (by decide) (Nat.le_of_ble_eq_true rfl) ⟨Nat.le_of_ble_eq_true rfl, Nat.le_of_ble_eq_true rfl⟩ rfl rfl ?_
  show ab_Fr MX9_init (d + 2) _ 9 [some (.ref 92)] [.ref 93, .ref 92] (1, 9) cS_93 (cE_178 sc)
  refine ab_putF (E2 := cE_179 sc) dX9_init_9 fl_X9_9 (fun C T N ty h9 => by have h8 := h9.1; cases h8; rfl) rfl rfl rfl rfl ?_
  show ab_Fr MX9_init (d + 2) _ 12 [some (.ref 92)] [] (1, 9) cS_93 (cE_179 sc)
  refine ab_aloadn dX9_init_12 rfl ?_
  refine ab_bipush (v := 9) dX9_init_13 (by decide) ?_
  refine ab_newArr (t := 0) (n := 9) (ty := .int) (E2 := cE_180 sc) (σ2 := cS_94) dX9_init_15 rfl (Or.inl ⟨rfl, rfl⟩) wd_180 rfl (by decide) (by decide) (Nat.le_of_ble_eq_true rfl) ⟨Nat.le_of_ble_eq_true rfl, Nat.le_of_ble_eq_true rfl⟩ rfl rfl ?_
  show ab_Fr MX9_init (d + 2) _ 17 [some (.ref 92)] [.ref 94, .ref 92] (2, 18) cS_94 (cE_180 sc)
  refine ab_putF (E2 := cE_181 sc) dX9_init_17 fl_X9_15 (fun C T N ty h9 => by have h8 := h9.1; cases h8; rfl) rfl rfl rfl rfl ?_
  show ab_Fr MX9_init (d + 2) _ 20 [some (.ref 92)] [] (2, 18) cS_94 (cE_181 sc)
  refine ab_aloadn dX9_init_20 rfl ?_
  refine ab_new (E2 := cE_182 sc) (σ2 := cS_95) dX9_init_21 ck_0 wd_204 wd_188 wd_141 rfl ⟨Nat.le_of_ble_eq_true rfl, Nat.le_of_ble_eq_true rfl⟩ rfl rfl ?_
  show ab_Fr MX9_init (d + 2) _ 24 [some (.ref 92)] [.ref 95, .ref 92] (3, 19) cS_95 (cE_182 sc)
  refine ab_dup dX9_init_24 rfl ?_
  refine ab_callI (vs := []) (st := [.ref 95, .ref 92]) dX9_init_25 okMX0_init rfl rfl wd_190 wd_205 rfl rfl (Nat.le_of_ble_eq_true rfl) ⟨Nat.le_of_ble_eq_true rfl, Nat.le_of_ble_eq_true rfl⟩ (kI_29 (d := d + 0)) ?_
  rintro v9 σ9 E9 - ⟨rfl, rfl, rfl⟩
  show ab_Fr MX9_init (d + 2) _ 28 [some (.ref 92)] [.ref 95, .ref 92] (4, 28) cS_96 (cE_184 sc)
  refine ab_putF (E2 := cE_185 sc) dX9_init_28 fl_X9_21 (fun C T N ty h9 => by have h8 := h9.1; cases h8; rfl) rfl rfl rfl rfl ?_
  show ab_Fr MX9_init (d + 2) _ 31 [some (.ref 92)] [] (4, 28) cS_96 (cE_185 sc)
  refine ab_aloadn dX9_init_31 rfl ?_
  refine ab_iconst (v := 3) dX9_init_32 (by decide) ?_
  refine ab_newArr (t := 0) (n := 3) (ty := .int) (E2 := cE_186 sc) (σ2 := cS_97) dX9_init_33 rfl (Or.inl ⟨rfl, rfl⟩) wd_180 rfl (by decide) (by decide) (Nat.le_of_ble_eq_true rfl) ⟨Nat.le_of_ble_eq_true rfl, Nat.le_of_ble_eq_true rfl⟩ rfl rfl ?_
  show ab_Fr MX9_init (d + 2) _ 35 [some (.ref 92)] [.ref 97, .ref 92] (5, 31) cS_97 (cE_186 sc)
  refine ab_putF (E2 := cE_187 sc) dX9_init_35 fl_X9_25 (fun C T N ty h9 => by have h8 := h9.1; cases h8; rfl) rfl rfl rfl rfl ?_
  show ab_Fr MX9_init (d + 2) _ 38 [some (.ref 92)] [] (5, 31) cS_97 (cE_187 sc)
  exact ab_vret dX9_init_38 rfl ⟨Nat.le_of_ble_eq_true rfl, Nat.le_of_ble_eq_true rfl⟩ ⟨none, rfl, rfl, rfl, rfl⟩
set_option maxRecDepth 100000 in
theorem kI_31 {d : Nat} {sc : Nat × (Nat → Int32)} : ab_Call MX0_init (d + 1) [.ref 101] cS_101 (cE_194 sc) (fun v σ E => v = none ∧ σ = cS_102 ∧ E = cE_196 sc) := by
  refine ab_enter (n := 0) okMX0_init (fun G => Nat.le_of_ble_eq_true rfl) ?_
  show ab_Fr MX0_init (d + 1) _ 0 [some (.ref 101)] [] (0, 0) cS_101 (cE_194 sc)
  refine ab_aloadn dX0_init_0 rfl ?_
  refine ab_oinit dX0_init_1 wd_192 wd_162 wd_163 (Nat.le_of_ble_eq_true rfl) ?_
  refine ab_aloadn dX0_init_4 rfl ?_
  refine ab_bipush (v := 9) dX0_init_5 (by decide) ?_
  refine ab_newArr (t := 0) (n := 9) (ty := .int) (E2 := cE_195 sc) (σ2 := cS_102) dX0_init_7 rfl (Or.inl ⟨rfl, rfl⟩) wd_180 rfl (by decide) (by decide) (Nat.le_of_ble_eq_true rfl) ⟨Nat.le_of_ble_eq_true rfl, Nat.le_of_ble_eq_true rfl⟩ rfl rfl ?_
  show ab_Fr MX0_init (d + 1) _ 9 [some (.ref 101)] [.ref 102, .ref 101] (1, 9) cS_102 (cE_195 sc)
  refine ab_putF (E2 := cE_196 sc) dX0_init_9 fl_X0_9 (fun C T N ty h9 => by have h8 := h9.1; cases h8; rfl) rfl rfl rfl rfl ?_
  show ab_Fr MX0_init (d + 1) _ 12 [some (.ref 101)] [] (1, 9) cS_102 (cE_196 sc)
  exact ab_vret dX0_init_12 rfl ⟨Nat.le_of_ble_eq_true rfl, Nat.le_of_ble_eq_true rfl⟩ ⟨none, rfl, rfl, rfl, rfl⟩
set_option maxRecDepth 100000 in
theorem kI_32 {d : Nat} {sc : Nat × (Nat → Int32)} : ab_Call MX9_init (d + 2) [.ref 98] cS_98 (cE_189 sc) (fun v σ E => v = none ∧ σ = cS_103 ∧ E = cE_199 sc) := by
  refine ab_enter (n := 0) okMX9_init (fun G => Nat.le_of_ble_eq_true rfl) ?_
  show ab_Fr MX9_init (d + 2) _ 0 [some (.ref 98)] [] (0, 0) cS_98 (cE_189 sc)
  refine ab_aloadn dX9_init_0 rfl ?_
  refine ab_oinit dX9_init_1 wd_203 wd_162 wd_163 (Nat.le_of_ble_eq_true rfl) ?_
  refine ab_aloadn dX9_init_4 rfl ?_
  refine ab_bipush (v := 9) dX9_init_5 (by decide) ?_
  refine ab_newArr (t := 0) (n := 9) (ty := .int) (E2 := cE_190 sc) (σ2 := cS_99) dX9_init_7 rfl (Or.inl ⟨rfl, rfl⟩) wd_180 rfl (by decide) (by decide) (Nat.le_of_ble_eq_true rfl) ⟨Nat.le_of_ble_eq_true rfl, Nat.le_of_ble_eq_true rfl⟩ rfl rfl ?_
  show ab_Fr MX9_init (d + 2) _ 9 [some (.ref 98)] [.ref 99, .ref 98] (1, 9) cS_99 (cE_190 sc)
  refine ab_putF (E2 := cE_191 sc) dX9_init_9 fl_X9_9 (fun C T N ty h9 => by have h8 := h9.1; cases h8; rfl) rfl rfl rfl rfl ?_
  show ab_Fr MX9_init (d + 2) _ 12 [some (.ref 98)] [] (1, 9) cS_99 (cE_191 sc)
  refine ab_aloadn dX9_init_12 rfl ?_
  refine ab_bipush (v := 9) dX9_init_13 (by decide) ?_
  refine ab_newArr (t := 0) (n := 9) (ty := .int) (E2 := cE_192 sc) (σ2 := cS_100) dX9_init_15 rfl (Or.inl ⟨rfl, rfl⟩) wd_180 rfl (by decide) (by decide) (Nat.le_of_ble_eq_true rfl) ⟨Nat.le_of_ble_eq_true rfl, Nat.le_of_ble_eq_true rfl⟩ rfl rfl ?_
  show ab_Fr MX9_init (d + 2) _ 17 [some (.ref 98)] [.ref 100, .ref 98] (2, 18) cS_100 (cE_192 sc)
  refine ab_putF (E2 := cE_193 sc) dX9_init_17 fl_X9_15 (fun C T N ty h9 => by have h8 := h9.1; cases h8; rfl) rfl rfl rfl rfl ?_
  show ab_Fr MX9_init (d + 2) _ 20 [some (.ref 98)] [] (2, 18) cS_100 (cE_193 sc)
  refine ab_aloadn dX9_init_20 rfl ?_
  refine ab_new (E2 := cE_194 sc) (σ2 := cS_101) dX9_init_21 ck_0 wd_204 wd_188 wd_141 rfl ⟨Nat.le_of_ble_eq_true rfl, Nat.le_of_ble_eq_true rfl⟩ rfl rfl ?_
  show ab_Fr MX9_init (d + 2) _ 24 [some (.ref 98)] [.ref 101, .ref 98] (3, 19) cS_101 (cE_194 sc)
  refine ab_dup dX9_init_24 rfl ?_
  refine ab_callI (vs := []) (st := [.ref 101, .ref 98]) dX9_init_25 okMX0_init rfl rfl wd_190 wd_205 rfl rfl (Nat.le_of_ble_eq_true rfl) ⟨Nat.le_of_ble_eq_true rfl, Nat.le_of_ble_eq_true rfl⟩ (kI_31 (d := d + 0)) ?_
  rintro v9 σ9 E9 - ⟨rfl, rfl, rfl⟩
  show ab_Fr MX9_init (d + 2) _ 28 [some (.ref 98)] [.ref 101, .ref 98] (4, 28) cS_102 (cE_196 sc)
  refine ab_putF (E2 := cE_197 sc) dX9_init_28 fl_X9_21 (fun C T N ty h9 => by have h8 := h9.1; cases h8; rfl) rfl rfl rfl rfl ?_
  show ab_Fr MX9_init (d + 2) _ 31 [some (.ref 98)] [] (4, 28) cS_102 (cE_197 sc)
  refine ab_aloadn dX9_init_31 rfl ?_
  refine ab_iconst (v := 3) dX9_init_32 (by decide) ?_
  refine ab_newArr (t := 0) (n := 3) (ty := .int) (E2 := cE_198 sc) (σ2 := cS_103) dX9_init_33 rfl (Or.inl ⟨rfl, rfl⟩) wd_180 rfl (by decide) (by decide) (Nat.le_of_ble_eq_true rfl) ⟨Nat.le_of_ble_eq_true rfl, Nat.le_of_ble_eq_true rfl⟩ rfl rfl ?_
  show ab_Fr MX9_init (d + 2) _ 35 [some (.ref 98)] [.ref 103, .ref 98] (5, 31) cS_103 (cE_198 sc)
  refine ab_putF (E2 := cE_199 sc) dX9_init_35 fl_X9_25 (fun C T N ty h9 => by have h8 := h9.1; cases h8; rfl) rfl rfl rfl rfl ?_
  show ab_Fr MX9_init (d + 2) _ 38 [some (.ref 98)] [] (5, 31) cS_103 (cE_199 sc)
  exact ab_vret dX9_init_38 rfl ⟨Nat.le_of_ble_eq_true rfl, Nat.le_of_ble_eq_true rfl⟩ ⟨none, rfl, rfl, rfl, rfl⟩
set_option maxRecDepth 100000 in
theorem kI_33 {d : Nat} {sc : Nat × (Nat → Int32)} : ab_Call MX1_init (d + 3) [.ref 57] cS_56 (cE_108 sc) (fun v σ E => v = none ∧ σ = cS_106 ∧ E = cE_206 sc) := by
  refine ab_enter (n := 0) okMX1_init (fun G => Nat.le_of_ble_eq_true rfl) ?_
  show ab_Fr MX1_init (d + 3) _ 0 [some (.ref 57), none] [] (0, 0) cS_56 (cE_108 sc)
  refine ab_aloadn dX1_init_0 rfl ?_
  refine ab_oinit dX1_init_1 wd_186 wd_162 wd_163 (Nat.le_of_ble_eq_true rfl) ?_
  refine ab_aloadn dX1_init_4 rfl ?_
  refine ab_iconst (v := (-1)) dX1_init_5 (by decide) ?_
  refine ab_putI dX1_init_6 fl_X1_9 rfl rfl ?_
  show ab_Fr MX1_init (d + 3) _ 9 [some (.ref 57), none] [] (0, 0) cS_57 (cE_108 sc)
  refine ab_aloadn dX1_init_9 rfl ?_
  refine ab_iconst (v := 3) dX1_init_10 (by decide) ?_
  refine ab_newArr (t := 0) (n := 3) (ty := .int) (E2 := cE_109 sc) (σ2 := cS_58) dX1_init_11 rfl (Or.inl ⟨rfl, rfl⟩) wd_180 rfl (by decide) (by decide) (Nat.le_of_ble_eq_true rfl) ⟨Nat.le_of_ble_eq_true rfl, Nat.le_of_ble_eq_true rfl⟩ rfl rfl ?_
  show ab_Fr MX1_init (d + 3) _ 13 [some (.ref 57), none] [.ref 58, .ref 57] (1, 3) cS_58 (cE_109 sc)
  refine ab_putF (E2 := cE_110 sc) dX1_init_13 fl_X1_15 (fun C T N ty h9 => by have h8 := h9.1; cases h8; rfl) rfl rfl rfl rfl ?_
  show ab_Fr MX1_init (d + 3) _ 16 [some (.ref 57), none] [] (1, 3) cS_58 (cE_110 sc)
  refine ab_aloadn dX1_init_16 rfl ?_
  refine ab_new (E2 := cE_111 sc) (σ2 := cS_59) dX1_init_17 ck_0 wd_187 wd_188 wd_141 rfl ⟨Nat.le_of_ble_eq_true rfl, Nat.le_of_ble_eq_true rfl⟩ rfl rfl ?_
  show ab_Fr MX1_init (d + 3) _ 20 [some (.ref 57), none] [.ref 59, .ref 57] (2, 4) cS_59 (cE_111 sc)
  refine ab_dup dX1_init_20 rfl ?_
  refine ab_callI (vs := []) (st := [.ref 59, .ref 57]) dX1_init_21 okMX0_init rfl rfl wd_190 wd_189 rfl rfl (Nat.le_of_ble_eq_true rfl) ⟨Nat.le_of_ble_eq_true rfl, Nat.le_of_ble_eq_true rfl⟩ (kI_18 (d := d + 1)) ?_
  rintro v9 σ9 E9 - ⟨rfl, rfl, rfl⟩
  show ab_Fr MX1_init (d + 3) _ 24 [some (.ref 57), none] [.ref 59, .ref 57] (3, 13) cS_60 (cE_113 sc)
  refine ab_putF (E2 := cE_114 sc) dX1_init_24 fl_X1_22 (fun C T N ty h9 => by have h8 := h9.1; cases h8; rfl) rfl rfl rfl rfl ?_
  show ab_Fr MX1_init (d + 3) _ 27 [some (.ref 57), none] [] (3, 13) cS_60 (cE_114 sc)
  refine ab_aloadn dX1_init_27 rfl ?_
  refine ab_bipush (v := 7) dX1_init_28 (by decide) ?_
  refine ab_newRef (t := 3) (n := 7) (D := RX9) (E2 := cE_115 sc) (σ2 := cS_61) dX1_init_30 (Or.inl ⟨rfl, rfl⟩) wd_198 rfl (by decide) (by decide) (Nat.le_of_ble_eq_true rfl) ⟨Nat.le_of_ble_eq_true rfl, Nat.le_of_ble_eq_true rfl⟩ rfl rfl ?_
  show ab_Fr MX1_init (d + 3) _ 33 [some (.ref 57), none] [.ref 61, .ref 57] (4, 20) cS_61 (cE_115 sc)
  refine ab_putF (E2 := cE_116 sc) dX1_init_33 fl_X1_28 (fun C T N ty h9 => by have h8 := h9.1; cases h8; rfl) rfl rfl rfl rfl ?_
  show ab_Fr MX1_init (d + 3) _ 36 [some (.ref 57), none] [] (4, 20) cS_61 (cE_116 sc)
  refine ab_iconst (v := 0) dX1_init_36 (by decide) ?_
  refine ab_istoren dX1_init_37 (Nat.le_of_ble_eq_true rfl) (L2 := [some (.ref 57), some (.int 0)]) rfl ?_
  refine ab_iloadn dX1_init_38 rfl ?_
  refine ab_bipush (v := 7) dX1_init_39 (by decide) ?_
  refine ab_icmp_ge (tgt := 63) dX1_init_41 (by decide) (fun q => absurd q (by decide)) (fun _ => ?_)
  refine ab_aloadn dX1_init_44 rfl ?_
  refine ab_getf (v := .ref 61) dX1_init_45 fl_X1_28 rfl rfl ?_
  refine ab_iloadn dX1_init_48 rfl ?_
  refine ab_new (E2 := cE_117 sc) (σ2 := cS_62) dX1_init_49 ck_9 wd_198 wd_199 wd_142 rfl ⟨Nat.le_of_ble_eq_true rfl, Nat.le_of_ble_eq_true rfl⟩ rfl rfl ?_
  show ab_Fr MX1_init (d + 3) _ 52 [some (.ref 57), some (.int 0)] [.ref 62, .int 0, .ref 61] (5, 28) cS_62 (cE_117 sc)
  refine ab_dup dX1_init_52 rfl ?_
  refine ab_callI (vs := []) (st := [.ref 62, .int 0, .ref 61]) dX1_init_53 okMX9_init rfl rfl wd_201 wd_200 rfl rfl (Nat.le_of_ble_eq_true rfl) ⟨Nat.le_of_ble_eq_true rfl, Nat.le_of_ble_eq_true rfl⟩ (kI_20 (d := d + 0)) ?_
  rintro v9 σ9 E9 - ⟨rfl, rfl, rfl⟩
  show ab_Fr MX1_init (d + 3) _ 56 [some (.ref 57), some (.int 0)] [.ref 62, .int 0, .ref 61] (10, 59) cS_67 (cE_127 sc)
  refine ab_aastore (E2 := cE_128 sc) dX1_init_56 (Or.inl ⟨rfl, rfl⟩) rfl rfl (ab_vp (by decide)) rfl ?_
  show ab_Fr MX1_init (d + 3) _ 57 [some (.ref 57), some (.int 0)] [] (10, 59) cS_67 (cE_128 sc)
  refine ab_iinc (v := 1) dX1_init_57 rfl (by decide) (Nat.le_of_ble_eq_true rfl) (L2 := [some (.ref 57), some (.int 1)]) rfl ?_
  refine ab_goto (tgt := 38) dX1_init_60 (by decide) ?_
  refine ab_iloadn dX1_init_38 rfl ?_
  refine ab_bipush (v := 7) dX1_init_39 (by decide) ?_
  refine ab_icmp_ge (tgt := 63) dX1_init_41 (by decide) (fun q => absurd q (by decide)) (fun _ => ?_)
  refine ab_aloadn dX1_init_44 rfl ?_
  refine ab_getf (v := .ref 61) dX1_init_45 fl_X1_28 rfl rfl ?_
  refine ab_iloadn dX1_init_48 rfl ?_
  refine ab_new (E2 := cE_129 sc) (σ2 := cS_68) dX1_init_49 ck_9 wd_198 wd_199 wd_142 rfl ⟨Nat.le_of_ble_eq_true rfl, Nat.le_of_ble_eq_true rfl⟩ rfl rfl ?_
  show ab_Fr MX1_init (d + 3) _ 52 [some (.ref 57), some (.int 1)] [.ref 68, .int 1, .ref 61] (11, 67) cS_68 (cE_129 sc)
  refine ab_dup dX1_init_52 rfl ?_
  refine ab_callI (vs := []) (st := [.ref 68, .int 1, .ref 61]) dX1_init_53 okMX9_init rfl rfl wd_201 wd_200 rfl rfl (Nat.le_of_ble_eq_true rfl) ⟨Nat.le_of_ble_eq_true rfl, Nat.le_of_ble_eq_true rfl⟩ (kI_22 (d := d + 0)) ?_
  rintro v9 σ9 E9 - ⟨rfl, rfl, rfl⟩
  show ab_Fr MX1_init (d + 3) _ 56 [some (.ref 57), some (.int 1)] [.ref 68, .int 1, .ref 61] (16, 98) cS_73 (cE_139 sc)
  refine ab_aastore (E2 := cE_140 sc) dX1_init_56 (Or.inl ⟨rfl, rfl⟩) rfl rfl (ab_vp (by decide)) rfl ?_
  show ab_Fr MX1_init (d + 3) _ 57 [some (.ref 57), some (.int 1)] [] (16, 98) cS_73 (cE_140 sc)
  refine ab_iinc (v := 2) dX1_init_57 rfl (by decide) (Nat.le_of_ble_eq_true rfl) (L2 := [some (.ref 57), some (.int 2)]) rfl ?_
  refine ab_goto (tgt := 38) dX1_init_60 (by decide) ?_
  refine ab_iloadn dX1_init_38 rfl ?_
  refine ab_bipush (v := 7) dX1_init_39 (by decide) ?_
  refine ab_icmp_ge (tgt := 63) dX1_init_41 (by decide) (fun q => absurd q (by decide)) (fun _ => ?_)
  refine ab_aloadn dX1_init_44 rfl ?_
  refine ab_getf (v := .ref 61) dX1_init_45 fl_X1_28 rfl rfl ?_
  refine ab_iloadn dX1_init_48 rfl ?_
  refine ab_new (E2 := cE_141 sc) (σ2 := cS_74) dX1_init_49 ck_9 wd_198 wd_199 wd_142 rfl ⟨Nat.le_of_ble_eq_true rfl, Nat.le_of_ble_eq_true rfl⟩ rfl rfl ?_
  show ab_Fr MX1_init (d + 3) _ 52 [some (.ref 57), some (.int 2)] [.ref 74, .int 2, .ref 61] (17, 106) cS_74 (cE_141 sc)
  refine ab_dup dX1_init_52 rfl ?_
  refine ab_callI (vs := []) (st := [.ref 74, .int 2, .ref 61]) dX1_init_53 okMX9_init rfl rfl wd_201 wd_200 rfl rfl (Nat.le_of_ble_eq_true rfl) ⟨Nat.le_of_ble_eq_true rfl, Nat.le_of_ble_eq_true rfl⟩ (kI_24 (d := d + 0)) ?_
  rintro v9 σ9 E9 - ⟨rfl, rfl, rfl⟩
  show ab_Fr MX1_init (d + 3) _ 56 [some (.ref 57), some (.int 2)] [.ref 74, .int 2, .ref 61] (22, 137) cS_79 (cE_151 sc)
  refine ab_aastore (E2 := cE_152 sc) dX1_init_56 (Or.inl ⟨rfl, rfl⟩) rfl rfl (ab_vp (by decide)) rfl ?_
  show ab_Fr MX1_init (d + 3) _ 57 [some (.ref 57), some (.int 2)] [] (22, 137) cS_79 (cE_152 sc)
  refine ab_iinc (v := 3) dX1_init_57 rfl (by decide) (Nat.le_of_ble_eq_true rfl) (L2 := [some (.ref 57), some (.int 3)]) rfl ?_
  refine ab_goto (tgt := 38) dX1_init_60 (by decide) ?_
  refine ab_iloadn dX1_init_38 rfl ?_
  refine ab_bipush (v := 7) dX1_init_39 (by decide) ?_
  refine ab_icmp_ge (tgt := 63) dX1_init_41 (by decide) (fun q => absurd q (by decide)) (fun _ => ?_)
  refine ab_aloadn dX1_init_44 rfl ?_
  refine ab_getf (v := .ref 61) dX1_init_45 fl_X1_28 rfl rfl ?_
  refine ab_iloadn dX1_init_48 rfl ?_
  refine ab_new (E2 := cE_153 sc) (σ2 := cS_80) dX1_init_49 ck_9 wd_198 wd_199 wd_142 rfl ⟨Nat.le_of_ble_eq_true rfl, Nat.le_of_ble_eq_true rfl⟩ rfl rfl ?_
  show ab_Fr MX1_init (d + 3) _ 52 [some (.ref 57), some (.int 3)] [.ref 80, .int 3, .ref 61] (23, 145) cS_80 (cE_153 sc)
  refine ab_dup dX1_init_52 rfl ?_
  refine ab_callI (vs := []) (st := [.ref 80, .int 3, .ref 61]) dX1_init_53 okMX9_init rfl rfl wd_201 wd_200 rfl rfl (Nat.le_of_ble_eq_true rfl) ⟨Nat.le_of_ble_eq_true rfl, Nat.le_of_ble_eq_true rfl⟩ (kI_26 (d := d + 0)) ?_
  rintro v9 σ9 E9 - ⟨rfl, rfl, rfl⟩
  show ab_Fr MX1_init (d + 3) _ 56 [some (.ref 57), some (.int 3)] [.ref 80, .int 3, .ref 61] (28, 176) cS_85 (cE_163 sc)
  refine ab_aastore (E2 := cE_164 sc) dX1_init_56 (Or.inl ⟨rfl, rfl⟩) rfl rfl (ab_vp (by decide)) rfl ?_
  show ab_Fr MX1_init (d + 3) _ 57 [some (.ref 57), some (.int 3)] [] (28, 176) cS_85 (cE_164 sc)
  refine ab_iinc (v := 4) dX1_init_57 rfl (by decide) (Nat.le_of_ble_eq_true rfl) (L2 := [some (.ref 57), some (.int 4)]) rfl ?_
  refine ab_goto (tgt := 38) dX1_init_60 (by decide) ?_
  refine ab_iloadn dX1_init_38 rfl ?_
  refine ab_bipush (v := 7) dX1_init_39 (by decide) ?_
  refine ab_icmp_ge (tgt := 63) dX1_init_41 (by decide) (fun q => absurd q (by decide)) (fun _ => ?_)
  refine ab_aloadn dX1_init_44 rfl ?_
  refine ab_getf (v := .ref 61) dX1_init_45 fl_X1_28 rfl rfl ?_
  refine ab_iloadn dX1_init_48 rfl ?_
  refine ab_new (E2 := cE_165 sc) (σ2 := cS_86) dX1_init_49 ck_9 wd_198 wd_199 wd_142 rfl ⟨Nat.le_of_ble_eq_true rfl, Nat.le_of_ble_eq_true rfl⟩ rfl rfl ?_
  show ab_Fr MX1_init (d + 3) _ 52 [some (.ref 57), some (.int 4)] [.ref 86, .int 4, .ref 61] (29, 184) cS_86 (cE_165 sc)
  refine ab_dup dX1_init_52 rfl ?_
  refine ab_callI (vs := []) (st := [.ref 86, .int 4, .ref 61]) dX1_init_53 okMX9_init rfl rfl wd_201 wd_200 rfl rfl (Nat.le_of_ble_eq_true rfl) ⟨Nat.le_of_ble_eq_true rfl, Nat.le_of_ble_eq_true rfl⟩ (kI_28 (d := d + 0)) ?_
  rintro v9 σ9 E9 - ⟨rfl, rfl, rfl⟩
  show ab_Fr MX1_init (d + 3) _ 56 [some (.ref 57), some (.int 4)] [.ref 86, .int 4, .ref 61] (34, 215) cS_91 (cE_175 sc)
  refine ab_aastore (E2 := cE_176 sc) dX1_init_56 (Or.inl ⟨rfl, rfl⟩) rfl rfl (ab_vp (by decide)) rfl ?_
  show ab_Fr MX1_init (d + 3) _ 57 [some (.ref 57), some (.int 4)] [] (34, 215) cS_91 (cE_176 sc)
  refine ab_iinc (v := 5) dX1_init_57 rfl (by decide) (Nat.le_of_ble_eq_true rfl) (L2 := [some (.ref 57), some (.int 5)]) rfl ?_
  refine ab_goto (tgt := 38) dX1_init_60 (by decide) ?_
  refine ab_iloadn dX1_init_38 rfl ?_
  refine ab_bipush (v := 7) dX1_init_39 (by decide) ?_
  refine ab_icmp_ge (tgt := 63) dX1_init_41 (by decide) (fun q => absurd q (by decide)) (fun _ => ?_)
  refine ab_aloadn dX1_init_44 rfl ?_
  refine ab_getf (v := .ref 61) dX1_init_45 fl_X1_28 rfl rfl ?_
  refine ab_iloadn dX1_init_48 rfl ?_
  refine ab_new (E2 := cE_177 sc) (σ2 := cS_92) dX1_init_49 ck_9 wd_198 wd_199 wd_142 rfl ⟨Nat.le_of_ble_eq_true rfl, Nat.le_of_ble_eq_true rfl⟩ rfl rfl ?_
  show ab_Fr MX1_init (d + 3) _ 52 [some (.ref 57), some (.int 5)] [.ref 92, .int 5, .ref 61] (35, 223) cS_92 (cE_177 sc)
  refine ab_dup dX1_init_52 rfl ?_
  refine ab_callI (vs := []) (st := [.ref 92, .int 5, .ref 61]) dX1_init_53 okMX9_init rfl rfl wd_201 wd_200 rfl rfl (Nat.le_of_ble_eq_true rfl) ⟨Nat.le_of_ble_eq_true rfl, Nat.le_of_ble_eq_true rfl⟩ (kI_30 (d := d + 0)) ?_
  rintro v9 σ9 E9 - ⟨rfl, rfl, rfl⟩
  show ab_Fr MX1_init (d + 3) _ 56 [some (.ref 57), some (.int 5)] [.ref 92, .int 5, .ref 61] (40, 254) cS_97 (cE_187 sc)
  refine ab_aastore (E2 := cE_188 sc) dX1_init_56 (Or.inl ⟨rfl, rfl⟩) rfl rfl (ab_vp (by decide)) rfl ?_
  show ab_Fr MX1_init (d + 3) _ 57 [some (.ref 57), some (.int 5)] [] (40, 254) cS_97 (cE_188 sc)
  refine ab_iinc (v := 6) dX1_init_57 rfl (by decide) (Nat.le_of_ble_eq_true rfl) (L2 := [some (.ref 57), some (.int 6)]) rfl ?_
  refine ab_goto (tgt := 38) dX1_init_60 (by decide) ?_
  refine ab_iloadn dX1_init_38 rfl ?_
  refine ab_bipush (v := 7) dX1_init_39 (by decide) ?_
  refine ab_icmp_ge (tgt := 63) dX1_init_41 (by decide) (fun q => absurd q (by decide)) (fun _ => ?_)
  refine ab_aloadn dX1_init_44 rfl ?_
  refine ab_getf (v := .ref 61) dX1_init_45 fl_X1_28 rfl rfl ?_
  refine ab_iloadn dX1_init_48 rfl ?_
  refine ab_new (E2 := cE_189 sc) (σ2 := cS_98) dX1_init_49 ck_9 wd_198 wd_199 wd_142 rfl ⟨Nat.le_of_ble_eq_true rfl, Nat.le_of_ble_eq_true rfl⟩ rfl rfl ?_
  show ab_Fr MX1_init (d + 3) _ 52 [some (.ref 57), some (.int 6)] [.ref 98, .int 6, .ref 61] (41, 262) cS_98 (cE_189 sc)
  refine ab_dup dX1_init_52 rfl ?_
  refine ab_callI (vs := []) (st := [.ref 98, .int 6, .ref 61]) dX1_init_53 okMX9_init rfl rfl wd_201 wd_200 rfl rfl (Nat.le_of_ble_eq_true rfl) ⟨Nat.le_of_ble_eq_true rfl, Nat.le_of_ble_eq_true rfl⟩ (kI_32 (d := d + 0)) ?_
  rintro v9 σ9 E9 - ⟨rfl, rfl, rfl⟩
  show ab_Fr MX1_init (d + 3) _ 56 [some (.ref 57), some (.int 6)] [.ref 98, .int 6, .ref 61] (46, 293) cS_103 (cE_199 sc)
  refine ab_aastore (E2 := cE_200 sc) dX1_init_56 (Or.inl ⟨rfl, rfl⟩) rfl rfl (ab_vp (by decide)) rfl ?_
  show ab_Fr MX1_init (d + 3) _ 57 [some (.ref 57), some (.int 6)] [] (46, 293) cS_103 (cE_200 sc)
  refine ab_iinc (v := 7) dX1_init_57 rfl (by decide) (Nat.le_of_ble_eq_true rfl) (L2 := [some (.ref 57), some (.int 7)]) rfl ?_
  refine ab_goto (tgt := 38) dX1_init_60 (by decide) ?_
  refine ab_iloadn dX1_init_38 rfl ?_
  refine ab_bipush (v := 7) dX1_init_39 (by decide) ?_
  refine ab_icmp_ge (tgt := 63) dX1_init_41 (by decide) (fun _ => ?_) (fun q => absurd (by decide) q)
  refine ab_aloadn dX1_init_63 rfl ?_
  refine ab_bipush (v := 21) dX1_init_64 (by decide) ?_
  refine ab_newArr (t := 0) (n := 21) (ty := .int) (E2 := cE_201 sc) (σ2 := cS_104) dX1_init_66 rfl (Or.inl ⟨rfl, rfl⟩) wd_180 rfl (by decide) (by decide) (Nat.le_of_ble_eq_true rfl) ⟨Nat.le_of_ble_eq_true rfl, Nat.le_of_ble_eq_true rfl⟩ rfl rfl ?_
  show ab_Fr MX1_init (d + 3) _ 68 [some (.ref 57), some (.int 7)] [.ref 104, .ref 57] (47, 314) cS_104 (cE_201 sc)
  refine ab_putF (E2 := cE_202 sc) dX1_init_68 fl_X1_33 (fun C T N ty h9 => by have h8 := h9.1; cases h8; rfl) rfl rfl rfl rfl ?_
  show ab_Fr MX1_init (d + 3) _ 71 [some (.ref 57), some (.int 7)] [] (47, 314) cS_104 (cE_202 sc)
  refine ab_aloadn dX1_init_71 rfl ?_
  refine ab_iconst (v := 3) dX1_init_72 (by decide) ?_
  refine ab_newArr (t := 0) (n := 3) (ty := .int) (E2 := cE_203 sc) (σ2 := cS_105) dX1_init_73 rfl (Or.inl ⟨rfl, rfl⟩) wd_180 rfl (by decide) (by decide) (Nat.le_of_ble_eq_true rfl) ⟨Nat.le_of_ble_eq_true rfl, Nat.le_of_ble_eq_true rfl⟩ rfl rfl ?_
  show ab_Fr MX1_init (d + 3) _ 75 [some (.ref 57), some (.int 7)] [.ref 105, .ref 57] (48, 317) cS_105 (cE_203 sc)
  refine ab_putF (E2 := cE_204 sc) dX1_init_75 fl_X1_36 (fun C T N ty h9 => by have h8 := h9.1; cases h8; rfl) rfl rfl rfl rfl ?_
  show ab_Fr MX1_init (d + 3) _ 78 [some (.ref 57), some (.int 7)] [] (48, 317) cS_105 (cE_204 sc)
  refine ab_aloadn dX1_init_78 rfl ?_
  refine ab_iconst (v := 3) dX1_init_79 (by decide) ?_
  refine ab_newArr (t := 1) (n := 3) (ty := .long) (E2 := cE_205 sc) (σ2 := cS_106) dX1_init_80 rfl (Or.inr (Or.inl ⟨rfl, rfl⟩)) wd_315 rfl (by decide) (by decide) (Nat.le_of_ble_eq_true rfl) ⟨Nat.le_of_ble_eq_true rfl, Nat.le_of_ble_eq_true rfl⟩ rfl rfl ?_
  show ab_Fr MX1_init (d + 3) _ 82 [some (.ref 57), some (.int 7)] [.ref 106, .ref 57] (49, 320) cS_106 (cE_205 sc)
  refine ab_putF (E2 := cE_206 sc) dX1_init_82 fl_X1_39 (fun C T N ty h9 => by have h8 := h9.1; cases h8; rfl) rfl rfl rfl rfl ?_
  show ab_Fr MX1_init (d + 3) _ 85 [some (.ref 57), some (.int 7)] [] (49, 320) cS_106 (cE_206 sc)
  exact ab_vret dX1_init_85 rfl ⟨Nat.le_of_ble_eq_true rfl, Nat.le_of_ble_eq_true rfl⟩ ⟨none, rfl, rfl, rfl, rfl⟩
set_option maxRecDepth 100000 in
theorem kI_34 {d : Nat} {sc : Nat × (Nat → Int32)} : ab_Call MX0_init (d + 1) [.ref 109] cS_110 (cE_211 sc) (fun v σ E => v = none ∧ σ = cS_111 ∧ E = cE_213 sc) := by
  refine ab_enter (n := 0) okMX0_init (fun G => Nat.le_of_ble_eq_true rfl) ?_
  show ab_Fr MX0_init (d + 1) _ 0 [some (.ref 109)] [] (0, 0) cS_110 (cE_211 sc)
  refine ab_aloadn dX0_init_0 rfl ?_
  refine ab_oinit dX0_init_1 wd_192 wd_162 wd_163 (Nat.le_of_ble_eq_true rfl) ?_
  refine ab_aloadn dX0_init_4 rfl ?_
  refine ab_bipush (v := 9) dX0_init_5 (by decide) ?_
  refine ab_newArr (t := 0) (n := 9) (ty := .int) (E2 := cE_212 sc) (σ2 := cS_111) dX0_init_7 rfl (Or.inl ⟨rfl, rfl⟩) wd_180 rfl (by decide) (by decide) (Nat.le_of_ble_eq_true rfl) ⟨Nat.le_of_ble_eq_true rfl, Nat.le_of_ble_eq_true rfl⟩ rfl rfl ?_
  show ab_Fr MX0_init (d + 1) _ 9 [some (.ref 109)] [.ref 110, .ref 109] (1, 9) cS_111 (cE_212 sc)
  refine ab_putF (E2 := cE_213 sc) dX0_init_9 fl_X0_9 (fun C T N ty h9 => by have h8 := h9.1; cases h8; rfl) rfl rfl rfl rfl ?_
  show ab_Fr MX0_init (d + 1) _ 12 [some (.ref 109)] [] (1, 9) cS_111 (cE_213 sc)
  exact ab_vret dX0_init_12 rfl ⟨Nat.le_of_ble_eq_true rfl, Nat.le_of_ble_eq_true rfl⟩ ⟨none, rfl, rfl, rfl, rfl⟩
set_option maxRecDepth 100000 in
theorem kI_35 {d : Nat} {sc : Nat × (Nat → Int32)} : ab_Call MX0_init (d + 1) [.ref 115] cS_116 (cE_222 sc) (fun v σ E => v = none ∧ σ = cS_117 ∧ E = cE_224 sc) := by
  refine ab_enter (n := 0) okMX0_init (fun G => Nat.le_of_ble_eq_true rfl) ?_
  show ab_Fr MX0_init (d + 1) _ 0 [some (.ref 115)] [] (0, 0) cS_116 (cE_222 sc)
  refine ab_aloadn dX0_init_0 rfl ?_
  refine ab_oinit dX0_init_1 wd_192 wd_162 wd_163 (Nat.le_of_ble_eq_true rfl) ?_
  refine ab_aloadn dX0_init_4 rfl ?_
  refine ab_bipush (v := 9) dX0_init_5 (by decide) ?_
  refine ab_newArr (t := 0) (n := 9) (ty := .int) (E2 := cE_223 sc) (σ2 := cS_117) dX0_init_7 rfl (Or.inl ⟨rfl, rfl⟩) wd_180 rfl (by decide) (by decide) (Nat.le_of_ble_eq_true rfl) ⟨Nat.le_of_ble_eq_true rfl, Nat.le_of_ble_eq_true rfl⟩ rfl rfl ?_
  show ab_Fr MX0_init (d + 1) _ 9 [some (.ref 115)] [.ref 116, .ref 115] (1, 9) cS_117 (cE_223 sc)
  refine ab_putF (E2 := cE_224 sc) dX0_init_9 fl_X0_9 (fun C T N ty h9 => by have h8 := h9.1; cases h8; rfl) rfl rfl rfl rfl ?_
  show ab_Fr MX0_init (d + 1) _ 12 [some (.ref 115)] [] (1, 9) cS_117 (cE_224 sc)
  exact ab_vret dX0_init_12 rfl ⟨Nat.le_of_ble_eq_true rfl, Nat.le_of_ble_eq_true rfl⟩ ⟨none, rfl, rfl, rfl, rfl⟩
set_option maxRecDepth 100000 in
theorem kI_36 {d : Nat} {sc : Nat × (Nat → Int32)} : ab_Call MX9_init (d + 2) [.ref 112] cS_113 (cE_217 sc) (fun v σ E => v = none ∧ σ = cS_118 ∧ E = cE_227 sc) := by
  refine ab_enter (n := 0) okMX9_init (fun G => Nat.le_of_ble_eq_true rfl) ?_
  show ab_Fr MX9_init (d + 2) _ 0 [some (.ref 112)] [] (0, 0) cS_113 (cE_217 sc)
  refine ab_aloadn dX9_init_0 rfl ?_
  refine ab_oinit dX9_init_1 wd_203 wd_162 wd_163 (Nat.le_of_ble_eq_true rfl) ?_
  refine ab_aloadn dX9_init_4 rfl ?_
  refine ab_bipush (v := 9) dX9_init_5 (by decide) ?_
  refine ab_newArr (t := 0) (n := 9) (ty := .int) (E2 := cE_218 sc) (σ2 := cS_114) dX9_init_7 rfl (Or.inl ⟨rfl, rfl⟩) wd_180 rfl (by decide) (by decide) (Nat.le_of_ble_eq_true rfl) ⟨Nat.le_of_ble_eq_true rfl, Nat.le_of_ble_eq_true rfl⟩ rfl rfl ?_
  show ab_Fr MX9_init (d + 2) _ 9 [some (.ref 112)] [.ref 113, .ref 112] (1, 9) cS_114 (cE_218 sc)
  refine ab_putF (E2 := cE_219 sc) dX9_init_9 fl_X9_9 (fun C T N ty h9 => by have h8 := h9.1; cases h8; rfl) rfl rfl rfl rfl ?_
  show ab_Fr MX9_init (d + 2) _ 12 [some (.ref 112)] [] (1, 9) cS_114 (cE_219 sc)
  refine ab_aloadn dX9_init_12 rfl ?_
  refine ab_bipush (v := 9) dX9_init_13 (by decide) ?_
  refine ab_newArr (t := 0) (n := 9) (ty := .int) (E2 := cE_220 sc) (σ2 := cS_115) dX9_init_15 rfl (Or.inl ⟨rfl, rfl⟩) wd_180 rfl (by decide) (by decide) (Nat.le_of_ble_eq_true rfl) ⟨Nat.le_of_ble_eq_true rfl, Nat.le_of_ble_eq_true rfl⟩ rfl rfl ?_
  show ab_Fr MX9_init (d + 2) _ 17 [some (.ref 112)] [.ref 114, .ref 112] (2, 18) cS_115 (cE_220 sc)
  refine ab_putF (E2 := cE_221 sc) dX9_init_17 fl_X9_15 (fun C T N ty h9 => by have h8 := h9.1; cases h8; rfl) rfl rfl rfl rfl ?_
  show ab_Fr MX9_init (d + 2) _ 20 [some (.ref 112)] [] (2, 18) cS_115 (cE_221 sc)
  refine ab_aloadn dX9_init_20 rfl ?_
  refine ab_new (E2 := cE_222 sc) (σ2 := cS_116) dX9_init_21 ck_0 wd_204 wd_188 wd_141 rfl ⟨Nat.le_of_ble_eq_true rfl, Nat.le_of_ble_eq_true rfl⟩ rfl rfl ?_
  show ab_Fr MX9_init (d + 2) _ 24 [some (.ref 112)] [.ref 115, .ref 112] (3, 19) cS_116 (cE_222 sc)
  refine ab_dup dX9_init_24 rfl ?_
  refine ab_callI (vs := []) (st := [.ref 115, .ref 112]) dX9_init_25 okMX0_init rfl rfl wd_190 wd_205 rfl rfl (Nat.le_of_ble_eq_true rfl) ⟨Nat.le_of_ble_eq_true rfl, Nat.le_of_ble_eq_true rfl⟩ (kI_35 (d := d + 0)) ?_
  rintro v9 σ9 E9 - ⟨rfl, rfl, rfl⟩
  show ab_Fr MX9_init (d + 2) _ 28 [some (.ref 112)] [.ref 115, .ref 112] (4, 28) cS_117 (cE_224 sc)
  refine ab_putF (E2 := cE_225 sc) dX9_init_28 fl_X9_21 (fun C T N ty h9 => by have h8 := h9.1; cases h8; rfl) rfl rfl rfl rfl ?_
  show ab_Fr MX9_init (d + 2) _ 31 [some (.ref 112)] [] (4, 28) cS_117 (cE_225 sc)
  refine ab_aloadn dX9_init_31 rfl ?_
  refine ab_iconst (v := 3) dX9_init_32 (by decide) ?_
  refine ab_newArr (t := 0) (n := 3) (ty := .int) (E2 := cE_226 sc) (σ2 := cS_118) dX9_init_33 rfl (Or.inl ⟨rfl, rfl⟩) wd_180 rfl (by decide) (by decide) (Nat.le_of_ble_eq_true rfl) ⟨Nat.le_of_ble_eq_true rfl, Nat.le_of_ble_eq_true rfl⟩ rfl rfl ?_
  show ab_Fr MX9_init (d + 2) _ 35 [some (.ref 112)] [.ref 117, .ref 112] (5, 31) cS_118 (cE_226 sc)
  refine ab_putF (E2 := cE_227 sc) dX9_init_35 fl_X9_25 (fun C T N ty h9 => by have h8 := h9.1; cases h8; rfl) rfl rfl rfl rfl ?_
  show ab_Fr MX9_init (d + 2) _ 38 [some (.ref 112)] [] (5, 31) cS_118 (cE_227 sc)
  exact ab_vret dX9_init_38 rfl ⟨Nat.le_of_ble_eq_true rfl, Nat.le_of_ble_eq_true rfl⟩ ⟨none, rfl, rfl, rfl, rfl⟩
set_option maxRecDepth 100000 in
theorem kI_37 {d : Nat} {sc : Nat × (Nat → Int32)} : ab_Call MX0_init (d + 1) [.ref 121] cS_122 (cE_234 sc) (fun v σ E => v = none ∧ σ = cS_123 ∧ E = cE_236 sc) := by
  refine ab_enter (n := 0) okMX0_init (fun G => Nat.le_of_ble_eq_true rfl) ?_
  show ab_Fr MX0_init (d + 1) _ 0 [some (.ref 121)] [] (0, 0) cS_122 (cE_234 sc)
  refine ab_aloadn dX0_init_0 rfl ?_
  refine ab_oinit dX0_init_1 wd_192 wd_162 wd_163 (Nat.le_of_ble_eq_true rfl) ?_
  refine ab_aloadn dX0_init_4 rfl ?_
  refine ab_bipush (v := 9) dX0_init_5 (by decide) ?_
  refine ab_newArr (t := 0) (n := 9) (ty := .int) (E2 := cE_235 sc) (σ2 := cS_123) dX0_init_7 rfl (Or.inl ⟨rfl, rfl⟩) wd_180 rfl (by decide) (by decide) (Nat.le_of_ble_eq_true rfl) ⟨Nat.le_of_ble_eq_true rfl, Nat.le_of_ble_eq_true rfl⟩ rfl rfl ?_
  show ab_Fr MX0_init (d + 1) _ 9 [some (.ref 121)] [.ref 122, .ref 121] (1, 9) cS_123 (cE_235 sc)
  refine ab_putF (E2 := cE_236 sc) dX0_init_9 fl_X0_9 (fun C T N ty h9 => by have h8 := h9.1; cases h8; rfl) rfl rfl rfl rfl ?_
  show ab_Fr MX0_init (d + 1) _ 12 [some (.ref 121)] [] (1, 9) cS_123 (cE_236 sc)
  exact ab_vret dX0_init_12 rfl ⟨Nat.le_of_ble_eq_true rfl, Nat.le_of_ble_eq_true rfl⟩ ⟨none, rfl, rfl, rfl, rfl⟩
set_option maxRecDepth 100000 in
theorem kI_38 {d : Nat} {sc : Nat × (Nat → Int32)} : ab_Call MX9_init (d + 2) [.ref 118] cS_119 (cE_229 sc) (fun v σ E => v = none ∧ σ = cS_124 ∧ E = cE_239 sc) := by
  refine ab_enter (n := 0) okMX9_init (fun G => Nat.le_of_ble_eq_true rfl) ?_
  show ab_Fr MX9_init (d + 2) _ 0 [some (.ref 118)] [] (0, 0) cS_119 (cE_229 sc)
  refine ab_aloadn dX9_init_0 rfl ?_
  refine ab_oinit dX9_init_1 wd_203 wd_162 wd_163 (Nat.le_of_ble_eq_true rfl) ?_
  refine ab_aloadn dX9_init_4 rfl ?_
  refine ab_bipush (v := 9) dX9_init_5 (by decide) ?_
  refine ab_newArr (t := 0) (n := 9) (ty := .int) (E2 := cE_230 sc) (σ2 := cS_120) dX9_init_7 rfl (Or.inl ⟨rfl, rfl⟩) wd_180 rfl (by decide) (by decide) (Nat.le_of_ble_eq_true rfl) ⟨Nat.le_of_ble_eq_true rfl, Nat.le_of_ble_eq_true rfl⟩ rfl rfl ?_
  show ab_Fr MX9_init (d + 2) _ 9 [some (.ref 118)] [.ref 119, .ref 118] (1, 9) cS_120 (cE_230 sc)
  refine ab_putF (E2 := cE_231 sc) dX9_init_9 fl_X9_9 (fun C T N ty h9 => by have h8 := h9.1; cases h8; rfl) rfl rfl rfl rfl ?_
  show ab_Fr MX9_init (d + 2) _ 12 [some (.ref 118)] [] (1, 9) cS_120 (cE_231 sc)
  refine ab_aloadn dX9_init_12 rfl ?_
  refine ab_bipush (v := 9) dX9_init_13 (by decide) ?_
  refine ab_newArr (t := 0) (n := 9) (ty := .int) (E2 := cE_232 sc) (σ2 := cS_121) dX9_init_15 rfl (Or.inl ⟨rfl, rfl⟩) wd_180 rfl (by decide) (by decide) (Nat.le_of_ble_eq_true rfl) ⟨Nat.le_of_ble_eq_true rfl, Nat.le_of_ble_eq_true rfl⟩ rfl rfl ?_
  show ab_Fr MX9_init (d + 2) _ 17 [some (.ref 118)] [.ref 120, .ref 118] (2, 18) cS_121 (cE_232 sc)
  refine ab_putF (E2 := cE_233 sc) dX9_init_17 fl_X9_15 (fun C T N ty h9 => by have h8 := h9.1; cases h8; rfl) rfl rfl rfl rfl ?_
  show ab_Fr MX9_init (d + 2) _ 20 [some (.ref 118)] [] (2, 18) cS_121 (cE_233 sc)
  refine ab_aloadn dX9_init_20 rfl ?_
  refine ab_new (E2 := cE_234 sc) (σ2 := cS_122) dX9_init_21 ck_0 wd_204 wd_188 wd_141 rfl ⟨Nat.le_of_ble_eq_true rfl, Nat.le_of_ble_eq_true rfl⟩ rfl rfl ?_
  show ab_Fr MX9_init (d + 2) _ 24 [some (.ref 118)] [.ref 121, .ref 118] (3, 19) cS_122 (cE_234 sc)
  refine ab_dup dX9_init_24 rfl ?_
  refine ab_callI (vs := []) (st := [.ref 121, .ref 118]) dX9_init_25 okMX0_init rfl rfl wd_190 wd_205 rfl rfl (Nat.le_of_ble_eq_true rfl) ⟨Nat.le_of_ble_eq_true rfl, Nat.le_of_ble_eq_true rfl⟩ (kI_37 (d := d + 0)) ?_
  rintro v9 σ9 E9 - ⟨rfl, rfl, rfl⟩
  show ab_Fr MX9_init (d + 2) _ 28 [some (.ref 118)] [.ref 121, .ref 118] (4, 28) cS_123 (cE_236 sc)
  refine ab_putF (E2 := cE_237 sc) dX9_init_28 fl_X9_21 (fun C T N ty h9 => by have h8 := h9.1; cases h8; rfl) rfl rfl rfl rfl ?_
  show ab_Fr MX9_init (d + 2) _ 31 [some (.ref 118)] [] (4, 28) cS_123 (cE_237 sc)
  refine ab_aloadn dX9_init_31 rfl ?_
  refine ab_iconst (v := 3) dX9_init_32 (by decide) ?_
  refine ab_newArr (t := 0) (n := 3) (ty := .int) (E2 := cE_238 sc) (σ2 := cS_124) dX9_init_33 rfl (Or.inl ⟨rfl, rfl⟩) wd_180 rfl (by decide) (by decide) (Nat.le_of_ble_eq_true rfl) ⟨Nat.le_of_ble_eq_true rfl, Nat.le_of_ble_eq_true rfl⟩ rfl rfl ?_
  show ab_Fr MX9_init (d + 2) _ 35 [some (.ref 118)] [.ref 123, .ref 118] (5, 31) cS_124 (cE_238 sc)
  refine ab_putF (E2 := cE_239 sc) dX9_init_35 fl_X9_25 (fun C T N ty h9 => by have h8 := h9.1; cases h8; rfl) rfl rfl rfl rfl ?_
  show ab_Fr MX9_init (d + 2) _ 38 [some (.ref 118)] [] (5, 31) cS_124 (cE_239 sc)
  exact ab_vret dX9_init_38 rfl ⟨Nat.le_of_ble_eq_true rfl, Nat.le_of_ble_eq_true rfl⟩ ⟨none, rfl, rfl, rfl, rfl⟩
set_option maxRecDepth 100000 in
theorem kI_39 {d : Nat} {sc : Nat × (Nat → Int32)} : ab_Call MX0_init (d + 1) [.ref 127] cS_128 (cE_246 sc) (fun v σ E => v = none ∧ σ = cS_129 ∧ E = cE_248 sc) := by
  refine ab_enter (n := 0) okMX0_init (fun G => Nat.le_of_ble_eq_true rfl) ?_
  show ab_Fr MX0_init (d + 1) _ 0 [some (.ref 127)] [] (0, 0) cS_128 (cE_246 sc)
  refine ab_aloadn dX0_init_0 rfl ?_
  refine ab_oinit dX0_init_1 wd_192 wd_162 wd_163 (Nat.le_of_ble_eq_true rfl) ?_
  refine ab_aloadn dX0_init_4 rfl ?_
  refine ab_bipush (v := 9) dX0_init_5 (by decide) ?_
  refine ab_newArr (t := 0) (n := 9) (ty := .int) (E2 := cE_247 sc) (σ2 := cS_129) dX0_init_7 rfl (Or.inl ⟨rfl, rfl⟩) wd_180 rfl (by decide) (by decide) (Nat.le_of_ble_eq_true rfl) ⟨Nat.le_of_ble_eq_true rfl, Nat.le_of_ble_eq_true rfl⟩ rfl rfl ?_
  show ab_Fr MX0_init (d + 1) _ 9 [some (.ref 127)] [.ref 128, .ref 127] (1, 9) cS_129 (cE_247 sc)
  refine ab_putF (E2 := cE_248 sc) dX0_init_9 fl_X0_9 (fun C T N ty h9 => by have h8 := h9.1; cases h8; rfl) rfl rfl rfl rfl ?_
  show ab_Fr MX0_init (d + 1) _ 12 [some (.ref 127)] [] (1, 9) cS_129 (cE_248 sc)
  exact ab_vret dX0_init_12 rfl ⟨Nat.le_of_ble_eq_true rfl, Nat.le_of_ble_eq_true rfl⟩ ⟨none, rfl, rfl, rfl, rfl⟩
set_option maxRecDepth 100000 in
theorem kI_40 {d : Nat} {sc : Nat × (Nat → Int32)} : ab_Call MX9_init (d + 2) [.ref 124] cS_125 (cE_241 sc) (fun v σ E => v = none ∧ σ = cS_130 ∧ E = cE_251 sc) := by
  refine ab_enter (n := 0) okMX9_init (fun G => Nat.le_of_ble_eq_true rfl) ?_
  show ab_Fr MX9_init (d + 2) _ 0 [some (.ref 124)] [] (0, 0) cS_125 (cE_241 sc)
  refine ab_aloadn dX9_init_0 rfl ?_
  refine ab_oinit dX9_init_1 wd_203 wd_162 wd_163 (Nat.le_of_ble_eq_true rfl) ?_
  refine ab_aloadn dX9_init_4 rfl ?_
  refine ab_bipush (v := 9) dX9_init_5 (by decide) ?_
  refine ab_newArr (t := 0) (n := 9) (ty := .int) (E2 := cE_242 sc) (σ2 := cS_126) dX9_init_7 rfl (Or.inl ⟨rfl, rfl⟩) wd_180 rfl (by decide) (by decide) (Nat.le_of_ble_eq_true rfl) ⟨Nat.le_of_ble_eq_true rfl, Nat.le_of_ble_eq_true rfl⟩ rfl rfl ?_
  show ab_Fr MX9_init (d + 2) _ 9 [some (.ref 124)] [.ref 125, .ref 124] (1, 9) cS_126 (cE_242 sc)
  refine ab_putF (E2 := cE_243 sc) dX9_init_9 fl_X9_9 (fun C T N ty h9 => by have h8 := h9.1; cases h8; rfl) rfl rfl rfl rfl ?_
  show ab_Fr MX9_init (d + 2) _ 12 [some (.ref 124)] [] (1, 9) cS_126 (cE_243 sc)
  refine ab_aloadn dX9_init_12 rfl ?_
  refine ab_bipush (v := 9) dX9_init_13 (by decide) ?_
  refine ab_newArr (t := 0) (n := 9) (ty := .int) (E2 := cE_244 sc) (σ2 := cS_127) dX9_init_15 rfl (Or.inl ⟨rfl, rfl⟩) wd_180 rfl (by decide) (by decide) (Nat.le_of_ble_eq_true rfl) ⟨Nat.le_of_ble_eq_true rfl, Nat.le_of_ble_eq_true rfl⟩ rfl rfl ?_
  show ab_Fr MX9_init (d + 2) _ 17 [some (.ref 124)] [.ref 126, .ref 124] (2, 18) cS_127 (cE_244 sc)
  refine ab_putF (E2 := cE_245 sc) dX9_init_17 fl_X9_15 (fun C T N ty h9 => by have h8 := h9.1; cases h8; rfl) rfl rfl rfl rfl ?_
  show ab_Fr MX9_init (d + 2) _ 20 [some (.ref 124)] [] (2, 18) cS_127 (cE_245 sc)
  refine ab_aloadn dX9_init_20 rfl ?_
  refine ab_new (E2 := cE_246 sc) (σ2 := cS_128) dX9_init_21 ck_0 wd_204 wd_188 wd_141 rfl ⟨Nat.le_of_ble_eq_true rfl, Nat.le_of_ble_eq_true rfl⟩ rfl rfl ?_
  show ab_Fr MX9_init (d + 2) _ 24 [some (.ref 124)] [.ref 127, .ref 124] (3, 19) cS_128 (cE_246 sc)
  refine ab_dup dX9_init_24 rfl ?_
  refine ab_callI (vs := []) (st := [.ref 127, .ref 124]) dX9_init_25 okMX0_init rfl rfl wd_190 wd_205 rfl rfl (Nat.le_of_ble_eq_true rfl) ⟨Nat.le_of_ble_eq_true rfl, Nat.le_of_ble_eq_true rfl⟩ (kI_39 (d := d + 0)) ?_
  rintro v9 σ9 E9 - ⟨rfl, rfl, rfl⟩
  show ab_Fr MX9_init (d + 2) _ 28 [some (.ref 124)] [.ref 127, .ref 124] (4, 28) cS_129 (cE_248 sc)
  refine ab_putF (E2 := cE_249 sc) dX9_init_28 fl_X9_21 (fun C T N ty h9 => by have h8 := h9.1; cases h8; rfl) rfl rfl rfl rfl ?_
  show ab_Fr MX9_init (d + 2) _ 31 [some (.ref 124)] [] (4, 28) cS_129 (cE_249 sc)
  refine ab_aloadn dX9_init_31 rfl ?_
  refine ab_iconst (v := 3) dX9_init_32 (by decide) ?_
  refine ab_newArr (t := 0) (n := 3) (ty := .int) (E2 := cE_250 sc) (σ2 := cS_130) dX9_init_33 rfl (Or.inl ⟨rfl, rfl⟩) wd_180 rfl (by decide) (by decide) (Nat.le_of_ble_eq_true rfl) ⟨Nat.le_of_ble_eq_true rfl, Nat.le_of_ble_eq_true rfl⟩ rfl rfl ?_
  show ab_Fr MX9_init (d + 2) _ 35 [some (.ref 124)] [.ref 129, .ref 124] (5, 31) cS_130 (cE_250 sc)
  refine ab_putF (E2 := cE_251 sc) dX9_init_35 fl_X9_25 (fun C T N ty h9 => by have h8 := h9.1; cases h8; rfl) rfl rfl rfl rfl ?_
  show ab_Fr MX9_init (d + 2) _ 38 [some (.ref 124)] [] (5, 31) cS_130 (cE_251 sc)
  exact ab_vret dX9_init_38 rfl ⟨Nat.le_of_ble_eq_true rfl, Nat.le_of_ble_eq_true rfl⟩ ⟨none, rfl, rfl, rfl, rfl⟩
set_option maxRecDepth 100000 in
theorem kI_41 {d : Nat} {sc : Nat × (Nat → Int32)} : ab_Call MX0_init (d + 1) [.ref 133] cS_134 (cE_258 sc) (fun v σ E => v = none ∧ σ = cS_135 ∧ E = cE_260 sc) := by
  refine ab_enter (n := 0) okMX0_init (fun G => Nat.le_of_ble_eq_true rfl) ?_
  show ab_Fr MX0_init (d + 1) _ 0 [some (.ref 133)] [] (0, 0) cS_134 (cE_258 sc)
  refine ab_aloadn dX0_init_0 rfl ?_
  refine ab_oinit dX0_init_1 wd_192 wd_162 wd_163 (Nat.le_of_ble_eq_true rfl) ?_
  refine ab_aloadn dX0_init_4 rfl ?_
  refine ab_bipush (v := 9) dX0_init_5 (by decide) ?_
  refine ab_newArr (t := 0) (n := 9) (ty := .int) (E2 := cE_259 sc) (σ2 := cS_135) dX0_init_7 rfl (Or.inl ⟨rfl, rfl⟩) wd_180 rfl (by decide) (by decide) (Nat.le_of_ble_eq_true rfl) ⟨Nat.le_of_ble_eq_true rfl, Nat.le_of_ble_eq_true rfl⟩ rfl rfl ?_
  show ab_Fr MX0_init (d + 1) _ 9 [some (.ref 133)] [.ref 134, .ref 133] (1, 9) cS_135 (cE_259 sc)
  refine ab_putF (E2 := cE_260 sc) dX0_init_9 fl_X0_9 (fun C T N ty h9 => by have h8 := h9.1; cases h8; rfl) rfl rfl rfl rfl ?_
  show ab_Fr MX0_init (d + 1) _ 12 [some (.ref 133)] [] (1, 9) cS_135 (cE_260 sc)
  exact ab_vret dX0_init_12 rfl ⟨Nat.le_of_ble_eq_true rfl, Nat.le_of_ble_eq_true rfl⟩ ⟨none, rfl, rfl, rfl, rfl⟩
set_option maxRecDepth 100000 in
theorem kI_42 {d : Nat} {sc : Nat × (Nat → Int32)} : ab_Call MX9_init (d + 2) [.ref 130] cS_131 (cE_253 sc) (fun v σ E => v = none ∧ σ = cS_136 ∧ E = cE_263 sc) := by
  refine ab_enter (n := 0) okMX9_init (fun G => Nat.le_of_ble_eq_true rfl) ?_
  show ab_Fr MX9_init (d + 2) _ 0 [some (.ref 130)] [] (0, 0) cS_131 (cE_253 sc)
  refine ab_aloadn dX9_init_0 rfl ?_
  refine ab_oinit dX9_init_1 wd_203 wd_162 wd_163 (Nat.le_of_ble_eq_true rfl) ?_
  refine ab_aloadn dX9_init_4 rfl ?_
  refine ab_bipush (v := 9) dX9_init_5 (by decide) ?_
  refine ab_newArr (t := 0) (n := 9) (ty := .int) (E2 := cE_254 sc) (σ2 := cS_132) dX9_init_7 rfl (Or.inl ⟨rfl, rfl⟩) wd_180 rfl (by decide) (by decide) (Nat.le_of_ble_eq_true rfl) ⟨Nat.le_of_ble_eq_true rfl, Nat.le_of_ble_eq_true rfl⟩ rfl rfl ?_
  show ab_Fr MX9_init (d + 2) _ 9 [some (.ref 130)] [.ref 131, .ref 130] (1, 9) cS_132 (cE_254 sc)
  refine ab_putF (E2 := cE_255 sc) dX9_init_9 fl_X9_9 (fun C T N ty h9 => by have h8 := h9.1; cases h8; rfl) rfl rfl rfl rfl ?_
  show ab_Fr MX9_init (d + 2) _ 12 [some (.ref 130)] [] (1, 9) cS_132 (cE_255 sc)
  refine ab_aloadn dX9_init_12 rfl ?_
  refine ab_bipush (v := 9) dX9_init_13 (by decide) ?_
  refine ab_newArr (t := 0) (n := 9) (ty := .int) (E2 := cE_256 sc) (σ2 := cS_133) dX9_init_15 rfl (Or.inl ⟨rfl, rfl⟩) wd_180 rfl (by decide) (by decide) (Nat.le_of_ble_eq_true rfl) ⟨Nat.le_of_ble_eq_true rfl, Nat.le_of_ble_eq_true rfl⟩ rfl rfl ?_
  show ab_Fr MX9_init (d + 2) _ 17 [some (.ref 130)] [.ref 132, .ref 130] (2, 18) cS_133 (cE_256 sc)
  refine ab_putF (E2 := cE_257 sc) dX9_init_17 fl_X9_15 (fun C T N ty h9 => by have h8 := h9.1; cases h8; rfl) rfl rfl rfl rfl ?_
  show ab_Fr MX9_init (d + 2) _ 20 [some (.ref 130)] [] (2, 18) cS_133 (cE_257 sc)
  refine ab_aloadn dX9_init_20 rfl ?_
  refine ab_new (E2 := cE_258 sc) (σ2 := cS_134) dX9_init_21 ck_0 wd_204 wd_188 wd_141 rfl ⟨Nat.le_of_ble_eq_true rfl, Nat.le_of_ble_eq_true rfl⟩ rfl rfl ?_
  show ab_Fr MX9_init (d + 2) _ 24 [some (.ref 130)] [.ref 133, .ref 130] (3, 19) cS_134 (cE_258 sc)
  refine ab_dup dX9_init_24 rfl ?_
  refine ab_callI (vs := []) (st := [.ref 133, .ref 130]) dX9_init_25 okMX0_init rfl rfl wd_190 wd_205 rfl rfl (Nat.le_of_ble_eq_true rfl) ⟨Nat.le_of_ble_eq_true rfl, Nat.le_of_ble_eq_true rfl⟩ (kI_41 (d := d + 0)) ?_
  rintro v9 σ9 E9 - ⟨rfl, rfl, rfl⟩
  show ab_Fr MX9_init (d + 2) _ 28 [some (.ref 130)] [.ref 133, .ref 130] (4, 28) cS_135 (cE_260 sc)
  refine ab_putF (E2 := cE_261 sc) dX9_init_28 fl_X9_21 (fun C T N ty h9 => by have h8 := h9.1; cases h8; rfl) rfl rfl rfl rfl ?_
  show ab_Fr MX9_init (d + 2) _ 31 [some (.ref 130)] [] (4, 28) cS_135 (cE_261 sc)
  refine ab_aloadn dX9_init_31 rfl ?_
  refine ab_iconst (v := 3) dX9_init_32 (by decide) ?_
  refine ab_newArr (t := 0) (n := 3) (ty := .int) (E2 := cE_262 sc) (σ2 := cS_136) dX9_init_33 rfl (Or.inl ⟨rfl, rfl⟩) wd_180 rfl (by decide) (by decide) (Nat.le_of_ble_eq_true rfl) ⟨Nat.le_of_ble_eq_true rfl, Nat.le_of_ble_eq_true rfl⟩ rfl rfl ?_
  show ab_Fr MX9_init (d + 2) _ 35 [some (.ref 130)] [.ref 135, .ref 130] (5, 31) cS_136 (cE_262 sc)
  refine ab_putF (E2 := cE_263 sc) dX9_init_35 fl_X9_25 (fun C T N ty h9 => by have h8 := h9.1; cases h8; rfl) rfl rfl rfl rfl ?_
  show ab_Fr MX9_init (d + 2) _ 38 [some (.ref 130)] [] (5, 31) cS_136 (cE_263 sc)
  exact ab_vret dX9_init_38 rfl ⟨Nat.le_of_ble_eq_true rfl, Nat.le_of_ble_eq_true rfl⟩ ⟨none, rfl, rfl, rfl, rfl⟩
set_option maxRecDepth 100000 in
theorem kI_43 {d : Nat} {sc : Nat × (Nat → Int32)} : ab_Call MX0_init (d + 1) [.ref 139] cS_140 (cE_270 sc) (fun v σ E => v = none ∧ σ = cS_141 ∧ E = cE_272 sc) := by
  refine ab_enter (n := 0) okMX0_init (fun G => Nat.le_of_ble_eq_true rfl) ?_
  show ab_Fr MX0_init (d + 1) _ 0 [some (.ref 139)] [] (0, 0) cS_140 (cE_270 sc)
  refine ab_aloadn dX0_init_0 rfl ?_
  refine ab_oinit dX0_init_1 wd_192 wd_162 wd_163 (Nat.le_of_ble_eq_true rfl) ?_
  refine ab_aloadn dX0_init_4 rfl ?_
  refine ab_bipush (v := 9) dX0_init_5 (by decide) ?_
  refine ab_newArr (t := 0) (n := 9) (ty := .int) (E2 := cE_271 sc) (σ2 := cS_141) dX0_init_7 rfl (Or.inl ⟨rfl, rfl⟩) wd_180 rfl (by decide) (by decide) (Nat.le_of_ble_eq_true rfl) ⟨Nat.le_of_ble_eq_true rfl, Nat.le_of_ble_eq_true rfl⟩ rfl rfl ?_
  show ab_Fr MX0_init (d + 1) _ 9 [some (.ref 139)] [.ref 140, .ref 139] (1, 9) cS_141 (cE_271 sc)
  refine ab_putF (E2 := cE_272 sc) dX0_init_9 fl_X0_9 (fun C T N ty h9 => by have h8 := h9.1; cases h8; rfl) rfl rfl rfl rfl ?_
  show ab_Fr MX0_init (d + 1) _ 12 [some (.ref 139)] [] (1, 9) cS_141 (cE_272 sc)
  exact ab_vret dX0_init_12 rfl ⟨Nat.le_of_ble_eq_true rfl, Nat.le_of_ble_eq_true rfl⟩ ⟨none, rfl, rfl, rfl, rfl⟩
set_option maxRecDepth 100000 in
theorem kI_44 {d : Nat} {sc : Nat × (Nat → Int32)} : ab_Call MX9_init (d + 2) [.ref 136] cS_137 (cE_265 sc) (fun v σ E => v = none ∧ σ = cS_142 ∧ E = cE_275 sc) := by
  refine ab_enter (n := 0) okMX9_init (fun G => Nat.le_of_ble_eq_true rfl) ?_
  show ab_Fr MX9_init (d + 2) _ 0 [some (.ref 136)] [] (0, 0) cS_137 (cE_265 sc)
  refine ab_aloadn dX9_init_0 rfl ?_
  refine ab_oinit dX9_init_1 wd_203 wd_162 wd_163 (Nat.le_of_ble_eq_true rfl) ?_
  refine ab_aloadn dX9_init_4 rfl ?_
  refine ab_bipush (v := 9) dX9_init_5 (by decide) ?_
  refine ab_newArr (t := 0) (n := 9) (ty := .int) (E2 := cE_266 sc) (σ2 := cS_138) dX9_init_7 rfl (Or.inl ⟨rfl, rfl⟩) wd_180 rfl (by decide) (by decide) (Nat.le_of_ble_eq_true rfl) ⟨Nat.le_of_ble_eq_true rfl, Nat.le_of_ble_eq_true rfl⟩ rfl rfl ?_
  show ab_Fr MX9_init (d + 2) _ 9 [some (.ref 136)] [.ref 137, .ref 136] (1, 9) cS_138 (cE_266 sc)
  refine ab_putF (E2 := cE_267 sc) dX9_init_9 fl_X9_9 (fun C T N ty h9 => by have h8 := h9.1; cases h8; rfl) rfl rfl rfl rfl ?_
  show ab_Fr MX9_init (d + 2) _ 12 [some (.ref 136)] [] (1, 9) cS_138 (cE_267 sc)
  refine ab_aloadn dX9_init_12 rfl ?_
  refine ab_bipush (v := 9) dX9_init_13 (by decide) ?_
  refine ab_newArr (t := 0) (n := 9) (ty := .int) (E2 := cE_268 sc) (σ2 := cS_139) dX9_init_15 rfl (Or.inl ⟨rfl, rfl⟩) wd_180 rfl (by decide) (by decide) (Nat.le_of_ble_eq_true rfl) ⟨Nat.le_of_ble_eq_true rfl, Nat.le_of_ble_eq_true rfl⟩ rfl rfl ?_
  show ab_Fr MX9_init (d + 2) _ 17 [some (.ref 136)] [.ref 138, .ref 136] (2, 18) cS_139 (cE_268 sc)
  refine ab_putF (E2 := cE_269 sc) dX9_init_17 fl_X9_15 (fun C T N ty h9 => by have h8 := h9.1; cases h8; rfl) rfl rfl rfl rfl ?_
  show ab_Fr MX9_init (d + 2) _ 20 [some (.ref 136)] [] (2, 18) cS_139 (cE_269 sc)
  refine ab_aloadn dX9_init_20 rfl ?_
  refine ab_new (E2 := cE_270 sc) (σ2 := cS_140) dX9_init_21 ck_0 wd_204 wd_188 wd_141 rfl ⟨Nat.le_of_ble_eq_true rfl, Nat.le_of_ble_eq_true rfl⟩ rfl rfl ?_
  show ab_Fr MX9_init (d + 2) _ 24 [some (.ref 136)] [.ref 139, .ref 136] (3, 19) cS_140 (cE_270 sc)
  refine ab_dup dX9_init_24 rfl ?_
  refine ab_callI (vs := []) (st := [.ref 139, .ref 136]) dX9_init_25 okMX0_init rfl rfl wd_190 wd_205 rfl rfl (Nat.le_of_ble_eq_true rfl) ⟨Nat.le_of_ble_eq_true rfl, Nat.le_of_ble_eq_true rfl⟩ (kI_43 (d := d + 0)) ?_
  rintro v9 σ9 E9 - ⟨rfl, rfl, rfl⟩
  show ab_Fr MX9_init (d + 2) _ 28 [some (.ref 136)] [.ref 139, .ref 136] (4, 28) cS_141 (cE_272 sc)
  refine ab_putF (E2 := cE_273 sc) dX9_init_28 fl_X9_21 (fun C T N ty h9 => by have h8 := h9.1; cases h8; rfl) rfl rfl rfl rfl ?_
  show ab_Fr MX9_init (d + 2) _ 31 [some (.ref 136)] [] (4, 28) cS_141 (cE_273 sc)
  refine ab_aloadn dX9_init_31 rfl ?_
  refine ab_iconst (v := 3) dX9_init_32 (by decide) ?_
  refine ab_newArr (t := 0) (n := 3) (ty := .int) (E2 := cE_274 sc) (σ2 := cS_142) dX9_init_33 rfl (Or.inl ⟨rfl, rfl⟩) wd_180 rfl (by decide) (by decide) (Nat.le_of_ble_eq_true rfl) ⟨Nat.le_of_ble_eq_true rfl, Nat.le_of_ble_eq_true rfl⟩ rfl rfl ?_
  show ab_Fr MX9_init (d + 2) _ 35 [some (.ref 136)] [.ref 141, .ref 136] (5, 31) cS_142 (cE_274 sc)
  refine ab_putF (E2 := cE_275 sc) dX9_init_35 fl_X9_25 (fun C T N ty h9 => by have h8 := h9.1; cases h8; rfl) rfl rfl rfl rfl ?_
  show ab_Fr MX9_init (d + 2) _ 38 [some (.ref 136)] [] (5, 31) cS_142 (cE_275 sc)
  exact ab_vret dX9_init_38 rfl ⟨Nat.le_of_ble_eq_true rfl, Nat.le_of_ble_eq_true rfl⟩ ⟨none, rfl, rfl, rfl, rfl⟩
set_option maxRecDepth 100000 in
theorem kI_45 {d : Nat} {sc : Nat × (Nat → Int32)} : ab_Call MX0_init (d + 1) [.ref 145] cS_146 (cE_282 sc) (fun v σ E => v = none ∧ σ = cS_147 ∧ E = cE_284 sc) := by
  refine ab_enter (n := 0) okMX0_init (fun G => Nat.le_of_ble_eq_true rfl) ?_
  show ab_Fr MX0_init (d + 1) _ 0 [some (.ref 145)] [] (0, 0) cS_146 (cE_282 sc)
  refine ab_aloadn dX0_init_0 rfl ?_
  refine ab_oinit dX0_init_1 wd_192 wd_162 wd_163 (Nat.le_of_ble_eq_true rfl) ?_
  refine ab_aloadn dX0_init_4 rfl ?_
  refine ab_bipush (v := 9) dX0_init_5 (by decide) ?_
  refine ab_newArr (t := 0) (n := 9) (ty := .int) (E2 := cE_283 sc) (σ2 := cS_147) dX0_init_7 rfl (Or.inl ⟨rfl, rfl⟩) wd_180 rfl (by decide) (by decide) (Nat.le_of_ble_eq_true rfl) ⟨Nat.le_of_ble_eq_true rfl, Nat.le_of_ble_eq_true rfl⟩ rfl rfl ?_
  show ab_Fr MX0_init (d + 1) _ 9 [some (.ref 145)] [.ref 146, .ref 145] (1, 9) cS_147 (cE_283 sc)
  refine ab_putF (E2 := cE_284 sc) dX0_init_9 fl_X0_9 (fun C T N ty h9 => by have h8 := h9.1; cases h8; rfl) rfl rfl rfl rfl ?_
  show ab_Fr MX0_init (d + 1) _ 12 [some (.ref 145)] [] (1, 9) cS_147 (cE_284 sc)
  exact ab_vret dX0_init_12 rfl ⟨Nat.le_of_ble_eq_true rfl, Nat.le_of_ble_eq_true rfl⟩ ⟨none, rfl, rfl, rfl, rfl⟩
set_option maxRecDepth 100000 in
theorem kI_46 {d : Nat} {sc : Nat × (Nat → Int32)} : ab_Call MX9_init (d + 2) [.ref 142] cS_143 (cE_277 sc) (fun v σ E => v = none ∧ σ = cS_148 ∧ E = cE_287 sc) := by
  refine ab_enter (n := 0) okMX9_init (fun G => Nat.le_of_ble_eq_true rfl) ?_
  show ab_Fr MX9_init (d + 2) _ 0 [some (.ref 142)] [] (0, 0) cS_143 (cE_277 sc)
  refine ab_aloadn dX9_init_0 rfl ?_
  refine ab_oinit dX9_init_1 wd_203 wd_162 wd_163 (Nat.le_of_ble_eq_true rfl) ?_
  refine ab_aloadn dX9_init_4 rfl ?_
  refine ab_bipush (v := 9) dX9_init_5 (by decide) ?_
  refine ab_newArr (t := 0) (n := 9) (ty := .int) (E2 := cE_278 sc) (σ2 := cS_144) dX9_init_7 rfl (Or.inl ⟨rfl, rfl⟩) wd_180 rfl (by decide) (by decide) (Nat.le_of_ble_eq_true rfl) ⟨Nat.le_of_ble_eq_true rfl, Nat.le_of_ble_eq_true rfl⟩ rfl rfl ?_
  show ab_Fr MX9_init (d + 2) _ 9 [some (.ref 142)] [.ref 143, .ref 142] (1, 9) cS_144 (cE_278 sc)
  refine ab_putF (E2 := cE_279 sc) dX9_init_9 fl_X9_9 (fun C T N ty h9 => by have h8 := h9.1; cases h8; rfl) rfl rfl rfl rfl ?_
  show ab_Fr MX9_init (d + 2) _ 12 [some (.ref 142)] [] (1, 9) cS_144 (cE_279 sc)
  refine ab_aloadn dX9_init_12 rfl ?_
  refine ab_bipush (v := 9) dX9_init_13 (by decide) ?_
  refine ab_newArr (t := 0) (n := 9) (ty := .int) (E2 := cE_280 sc) (σ2 := cS_145) dX9_init_15 rfl (Or.inl ⟨rfl, rfl⟩) wd_180 rfl (by decide) (by decide) (Nat.le_of_ble_eq_true rfl) ⟨Nat.le_of_ble_eq_true rfl, Nat.le_of_ble_eq_true rfl⟩ rfl rfl ?_
  show ab_Fr MX9_init (d + 2) _ 17 [some (.ref 142)] [.ref 144, .ref 142] (2, 18) cS_145 (cE_280 sc)
  refine ab_putF (E2 := cE_281 sc) dX9_init_17 fl_X9_15 (fun C T N ty h9 => by have h8 := h9.1; cases h8; rfl) rfl rfl rfl rfl ?_
  show ab_Fr MX9_init (d + 2) _ 20 [some (.ref 142)] [] (2, 18) cS_145 (cE_281 sc)
  refine ab_aloadn dX9_init_20 rfl ?_
  refine ab_new (E2 := cE_282 sc) (σ2 := cS_146) dX9_init_21 ck_0 wd_204 wd_188 wd_141 rfl ⟨Nat.le_of_ble_eq_true rfl, Nat.le_of_ble_eq_true rfl⟩ rfl rfl ?_
  show ab_Fr MX9_init (d + 2) _ 24 [some (.ref 142)] [.ref 145, .ref 142] (3, 19) cS_146 (cE_282 sc)
  refine ab_dup dX9_init_24 rfl ?_
  refine ab_callI (vs := []) (st := [.ref 145, .ref 142]) dX9_init_25 okMX0_init rfl rfl wd_190 wd_205 rfl rfl (Nat.le_of_ble_eq_true rfl) ⟨Nat.le_of_ble_eq_true rfl, Nat.le_of_ble_eq_true rfl⟩ (kI_45 (d := d + 0)) ?_
  rintro v9 σ9 E9 - ⟨rfl, rfl, rfl⟩
  show ab_Fr MX9_init (d + 2) _ 28 [some (.ref 142)] [.ref 145, .ref 142] (4, 28) cS_147 (cE_284 sc)
  refine ab_putF (E2 := cE_285 sc) dX9_init_28 fl_X9_21 (fun C T N ty h9 => by have h8 := h9.1; cases h8; rfl) rfl rfl rfl rfl ?_
  show ab_Fr MX9_init (d + 2) _ 31 [some (.ref 142)] [] (4, 28) cS_147 (cE_285 sc)
  refine ab_aloadn dX9_init_31 rfl ?_
  refine ab_iconst (v := 3) dX9_init_32 (by decide) ?_
  refine ab_newArr (t := 0) (n := 3) (ty := .int) (E2 := cE_286 sc) (σ2 := cS_148) dX9_init_33 rfl (Or.inl ⟨rfl, rfl⟩) wd_180 rfl (by decide) (by decide) (Nat.le_of_ble_eq_true rfl) ⟨Nat.le_of_ble_eq_true rfl, Nat.le_of_ble_eq_true rfl⟩ rfl rfl ?_
  show ab_Fr MX9_init (d + 2) _ 35 [some (.ref 142)] [.ref 147, .ref 142] (5, 31) cS_148 (cE_286 sc)
  refine ab_putF (E2 := cE_287 sc) dX9_init_35 fl_X9_25 (fun C T N ty h9 => by have h8 := h9.1; cases h8; rfl) rfl rfl rfl rfl ?_
  show ab_Fr MX9_init (d + 2) _ 38 [some (.ref 142)] [] (5, 31) cS_148 (cE_287 sc)
  exact ab_vret dX9_init_38 rfl ⟨Nat.le_of_ble_eq_true rfl, Nat.le_of_ble_eq_true rfl⟩ ⟨none, rfl, rfl, rfl, rfl⟩
set_option maxRecDepth 100000 in
theorem kI_47 {d : Nat} {sc : Nat × (Nat → Int32)} : ab_Call MX0_init (d + 1) [.ref 151] cS_152 (cE_294 sc) (fun v σ E => v = none ∧ σ = cS_153 ∧ E = cE_296 sc) := by
  refine ab_enter (n := 0) okMX0_init (fun G => Nat.le_of_ble_eq_true rfl) ?_
  show ab_Fr MX0_init (d + 1) _ 0 [some (.ref 151)] [] (0, 0) cS_152 (cE_294 sc)
  refine ab_aloadn dX0_init_0 rfl ?_
  refine ab_oinit dX0_init_1 wd_192 wd_162 wd_163 (Nat.le_of_ble_eq_true rfl) ?_
  refine ab_aloadn dX0_init_4 rfl ?_
  refine ab_bipush (v := 9) dX0_init_5 (by decide) ?_
  refine ab_newArr (t := 0) (n := 9) (ty := .int) (E2 := cE_295 sc) (σ2 := cS_153) dX0_init_7 rfl (Or.inl ⟨rfl, rfl⟩) wd_180 rfl (by decide) (by decide) (Nat.le_of_ble_eq_true rfl) ⟨Nat.le_of_ble_eq_true rfl, Nat.le_of_ble_eq_true rfl⟩ rfl rfl ?_
  show ab_Fr MX0_init (d + 1) _ 9 [some (.ref 151)] [.ref 152, .ref 151] (1, 9) cS_153 (cE_295 sc)
  refine ab_putF (E2 := cE_296 sc) dX0_init_9 fl_X0_9 (fun C T N ty h9 => by have h8 := h9.1; cases h8; rfl) rfl rfl rfl rfl ?_
  show ab_Fr MX0_init (d + 1) _ 12 [some (.ref 151)] [] (1, 9) cS_153 (cE_296 sc)
  exact ab_vret dX0_init_12 rfl ⟨Nat.le_of_ble_eq_true rfl, Nat.le_of_ble_eq_true rfl⟩ ⟨none, rfl, rfl, rfl, rfl⟩
set_option maxRecDepth 100000 in
theorem kI_48 {d : Nat} {sc : Nat × (Nat → Int32)} : ab_Call MX9_init (d + 2) [.ref 148] cS_149 (cE_289 sc) (fun v σ E => v = none ∧ σ = cS_154 ∧ E = cE_299 sc) := by
  refine ab_enter (n := 0) okMX9_init (fun G => Nat.le_of_ble_eq_true rfl) ?_
  show ab_Fr MX9_init (d + 2) _ 0 [some (.ref 148)] [] (0, 0) cS_149 (cE_289 sc)
  refine ab_aloadn dX9_init_0 rfl ?_
  refine ab_oinit dX9_init_1 wd_203 wd_162 wd_163 (Nat.le_of_ble_eq_true rfl) ?_
  refine ab_aloadn dX9_init_4 rfl ?_
  refine ab_bipush (v := 9) dX9_init_5 (by decide) ?_
  refine ab_newArr (t := 0) (n := 9) (ty := .int) (E2 := cE_290 sc) (σ2 := cS_150) dX9_init_7 rfl (Or.inl ⟨rfl, rfl⟩) wd_180 rfl (by decide) (by decide) (Nat.le_of_ble_eq_true rfl) ⟨Nat.le_of_ble_eq_true rfl, Nat.le_of_ble_eq_true rfl⟩ rfl rfl ?_
  show ab_Fr MX9_init (d + 2) _ 9 [some (.ref 148)] [.ref 149, .ref 148] (1, 9) cS_150 (cE_290 sc)
  refine ab_putF (E2 := cE_291 sc) dX9_init_9 fl_X9_9 (fun C T N ty h9 => by have h8 := h9.1; cases h8; rfl) rfl rfl rfl rfl ?_
  show ab_Fr MX9_init (d + 2) _ 12 [some (.ref 148)] [] (1, 9) cS_150 (cE_291 sc)
  refine ab_aloadn dX9_init_12 rfl ?_
  refine ab_bipush (v := 9) dX9_init_13 (by decide) ?_
  refine ab_newArr (t := 0) (n := 9) (ty := .int) (E2 := cE_292 sc) (σ2 := cS_151) dX9_init_15 rfl (Or.inl ⟨rfl, rfl⟩) wd_180 rfl (by decide) (by decide) (Nat.le_of_ble_eq_true rfl) ⟨Nat.le_of_ble_eq_true rfl, Nat.le_of_ble_eq_true rfl⟩ rfl rfl ?_
  show ab_Fr MX9_init (d + 2) _ 17 [some (.ref 148)] [.ref 150, .ref 148] (2, 18) cS_151 (cE_292 sc)
  refine ab_putF (E2 := cE_293 sc) dX9_init_17 fl_X9_15 (fun C T N ty h9 => by have h8 := h9.1; cases h8; rfl) rfl rfl rfl rfl ?_
  show ab_Fr MX9_init (d + 2) _ 20 [some (.ref 148)] [] (2, 18) cS_151 (cE_293 sc)
  refine ab_aloadn dX9_init_20 rfl ?_
  refine ab_new (E2 := cE_294 sc) (σ2 := cS_152) dX9_init_21 ck_0 wd_204 wd_188 wd_141 rfl ⟨Nat.le_of_ble_eq_true rfl, Nat.le_of_ble_eq_true rfl⟩ rfl rfl ?_
  show ab_Fr MX9_init (d + 2) _ 24 [some (.ref 148)] [.ref 151, .ref 148] (3, 19) cS_152 (cE_294 sc)
  refine ab_dup dX9_init_24 rfl ?_
  refine ab_callI (vs := []) (st := [.ref 151, .ref 148]) dX9_init_25 okMX0_init rfl rfl wd_190 wd_205 rfl rfl (Nat.le_of_ble_eq_true rfl) ⟨Nat.le_of_ble_eq_true rfl, Nat.le_of_ble_eq_true rfl⟩ (kI_47 (d := d + 0)) ?_
  rintro v9 σ9 E9 - ⟨rfl, rfl, rfl⟩
  show ab_Fr MX9_init (d + 2) _ 28 [some (.ref 148)] [.ref 151, .ref 148] (4, 28) cS_153 (cE_296 sc)
  refine ab_putF (E2 := cE_297 sc) dX9_init_28 fl_X9_21 (fun C T N ty h9 => by have h8 := h9.1; cases h8; rfl) rfl rfl rfl rfl ?_
  show ab_Fr MX9_init (d + 2) _ 31 [some (.ref 148)] [] (4, 28) cS_153 (cE_297 sc)
  refine ab_aloadn dX9_init_31 rfl ?_
  refine ab_iconst (v := 3) dX9_init_32 (by decide) ?_
  refine ab_newArr (t := 0) (n := 3) (ty := .int) (E2 := cE_298 sc) (σ2 := cS_154) dX9_init_33 rfl (Or.inl ⟨rfl, rfl⟩) wd_180 rfl (by decide) (by decide) (Nat.le_of_ble_eq_true rfl) ⟨Nat.le_of_ble_eq_true rfl, Nat.le_of_ble_eq_true rfl⟩ rfl rfl ?_
  show ab_Fr MX9_init (d + 2) _ 35 [some (.ref 148)] [.ref 153, .ref 148] (5, 31) cS_154 (cE_298 sc)
  refine ab_putF (E2 := cE_299 sc) dX9_init_35 fl_X9_25 (fun C T N ty h9 => by have h8 := h9.1; cases h8; rfl) rfl rfl rfl rfl ?_
  show ab_Fr MX9_init (d + 2) _ 38 [some (.ref 148)] [] (5, 31) cS_154 (cE_299 sc)
  exact ab_vret dX9_init_38 rfl ⟨Nat.le_of_ble_eq_true rfl, Nat.le_of_ble_eq_true rfl⟩ ⟨none, rfl, rfl, rfl, rfl⟩
set_option maxRecDepth 100000 in
theorem kI_49 {d : Nat} {sc : Nat × (Nat → Int32)} : ab_Call MX1_init (d + 3) [.ref 107] cS_107 (cE_208 sc) (fun v σ E => v = none ∧ σ = cS_157 ∧ E = cE_306 sc) := by
  refine ab_enter (n := 0) okMX1_init (fun G => Nat.le_of_ble_eq_true rfl) ?_
  show ab_Fr MX1_init (d + 3) _ 0 [some (.ref 107), none] [] (0, 0) cS_107 (cE_208 sc)
  refine ab_aloadn dX1_init_0 rfl ?_
  refine ab_oinit dX1_init_1 wd_186 wd_162 wd_163 (Nat.le_of_ble_eq_true rfl) ?_
  refine ab_aloadn dX1_init_4 rfl ?_
  refine ab_iconst (v := (-1)) dX1_init_5 (by decide) ?_
  refine ab_putI dX1_init_6 fl_X1_9 rfl rfl ?_
  show ab_Fr MX1_init (d + 3) _ 9 [some (.ref 107), none] [] (0, 0) cS_108 (cE_208 sc)
  refine ab_aloadn dX1_init_9 rfl ?_
  refine ab_iconst (v := 3) dX1_init_10 (by decide) ?_
  refine ab_newArr (t := 0) (n := 3) (ty := .int) (E2 := cE_209 sc) (σ2 := cS_109) dX1_init_11 rfl (Or.inl ⟨rfl, rfl⟩) wd_180 rfl (by decide) (by decide) (Nat.le_of_ble_eq_true rfl) ⟨Nat.le_of_ble_eq_true rfl, Nat.le_of_ble_eq_true rfl⟩ rfl rfl ?_
  show ab_Fr MX1_init (d + 3) _ 13 [some (.ref 107), none] [.ref 108, .ref 107] (1, 3) cS_109 (cE_209 sc)
  refine ab_putF (E2 := cE_210 sc) dX1_init_13 fl_X1_15 (fun C T N ty h9 => by have h8 := h9.1; cases h8; rfl) rfl rfl rfl rfl ?_
  show ab_Fr MX1_init (d + 3) _ 16 [some (.ref 107), none] [] (1, 3) cS_109 (cE_210 sc)
  refine ab_aloadn dX1_init_16 rfl ?_
  refine ab_new (E2 := cE_211 sc) (σ2 := cS_110) dX1_init_17 ck_0 wd_187 wd_188 wd_141 rfl ⟨Nat.le_of_ble_eq_true rfl, Nat.le_of_ble_eq_true rfl⟩ rfl rfl ?_
  show ab_Fr MX1_init (d + 3) _ 20 [some (.ref 107), none] [.ref 109, .ref 107] (2, 4) cS_110 (cE_211 sc)
  refine ab_dup dX1_init_20 rfl ?_
  refine ab_callI (vs := []) (st := [.ref 109, .ref 107]) dX1_init_21 okMX0_init rfl rfl wd_190 wd_189 rfl rfl (Nat.le_of_ble_eq_true rfl) ⟨Nat.le_of_ble_eq_true rfl, Nat.le_of_ble_eq_true rfl⟩ (kI_34 (d := d + 1)) ?_
  rintro v9 σ9 E9 - ⟨rfl, rfl, rfl⟩
  show ab_Fr MX1_init (d + 3) _ 24 [some (.ref 107), none] [.ref 109, .ref 107] (3, 13) cS_111 (cE_213 sc)
  refine ab_putF (E2 := cE_214 sc) dX1_init_24 fl_X1_22 (fun C T N ty h9 => by have h8 := h9.1; cases h8; rfl) rfl rfl rfl rfl ?_
  show ab_Fr MX1_init (d + 3) _ 27 [some (.ref 107), none] [] (3, 13) cS_111 (cE_214 sc)
  refine ab_aloadn dX1_init_27 rfl ?_
  refine ab_bipush (v := 7) dX1_init_28 (by decide) ?_
  refine ab_newRef (t := 3) (n := 7) (D := RX9) (E2 := cE_215 sc) (σ2 := cS_112) dX1_init_30 (Or.inl ⟨rfl, rfl⟩) wd_198 rfl (by decide) (by decide) (Nat.le_of_ble_eq_true rfl) ⟨Nat.le_of_ble_eq_true rfl, Nat.le_of_ble_eq_true rfl⟩ rfl rfl ?_
  show ab_Fr MX1_init (d + 3) _ 33 [some (.ref 107), none] [.ref 111, .ref 107] (4, 20) cS_112 (cE_215 sc)
  refine ab_putF (E2 := cE_216 sc) dX1_init_33 fl_X1_28 (fun C T N ty h9 => by have h8 := h9.1; cases h8; rfl) rfl rfl rfl rfl ?_
  show ab_Fr MX1_init (d + 3) _ 36 [some (.ref 107), none] [] (4, 20) cS_112 (cE_216 sc)
  refine ab_iconst (v := 0) dX1_init_36 (by decide) ?_
  refine ab_istoren dX1_init_37 (Nat.le_of_ble_eq_true rfl) (L2 := [some (.ref 107), some (.int 0)]) rfl ?_
  refine ab_iloadn dX1_init_38 rfl ?_
  refine ab_bipush (v := 7) dX1_init_39 (by decide) ?_
  refine ab_icmp_ge (tgt := 63) dX1_init_41 (by decide) (fun q => absurd q (by decide)) (fun _ => ?_)
  refine ab_aloadn dX1_init_44 rfl ?_
  refine ab_getf (v := .ref 111) dX1_init_45 fl_X1_28 rfl rfl ?_
  refine ab_iloadn dX1_init_48 rfl ?_
  refine ab_new (E2 := cE_217 sc) (σ2 := cS_113) dX1_init_49 ck_9 wd_198 wd_199 wd_142 rfl ⟨Nat.le_of_ble_eq_true rfl, Nat.le_of_ble_eq_true rfl⟩ rfl rfl ?_
  show ab_Fr MX1_init (d + 3) _ 52 [some (.ref 107), some (.int 0)] [.ref 112, .int 0, .ref 111] (5, 28) cS_113 (cE_217 sc)
  refine ab_dup dX1_init_52 rfl ?_
  refine ab_callI (vs := []) (st := [.ref 112, .int 0, .ref 111]) dX1_init_53 okMX9_init rfl rfl wd_201 wd_200 rfl rfl (Nat.le_of_ble_eq_true rfl) ⟨Nat.le_of_ble_eq_true rfl, Nat.le_of_ble_eq_true rfl⟩ (kI_36 (d := d + 0)) ?_
  rintro v9 σ9 E9 - ⟨rfl, rfl, rfl⟩
  show ab_Fr MX1_init (d + 3) _ 56 [some (.ref 107), some (.int 0)] [.ref 112, .int 0, .ref 111] (10, 59) cS_118 (cE_227 sc)
  refine ab_aastore (E2 := cE_228 sc) dX1_init_56 (Or.inl ⟨rfl, rfl⟩) rfl rfl (ab_vp (by decide)) rfl ?_
  show ab_Fr MX1_init (d + 3) _ 57 [some (.ref 107), some (.int 0)] [] (10, 59) cS_118 (cE_228 sc)
  refine ab_iinc (v := 1) dX1_init_57 rfl (by decide) (Nat.le_of_ble_eq_true rfl) (L2 := [some (.ref 107), some (.int 1)]) rfl ?_
  refine ab_goto (tgt := 38) dX1_init_60 (by decide) ?_
  refine ab_iloadn dX1_init_38 rfl ?_
  refine ab_bipush (v := 7) dX1_init_39 (by decide) ?_
  refine ab_icmp_ge (tgt := 63) dX1_init_41 (by decide) (fun q => absurd q (by decide)) (fun _ => ?_)
  refine ab_aloadn dX1_init_44 rfl ?_
  refine ab_getf (v := .ref 111) dX1_init_45 fl_X1_28 rfl rfl ?_
  refine ab_iloadn dX1_init_48 rfl ?_
  refine ab_new (E2 := cE_229 sc) (σ2 := cS_119) dX1_init_49 ck_9 wd_198 wd_199 wd_142 rfl ⟨Nat.le_of_ble_eq_true rfl, Nat.le_of_ble_eq_true rfl⟩ rfl rfl ?_
  show ab_Fr MX1_init (d + 3) _ 52 [some (.ref 107), some (.int 1)] [.ref 118, .int 1, .ref 111] (11, 67) cS_119 (cE_229 sc)
  refine ab_dup dX1_init_52 rfl ?_
  refine ab_callI (vs := []) (st := [.ref 118, .int 1, .ref 111]) dX1_init_53 okMX9_init rfl rfl wd_201 wd_200 rfl rfl (Nat.le_of_ble_eq_true rfl) ⟨Nat.le_of_ble_eq_true rfl, Nat.le_of_ble_eq_true rfl⟩ (kI_38 (d := d + 0)) ?_
  rintro v9 σ9 E9 - ⟨rfl, rfl, rfl⟩
  show ab_Fr MX1_init (d + 3) _ 56 [some (.ref 107), some (.int 1)] [.ref 118, .int 1, .ref 111] (16, 98) cS_124 (cE_239 sc)
  refine ab_aastore (E2 := cE_240 sc) dX1_init_56 (Or.inl ⟨rfl, rfl⟩) rfl rfl (ab_vp (by decide)) rfl ?_
  show ab_Fr MX1_init (d + 3) _ 57 [some (.ref 107), some (.int 1)] [] (16, 98) cS_124 (cE_240 sc)
  refine ab_iinc (v := 2) dX1_init_57 rfl (by decide) (Nat.le_of_ble_eq_true rfl) (L2 := [some (.ref 107), some (.int 2)]) rfl ?_
  refine ab_goto (tgt := 38) dX1_init_60 (by decide) ?_
  refine ab_iloadn dX1_init_38 rfl ?_
  refine ab_bipush (v := 7) dX1_init_39 (by decide) ?_
  refine ab_icmp_ge (tgt := 63) dX1_init_41 (by decide) (fun q => absurd q (by decide)) (fun _ => ?_)
  refine ab_aloadn dX1_init_44 rfl ?_
  refine ab_getf (v := .ref 111) dX1_init_45 fl_X1_28 rfl rfl ?_
  refine ab_iloadn dX1_init_48 rfl ?_
  refine ab_new (E2 := cE_241 sc) (σ2 := cS_125) dX1_init_49 ck_9 wd_198 wd_199 wd_142 rfl ⟨Nat.le_of_ble_eq_true rfl, Nat.le_of_ble_eq_true rfl⟩ rfl rfl ?_
  show ab_Fr MX1_init (d + 3) _ 52 [some (.ref 107), some (.int 2)] [.ref 124, .int 2, .ref 111] (17, 106) cS_125 (cE_241 sc)
  refine ab_dup dX1_init_52 rfl ?_
  refine ab_callI (vs := []) (st := [.ref 124, .int 2, .ref 111]) dX1_init_53 okMX9_init rfl rfl wd_201 wd_200 rfl rfl (Nat.le_of_ble_eq_true rfl) ⟨Nat.le_of_ble_eq_true rfl, Nat.le_of_ble_eq_true rfl⟩ (kI_40 (d := d + 0)) ?_
  rintro v9 σ9 E9 - ⟨rfl, rfl, rfl⟩
  show ab_Fr MX1_init (d + 3) _ 56 [some (.ref 107), some (.int 2)] [.ref 124, .int 2, .ref 111] (22, 137) cS_130 (cE_251 sc)
  refine ab_aastore (E2 := cE_252 sc) dX1_init_56 (Or.inl ⟨rfl, rfl⟩) rfl rfl (ab_vp (by decide)) rfl ?_
  show ab_Fr MX1_init (d + 3) _ 57 [some (.ref 107), some (.int 2)] [] (22, 137) cS_130 (cE_252 sc)
  refine ab_iinc (v := 3) dX1_init_57 rfl (by decide) (Nat.le_of_ble_eq_true rfl) (L2 := [some (.ref 107), some (.int 3)]) rfl ?_
  refine ab_goto (tgt := 38) dX1_init_60 (by decide) ?_
  refine ab_iloadn dX1_init_38 rfl ?_
  refine ab_bipush (v := 7) dX1_init_39 (by decide) ?_
  refine ab_icmp_ge (tgt := 63) dX1_init_41 (by decide) (fun q => absurd q (by decide)) (fun _ => ?_)
  refine ab_aloadn dX1_init_44 rfl ?_
  refine ab_getf (v := .ref 111) dX1_init_45 fl_X1_28 rfl rfl ?_
  refine ab_iloadn dX1_init_48 rfl ?_
  refine ab_new (E2 := cE_253 sc) (σ2 := cS_131) dX1_init_49 ck_9 wd_198 wd_199 wd_142 rfl ⟨Nat.le_of_ble_eq_true rfl, Nat.le_of_ble_eq_true rfl⟩ rfl rfl ?_
  show ab_Fr MX1_init (d + 3) _ 52 [some (.ref 107), some (.int 3)] [.ref 130, .int 3, .ref 111] (23, 145) cS_131 (cE_253 sc)
  refine ab_dup dX1_init_52 rfl ?_
  refine ab_callI (vs := []) (st := [.ref 130, .int 3, .ref 111]) dX1_init_53 okMX9_init rfl rfl wd_201 wd_200 rfl rfl (Nat.le_of_ble_eq_true rfl) ⟨Nat.le_of_ble_eq_true rfl, Nat.le_of_ble_eq_true rfl⟩ (kI_42 (d := d + 0)) ?_
  rintro v9 σ9 E9 - ⟨rfl, rfl, rfl⟩
  show ab_Fr MX1_init (d + 3) _ 56 [some (.ref 107), some (.int 3)] [.ref 130, .int 3, .ref 111] (28, 176) cS_136 (cE_263 sc)
  refine ab_aastore (E2 := cE_264 sc) dX1_init_56 (Or.inl ⟨rfl, rfl⟩) rfl rfl (ab_vp (by decide)) rfl ?_
  show ab_Fr MX1_init (d + 3) _ 57 [some (.ref 107), some (.int 3)] [] (28, 176) cS_136 (cE_264 sc)
  refine ab_iinc (v := 4) dX1_init_57 rfl (by decide) (Nat.le_of_ble_eq_true rfl) (L2 := [some (.ref 107), some (.int 4)]) rfl ?_
  refine ab_goto (tgt := 38) dX1_init_60 (by decide) ?_
  refine ab_iloadn dX1_init_38 rfl ?_
  refine ab_bipush (v := 7) dX1_init_39 (by decide) ?_
  refine ab_icmp_ge (tgt := 63) dX1_init_41 (by decide) (fun q => absurd q (by decide)) (fun _ => ?_)
  refine ab_aloadn dX1_init_44 rfl ?_
  refine ab_getf (v := .ref 111) dX1_init_45 fl_X1_28 rfl rfl ?_
  refine ab_iloadn dX1_init_48 rfl ?_
  refine ab_new (E2 := cE_265 sc) (σ2 := cS_137) dX1_init_49 ck_9 wd_198 wd_199 wd_142 rfl ⟨Nat.le_of_ble_eq_true rfl, Nat.le_of_ble_eq_true rfl⟩ rfl rfl ?_
  show ab_Fr MX1_init (d + 3) _ 52 [some (.ref 107), some (.int 4)] [.ref 136, .int 4, .ref 111] (29, 184) cS_137 (cE_265 sc)
  refine ab_dup dX1_init_52 rfl ?_
  refine ab_callI (vs := []) (st := [.ref 136, .int 4, .ref 111]) dX1_init_53 okMX9_init rfl rfl wd_201 wd_200 rfl rfl (Nat.le_of_ble_eq_true rfl) ⟨Nat.le_of_ble_eq_true rfl, Nat.le_of_ble_eq_true rfl⟩ (kI_44 (d := d + 0)) ?_
  rintro v9 σ9 E9 - ⟨rfl, rfl, rfl⟩
  show ab_Fr MX1_init (d + 3) _ 56 [some (.ref 107), some (.int 4)] [.ref 136, .int 4, .ref 111] (34, 215) cS_142 (cE_275 sc)
  refine ab_aastore (E2 := cE_276 sc) dX1_init_56 (Or.inl ⟨rfl, rfl⟩) rfl rfl (ab_vp (by decide)) rfl ?_
  show ab_Fr MX1_init (d + 3) _ 57 [some (.ref 107), some (.int 4)] [] (34, 215) cS_142 (cE_276 sc)
  refine ab_iinc (v := 5) dX1_init_57 rfl (by decide) (Nat.le_of_ble_eq_true rfl) (L2 := [some (.ref 107), some (.int 5)]) rfl ?_
  refine ab_goto (tgt := 38) dX1_init_60 (by decide) ?_
  refine ab_iloadn dX1_init_38 rfl ?_
  refine ab_bipush (v := 7) dX1_init_39 (by decide) ?_
  refine ab_icmp_ge (tgt := 63) dX1_init_41 (by decide) (fun q => absurd q (by decide)) (fun _ => ?_)
  refine ab_aloadn dX1_init_44 rfl ?_
  refine ab_getf (v := .ref 111) dX1_init_45 fl_X1_28 rfl rfl ?_
  refine ab_iloadn dX1_init_48 rfl ?_
  refine ab_new (E2 := cE_277 sc) (σ2 := cS_143) dX1_init_49 ck_9 wd_198 wd_199 wd_142 rfl ⟨Nat.le_of_ble_eq_true rfl, Nat.le_of_ble_eq_true rfl⟩ rfl rfl ?_
  show ab_Fr MX1_init (d + 3) _ 52 [some (.ref 107), some (.int 5)] [.ref 142, .int 5, .ref 111] (35, 223) cS_143 (cE_277 sc)
  refine ab_dup dX1_init_52 rfl ?_
  refine ab_callI (vs := []) (st := [.ref 142, .int 5, .ref 111]) dX1_init_53 okMX9_init rfl rfl wd_201 wd_200 rfl rfl (Nat.le_of_ble_eq_true rfl) ⟨Nat.le_of_ble_eq_true rfl, Nat.le_of_ble_eq_true rfl⟩ (kI_46 (d := d + 0)) ?_
  rintro v9 σ9 E9 - ⟨rfl, rfl, rfl⟩
  show ab_Fr MX1_init (d + 3) _ 56 [some (.ref 107), some (.int 5)] [.ref 142, .int 5, .ref 111] (40, 254) cS_148 (cE_287 sc)
  refine ab_aastore (E2 := cE_288 sc) dX1_init_56 (Or.inl ⟨rfl, rfl⟩) rfl rfl (ab_vp (by decide)) rfl ?_
  show ab_Fr MX1_init (d + 3) _ 57 [some (.ref 107), some (.int 5)] [] (40, 254) cS_148 (cE_288 sc)
  refine ab_iinc (v := 6) dX1_init_57 rfl (by decide) (Nat.le_of_ble_eq_true rfl) (L2 := [some (.ref 107), some (.int 6)]) rfl ?_
  refine ab_goto (tgt := 38) dX1_init_60 (by decide) ?_
  refine ab_iloadn dX1_init_38 rfl ?_
  refine ab_bipush (v := 7) dX1_init_39 (by decide) ?_
  refine ab_icmp_ge (tgt := 63) dX1_init_41 (by decide) (fun q => absurd q (by decide)) (fun _ => ?_)
  refine ab_aloadn dX1_init_44 rfl ?_
  refine ab_getf (v := .ref 111) dX1_init_45 fl_X1_28 rfl rfl ?_
  refine ab_iloadn dX1_init_48 rfl ?_
  refine ab_new (E2 := cE_289 sc) (σ2 := cS_149) dX1_init_49 ck_9 wd_198 wd_199 wd_142 rfl ⟨Nat.le_of_ble_eq_true rfl, Nat.le_of_ble_eq_true rfl⟩ rfl rfl ?_
  show ab_Fr MX1_init (d + 3) _ 52 [some (.ref 107), some (.int 6)] [.ref 148, .int 6, .ref 111] (41, 262) cS_149 (cE_289 sc)
  refine ab_dup dX1_init_52 rfl ?_
  refine ab_callI (vs := []) (st := [.ref 148, .int 6, .ref 111]) dX1_init_53 okMX9_init rfl rfl wd_201 wd_200 rfl rfl (Nat.le_of_ble_eq_true rfl) ⟨Nat.le_of_ble_eq_true rfl, Nat.le_of_ble_eq_true rfl⟩ (kI_48 (d := d + 0)) ?_
  rintro v9 σ9 E9 - ⟨rfl, rfl, rfl⟩
  show ab_Fr MX1_init (d + 3) _ 56 [some (.ref 107), some (.int 6)] [.ref 148, .int 6, .ref 111] (46, 293) cS_154 (cE_299 sc)
  refine ab_aastore (E2 := cE_300 sc) dX1_init_56 (Or.inl ⟨rfl, rfl⟩) rfl rfl (ab_vp (by decide)) rfl ?_
  show ab_Fr MX1_init (d + 3) _ 57 [some (.ref 107), some (.int 6)] [] (46, 293) cS_154 (cE_300 sc)
  refine ab_iinc (v := 7) dX1_init_57 rfl (by decide) (Nat.le_of_ble_eq_true rfl) (L2 := [some (.ref 107), some (.int 7)]) rfl ?_
  refine ab_goto (tgt := 38) dX1_init_60 (by decide) ?_
  refine ab_iloadn dX1_init_38 rfl ?_
  refine ab_bipush (v := 7) dX1_init_39 (by decide) ?_
  refine ab_icmp_ge (tgt := 63) dX1_init_41 (by decide) (fun _ => ?_) (fun q => absurd (by decide) q)
  refine ab_aloadn dX1_init_63 rfl ?_
  refine ab_bipush (v := 21) dX1_init_64 (by decide) ?_
  refine ab_newArr (t := 0) (n := 21) (ty := .int) (E2 := cE_301 sc) (σ2 := cS_155) dX1_init_66 rfl (Or.inl ⟨rfl, rfl⟩) wd_180 rfl (by decide) (by decide) (Nat.le_of_ble_eq_true rfl) ⟨Nat.le_of_ble_eq_true rfl, Nat.le_of_ble_eq_true rfl⟩ rfl rfl ?_
  show ab_Fr MX1_init (d + 3) _ 68 [some (.ref 107), some (.int 7)] [.ref 154, .ref 107] (47, 314) cS_155 (cE_301 sc)
  refine ab_putF (E2 := cE_302 sc) dX1_init_68 fl_X1_33 (fun C T N ty h9 => by have h8 := h9.1; cases h8; rfl) rfl rfl rfl rfl ?_
  show ab_Fr MX1_init (d + 3) _ 71 [some (.ref 107), some (.int 7)] [] (47, 314) cS_155 (cE_302 sc)
  refine ab_aloadn dX1_init_71 rfl ?_
  refine ab_iconst (v := 3) dX1_init_72 (by decide) ?_
  refine ab_newArr (t := 0) (n := 3) (ty := .int) (E2 := cE_303 sc) (σ2 := cS_156) dX1_init_73 rfl (Or.inl ⟨rfl, rfl⟩) wd_180 rfl (by decide) (by decide) (Nat.le_of_ble_eq_true rfl) ⟨Nat.le_of_ble_eq_true rfl, Nat.le_of_ble_eq_true rfl⟩ rfl rfl ?_
  show ab_Fr MX1_init (d + 3) _ 75 [some (.ref 107), some (.int 7)] [.ref 155, .ref 107] (48, 317) cS_156 (cE_303 sc)
  refine ab_putF (E2 := cE_304 sc) dX1_init_75 fl_X1_36 (fun C T N ty h9 => by have h8 := h9.1; cases h8; rfl) rfl rfl rfl rfl ?_
  show ab_Fr MX1_init (d + 3) _ 78 [some (.ref 107), some (.int 7)] [] (48, 317) cS_156 (cE_304 sc)
  refine ab_aloadn dX1_init_78 rfl ?_
  refine ab_iconst (v := 3) dX1_init_79 (by decide) ?_
  refine ab_newArr (t := 1) (n := 3) (ty := .long) (E2 := cE_305 sc) (σ2 := cS_157) dX1_init_80 rfl (Or.inr (Or.inl ⟨rfl, rfl⟩)) wd_315 rfl (by decide) (by decide) (Nat.le_of_ble_eq_true rfl) ⟨Nat.le_of_ble_eq_true rfl, Nat.le_of_ble_eq_true rfl⟩ rfl rfl ?_
  show ab_Fr MX1_init (d + 3) _ 82 [some (.ref 107), some (.int 7)] [.ref 156, .ref 107] (49, 320) cS_157 (cE_305 sc)
  refine ab_putF (E2 := cE_306 sc) dX1_init_82 fl_X1_39 (fun C T N ty h9 => by have h8 := h9.1; cases h8; rfl) rfl rfl rfl rfl ?_
  show ab_Fr MX1_init (d + 3) _ 85 [some (.ref 107), some (.int 7)] [] (49, 320) cS_157 (cE_306 sc)
  exact ab_vret dX1_init_85 rfl ⟨Nat.le_of_ble_eq_true rfl, Nat.le_of_ble_eq_true rfl⟩ ⟨none, rfl, rfl, rfl, rfl⟩
set_option maxRecDepth 100000 in
theorem kI_50 {d : Nat} {sc : Nat × (Nat → Int32)} : ab_Call MX2_init (d + 1) [.ref 157, .ref 4, .ref 7] cS_159 (cE_308 sc) (fun v σ E => v = none ∧ σ = cS_162 ∧ E = cE_313 sc) := by
  refine ab_enter (n := 2) okMX2_init (fun G => Nat.le_of_ble_eq_true rfl) ?_
  show ab_Fr MX2_init (d + 1) _ 0 [some (.ref 157), some (.ref 4), some (.ref 7)] [] (0, 0) cS_159 (cE_308 sc)
  refine ab_aloadn dX2_init_0 rfl ?_
  refine ab_oinit dX2_init_1 wd_321 wd_162 wd_163 (Nat.le_of_ble_eq_true rfl) ?_
  refine ab_aloadn dX2_init_4 rfl ?_
  refine ab_aloadn dX2_init_5 rfl ?_
  refine ab_putF (E2 := cE_309 sc) dX2_init_6 fl_X2_9 (fun C T N ty h9 => by have h8 := h9.1; cases h8; rfl) rfl rfl rfl rfl ?_
  show ab_Fr MX2_init (d + 1) _ 9 [some (.ref 157), some (.ref 4), some (.ref 7)] [] (0, 0) cS_159 (cE_309 sc)
  refine ab_aloadn dX2_init_9 rfl ?_
  refine ab_aloadn dX2_init_10 rfl ?_
  refine ab_putR dX2_init_11 fl_X2_15 rfl rfl ?_
  show ab_Fr MX2_init (d + 1) _ 14 [some (.ref 157), some (.ref 4), some (.ref 7)] [] (0, 0) cS_160 (cE_309 sc)
  refine ab_aloadn dX2_init_14 rfl ?_
  refine ab_iconst (v := 3) dX2_init_15 (by decide) ?_
  refine ab_newArr (t := 1) (n := 3) (ty := .long) (E2 := cE_310 sc) (σ2 := cS_161) dX2_init_16 rfl (Or.inr (Or.inl ⟨rfl, rfl⟩)) wd_315 rfl (by decide) (by decide) (Nat.le_of_ble_eq_true rfl) ⟨Nat.le_of_ble_eq_true rfl, Nat.le_of_ble_eq_true rfl⟩ rfl rfl ?_
  show ab_Fr MX2_init (d + 1) _ 18 [some (.ref 157), some (.ref 4), some (.ref 7)] [.ref 158, .ref 157] (1, 3) cS_161 (cE_310 sc)
  refine ab_putF (E2 := cE_311 sc) dX2_init_18 fl_X2_19 (fun C T N ty h9 => by have h8 := h9.1; cases h8; rfl) rfl rfl rfl rfl ?_
  show ab_Fr MX2_init (d + 1) _ 21 [some (.ref 157), some (.ref 4), some (.ref 7)] [] (1, 3) cS_161 (cE_311 sc)
  refine ab_aloadn dX2_init_21 rfl ?_
  refine ab_bipush (v := 7) dX2_init_22 (by decide) ?_
  refine ab_newArr (t := 1) (n := 7) (ty := .long) (E2 := cE_312 sc) (σ2 := cS_162) dX2_init_24 rfl (Or.inr (Or.inl ⟨rfl, rfl⟩)) wd_315 rfl (by decide) (by decide) (Nat.le_of_ble_eq_true rfl) ⟨Nat.le_of_ble_eq_true rfl, Nat.le_of_ble_eq_true rfl⟩ rfl rfl ?_
  show ab_Fr MX2_init (d + 1) _ 26 [some (.ref 157), some (.ref 4), some (.ref 7)] [.ref 159, .ref 157] (2, 10) cS_162 (cE_312 sc)
  refine ab_putF (E2 := cE_313 sc) dX2_init_26 fl_X2_23 (fun C T N ty h9 => by have h8 := h9.1; cases h8; rfl) rfl rfl rfl rfl ?_
  show ab_Fr MX2_init (d + 1) _ 29 [some (.ref 157), some (.ref 4), some (.ref 7)] [] (2, 10) cS_162 (cE_313 sc)
  exact ab_vret dX2_init_29 rfl ⟨Nat.le_of_ble_eq_true rfl, Nat.le_of_ble_eq_true rfl⟩ ⟨none, rfl, rfl, rfl, rfl⟩
set_option maxRecDepth 100000 in
theorem kI_51 {d : Nat} {sc : Nat × (Nat → Int32)} : ab_Call MX4_init (d + 1) [.ref 160, .ref 7] cS_163 (cE_315 sc) (fun v σ E => v = none ∧ σ = cS_172 ∧ E = cE_331 sc) := by
  refine ab_enter (n := 1) okMX4_init (fun G => Nat.le_of_ble_eq_true rfl) ?_
  show ab_Fr MX4_init (d + 1) _ 0 [some (.ref 160), some (.ref 7)] [] (0, 0) cS_163 (cE_315 sc)
  refine ab_aloadn dX4_init_0 rfl ?_
  refine ab_oinit dX4_init_1 wd_356 wd_162 wd_163 (Nat.le_of_ble_eq_true rfl) ?_
  refine ab_aloadn dX4_init_4 rfl ?_
  refine ab_aloadn dX4_init_5 rfl ?_
  refine ab_putR dX4_init_6 fl_X4_9 rfl rfl ?_
  show ab_Fr MX4_init (d + 1) _ 9 [some (.ref 160), some (.ref 7)] [] (0, 0) cS_164 (cE_315 sc)
  refine ab_aloadn dX4_init_9 rfl ?_
  refine ab_bipush (v := 7) dX4_init_10 (by decide) ?_
  refine ab_newArr (t := 0) (n := 7) (ty := .int) (E2 := cE_316 sc) (σ2 := cS_165) dX4_init_12 rfl (Or.inl ⟨rfl, rfl⟩) wd_180 rfl (by decide) (by decide) (Nat.le_of_ble_eq_true rfl) ⟨Nat.le_of_ble_eq_true rfl, Nat.le_of_ble_eq_true rfl⟩ rfl rfl ?_
  show ab_Fr MX4_init (d + 1) _ 14 [some (.ref 160), some (.ref 7)] [.ref 161, .ref 160] (1, 7) cS_165 (cE_316 sc)
  refine ab_putF (E2 := cE_317 sc) dX4_init_14 fl_X4_15 (fun C T N ty h9 => by have h8 := h9.1; cases h8; rfl) rfl rfl rfl rfl ?_
  show ab_Fr MX4_init (d + 1) _ 17 [some (.ref 160), some (.ref 7)] [] (1, 7) cS_165 (cE_317 sc)
  refine ab_aloadn dX4_init_17 rfl ?_
  refine ab_bipush (v := 7) dX4_init_18 (by decide) ?_
  refine ab_newArr (t := 0) (n := 7) (ty := .int) (E2 := cE_318 sc) (σ2 := cS_166) dX4_init_20 rfl (Or.inl ⟨rfl, rfl⟩) wd_180 rfl (by decide) (by decide) (Nat.le_of_ble_eq_true rfl) ⟨Nat.le_of_ble_eq_true rfl, Nat.le_of_ble_eq_true rfl⟩ rfl rfl ?_
  show ab_Fr MX4_init (d + 1) _ 22 [some (.ref 160), some (.ref 7)] [.ref 162, .ref 160] (2, 14) cS_166 (cE_318 sc)
  refine ab_putF (E2 := cE_319 sc) dX4_init_22 fl_X4_19 (fun C T N ty h9 => by have h8 := h9.1; cases h8; rfl) rfl rfl rfl rfl ?_
  show ab_Fr MX4_init (d + 1) _ 25 [some (.ref 160), some (.ref 7)] [] (2, 14) cS_166 (cE_319 sc)
  refine ab_aloadn dX4_init_25 rfl ?_
  refine ab_bipush (v := 21) dX4_init_26 (by decide) ?_
  refine ab_newArr (t := 0) (n := 21) (ty := .int) (E2 := cE_320 sc) (σ2 := cS_167) dX4_init_28 rfl (Or.inl ⟨rfl, rfl⟩) wd_180 rfl (by decide) (by decide) (Nat.le_of_ble_eq_true rfl) ⟨Nat.le_of_ble_eq_true rfl, Nat.le_of_ble_eq_true rfl⟩ rfl rfl ?_
  show ab_Fr MX4_init (d + 1) _ 30 [some (.ref 160), some (.ref 7)] [.ref 163, .ref 160] (3, 35) cS_167 (cE_320 sc)
  refine ab_putF (E2 := cE_321 sc) dX4_init_30 fl_X4_22 (fun C T N ty h9 => by have h8 := h9.1; cases h8; rfl) rfl rfl rfl rfl ?_
  show ab_Fr MX4_init (d + 1) _ 33 [some (.ref 160), some (.ref 7)] [] (3, 35) cS_167 (cE_321 sc)
  refine ab_aloadn dX4_init_33 rfl ?_
  refine ab_bipush (v := 63) dX4_init_34 (by decide) ?_
  refine ab_newArr (t := 0) (n := 63) (ty := .int) (E2 := cE_322 sc) (σ2 := cS_168) dX4_init_36 rfl (Or.inl ⟨rfl, rfl⟩) wd_180 rfl (by decide) (by decide) (Nat.le_of_ble_eq_true rfl) ⟨Nat.le_of_ble_eq_true rfl, Nat.le_of_ble_eq_true rfl⟩ rfl rfl ?_
  show ab_Fr MX4_init (d + 1) _ 38 [some (.ref 160), some (.ref 7)] [.ref 164, .ref 160] (4, 98) cS_168 (cE_322 sc)
  refine ab_putF (E2 := cE_323 sc) dX4_init_38 fl_X4_25 (fun C T N ty h9 => by have h8 := h9.1; cases h8; rfl) rfl rfl rfl rfl ?_
  show ab_Fr MX4_init (d + 1) _ 41 [some (.ref 160), some (.ref 7)] [] (4, 98) cS_168 (cE_323 sc)
  refine ab_aloadn dX4_init_41 rfl ?_
  refine ab_bipush (v := 24) dX4_init_42 (by decide) ?_
  refine ab_newArr (t := 1) (n := 24) (ty := .long) (E2 := cE_324 sc) (σ2 := cS_169) dX4_init_44 rfl (Or.inr (Or.inl ⟨rfl, rfl⟩)) wd_315 rfl (by decide) (by decide) (Nat.le_of_ble_eq_true rfl) ⟨Nat.le_of_ble_eq_true rfl, Nat.le_of_ble_eq_true rfl⟩ rfl rfl ?_
  show ab_Fr MX4_init (d + 1) _ 46 [some (.ref 160), some (.ref 7)] [.ref 165, .ref 160] (5, 122) cS_169 (cE_324 sc)
  refine ab_putF (E2 := cE_325 sc) dX4_init_46 fl_X4_28 (fun C T N ty h9 => by have h8 := h9.1; cases h8; rfl) rfl rfl rfl rfl ?_
  show ab_Fr MX4_init (d + 1) _ 49 [some (.ref 160), some (.ref 7)] [] (5, 122) cS_169 (cE_325 sc)
  refine ab_aloadn dX4_init_49 rfl ?_
  refine ab_bipush (v := 24) dX4_init_50 (by decide) ?_
  refine ab_newArr (t := 0) (n := 24) (ty := .int) (E2 := cE_326 sc) (σ2 := cS_170) dX4_init_52 rfl (Or.inl ⟨rfl, rfl⟩) wd_180 rfl (by decide) (by decide) (Nat.le_of_ble_eq_true rfl) ⟨Nat.le_of_ble_eq_true rfl, Nat.le_of_ble_eq_true rfl⟩ rfl rfl ?_
  show ab_Fr MX4_init (d + 1) _ 54 [some (.ref 160), some (.ref 7)] [.ref 166, .ref 160] (6, 146) cS_170 (cE_326 sc)
  refine ab_putF (E2 := cE_327 sc) dX4_init_54 fl_X4_32 (fun C T N ty h9 => by have h8 := h9.1; cases h8; rfl) rfl rfl rfl rfl ?_
  show ab_Fr MX4_init (d + 1) _ 57 [some (.ref 160), some (.ref 7)] [] (6, 146) cS_170 (cE_327 sc)
  refine ab_aloadn dX4_init_57 rfl ?_
  refine ab_bipush (v := 7) dX4_init_58 (by decide) ?_
  refine ab_newArr (t := 0) (n := 7) (ty := .int) (E2 := cE_328 sc) (σ2 := cS_171) dX4_init_60 rfl (Or.inl ⟨rfl, rfl⟩) wd_180 rfl (by decide) (by decide) (Nat.le_of_ble_eq_true rfl) ⟨Nat.le_of_ble_eq_true rfl, Nat.le_of_ble_eq_true rfl⟩ rfl rfl ?_
  show ab_Fr MX4_init (d + 1) _ 62 [some (.ref 160), some (.ref 7)] [.ref 167, .ref 160] (7, 153) cS_171 (cE_328 sc)
  refine ab_putF (E2 := cE_329 sc) dX4_init_62 fl_X4_35 (fun C T N ty h9 => by have h8 := h9.1; cases h8; rfl) rfl rfl rfl rfl ?_
  show ab_Fr MX4_init (d + 1) _ 65 [some (.ref 160), some (.ref 7)] [] (7, 153) cS_171 (cE_329 sc)
  refine ab_aloadn dX4_init_65 rfl ?_
  refine ab_iconst (v := 3) dX4_init_66 (by decide) ?_
  refine ab_newArr (t := 0) (n := 3) (ty := .int) (E2 := cE_330 sc) (σ2 := cS_172) dX4_init_67 rfl (Or.inl ⟨rfl, rfl⟩) wd_180 rfl (by decide) (by decide) (Nat.le_of_ble_eq_true rfl) ⟨Nat.le_of_ble_eq_true rfl, Nat.le_of_ble_eq_true rfl⟩ rfl rfl ?_
  show ab_Fr MX4_init (d + 1) _ 69 [some (.ref 160), some (.ref 7)] [.ref 168, .ref 160] (8, 156) cS_172 (cE_330 sc)
  refine ab_putF (E2 := cE_331 sc) dX4_init_69 fl_X4_38 (fun C T N ty h9 => by have h8 := h9.1; cases h8; rfl) rfl rfl rfl rfl ?_
  show ab_Fr MX4_init (d + 1) _ 72 [some (.ref 160), some (.ref 7)] [] (8, 156) cS_172 (cE_331 sc)
  exact ab_vret dX4_init_72 rfl ⟨Nat.le_of_ble_eq_true rfl, Nat.le_of_ble_eq_true rfl⟩ ⟨none, rfl, rfl, rfl, rfl⟩
set_option maxRecDepth 100000 in
theorem kI_52 {d : Nat} {sc : Nat × (Nat → Int32)} : ab_Call MX3_init (d + 1) [.ref 169, .ref 160, .ref 7] cS_173 (cE_333 sc) (fun v σ E => v = none ∧ σ = cS_227 ∧ E = cE_352 sc) := by
  refine ab_enter (n := 2) okMX3_init (fun G => Nat.le_of_ble_eq_true rfl) ?_
  show ab_Fr MX3_init (d + 1) _ 0 [some (.ref 169), some (.ref 160), some (.ref 7), none] [] (0, 0) cS_173 (cE_333 sc)
  refine ab_aloadn dX3_init_0 rfl ?_
  refine ab_oinit dX3_init_1 wd_380 wd_162 wd_163 (Nat.le_of_ble_eq_true rfl) ?_
  refine ab_aloadn dX3_init_4 rfl ?_
  refine ab_aloadn dX3_init_5 rfl ?_
  refine ab_putF (E2 := cE_334 sc) dX3_init_6 fl_X3_9 (fun C T N ty h9 => by have h8 := h9.1; cases h8; rfl) rfl rfl rfl rfl ?_
  show ab_Fr MX3_init (d + 1) _ 9 [some (.ref 169), some (.ref 160), some (.ref 7), none] [] (0, 0) cS_173 (cE_334 sc)
  refine ab_aloadn dX3_init_9 rfl ?_
  refine ab_aloadn dX3_init_10 rfl ?_
  refine ab_putR dX3_init_11 fl_X3_15 rfl rfl ?_
  show ab_Fr MX3_init (d + 1) _ 14 [some (.ref 169), some (.ref 160), some (.ref 7), none] [] (0, 0) cS_174 (cE_334 sc)
  refine ab_aloadn dX3_init_14 rfl ?_
  refine ab_bipush (v := 12) dX3_init_15 (by decide) ?_
  refine ab_newArr (t := 1) (n := 12) (ty := .long) (E2 := cE_335 sc) (σ2 := cS_175) dX3_init_17 rfl (Or.inr (Or.inl ⟨rfl, rfl⟩)) wd_315 rfl (by decide) (by decide) (Nat.le_of_ble_eq_true rfl) ⟨Nat.le_of_ble_eq_true rfl, Nat.le_of_ble_eq_true rfl⟩ rfl rfl ?_
  show ab_Fr MX3_init (d + 1) _ 19 [some (.ref 169), some (.ref 160), some (.ref 7), none] [.ref 170, .ref 169] (1, 12) cS_175 (cE_335 sc)
  refine ab_putF (E2 := cE_336 sc) dX3_init_19 fl_X3_19 (fun C T N ty h9 => by have h8 := h9.1; cases h8; rfl) rfl rfl rfl rfl ?_
  show ab_Fr MX3_init (d + 1) _ 22 [some (.ref 169), some (.ref 160), some (.ref 7), none] [] (1, 12) cS_175 (cE_336 sc)
  refine ab_aloadn dX3_init_22 rfl ?_
  refine ab_iconst (v := 3) dX3_init_23 (by decide) ?_
  refine ab_newArr (t := 1) (n := 3) (ty := .long) (E2 := cE_337 sc) (σ2 := cS_176) dX3_init_24 rfl (Or.inr (Or.inl ⟨rfl, rfl⟩)) wd_315 rfl (by decide) (by decide) (Nat.le_of_ble_eq_true rfl) ⟨Nat.le_of_ble_eq_true rfl, Nat.le_of_ble_eq_true rfl⟩ rfl rfl ?_
  show ab_Fr MX3_init (d + 1) _ 26 [some (.ref 169), some (.ref 160), some (.ref 7), none] [.ref 171, .ref 169] (2, 15) cS_176 (cE_337 sc)
  refine ab_putF (E2 := cE_338 sc) dX3_init_26 fl_X3_23 (fun C T N ty h9 => by have h8 := h9.1; cases h8; rfl) rfl rfl rfl rfl ?_
  show ab_Fr MX3_init (d + 1) _ 29 [some (.ref 169), some (.ref 160), some (.ref 7), none] [] (2, 15) cS_176 (cE_338 sc)
  refine ab_aloadn dX3_init_29 rfl ?_
  refine ab_bipush (v := 9) dX3_init_30 (by decide) ?_
  refine ab_newArr (t := 1) (n := 9) (ty := .long) (E2 := cE_339 sc) (σ2 := cS_177) dX3_init_32 rfl (Or.inr (Or.inl ⟨rfl, rfl⟩)) wd_315 rfl (by decide) (by decide) (Nat.le_of_ble_eq_true rfl) ⟨Nat.le_of_ble_eq_true rfl, Nat.le_of_ble_eq_true rfl⟩ rfl rfl ?_
  show ab_Fr MX3_init (d + 1) _ 34 [some (.ref 169), some (.ref 160), some (.ref 7), none] [.ref 172, .ref 169] (3, 24) cS_177 (cE_339 sc)
  refine ab_putF (E2 := cE_340 sc) dX3_init_34 fl_X3_26 (fun C T N ty h9 => by have h8 := h9.1; cases h8; rfl) rfl rfl rfl rfl ?_
  show ab_Fr MX3_init (d + 1) _ 37 [some (.ref 169), some (.ref 160), some (.ref 7), none] [] (3, 24) cS_177 (cE_340 sc)
  refine ab_aloadn dX3_init_37 rfl ?_
  refine ab_bipush (v := 21) dX3_init_38 (by decide) ?_
  refine ab_newArr (t := 0) (n := 21) (ty := .int) (E2 := cE_341 sc) (σ2 := cS_178) dX3_init_40 rfl (Or.inl ⟨rfl, rfl⟩) wd_180 rfl (by decide) (by decide) (Nat.le_of_ble_eq_true rfl) ⟨Nat.le_of_ble_eq_true rfl, Nat.le_of_ble_eq_true rfl⟩ rfl rfl ?_
  show ab_Fr MX3_init (d + 1) _ 42 [some (.ref 169), some (.ref 160), some (.ref 7), none] [.ref 173, .ref 169] (4, 45) cS_178 (cE_341 sc)
  refine ab_putF (E2 := cE_342 sc) dX3_init_42 fl_X3_29 (fun C T N ty h9 => by have h8 := h9.1; cases h8; rfl) rfl rfl rfl rfl ?_
  show ab_Fr MX3_init (d + 1) _ 45 [some (.ref 169), some (.ref 160), some (.ref 7), none] [] (4, 45) cS_178 (cE_342 sc)
  refine ab_aloadn dX3_init_45 rfl ?_
  refine ab_bipush (v := 21) dX3_init_46 (by decide) ?_
  refine ab_newArr (t := 0) (n := 21) (ty := .int) (E2 := cE_343 sc) (σ2 := cS_179) dX3_init_48 rfl (Or.inl ⟨rfl, rfl⟩) wd_180 rfl (by decide) (by decide) (Nat.le_of_ble_eq_true rfl) ⟨Nat.le_of_ble_eq_true rfl, Nat.le_of_ble_eq_true rfl⟩ rfl rfl ?_
  show ab_Fr MX3_init (d + 1) _ 50 [some (.ref 169), some (.ref 160), some (.ref 7), none] [.ref 174, .ref 169] (5, 66) cS_179 (cE_343 sc)
  refine ab_putF (E2 := cE_344 sc) dX3_init_50 fl_X3_33 (fun C T N ty h9 => by have h8 := h9.1; cases h8; rfl) rfl rfl rfl rfl ?_
  show ab_Fr MX3_init (d + 1) _ 53 [some (.ref 169), some (.ref 160), some (.ref 7), none] [] (5, 66) cS_179 (cE_344 sc)
  refine ab_aloadn dX3_init_53 rfl ?_
  refine ab_bipush (v := 21) dX3_init_54 (by decide) ?_
  refine ab_newArr (t := 0) (n := 21) (ty := .int) (E2 := cE_345 sc) (σ2 := cS_180) dX3_init_56 rfl (Or.inl ⟨rfl, rfl⟩) wd_180 rfl (by decide) (by decide) (Nat.le_of_ble_eq_true rfl) ⟨Nat.le_of_ble_eq_true rfl, Nat.le_of_ble_eq_true rfl⟩ rfl rfl ?_
  show ab_Fr MX3_init (d + 1) _ 58 [some (.ref 169), some (.ref 160), some (.ref 7), none] [.ref 175, .ref 169] (6, 87) cS_180 (cE_345 sc)
  refine ab_putF (E2 := cE_346 sc) dX3_init_58 fl_X3_36 (fun C T N ty h9 => by have h8 := h9.1; cases h8; rfl) rfl rfl rfl rfl ?_
  show ab_Fr MX3_init (d + 1) _ 61 [some (.ref 169), some (.ref 160), some (.ref 7), none] [] (6, 87) cS_180 (cE_346 sc)
  refine ab_iconst (v := 0) dX3_init_61 (by decide) ?_
  refine ab_istoren dX3_init_62 (Nat.le_of_ble_eq_true rfl) (L2 := [some (.ref 169), some (.ref 160), some (.ref 7), some (.int 0)]) rfl ?_
  refine ab_iloadn dX3_init_63 rfl ?_
  refine ab_bipush (v := 21) dX3_init_64 (by decide) ?_
  refine ab_icmp_ge (tgt := 89) dX3_init_66 (by decide) (fun q => absurd q (by decide)) (fun _ => ?_)
  refine ab_aloadn dX3_init_69 rfl ?_
  refine ab_getf (v := .ref 174) dX3_init_70 fl_X3_33 rfl rfl ?_
  refine ab_iloadn dX3_init_73 rfl ?_
  refine ab_iconst (v := (-1)) dX3_init_74 (by decide) ?_
  refine ab_iastore dX3_init_75 rfl (ab_vp (by decide)) ?_
  show ab_Fr MX3_init (d + 1) _ 76 [some (.ref 169), some (.ref 160), some (.ref 7), some (.int 0)] [] (6, 87) cS_181 (cE_346 sc)
  refine ab_aloadn dX3_init_76 rfl ?_
  refine ab_getf (v := .ref 175) dX3_init_77 fl_X3_36 rfl rfl ?_
  refine ab_iloadn dX3_init_80 rfl ?_
  refine ab_iconst (v := (-1)) dX3_init_81 (by decide) ?_
  refine ab_iastore dX3_init_82 rfl (ab_vp (by decide)) ?_
  show ab_Fr MX3_init (d + 1) _ 83 [some (.ref 169), some (.ref 160), some (.ref 7), some (.int 0)] [] (6, 87) cS_182 (cE_346 sc)
  refine ab_iinc (v := 1) dX3_init_83 rfl (by decide) (Nat.le_of_ble_eq_true rfl) (L2 := [some (.ref 169), some (.ref 160), some (.ref 7), some (.int 1)]) rfl ?_
  refine ab_goto (tgt := 63) dX3_init_86 (by decide) ?_
  refine ab_iloadn dX3_init_63 rfl ?_
  refine ab_bipush (v := 21) dX3_init_64 (by decide) ?_
  refine ab_icmp_ge (tgt := 89) dX3_init_66 (by decide) (fun q => absurd q (by decide)) (fun _ => ?_)
  refine ab_aloadn dX3_init_69 rfl ?_
  refine ab_getf (v := .ref 174) dX3_init_70 fl_X3_33 rfl rfl ?_
  refine ab_iloadn dX3_init_73 rfl ?_
  refine ab_iconst (v := (-1)) dX3_init_74 (by decide) ?_
  refine ab_iastore dX3_init_75 rfl (ab_vp (by decide)) ?_
  show ab_Fr MX3_init (d + 1) _ 76 [some (.ref 169), some (.ref 160), some (.ref 7), some (.int 1)] [] (6, 87) cS_183 (cE_346 sc)
  refine ab_aloadn dX3_init_76 rfl ?_
  refine ab_getf (v := .ref 175) dX3_init_77 fl_X3_36 rfl rfl ?_
  refine ab_iloadn dX3_init_80 rfl ?_
  refine ab_iconst (v := (-1)) dX3_init_81 (by decide) ?_
  refine ab_iastore dX3_init_82 rfl (ab_vp (by decide)) ?_
  show ab_Fr MX3_init (d + 1) _ 83 [some (.ref 169), some (.ref 160), some (.ref 7), some (.int 1)] [] (6, 87) cS_184 (cE_346 sc)
  refine ab_iinc (v := 2) dX3_init_83 rfl (by decide) (Nat.le_of_ble_eq_true rfl) (L2 := [some (.ref 169), some (.ref 160), some (.ref 7), some (.int 2)]) rfl ?_
  refine ab_goto (tgt := 63) dX3_init_86 (by decide) ?_
  refine ab_iloadn dX3_init_63 rfl ?_
  refine ab_bipush (v := 21) dX3_init_64 (by decide) ?_
  refine ab_icmp_ge (tgt := 89) dX3_init_66 (by decide) (fun q => absurd q (by decide)) (fun _ => ?_)
  refine ab_aloadn dX3_init_69 rfl ?_
  refine ab_getf (v := .ref 174) dX3_init_70 fl_X3_33 rfl rfl ?_
  refine ab_iloadn dX3_init_73 rfl ?_
  refine ab_iconst (v := (-1)) dX3_init_74 (by decide) ?_
  refine ab_iastore dX3_init_75 rfl (ab_vp (by decide)) ?_
  show ab_Fr MX3_init (d + 1) _ 76 [some (.ref 169), some (.ref 160), some (.ref 7), some (.int 2)] [] (6, 87) cS_185 (cE_346 sc)
  refine ab_aloadn dX3_init_76 rfl ?_
  refine ab_getf (v := .ref 175) dX3_init_77 fl_X3_36 rfl rfl ?_
  refine ab_iloadn dX3_init_80 rfl ?_
  refine ab_iconst (v := (-1)) dX3_init_81 (by decide) ?_
  refine ab_iastore dX3_init_82 rfl (ab_vp (by decide)) ?_
  show ab_Fr MX3_init (d + 1) _ 83 [some (.ref 169), some (.ref 160), some (.ref 7), some (.int 2)] [] (6, 87) cS_186 (cE_346 sc)
  refine ab_iinc (v := 3) dX3_init_83 rfl (by decide) (Nat.le_of_ble_eq_true rfl) (L2 := [some (.ref 169), some (.ref 160), some (.ref 7), some (.int 3)]) rfl ?_
  refine ab_goto (tgt := 63) dX3_init_86 (by decide) ?_
  refine ab_iloadn dX3_init_63 rfl ?_
  refine ab_bipush (v := 21) dX3_init_64 (by decide) ?_
  refine ab_icmp_ge (tgt := 89) dX3_init_66 (by decide) (fun q => absurd q (by decide)) (fun _ => ?_)
  refine ab_aloadn dX3_init_69 rfl ?_
  refine ab_getf (v := .ref 174) dX3_init_70 fl_X3_33 rfl rfl ?_
  refine ab_iloadn dX3_init_73 rfl ?_
  refine ab_iconst (v := (-1)) dX3_init_74 (by decide) ?_
  refine ab_iastore dX3_init_75 rfl (ab_vp (by decide)) ?_
  show ab_Fr MX3_init (d + 1) _ 76 [some (.ref 169), some (.ref 160), some (.ref 7), some (.int 3)] [] (6, 87) cS_187 (cE_346 sc)
  refine ab_aloadn dX3_init_76 rfl ?_
  refine ab_getf (v := .ref 175) dX3_init_77 fl_X3_36 rfl rfl ?_
  refine ab_iloadn dX3_init_80 rfl ?_
  refine ab_iconst (v := (-1)) dX3_init_81 (by decide) ?_
  refine ab_iastore dX3_init_82 rfl (ab_vp (by decide)) ?_
  show ab_Fr MX3_init (d + 1) _ 83 [some (.ref 169), some (.ref 160), some (.ref 7), some (.int 3)] [] (6, 87) cS_188 (cE_346 sc)
  refine ab_iinc (v := 4) dX3_init_83 rfl (by decide) (Nat.le_of_ble_eq_true rfl) (L2 := [some (.ref 169), some (.ref 160), some (.ref 7), some (.int 4)]) rfl ?_
  refine ab_goto (tgt := 63) dX3_init_86 (by decide) ?_
  refine ab_iloadn dX3_init_63 rfl ?_
  refine ab_bipush (v := 21) dX3_init_64 (by decide) ?_
  refine ab_icmp_ge (tgt := 89) dX3_init_66 (by decide) (fun q => absurd q (by decide)) (fun _ => ?_)
  refine ab_aloadn dX3_init_69 rfl ?_
  refine ab_getf (v := .ref 174) dX3_init_70 fl_X3_33 rfl rfl ?_
  refine ab_iloadn dX3_init_73 rfl ?_
  refine ab_iconst (v := (-1)) dX3_init_74 (by decide) ?_
  refine ab_iastore dX3_init_75 rfl (ab_vp (by decide)) ?_
  show ab_Fr MX3_init (d + 1) _ 76 [some (.ref 169), some (.ref 160), some (.ref 7), some (.int 4)] [] (6, 87) cS_189 (cE_346 sc)
  refine ab_aloadn dX3_init_76 rfl ?_
  refine ab_getf (v := .ref 175) dX3_init_77 fl_X3_36 rfl rfl ?_
  refine ab_iloadn dX3_init_80 rfl ?_
  refine ab_iconst (v := (-1)) dX3_init_81 (by decide) ?_
  refine ab_iastore dX3_init_82 rfl (ab_vp (by decide)) ?_
  show ab_Fr MX3_init (d + 1) _ 83 [some (.ref 169), some (.ref 160), some (.ref 7), some (.int 4)] [] (6, 87) cS_190 (cE_346 sc)
  refine ab_iinc (v := 5) dX3_init_83 rfl (by decide) (Nat.le_of_ble_eq_true rfl) (L2 := [some (.ref 169), some (.ref 160), some (.ref 7), some (.int 5)]) rfl ?_
  refine ab_goto (tgt := 63) dX3_init_86 (by decide) ?_
  refine ab_iloadn dX3_init_63 rfl ?_
  refine ab_bipush (v := 21) dX3_init_64 (by decide) ?_
  refine ab_icmp_ge (tgt := 89) dX3_init_66 (by decide) (fun q => absurd q (by decide)) (fun _ => ?_)
  refine ab_aloadn dX3_init_69 rfl ?_
  refine ab_getf (v := .ref 174) dX3_init_70 fl_X3_33 rfl rfl ?_
  refine ab_iloadn dX3_init_73 rfl ?_
  refine ab_iconst (v := (-1)) dX3_init_74 (by decide) ?_
  refine ab_iastore dX3_init_75 rfl (ab_vp (by decide)) ?_
  show ab_Fr MX3_init (d + 1) _ 76 [some (.ref 169), some (.ref 160), some (.ref 7), some (.int 5)] [] (6, 87) cS_191 (cE_346 sc)
  refine ab_aloadn dX3_init_76 rfl ?_
  refine ab_getf (v := .ref 175) dX3_init_77 fl_X3_36 rfl rfl ?_
  refine ab_iloadn dX3_init_80 rfl ?_
  refine ab_iconst (v := (-1)) dX3_init_81 (by decide) ?_
  refine ab_iastore dX3_init_82 rfl (ab_vp (by decide)) ?_
  show ab_Fr MX3_init (d + 1) _ 83 [some (.ref 169), some (.ref 160), some (.ref 7), some (.int 5)] [] (6, 87) cS_192 (cE_346 sc)
  refine ab_iinc (v := 6) dX3_init_83 rfl (by decide) (Nat.le_of_ble_eq_true rfl) (L2 := [some (.ref 169), some (.ref 160), some (.ref 7), some (.int 6)]) rfl ?_
  refine ab_goto (tgt := 63) dX3_init_86 (by decide) ?_
  refine ab_iloadn dX3_init_63 rfl ?_
  refine ab_bipush (v := 21) dX3_init_64 (by decide) ?_
  refine ab_icmp_ge (tgt := 89) dX3_init_66 (by decide) (fun q => absurd q (by decide)) (fun _ => ?_)
  refine ab_aloadn dX3_init_69 rfl ?_
  refine ab_getf (v := .ref 174) dX3_init_70 fl_X3_33 rfl rfl ?_
  refine ab_iloadn dX3_init_73 rfl ?_
  refine ab_iconst (v := (-1)) dX3_init_74 (by decide) ?_
  refine ab_iastore dX3_init_75 rfl (ab_vp (by decide)) ?_
  show ab_Fr MX3_init (d + 1) _ 76 [some (.ref 169), some (.ref 160), some (.ref 7), some (.int 6)] [] (6, 87) cS_193 (cE_346 sc)
  refine ab_aloadn dX3_init_76 rfl ?_
  refine ab_getf (v := .ref 175) dX3_init_77 fl_X3_36 rfl rfl ?_
  refine ab_iloadn dX3_init_80 rfl ?_
  refine ab_iconst (v := (-1)) dX3_init_81 (by decide) ?_
  refine ab_iastore dX3_init_82 rfl (ab_vp (by decide)) ?_
  show ab_Fr MX3_init (d + 1) _ 83 [some (.ref 169), some (.ref 160), some (.ref 7), some (.int 6)] [] (6, 87) cS_194 (cE_346 sc)
  refine ab_iinc (v := 7) dX3_init_83 rfl (by decide) (Nat.le_of_ble_eq_true rfl) (L2 := [some (.ref 169), some (.ref 160), some (.ref 7), some (.int 7)]) rfl ?_
  refine ab_goto (tgt := 63) dX3_init_86 (by decide) ?_
  refine ab_iloadn dX3_init_63 rfl ?_
  refine ab_bipush (v := 21) dX3_init_64 (by decide) ?_
  refine ab_icmp_ge (tgt := 89) dX3_init_66 (by decide) (fun q => absurd q (by decide)) (fun _ => ?_)
  refine ab_aloadn dX3_init_69 rfl ?_
  refine ab_getf (v := .ref 174) dX3_init_70 fl_X3_33 rfl rfl ?_
  refine ab_iloadn dX3_init_73 rfl ?_
  refine ab_iconst (v := (-1)) dX3_init_74 (by decide) ?_
  refine ab_iastore dX3_init_75 rfl (ab_vp (by decide)) ?_
  show ab_Fr MX3_init (d + 1) _ 76 [some (.ref 169), some (.ref 160), some (.ref 7), some (.int 7)] [] (6, 87) cS_195 (cE_346 sc)
  refine ab_aloadn dX3_init_76 rfl ?_
  refine ab_getf (v := .ref 175) dX3_init_77 fl_X3_36 rfl rfl ?_
  refine ab_iloadn dX3_init_80 rfl ?_
  refine ab_iconst (v := (-1)) dX3_init_81 (by decide) ?_
  refine ab_iastore dX3_init_82 rfl (ab_vp (by decide)) ?_
  show ab_Fr MX3_init (d + 1) _ 83 [some (.ref 169), some (.ref 160), some (.ref 7), some (.int 7)] [] (6, 87) cS_196 (cE_346 sc)
  refine ab_iinc (v := 8) dX3_init_83 rfl (by decide) (Nat.le_of_ble_eq_true rfl) (L2 := [some (.ref 169), some (.ref 160), some (.ref 7), some (.int 8)]) rfl ?_
  refine ab_goto (tgt := 63) dX3_init_86 (by decide) ?_
  refine ab_iloadn dX3_init_63 rfl ?_
  refine ab_bipush (v := 21) dX3_init_64 (by decide) ?_
  refine ab_icmp_ge (tgt := 89) dX3_init_66 (by decide) (fun q => absurd q (by decide)) (fun _ => ?_)
  refine ab_aloadn dX3_init_69 rfl ?_
  refine ab_getf (v := .ref 174) dX3_init_70 fl_X3_33 rfl rfl ?_
  refine ab_iloadn dX3_init_73 rfl ?_
  refine ab_iconst (v := (-1)) dX3_init_74 (by decide) ?_
  refine ab_iastore dX3_init_75 rfl (ab_vp (by decide)) ?_
  show ab_Fr MX3_init (d + 1) _ 76 [some (.ref 169), some (.ref 160), some (.ref 7), some (.int 8)] [] (6, 87) cS_197 (cE_346 sc)
  refine ab_aloadn dX3_init_76 rfl ?_
  refine ab_getf (v := .ref 175) dX3_init_77 fl_X3_36 rfl rfl ?_
  refine ab_iloadn dX3_init_80 rfl ?_
  refine ab_iconst (v := (-1)) dX3_init_81 (by decide) ?_
  refine ab_iastore dX3_init_82 rfl (ab_vp (by decide)) ?_
  show ab_Fr MX3_init (d + 1) _ 83 [some (.ref 169), some (.ref 160), some (.ref 7), some (.int 8)] [] (6, 87) cS_198 (cE_346 sc)
  refine ab_iinc (v := 9) dX3_init_83 rfl (by decide) (Nat.le_of_ble_eq_true rfl) (L2 := [some (.ref 169), some (.ref 160), some (.ref 7), some (.int 9)]) rfl ?_
  refine ab_goto (tgt := 63) dX3_init_86 (by decide) ?_
  refine ab_iloadn dX3_init_63 rfl ?_
  refine ab_bipush (v := 21) dX3_init_64 (by decide) ?_
  refine ab_icmp_ge (tgt := 89) dX3_init_66 (by decide) (fun q => absurd q (by decide)) (fun _ => ?_)
  refine ab_aloadn dX3_init_69 rfl ?_
  refine ab_getf (v := .ref 174) dX3_init_70 fl_X3_33 rfl rfl ?_
  refine ab_iloadn dX3_init_73 rfl ?_
  refine ab_iconst (v := (-1)) dX3_init_74 (by decide) ?_
  refine ab_iastore dX3_init_75 rfl (ab_vp (by decide)) ?_
  show ab_Fr MX3_init (d + 1) _ 76 [some (.ref 169), some (.ref 160), some (.ref 7), some (.int 9)] [] (6, 87) cS_199 (cE_346 sc)
  refine ab_aloadn dX3_init_76 rfl ?_
  refine ab_getf (v := .ref 175) dX3_init_77 fl_X3_36 rfl rfl ?_
  refine ab_iloadn dX3_init_80 rfl ?_
  refine ab_iconst (v := (-1)) dX3_init_81 (by decide) ?_
  refine ab_iastore dX3_init_82 rfl (ab_vp (by decide)) ?_
  show ab_Fr MX3_init (d + 1) _ 83 [some (.ref 169), some (.ref 160), some (.ref 7), some (.int 9)] [] (6, 87) cS_200 (cE_346 sc)
  refine ab_iinc (v := 10) dX3_init_83 rfl (by decide) (Nat.le_of_ble_eq_true rfl) (L2 := [some (.ref 169), some (.ref 160), some (.ref 7), some (.int 10)]) rfl ?_
  refine ab_goto (tgt := 63) dX3_init_86 (by decide) ?_
  refine ab_iloadn dX3_init_63 rfl ?_
  refine ab_bipush (v := 21) dX3_init_64 (by decide) ?_
  refine ab_icmp_ge (tgt := 89) dX3_init_66 (by decide) (fun q => absurd q (by decide)) (fun _ => ?_)
  refine ab_aloadn dX3_init_69 rfl ?_
  refine ab_getf (v := .ref 174) dX3_init_70 fl_X3_33 rfl rfl ?_
  refine ab_iloadn dX3_init_73 rfl ?_
  refine ab_iconst (v := (-1)) dX3_init_74 (by decide) ?_
  refine ab_iastore dX3_init_75 rfl (ab_vp (by decide)) ?_
  show ab_Fr MX3_init (d + 1) _ 76 [some (.ref 169), some (.ref 160), some (.ref 7), some (.int 10)] [] (6, 87) cS_201 (cE_346 sc)
  refine ab_aloadn dX3_init_76 rfl ?_
  refine ab_getf (v := .ref 175) dX3_init_77 fl_X3_36 rfl rfl ?_
  refine ab_iloadn dX3_init_80 rfl ?_
  refine ab_iconst (v := (-1)) dX3_init_81 (by decide) ?_
  refine ab_iastore dX3_init_82 rfl (ab_vp (by decide)) ?_
  show ab_Fr MX3_init (d + 1) _ 83 [some (.ref 169), some (.ref 160), some (.ref 7), some (.int 10)] [] (6, 87) cS_202 (cE_346 sc)
  refine ab_iinc (v := 11) dX3_init_83 rfl (by decide) (Nat.le_of_ble_eq_true rfl) (L2 := [some (.ref 169), some (.ref 160), some (.ref 7), some (.int 11)]) rfl ?_
  refine ab_goto (tgt := 63) dX3_init_86 (by decide) ?_
  refine ab_iloadn dX3_init_63 rfl ?_
  refine ab_bipush (v := 21) dX3_init_64 (by decide) ?_
  refine ab_icmp_ge (tgt := 89) dX3_init_66 (by decide) (fun q => absurd q (by decide)) (fun _ => ?_)
  refine ab_aloadn dX3_init_69 rfl ?_
  refine ab_getf (v := .ref 174) dX3_init_70 fl_X3_33 rfl rfl ?_
  refine ab_iloadn dX3_init_73 rfl ?_
  refine ab_iconst (v := (-1)) dX3_init_74 (by decide) ?_
  refine ab_iastore dX3_init_75 rfl (ab_vp (by decide)) ?_
  show ab_Fr MX3_init (d + 1) _ 76 [some (.ref 169), some (.ref 160), some (.ref 7), some (.int 11)] [] (6, 87) cS_203 (cE_346 sc)
  refine ab_aloadn dX3_init_76 rfl ?_
  refine ab_getf (v := .ref 175) dX3_init_77 fl_X3_36 rfl rfl ?_
  refine ab_iloadn dX3_init_80 rfl ?_
  refine ab_iconst (v := (-1)) dX3_init_81 (by decide) ?_
  refine ab_iastore dX3_init_82 rfl (ab_vp (by decide)) ?_
  show ab_Fr MX3_init (d + 1) _ 83 [some (.ref 169), some (.ref 160), some (.ref 7), some (.int 11)] [] (6, 87) cS_204 (cE_346 sc)
  refine ab_iinc (v := 12) dX3_init_83 rfl (by decide) (Nat.le_of_ble_eq_true rfl) (L2 := [some (.ref 169), some (.ref 160), some (.ref 7), some (.int 12)]) rfl ?_
  refine ab_goto (tgt := 63) dX3_init_86 (by decide) ?_
  refine ab_iloadn dX3_init_63 rfl ?_
  refine ab_bipush (v := 21) dX3_init_64 (by decide) ?_
  refine ab_icmp_ge (tgt := 89) dX3_init_66 (by decide) (fun q => absurd q (by decide)) (fun _ => ?_)
  refine ab_aloadn dX3_init_69 rfl ?_
  refine ab_getf (v := .ref 174) dX3_init_70 fl_X3_33 rfl rfl ?_
  refine ab_iloadn dX3_init_73 rfl ?_
  refine ab_iconst (v := (-1)) dX3_init_74 (by decide) ?_
  refine ab_iastore dX3_init_75 rfl (ab_vp (by decide)) ?_
  show ab_Fr MX3_init (d + 1) _ 76 [some (.ref 169), some (.ref 160), some (.ref 7), some (.int 12)] [] (6, 87) cS_205 (cE_346 sc)
  refine ab_aloadn dX3_init_76 rfl ?_
  refine ab_getf (v := .ref 175) dX3_init_77 fl_X3_36 rfl rfl ?_
  refine ab_iloadn dX3_init_80 rfl ?_
  refine ab_iconst (v := (-1)) dX3_init_81 (by decide) ?_
  refine ab_iastore dX3_init_82 rfl (ab_vp (by decide)) ?_
  show ab_Fr MX3_init (d + 1) _ 83 [some (.ref 169), some (.ref 160), some (.ref 7), some (.int 12)] [] (6, 87) cS_206 (cE_346 sc)
  refine ab_iinc (v := 13) dX3_init_83 rfl (by decide) (Nat.le_of_ble_eq_true rfl) (L2 := [some (.ref 169), some (.ref 160), some (.ref 7), some (.int 13)]) rfl ?_
  refine ab_goto (tgt := 63) dX3_init_86 (by decide) ?_
  refine ab_iloadn dX3_init_63 rfl ?_
  refine ab_bipush (v := 21) dX3_init_64 (by decide) ?_
  refine ab_icmp_ge (tgt := 89) dX3_init_66 (by decide) (fun q => absurd q (by decide)) (fun _ => ?_)
  refine ab_aloadn dX3_init_69 rfl ?_
  refine ab_getf (v := .ref 174) dX3_init_70 fl_X3_33 rfl rfl ?_
  refine ab_iloadn dX3_init_73 rfl ?_
  refine ab_iconst (v := (-1)) dX3_init_74 (by decide) ?_
  refine ab_iastore dX3_init_75 rfl (ab_vp (by decide)) ?_
  show ab_Fr MX3_init (d + 1) _ 76 [some (.ref 169), some (.ref 160), some (.ref 7), some (.int 13)] [] (6, 87) cS_207 (cE_346 sc)
  refine ab_aloadn dX3_init_76 rfl ?_
  refine ab_getf (v := .ref 175) dX3_init_77 fl_X3_36 rfl rfl ?_
  refine ab_iloadn dX3_init_80 rfl ?_
  refine ab_iconst (v := (-1)) dX3_init_81 (by decide) ?_
  refine ab_iastore dX3_init_82 rfl (ab_vp (by decide)) ?_
  show ab_Fr MX3_init (d + 1) _ 83 [some (.ref 169), some (.ref 160), some (.ref 7), some (.int 13)] [] (6, 87) cS_208 (cE_346 sc)
  refine ab_iinc (v := 14) dX3_init_83 rfl (by decide) (Nat.le_of_ble_eq_true rfl) (L2 := [some (.ref 169), some (.ref 160), some (.ref 7), some (.int 14)]) rfl ?_
  refine ab_goto (tgt := 63) dX3_init_86 (by decide) ?_
  refine ab_iloadn dX3_init_63 rfl ?_
  refine ab_bipush (v := 21) dX3_init_64 (by decide) ?_
  refine ab_icmp_ge (tgt := 89) dX3_init_66 (by decide) (fun q => absurd q (by decide)) (fun _ => ?_)
  refine ab_aloadn dX3_init_69 rfl ?_
  refine ab_getf (v := .ref 174) dX3_init_70 fl_X3_33 rfl rfl ?_
  refine ab_iloadn dX3_init_73 rfl ?_
  refine ab_iconst (v := (-1)) dX3_init_74 (by decide) ?_
  refine ab_iastore dX3_init_75 rfl (ab_vp (by decide)) ?_
  show ab_Fr MX3_init (d + 1) _ 76 [some (.ref 169), some (.ref 160), some (.ref 7), some (.int 14)] [] (6, 87) cS_209 (cE_346 sc)
  refine ab_aloadn dX3_init_76 rfl ?_
  refine ab_getf (v := .ref 175) dX3_init_77 fl_X3_36 rfl rfl ?_
  refine ab_iloadn dX3_init_80 rfl ?_
  refine ab_iconst (v := (-1)) dX3_init_81 (by decide) ?_
  refine ab_iastore dX3_init_82 rfl (ab_vp (by decide)) ?_
  show ab_Fr MX3_init (d + 1) _ 83 [some (.ref 169), some (.ref 160), some (.ref 7), some (.int 14)] [] (6, 87) cS_210 (cE_346 sc)
  refine ab_iinc (v := 15) dX3_init_83 rfl (by decide) (Nat.le_of_ble_eq_true rfl) (L2 := [some (.ref 169), some (.ref 160), some (.ref 7), some (.int 15)]) rfl ?_
  refine ab_goto (tgt := 63) dX3_init_86 (by decide) ?_
  refine ab_iloadn dX3_init_63 rfl ?_
  refine ab_bipush (v := 21) dX3_init_64 (by decide) ?_
  refine ab_icmp_ge (tgt := 89) dX3_init_66 (by decide) (fun q => absurd q (by decide)) (fun _ => ?_)
  refine ab_aloadn dX3_init_69 rfl ?_
  refine ab_getf (v := .ref 174) dX3_init_70 fl_X3_33 rfl rfl ?_
  refine ab_iloadn dX3_init_73 rfl ?_
  refine ab_iconst (v := (-1)) dX3_init_74 (by decide) ?_
  refine ab_iastore dX3_init_75 rfl (ab_vp (by decide)) ?_
  show ab_Fr MX3_init (d + 1) _ 76 [some (.ref 169), some (.ref 160), some (.ref 7), some (.int 15)] [] (6, 87) cS_211 (cE_346 sc)
  refine ab_aloadn dX3_init_76 rfl ?_
  refine ab_getf (v := .ref 175) dX3_init_77 fl_X3_36 rfl rfl ?_
  refine ab_iloadn dX3_init_80 rfl ?_
  refine ab_iconst (v := (-1)) dX3_init_81 (by decide) ?_
  refine ab_iastore dX3_init_82 rfl (ab_vp (by decide)) ?_
  show ab_Fr MX3_init (d + 1) _ 83 [some (.ref 169), some (.ref 160), some (.ref 7), some (.int 15)] [] (6, 87) cS_212 (cE_346 sc)
  refine ab_iinc (v := 16) dX3_init_83 rfl (by decide) (Nat.le_of_ble_eq_true rfl) (L2 := [some (.ref 169), some (.ref 160), some (.ref 7), some (.int 16)]) rfl ?_
  refine ab_goto (tgt := 63) dX3_init_86 (by decide) ?_
  refine ab_iloadn dX3_init_63 rfl ?_
  refine ab_bipush (v := 21) dX3_init_64 (by decide) ?_
  refine ab_icmp_ge (tgt := 89) dX3_init_66 (by decide) (fun q => absurd q (by decide)) (fun _ => ?_)
  refine ab_aloadn dX3_init_69 rfl ?_
  refine ab_getf (v := .ref 174) dX3_init_70 fl_X3_33 rfl rfl ?_
  refine ab_iloadn dX3_init_73 rfl ?_
  refine ab_iconst (v := (-1)) dX3_init_74 (by decide) ?_
  refine ab_iastore dX3_init_75 rfl (ab_vp (by decide)) ?_
  show ab_Fr MX3_init (d + 1) _ 76 [some (.ref 169), some (.ref 160), some (.ref 7), some (.int 16)] [] (6, 87) cS_213 (cE_346 sc)
  refine ab_aloadn dX3_init_76 rfl ?_
  refine ab_getf (v := .ref 175) dX3_init_77 fl_X3_36 rfl rfl ?_
  refine ab_iloadn dX3_init_80 rfl ?_
  refine ab_iconst (v := (-1)) dX3_init_81 (by decide) ?_
  refine ab_iastore dX3_init_82 rfl (ab_vp (by decide)) ?_
  show ab_Fr MX3_init (d + 1) _ 83 [some (.ref 169), some (.ref 160), some (.ref 7), some (.int 16)] [] (6, 87) cS_214 (cE_346 sc)
  refine ab_iinc (v := 17) dX3_init_83 rfl (by decide) (Nat.le_of_ble_eq_true rfl) (L2 := [some (.ref 169), some (.ref 160), some (.ref 7), some (.int 17)]) rfl ?_
  refine ab_goto (tgt := 63) dX3_init_86 (by decide) ?_
  refine ab_iloadn dX3_init_63 rfl ?_
  refine ab_bipush (v := 21) dX3_init_64 (by decide) ?_
  refine ab_icmp_ge (tgt := 89) dX3_init_66 (by decide) (fun q => absurd q (by decide)) (fun _ => ?_)
  refine ab_aloadn dX3_init_69 rfl ?_
  refine ab_getf (v := .ref 174) dX3_init_70 fl_X3_33 rfl rfl ?_
  refine ab_iloadn dX3_init_73 rfl ?_
  refine ab_iconst (v := (-1)) dX3_init_74 (by decide) ?_
  refine ab_iastore dX3_init_75 rfl (ab_vp (by decide)) ?_
  show ab_Fr MX3_init (d + 1) _ 76 [some (.ref 169), some (.ref 160), some (.ref 7), some (.int 17)] [] (6, 87) cS_215 (cE_346 sc)
  refine ab_aloadn dX3_init_76 rfl ?_
  refine ab_getf (v := .ref 175) dX3_init_77 fl_X3_36 rfl rfl ?_
  refine ab_iloadn dX3_init_80 rfl ?_
  refine ab_iconst (v := (-1)) dX3_init_81 (by decide) ?_
  refine ab_iastore dX3_init_82 rfl (ab_vp (by decide)) ?_
  show ab_Fr MX3_init (d + 1) _ 83 [some (.ref 169), some (.ref 160), some (.ref 7), some (.int 17)] [] (6, 87) cS_216 (cE_346 sc)
  refine ab_iinc (v := 18) dX3_init_83 rfl (by decide) (Nat.le_of_ble_eq_true rfl) (L2 := [some (.ref 169), some (.ref 160), some (.ref 7), some (.int 18)]) rfl ?_
  refine ab_goto (tgt := 63) dX3_init_86 (by decide) ?_
  refine ab_iloadn dX3_init_63 rfl ?_
  refine ab_bipush (v := 21) dX3_init_64 (by decide) ?_
  refine ab_icmp_ge (tgt := 89) dX3_init_66 (by decide) (fun q => absurd q (by decide)) (fun _ => ?_)
  refine ab_aloadn dX3_init_69 rfl ?_
  refine ab_getf (v := .ref 174) dX3_init_70 fl_X3_33 rfl rfl ?_
  refine ab_iloadn dX3_init_73 rfl ?_
  refine ab_iconst (v := (-1)) dX3_init_74 (by decide) ?_
  refine ab_iastore dX3_init_75 rfl (ab_vp (by decide)) ?_
  show ab_Fr MX3_init (d + 1) _ 76 [some (.ref 169), some (.ref 160), some (.ref 7), some (.int 18)] [] (6, 87) cS_217 (cE_346 sc)
  refine ab_aloadn dX3_init_76 rfl ?_
  refine ab_getf (v := .ref 175) dX3_init_77 fl_X3_36 rfl rfl ?_
  refine ab_iloadn dX3_init_80 rfl ?_
  refine ab_iconst (v := (-1)) dX3_init_81 (by decide) ?_
  refine ab_iastore dX3_init_82 rfl (ab_vp (by decide)) ?_
  show ab_Fr MX3_init (d + 1) _ 83 [some (.ref 169), some (.ref 160), some (.ref 7), some (.int 18)] [] (6, 87) cS_218 (cE_346 sc)
  refine ab_iinc (v := 19) dX3_init_83 rfl (by decide) (Nat.le_of_ble_eq_true rfl) (L2 := [some (.ref 169), some (.ref 160), some (.ref 7), some (.int 19)]) rfl ?_
  refine ab_goto (tgt := 63) dX3_init_86 (by decide) ?_
  refine ab_iloadn dX3_init_63 rfl ?_
  refine ab_bipush (v := 21) dX3_init_64 (by decide) ?_
  refine ab_icmp_ge (tgt := 89) dX3_init_66 (by decide) (fun q => absurd q (by decide)) (fun _ => ?_)
  refine ab_aloadn dX3_init_69 rfl ?_
  refine ab_getf (v := .ref 174) dX3_init_70 fl_X3_33 rfl rfl ?_
  refine ab_iloadn dX3_init_73 rfl ?_
  refine ab_iconst (v := (-1)) dX3_init_74 (by decide) ?_
  refine ab_iastore dX3_init_75 rfl (ab_vp (by decide)) ?_
  show ab_Fr MX3_init (d + 1) _ 76 [some (.ref 169), some (.ref 160), some (.ref 7), some (.int 19)] [] (6, 87) cS_219 (cE_346 sc)
  refine ab_aloadn dX3_init_76 rfl ?_
  refine ab_getf (v := .ref 175) dX3_init_77 fl_X3_36 rfl rfl ?_
  refine ab_iloadn dX3_init_80 rfl ?_
  refine ab_iconst (v := (-1)) dX3_init_81 (by decide) ?_
  refine ab_iastore dX3_init_82 rfl (ab_vp (by decide)) ?_
  show ab_Fr MX3_init (d + 1) _ 83 [some (.ref 169), some (.ref 160), some (.ref 7), some (.int 19)] [] (6, 87) cS_220 (cE_346 sc)
  refine ab_iinc (v := 20) dX3_init_83 rfl (by decide) (Nat.le_of_ble_eq_true rfl) (L2 := [some (.ref 169), some (.ref 160), some (.ref 7), some (.int 20)]) rfl ?_
  refine ab_goto (tgt := 63) dX3_init_86 (by decide) ?_
  refine ab_iloadn dX3_init_63 rfl ?_
  refine ab_bipush (v := 21) dX3_init_64 (by decide) ?_
  refine ab_icmp_ge (tgt := 89) dX3_init_66 (by decide) (fun q => absurd q (by decide)) (fun _ => ?_)
  refine ab_aloadn dX3_init_69 rfl ?_
  refine ab_getf (v := .ref 174) dX3_init_70 fl_X3_33 rfl rfl ?_
  refine ab_iloadn dX3_init_73 rfl ?_
  refine ab_iconst (v := (-1)) dX3_init_74 (by decide) ?_
  refine ab_iastore dX3_init_75 rfl (ab_vp (by decide)) ?_
  show ab_Fr MX3_init (d + 1) _ 76 [some (.ref 169), some (.ref 160), some (.ref 7), some (.int 20)] [] (6, 87) cS_221 (cE_346 sc)
  refine ab_aloadn dX3_init_76 rfl ?_
  refine ab_getf (v := .ref 175) dX3_init_77 fl_X3_36 rfl rfl ?_
  refine ab_iloadn dX3_init_80 rfl ?_
  refine ab_iconst (v := (-1)) dX3_init_81 (by decide) ?_
  refine ab_iastore dX3_init_82 rfl (ab_vp (by decide)) ?_
  show ab_Fr MX3_init (d + 1) _ 83 [some (.ref 169), some (.ref 160), some (.ref 7), some (.int 20)] [] (6, 87) cS_222 (cE_346 sc)
  refine ab_iinc (v := 21) dX3_init_83 rfl (by decide) (Nat.le_of_ble_eq_true rfl) (L2 := [some (.ref 169), some (.ref 160), some (.ref 7), some (.int 21)]) rfl ?_
  refine ab_goto (tgt := 63) dX3_init_86 (by decide) ?_
  refine ab_iloadn dX3_init_63 rfl ?_
  refine ab_bipush (v := 21) dX3_init_64 (by decide) ?_
  refine ab_icmp_ge (tgt := 89) dX3_init_66 (by decide) (fun _ => ?_) (fun q => absurd (by decide) q)
  refine ab_aloadn dX3_init_89 rfl ?_
  refine ab_ldc2 dX3_init_90 wd_381 ?_
  refine ab_putL dX3_init_93 fl_X3_41 rfl rfl ?_
  show ab_Fr MX3_init (d + 1) _ 96 [some (.ref 169), some (.ref 160), some (.ref 7), some (.int 21)] [] (6, 87) cS_223 (cE_346 sc)
  refine ab_aloadn dX3_init_96 rfl ?_
  refine ab_ldc2 dX3_init_97 wd_381 ?_
  refine ab_putL dX3_init_100 fl_X3_45 rfl rfl ?_
  show ab_Fr MX3_init (d + 1) _ 103 [some (.ref 169), some (.ref 160), some (.ref 7), some (.int 21)] [] (6, 87) cS_224 (cE_346 sc)
  refine ab_aloadn dX3_init_103 rfl ?_
  refine ab_bipush (v := 6) dX3_init_104 (by decide) ?_
  refine ab_newArr (t := 0) (n := 6) (ty := .int) (E2 := cE_347 sc) (σ2 := cS_225) dX3_init_106 rfl (Or.inl ⟨rfl, rfl⟩) wd_180 rfl (by decide) (by decide) (Nat.le_of_ble_eq_true rfl) ⟨Nat.le_of_ble_eq_true rfl, Nat.le_of_ble_eq_true rfl⟩ rfl rfl ?_
  show ab_Fr MX3_init (d + 1) _ 108 [some (.ref 169), some (.ref 160), some (.ref 7), some (.int 21)] [.ref 176, .ref 169] (7, 93) cS_225 (cE_347 sc)
  refine ab_putF (E2 := cE_348 sc) dX3_init_108 fl_X3_48 (fun C T N ty h9 => by have h8 := h9.1; cases h8; rfl) rfl rfl rfl rfl ?_
  show ab_Fr MX3_init (d + 1) _ 111 [some (.ref 169), some (.ref 160), some (.ref 7), some (.int 21)] [] (7, 93) cS_225 (cE_348 sc)
  refine ab_aloadn dX3_init_111 rfl ?_
  refine ab_bipush (v := 6) dX3_init_112 (by decide) ?_
  refine ab_newArr (t := 0) (n := 6) (ty := .int) (E2 := cE_349 sc) (σ2 := cS_226) dX3_init_114 rfl (Or.inl ⟨rfl, rfl⟩) wd_180 rfl (by decide) (by decide) (Nat.le_of_ble_eq_true rfl) ⟨Nat.le_of_ble_eq_true rfl, Nat.le_of_ble_eq_true rfl⟩ rfl rfl ?_
  show ab_Fr MX3_init (d + 1) _ 116 [some (.ref 169), some (.ref 160), some (.ref 7), some (.int 21)] [.ref 177, .ref 169] (8, 99) cS_226 (cE_349 sc)
  refine ab_putF (E2 := cE_350 sc) dX3_init_116 fl_X3_51 (fun C T N ty h9 => by have h8 := h9.1; cases h8; rfl) rfl rfl rfl rfl ?_
  show ab_Fr MX3_init (d + 1) _ 119 [some (.ref 169), some (.ref 160), some (.ref 7), some (.int 21)] [] (8, 99) cS_226 (cE_350 sc)
  refine ab_aloadn dX3_init_119 rfl ?_
  refine ab_iconst (v := 3) dX3_init_120 (by decide) ?_
  refine ab_newArr (t := 0) (n := 3) (ty := .int) (E2 := cE_351 sc) (σ2 := cS_227) dX3_init_121 rfl (Or.inl ⟨rfl, rfl⟩) wd_180 rfl (by decide) (by decide) (Nat.le_of_ble_eq_true rfl) ⟨Nat.le_of_ble_eq_true rfl, Nat.le_of_ble_eq_true rfl⟩ rfl rfl ?_
  show ab_Fr MX3_init (d + 1) _ 123 [some (.ref 169), some (.ref 160), some (.ref 7), some (.int 21)] [.ref 178, .ref 169] (9, 102) cS_227 (cE_351 sc)
  refine ab_putF (E2 := cE_352 sc) dX3_init_123 fl_X3_54 (fun C T N ty h9 => by have h8 := h9.1; cases h8; rfl) rfl rfl rfl rfl ?_
  show ab_Fr MX3_init (d + 1) _ 126 [some (.ref 169), some (.ref 160), some (.ref 7), some (.int 21)] [] (9, 102) cS_227 (cE_352 sc)
  exact ab_vret dX3_init_126 rfl ⟨Nat.le_of_ble_eq_true rfl, Nat.le_of_ble_eq_true rfl⟩ ⟨none, rfl, rfl, rfl, rfl⟩
set_option maxRecDepth 100000 in
theorem kI_53 {d : Nat} {sc : Nat × (Nat → Int32)} : ab_Call MX8_init (d + 1) [.ref 179, .ref 7] cS_228 (cE_354 sc) (fun v σ E => v = none ∧ σ = cS_234 ∧ E = cE_364 sc) := by
  refine ab_enter (n := 1) okMX8_init (fun G => Nat.le_of_ble_eq_true rfl) ?_
  show ab_Fr MX8_init (d + 1) _ 0 [some (.ref 179), some (.ref 7)] [] (0, 0) cS_228 (cE_354 sc)
  refine ab_aloadn dX8_init_0 rfl ?_
  refine ab_oinit dX8_init_1 wd_420 wd_162 wd_163 (Nat.le_of_ble_eq_true rfl) ?_
  refine ab_aloadn dX8_init_4 rfl ?_
  refine ab_aloadn dX8_init_5 rfl ?_
  refine ab_putR dX8_init_6 fl_X8_9 rfl rfl ?_
  show ab_Fr MX8_init (d + 1) _ 9 [some (.ref 179), some (.ref 7)] [] (0, 0) cS_229 (cE_354 sc)
  refine ab_aloadn dX8_init_9 rfl ?_
  refine ab_bipush (v := 7) dX8_init_10 (by decide) ?_
  refine ab_newArr (t := 0) (n := 7) (ty := .int) (E2 := cE_355 sc) (σ2 := cS_230) dX8_init_12 rfl (Or.inl ⟨rfl, rfl⟩) wd_180 rfl (by decide) (by decide) (Nat.le_of_ble_eq_true rfl) ⟨Nat.le_of_ble_eq_true rfl, Nat.le_of_ble_eq_true rfl⟩ rfl rfl ?_
  show ab_Fr MX8_init (d + 1) _ 14 [some (.ref 179), some (.ref 7)] [.ref 180, .ref 179] (1, 7) cS_230 (cE_355 sc)
  refine ab_putF (E2 := cE_356 sc) dX8_init_14 fl_X8_15 (fun C T N ty h9 => by have h8 := h9.1; cases h8; rfl) rfl rfl rfl rfl ?_
  show ab_Fr MX8_init (d + 1) _ 17 [some (.ref 179), some (.ref 7)] [] (1, 7) cS_230 (cE_356 sc)
  refine ab_aloadn dX8_init_17 rfl ?_
  refine ab_bipush (v := 21) dX8_init_18 (by decide) ?_
  refine ab_newArr (t := 0) (n := 21) (ty := .int) (E2 := cE_357 sc) (σ2 := cS_231) dX8_init_20 rfl (Or.inl ⟨rfl, rfl⟩) wd_180 rfl (by decide) (by decide) (Nat.le_of_ble_eq_true rfl) ⟨Nat.le_of_ble_eq_true rfl, Nat.le_of_ble_eq_true rfl⟩ rfl rfl ?_
  show ab_Fr MX8_init (d + 1) _ 22 [some (.ref 179), some (.ref 7)] [.ref 181, .ref 179] (2, 28) cS_231 (cE_357 sc)
  refine ab_putF (E2 := cE_358 sc) dX8_init_22 fl_X8_19 (fun C T N ty h9 => by have h8 := h9.1; cases h8; rfl) rfl rfl rfl rfl ?_
  show ab_Fr MX8_init (d + 1) _ 25 [some (.ref 179), some (.ref 7)] [] (2, 28) cS_231 (cE_358 sc)
  refine ab_aloadn dX8_init_25 rfl ?_
  refine ab_bipush (v := 24) dX8_init_26 (by decide) ?_
  refine ab_newArr (t := 1) (n := 24) (ty := .long) (E2 := cE_359 sc) (σ2 := cS_232) dX8_init_28 rfl (Or.inr (Or.inl ⟨rfl, rfl⟩)) wd_315 rfl (by decide) (by decide) (Nat.le_of_ble_eq_true rfl) ⟨Nat.le_of_ble_eq_true rfl, Nat.le_of_ble_eq_true rfl⟩ rfl rfl ?_
  show ab_Fr MX8_init (d + 1) _ 30 [some (.ref 179), some (.ref 7)] [.ref 182, .ref 179] (3, 52) cS_232 (cE_359 sc)
  refine ab_putF (E2 := cE_360 sc) dX8_init_30 fl_X8_22 (fun C T N ty h9 => by have h8 := h9.1; cases h8; rfl) rfl rfl rfl rfl ?_
  show ab_Fr MX8_init (d + 1) _ 33 [some (.ref 179), some (.ref 7)] [] (3, 52) cS_232 (cE_360 sc)
  refine ab_aloadn dX8_init_33 rfl ?_
  refine ab_iconst (v := 3) dX8_init_34 (by decide) ?_
  refine ab_newArr (t := 1) (n := 3) (ty := .long) (E2 := cE_361 sc) (σ2 := cS_233) dX8_init_35 rfl (Or.inr (Or.inl ⟨rfl, rfl⟩)) wd_315 rfl (by decide) (by decide) (Nat.le_of_ble_eq_true rfl) ⟨Nat.le_of_ble_eq_true rfl, Nat.le_of_ble_eq_true rfl⟩ rfl rfl ?_
  show ab_Fr MX8_init (d + 1) _ 37 [some (.ref 179), some (.ref 7)] [.ref 183, .ref 179] (4, 55) cS_233 (cE_361 sc)
  refine ab_putF (E2 := cE_362 sc) dX8_init_37 fl_X8_26 (fun C T N ty h9 => by have h8 := h9.1; cases h8; rfl) rfl rfl rfl rfl ?_
  show ab_Fr MX8_init (d + 1) _ 40 [some (.ref 179), some (.ref 7)] [] (4, 55) cS_233 (cE_362 sc)
  refine ab_aloadn dX8_init_40 rfl ?_
  refine ab_bipush (v := 9) dX8_init_41 (by decide) ?_
  refine ab_newArr (t := 1) (n := 9) (ty := .long) (E2 := cE_363 sc) (σ2 := cS_234) dX8_init_43 rfl (Or.inr (Or.inl ⟨rfl, rfl⟩)) wd_315 rfl (by decide) (by decide) (Nat.le_of_ble_eq_true rfl) ⟨Nat.le_of_ble_eq_true rfl, Nat.le_of_ble_eq_true rfl⟩ rfl rfl ?_
  show ab_Fr MX8_init (d + 1) _ 45 [some (.ref 179), some (.ref 7)] [.ref 184, .ref 179] (5, 64) cS_234 (cE_363 sc)
  refine ab_putF (E2 := cE_364 sc) dX8_init_45 fl_X8_29 (fun C T N ty h9 => by have h8 := h9.1; cases h8; rfl) rfl rfl rfl rfl ?_
  show ab_Fr MX8_init (d + 1) _ 48 [some (.ref 179), some (.ref 7)] [] (5, 64) cS_234 (cE_364 sc)
  exact ab_vret dX8_init_48 rfl ⟨Nat.le_of_ble_eq_true rfl, Nat.le_of_ble_eq_true rfl⟩ ⟨none, rfl, rfl, rfl, rfl⟩
set_option maxRecDepth 100000 in
theorem kI_54 {d : Nat} {sc : Nat × (Nat → Int32)} : ab_Call MX8_init (d + 1) [.ref 185, .ref 7] cS_235 (cE_366 sc) (fun v σ E => v = none ∧ σ = cS_241 ∧ E = cE_376 sc) := by
  refine ab_enter (n := 1) okMX8_init (fun G => Nat.le_of_ble_eq_true rfl) ?_
  show ab_Fr MX8_init (d + 1) _ 0 [some (.ref 185), some (.ref 7)] [] (0, 0) cS_235 (cE_366 sc)
  refine ab_aloadn dX8_init_0 rfl ?_
  refine ab_oinit dX8_init_1 wd_420 wd_162 wd_163 (Nat.le_of_ble_eq_true rfl) ?_
  refine ab_aloadn dX8_init_4 rfl ?_
  refine ab_aloadn dX8_init_5 rfl ?_
  refine ab_putR dX8_init_6 fl_X8_9 rfl rfl ?_
  show ab_Fr MX8_init (d + 1) _ 9 [some (.ref 185), some (.ref 7)] [] (0, 0) cS_236 (cE_366 sc)
  refine ab_aloadn dX8_init_9 rfl ?_
  refine ab_bipush (v := 7) dX8_init_10 (by decide) ?_
  refine ab_newArr (t := 0) (n := 7) (ty := .int) (E2 := cE_367 sc) (σ2 := cS_237) dX8_init_12 rfl (Or.inl ⟨rfl, rfl⟩) wd_180 rfl (by decide) (by decide) (Nat.le_of_ble_eq_true rfl) ⟨Nat.le_of_ble_eq_true rfl, Nat.le_of_ble_eq_true rfl⟩ rfl rfl ?_
  show ab_Fr MX8_init (d + 1) _ 14 [some (.ref 185), some (.ref 7)] [.ref 186, .ref 185] (1, 7) cS_237 (cE_367 sc)
  refine ab_putF (E2 := cE_368 sc) dX8_init_14 fl_X8_15 (fun C T N ty h9 => by have h8 := h9.1; cases h8; rfl) rfl rfl rfl rfl ?_
  show ab_Fr MX8_init (d + 1) _ 17 [some (.ref 185), some (.ref 7)] [] (1, 7) cS_237 (cE_368 sc)
  refine ab_aloadn dX8_init_17 rfl ?_
  refine ab_bipush (v := 21) dX8_init_18 (by decide) ?_
  refine ab_newArr (t := 0) (n := 21) (ty := .int) (E2 := cE_369 sc) (σ2 := cS_238) dX8_init_20 rfl (Or.inl ⟨rfl, rfl⟩) wd_180 rfl (by decide) (by decide) (Nat.le_of_ble_eq_true rfl) ⟨Nat.le_of_ble_eq_true rfl, Nat.le_of_ble_eq_true rfl⟩ rfl rfl ?_
  show ab_Fr MX8_init (d + 1) _ 22 [some (.ref 185), some (.ref 7)] [.ref 187, .ref 185] (2, 28) cS_238 (cE_369 sc)
  refine ab_putF (E2 := cE_370 sc) dX8_init_22 fl_X8_19 (fun C T N ty h9 => by have h8 := h9.1; cases h8; rfl) rfl rfl rfl rfl ?_
  show ab_Fr MX8_init (d + 1) _ 25 [some (.ref 185), some (.ref 7)] [] (2, 28) cS_238 (cE_370 sc)
  refine ab_aloadn dX8_init_25 rfl ?_
  refine ab_bipush (v := 24) dX8_init_26 (by decide) ?_
  refine ab_newArr (t := 1) (n := 24) (ty := .long) (E2 := cE_371 sc) (σ2 := cS_239) dX8_init_28 rfl (Or.inr (Or.inl ⟨rfl, rfl⟩)) wd_315 rfl (by decide) (by decide) (Nat.le_of_ble_eq_true rfl) ⟨Nat.le_of_ble_eq_true rfl, Nat.le_of_ble_eq_true rfl⟩ rfl rfl ?_
  show ab_Fr MX8_init (d + 1) _ 30 [some (.ref 185), some (.ref 7)] [.ref 188, .ref 185] (3, 52) cS_239 (cE_371 sc)
  refine ab_putF (E2 := cE_372 sc) dX8_init_30 fl_X8_22 (fun C T N ty h9 => by have h8 := h9.1; cases h8; rfl) rfl rfl rfl rfl ?_
  show ab_Fr MX8_init (d + 1) _ 33 [some (.ref 185), some (.ref 7)] [] (3, 52) cS_239 (cE_372 sc)
  refine ab_aloadn dX8_init_33 rfl ?_
  refine ab_iconst (v := 3) dX8_init_34 (by decide) ?_
  refine ab_newArr (t := 1) (n := 3) (ty := .long) (E2 := cE_373 sc) (σ2 := cS_240) dX8_init_35 rfl (Or.inr (Or.inl ⟨rfl, rfl⟩)) wd_315 rfl (by decide) (by decide) (Nat.le_of_ble_eq_true rfl) ⟨Nat.le_of_ble_eq_true rfl, Nat.le_of_ble_eq_true rfl⟩ rfl rfl ?_
  show ab_Fr MX8_init (d + 1) _ 37 [some (.ref 185), some (.ref 7)] [.ref 189, .ref 185] (4, 55) cS_240 (cE_373 sc)
  refine ab_putF (E2 := cE_374 sc) dX8_init_37 fl_X8_26 (fun C T N ty h9 => by have h8 := h9.1; cases h8; rfl) rfl rfl rfl rfl ?_
  show ab_Fr MX8_init (d + 1) _ 40 [some (.ref 185), some (.ref 7)] [] (4, 55) cS_240 (cE_374 sc)
  refine ab_aloadn dX8_init_40 rfl ?_
  refine ab_bipush (v := 9) dX8_init_41 (by decide) ?_
  refine ab_newArr (t := 1) (n := 9) (ty := .long) (E2 := cE_375 sc) (σ2 := cS_241) dX8_init_43 rfl (Or.inr (Or.inl ⟨rfl, rfl⟩)) wd_315 rfl (by decide) (by decide) (Nat.le_of_ble_eq_true rfl) ⟨Nat.le_of_ble_eq_true rfl, Nat.le_of_ble_eq_true rfl⟩ rfl rfl ?_
  show ab_Fr MX8_init (d + 1) _ 45 [some (.ref 185), some (.ref 7)] [.ref 190, .ref 185] (5, 64) cS_241 (cE_375 sc)
  refine ab_putF (E2 := cE_376 sc) dX8_init_45 fl_X8_29 (fun C T N ty h9 => by have h8 := h9.1; cases h8; rfl) rfl rfl rfl rfl ?_
  show ab_Fr MX8_init (d + 1) _ 48 [some (.ref 185), some (.ref 7)] [] (5, 64) cS_241 (cE_376 sc)
  exact ab_vret dX8_init_48 rfl ⟨Nat.le_of_ble_eq_true rfl, Nat.le_of_ble_eq_true rfl⟩ ⟨none, rfl, rfl, rfl, rfl⟩
set_option maxRecDepth 100000 in
theorem kI_55 {d : Nat} {sc : Nat × (Nat → Int32)} : ab_Call MX5_init (d + 1) [.ref 191, .ref 160] cS_242 (cE_378 sc) (fun v σ E => v = none ∧ σ = cS_258 ∧ E = cE_393 sc) := by
  refine ab_enter (n := 1) okMX5_init (fun G => Nat.le_of_ble_eq_true rfl) ?_
  show ab_Fr MX5_init (d + 1) _ 0 [some (.ref 191), some (.ref 160), none] [] (0, 0) cS_242 (cE_378 sc)
  refine ab_aloadn dX5_init_0 rfl ?_
  refine ab_oinit dX5_init_1 wd_446 wd_162 wd_163 (Nat.le_of_ble_eq_true rfl) ?_
  refine ab_aloadn dX5_init_4 rfl ?_
  refine ab_aloadn dX5_init_5 rfl ?_
  refine ab_putF (E2 := cE_379 sc) dX5_init_6 fl_X5_9 (fun C T N ty h9 => by have h8 := h9.1; cases h8; rfl) rfl rfl rfl rfl ?_
  show ab_Fr MX5_init (d + 1) _ 9 [some (.ref 191), some (.ref 160), none] [] (0, 0) cS_242 (cE_379 sc)
  refine ab_aloadn dX5_init_9 rfl ?_
  refine ab_bipush (v := 64) dX5_init_10 (by decide) ?_
  refine ab_newArr (t := 1) (n := 64) (ty := .long) (E2 := cE_380 sc) (σ2 := cS_243) dX5_init_12 rfl (Or.inr (Or.inl ⟨rfl, rfl⟩)) wd_315 rfl (by decide) (by decide) (Nat.le_of_ble_eq_true rfl) ⟨Nat.le_of_ble_eq_true rfl, Nat.le_of_ble_eq_true rfl⟩ rfl rfl ?_
  show ab_Fr MX5_init (d + 1) _ 14 [some (.ref 191), some (.ref 160), none] [.ref 192, .ref 191] (1, 64) cS_243 (cE_380 sc)
  refine ab_putF (E2 := cE_381 sc) dX5_init_14 fl_X5_15 (fun C T N ty h9 => by have h8 := h9.1; cases h8; rfl) rfl rfl rfl rfl ?_
  show ab_Fr MX5_init (d + 1) _ 17 [some (.ref 191), some (.ref 160), none] [] (1, 64) cS_243 (cE_381 sc)
  refine ab_aloadn dX5_init_17 rfl ?_
  refine ab_bipush (v := 64) dX5_init_18 (by decide) ?_
  refine ab_newArr (t := 1) (n := 64) (ty := .long) (E2 := cE_382 sc) (σ2 := cS_244) dX5_init_20 rfl (Or.inr (Or.inl ⟨rfl, rfl⟩)) wd_315 rfl (by decide) (by decide) (Nat.le_of_ble_eq_true rfl) ⟨Nat.le_of_ble_eq_true rfl, Nat.le_of_ble_eq_true rfl⟩ rfl rfl ?_
  show ab_Fr MX5_init (d + 1) _ 22 [some (.ref 191), some (.ref 160), none] [.ref 193, .ref 191] (2, 128) cS_244 (cE_382 sc)
  refine ab_putF (E2 := cE_383 sc) dX5_init_22 fl_X5_19 (fun C T N ty h9 => by have h8 := h9.1; cases h8; rfl) rfl rfl rfl rfl ?_
  show ab_Fr MX5_init (d + 1) _ 25 [some (.ref 191), some (.ref 160), none] [] (2, 128) cS_244 (cE_383 sc)
  refine ab_aloadn dX5_init_25 rfl ?_
  refine ab_ldc2 dX5_init_26 wd_447 ?_
  refine ab_putL dX5_init_29 fl_X5_24 rfl rfl ?_
  show ab_Fr MX5_init (d + 1) _ 32 [some (.ref 191), some (.ref 160), none] [] (2, 128) cS_245 (cE_383 sc)
  refine ab_aloadn dX5_init_32 rfl ?_
  refine ab_sipush (v := 288) dX5_init_33 (by decide) ?_
  refine ab_newArr (t := 1) (n := 288) (ty := .long) (E2 := cE_384 sc) (σ2 := cS_246) dX5_init_36 rfl (Or.inr (Or.inl ⟨rfl, rfl⟩)) wd_315 rfl (by decide) (by decide) (Nat.le_of_ble_eq_true rfl) ⟨Nat.le_of_ble_eq_true rfl, Nat.le_of_ble_eq_true rfl⟩ rfl rfl ?_
  show ab_Fr MX5_init (d + 1) _ 38 [some (.ref 191), some (.ref 160), none] [.ref 194, .ref 191] (3, 416) cS_246 (cE_384 sc)
  refine ab_putF (E2 := cE_385 sc) dX5_init_38 fl_X5_28 (fun C T N ty h9 => by have h8 := h9.1; cases h8; rfl) rfl rfl rfl rfl ?_
  show ab_Fr MX5_init (d + 1) _ 41 [some (.ref 191), some (.ref 160), none] [] (3, 416) cS_246 (cE_385 sc)
  refine ab_aloadn dX5_init_41 rfl ?_
  refine ab_bipush (v := 32) dX5_init_42 (by decide) ?_
  refine ab_newArr (t := 0) (n := 32) (ty := .int) (E2 := cE_386 sc) (σ2 := cS_247) dX5_init_44 rfl (Or.inl ⟨rfl, rfl⟩) wd_180 rfl (by decide) (by decide) (Nat.le_of_ble_eq_true rfl) ⟨Nat.le_of_ble_eq_true rfl, Nat.le_of_ble_eq_true rfl⟩ rfl rfl ?_
  show ab_Fr MX5_init (d + 1) _ 46 [some (.ref 191), some (.ref 160), none] [.ref 195, .ref 191] (4, 448) cS_247 (cE_386 sc)
  refine ab_putF (E2 := cE_387 sc) dX5_init_46 fl_X5_31 (fun C T N ty h9 => by have h8 := h9.1; cases h8; rfl) rfl rfl rfl rfl ?_
  show ab_Fr MX5_init (d + 1) _ 49 [some (.ref 191), some (.ref 160), none] [] (4, 448) cS_247 (cE_387 sc)
  refine ab_aloadn dX5_init_49 rfl ?_
  refine ab_sipush (v := 144) dX5_init_50 (by decide) ?_
  refine ab_newArr (t := 1) (n := 144) (ty := .long) (E2 := cE_388 sc) (σ2 := cS_248) dX5_init_53 rfl (Or.inr (Or.inl ⟨rfl, rfl⟩)) wd_315 rfl (by decide) (by decide) (Nat.le_of_ble_eq_true rfl) ⟨Nat.le_of_ble_eq_true rfl, Nat.le_of_ble_eq_true rfl⟩ rfl rfl ?_
  show ab_Fr MX5_init (d + 1) _ 55 [some (.ref 191), some (.ref 160), none] [.ref 196, .ref 191] (5, 592) cS_248 (cE_388 sc)
  refine ab_putF (E2 := cE_389 sc) dX5_init_55 fl_X5_35 (fun C T N ty h9 => by have h8 := h9.1; cases h8; rfl) rfl rfl rfl rfl ?_
  show ab_Fr MX5_init (d + 1) _ 58 [some (.ref 191), some (.ref 160), none] [] (5, 592) cS_248 (cE_389 sc)
  refine ab_aloadn dX5_init_58 rfl ?_
  refine ab_iconst (v := 5) dX5_init_59 (by decide) ?_
  refine ab_newArr (t := 0) (n := 5) (ty := .int) (E2 := cE_390 sc) (σ2 := cS_249) dX5_init_60 rfl (Or.inl ⟨rfl, rfl⟩) wd_180 rfl (by decide) (by decide) (Nat.le_of_ble_eq_true rfl) ⟨Nat.le_of_ble_eq_true rfl, Nat.le_of_ble_eq_true rfl⟩ rfl rfl ?_
  show ab_Fr MX5_init (d + 1) _ 62 [some (.ref 191), some (.ref 160), none] [.ref 197, .ref 191] (6, 597) cS_249 (cE_390 sc)
  refine ab_putF (E2 := cE_391 sc) dX5_init_62 fl_X5_38 (fun C T N ty h9 => by have h8 := h9.1; cases h8; rfl) rfl rfl rfl rfl ?_
  show ab_Fr MX5_init (d + 1) _ 65 [some (.ref 191), some (.ref 160), none] [] (6, 597) cS_249 (cE_391 sc)
  refine ab_aloadn dX5_init_65 rfl ?_
  refine ab_bipush (v := 8) dX5_init_66 (by decide) ?_
  refine ab_newArr (t := 0) (n := 8) (ty := .int) (E2 := cE_392 sc) (σ2 := cS_250) dX5_init_68 rfl (Or.inl ⟨rfl, rfl⟩) wd_180 rfl (by decide) (by decide) (Nat.le_of_ble_eq_true rfl) ⟨Nat.le_of_ble_eq_true rfl, Nat.le_of_ble_eq_true rfl⟩ rfl rfl ?_
  show ab_Fr MX5_init (d + 1) _ 70 [some (.ref 191), some (.ref 160), none] [.ref 198, .ref 191] (7, 605) cS_250 (cE_392 sc)
  refine ab_putF (E2 := cE_393 sc) dX5_init_70 fl_X5_41 (fun C T N ty h9 => by have h8 := h9.1; cases h8; rfl) rfl rfl rfl rfl ?_
  show ab_Fr MX5_init (d + 1) _ 73 [some (.ref 191), some (.ref 160), none] [] (7, 605) cS_250 (cE_393 sc)
  refine ab_iconst (v := 0) dX5_init_73 (by decide) ?_
  refine ab_istoren dX5_init_74 (Nat.le_of_ble_eq_true rfl) (L2 := [some (.ref 191), some (.ref 160), some (.int 0)]) rfl ?_
  refine ab_iloadn dX5_init_75 rfl ?_
  refine ab_bipush (v := 8) dX5_init_76 (by decide) ?_
  refine ab_icmp_ge (tgt := 94) dX5_init_78 (by decide) (fun q => absurd q (by decide)) (fun _ => ?_)
  refine ab_aloadn dX5_init_81 rfl ?_
  refine ab_getf (v := .ref 198) dX5_init_82 fl_X5_41 rfl rfl ?_
  refine ab_iloadn dX5_init_85 rfl ?_
  refine ab_iconst (v := (-1)) dX5_init_86 (by decide) ?_
  refine ab_iastore dX5_init_87 rfl (ab_vp (by decide)) ?_
  show ab_Fr MX5_init (d + 1) _ 88 [some (.ref 191), some (.ref 160), some (.int 0)] [] (7, 605) cS_251 (cE_393 sc)
  refine ab_iinc (v := 1) dX5_init_88 rfl (by decide) (Nat.le_of_ble_eq_true rfl) (L2 := [some (.ref 191), some (.ref 160), some (.int 1)]) rfl ?_
  refine ab_goto (tgt := 75) dX5_init_91 (by decide) ?_
  refine ab_iloadn dX5_init_75 rfl ?_
  refine ab_bipush (v := 8) dX5_init_76 (by decide) ?_
  refine ab_icmp_ge (tgt := 94) dX5_init_78 (by decide) (fun q => absurd q (by decide)) (fun _ => ?_)
  refine ab_aloadn dX5_init_81 rfl ?_
  refine ab_getf (v := .ref 198) dX5_init_82 fl_X5_41 rfl rfl ?_
  refine ab_iloadn dX5_init_85 rfl ?_
  refine ab_iconst (v := (-1)) dX5_init_86 (by decide) ?_
  refine ab_iastore dX5_init_87 rfl (ab_vp (by decide)) ?_
  show ab_Fr MX5_init (d + 1) _ 88 [some (.ref 191), some (.ref 160), some (.int 1)] [] (7, 605) cS_252 (cE_393 sc)
  refine ab_iinc (v := 2) dX5_init_88 rfl (by decide) (Nat.le_of_ble_eq_true rfl) (L2 := [some (.ref 191), some (.ref 160), some (.int 2)]) rfl ?_
  refine ab_goto (tgt := 75) dX5_init_91 (by decide) ?_
  refine ab_iloadn dX5_init_75 rfl ?_
  refine ab_bipush (v := 8) dX5_init_76 (by decide) ?_
  refine ab_icmp_ge (tgt := 94) dX5_init_78 (by decide) (fun q => absurd q (by decide)) (fun _ => ?_)
  refine ab_aloadn dX5_init_81 rfl ?_
  refine ab_getf (v := .ref 198) dX5_init_82 fl_X5_41 rfl rfl ?_
  refine ab_iloadn dX5_init_85 rfl ?_
  refine ab_iconst (v := (-1)) dX5_init_86 (by decide) ?_
  refine ab_iastore dX5_init_87 rfl (ab_vp (by decide)) ?_
  show ab_Fr MX5_init (d + 1) _ 88 [some (.ref 191), some (.ref 160), some (.int 2)] [] (7, 605) cS_253 (cE_393 sc)
  refine ab_iinc (v := 3) dX5_init_88 rfl (by decide) (Nat.le_of_ble_eq_true rfl) (L2 := [some (.ref 191), some (.ref 160), some (.int 3)]) rfl ?_
  refine ab_goto (tgt := 75) dX5_init_91 (by decide) ?_
  refine ab_iloadn dX5_init_75 rfl ?_
  refine ab_bipush (v := 8) dX5_init_76 (by decide) ?_
  refine ab_icmp_ge (tgt := 94) dX5_init_78 (by decide) (fun q => absurd q (by decide)) (fun _ => ?_)
  refine ab_aloadn dX5_init_81 rfl ?_
  refine ab_getf (v := .ref 198) dX5_init_82 fl_X5_41 rfl rfl ?_
  refine ab_iloadn dX5_init_85 rfl ?_
  refine ab_iconst (v := (-1)) dX5_init_86 (by decide) ?_
  refine ab_iastore dX5_init_87 rfl (ab_vp (by decide)) ?_
  show ab_Fr MX5_init (d + 1) _ 88 [some (.ref 191), some (.ref 160), some (.int 3)] [] (7, 605) cS_254 (cE_393 sc)
  refine ab_iinc (v := 4) dX5_init_88 rfl (by decide) (Nat.le_of_ble_eq_true rfl) (L2 := [some (.ref 191), some (.ref 160), some (.int 4)]) rfl ?_
  refine ab_goto (tgt := 75) dX5_init_91 (by decide) ?_
  refine ab_iloadn dX5_init_75 rfl ?_
  refine ab_bipush (v := 8) dX5_init_76 (by decide) ?_
  refine ab_icmp_ge (tgt := 94) dX5_init_78 (by decide) (fun q => absurd q (by decide)) (fun _ => ?_)
  refine ab_aloadn dX5_init_81 rfl ?_
  refine ab_getf (v := .ref 198) dX5_init_82 fl_X5_41 rfl rfl ?_
  refine ab_iloadn dX5_init_85 rfl ?_
  refine ab_iconst (v := (-1)) dX5_init_86 (by decide) ?_
  refine ab_iastore dX5_init_87 rfl (ab_vp (by decide)) ?_
  show ab_Fr MX5_init (d + 1) _ 88 [some (.ref 191), some (.ref 160), some (.int 4)] [] (7, 605) cS_255 (cE_393 sc)
  refine ab_iinc (v := 5) dX5_init_88 rfl (by decide) (Nat.le_of_ble_eq_true rfl) (L2 := [some (.ref 191), some (.ref 160), some (.int 5)]) rfl ?_
  refine ab_goto (tgt := 75) dX5_init_91 (by decide) ?_
  refine ab_iloadn dX5_init_75 rfl ?_
  refine ab_bipush (v := 8) dX5_init_76 (by decide) ?_
  refine ab_icmp_ge (tgt := 94) dX5_init_78 (by decide) (fun q => absurd q (by decide)) (fun _ => ?_)
  refine ab_aloadn dX5_init_81 rfl ?_
  refine ab_getf (v := .ref 198) dX5_init_82 fl_X5_41 rfl rfl ?_
  refine ab_iloadn dX5_init_85 rfl ?_
  refine ab_iconst (v := (-1)) dX5_init_86 (by decide) ?_
  refine ab_iastore dX5_init_87 rfl (ab_vp (by decide)) ?_
  show ab_Fr MX5_init (d + 1) _ 88 [some (.ref 191), some (.ref 160), some (.int 5)] [] (7, 605) cS_256 (cE_393 sc)
  refine ab_iinc (v := 6) dX5_init_88 rfl (by decide) (Nat.le_of_ble_eq_true rfl) (L2 := [some (.ref 191), some (.ref 160), some (.int 6)]) rfl ?_
  refine ab_goto (tgt := 75) dX5_init_91 (by decide) ?_
  refine ab_iloadn dX5_init_75 rfl ?_
  refine ab_bipush (v := 8) dX5_init_76 (by decide) ?_
  refine ab_icmp_ge (tgt := 94) dX5_init_78 (by decide) (fun q => absurd q (by decide)) (fun _ => ?_)
  refine ab_aloadn dX5_init_81 rfl ?_
  refine ab_getf (v := .ref 198) dX5_init_82 fl_X5_41 rfl rfl ?_
  refine ab_iloadn dX5_init_85 rfl ?_
  refine ab_iconst (v := (-1)) dX5_init_86 (by decide) ?_
  refine ab_iastore dX5_init_87 rfl (ab_vp (by decide)) ?_
  show ab_Fr MX5_init (d + 1) _ 88 [some (.ref 191), some (.ref 160), some (.int 6)] [] (7, 605) cS_257 (cE_393 sc)
  refine ab_iinc (v := 7) dX5_init_88 rfl (by decide) (Nat.le_of_ble_eq_true rfl) (L2 := [some (.ref 191), some (.ref 160), some (.int 7)]) rfl ?_
  refine ab_goto (tgt := 75) dX5_init_91 (by decide) ?_
  refine ab_iloadn dX5_init_75 rfl ?_
  refine ab_bipush (v := 8) dX5_init_76 (by decide) ?_
  refine ab_icmp_ge (tgt := 94) dX5_init_78 (by decide) (fun q => absurd q (by decide)) (fun _ => ?_)
  refine ab_aloadn dX5_init_81 rfl ?_
  refine ab_getf (v := .ref 198) dX5_init_82 fl_X5_41 rfl rfl ?_
  refine ab_iloadn dX5_init_85 rfl ?_
  refine ab_iconst (v := (-1)) dX5_init_86 (by decide) ?_
  refine ab_iastore dX5_init_87 rfl (ab_vp (by decide)) ?_
  show ab_Fr MX5_init (d + 1) _ 88 [some (.ref 191), some (.ref 160), some (.int 7)] [] (7, 605) cS_258 (cE_393 sc)
  refine ab_iinc (v := 8) dX5_init_88 rfl (by decide) (Nat.le_of_ble_eq_true rfl) (L2 := [some (.ref 191), some (.ref 160), some (.int 8)]) rfl ?_
  refine ab_goto (tgt := 75) dX5_init_91 (by decide) ?_
  refine ab_iloadn dX5_init_75 rfl ?_
  refine ab_bipush (v := 8) dX5_init_76 (by decide) ?_
  refine ab_icmp_ge (tgt := 94) dX5_init_78 (by decide) (fun _ => ?_) (fun q => absurd (by decide) q)
  exact ab_vret dX5_init_94 rfl ⟨Nat.le_of_ble_eq_true rfl, Nat.le_of_ble_eq_true rfl⟩ ⟨none, rfl, rfl, rfl, rfl⟩
set_option maxRecDepth 100000 in
theorem kI_56 {d : Nat} {sc : Nat × (Nat → Int32)} : ab_Call MX10_init (d + 1) [.ref 199, .ref 7] cS_259 (cE_395 sc) (fun v σ E => v = none ∧ σ = cS_264 ∧ E = cE_399 sc) := by
  refine ab_enter (n := 1) okMX10_init (fun G => Nat.le_of_ble_eq_true rfl) ?_
  show ab_Fr MX10_init (d + 1) _ 0 [some (.ref 199), some (.ref 7)] [] (0, 0) cS_259 (cE_395 sc)
  refine ab_aloadn dX10_init_0 rfl ?_
  refine ab_oinit dX10_init_1 wd_475 wd_162 wd_163 (Nat.le_of_ble_eq_true rfl) ?_
  refine ab_aloadn dX10_init_4 rfl ?_
  refine ab_aloadn dX10_init_5 rfl ?_
  refine ab_putR dX10_init_6 fl_X10_9 rfl rfl ?_
  show ab_Fr MX10_init (d + 1) _ 9 [some (.ref 199), some (.ref 7)] [] (0, 0) cS_260 (cE_395 sc)
  refine ab_aloadn dX10_init_9 rfl ?_
  refine ab_aloadn dX10_init_10 rfl ?_
  refine ab_getf (v := .ref 7) dX10_init_11 fl_X10_9 rfl rfl ?_
  refine ab_getf (v := .ref 11) dX10_init_14 fl_X10_15 rfl rfl ?_
  refine ab_iconst (v := 0) dX10_init_17 (by decide) ?_
  refine ab_aaload (a := 12) dX10_init_18 (Or.inl rfl) rfl (ab_vp (by decide)) rfl ?_
  refine ab_putR dX10_init_19 fl_X10_21 rfl rfl ?_
  show ab_Fr MX10_init (d + 1) _ 22 [some (.ref 199), some (.ref 7)] [] (0, 0) cS_261 (cE_395 sc)
  refine ab_aloadn dX10_init_22 rfl ?_
  refine ab_aloadn dX10_init_23 rfl ?_
  refine ab_getf (v := .ref 7) dX10_init_24 fl_X10_9 rfl rfl ?_
  refine ab_getf (v := .ref 11) dX10_init_27 fl_X10_15 rfl rfl ?_
  refine ab_iconst (v := 1) dX10_init_30 (by decide) ?_
  refine ab_aaload (a := 18) dX10_init_31 (Or.inl rfl) rfl (ab_vp (by decide)) rfl ?_
  refine ab_putR dX10_init_32 fl_X10_25 rfl rfl ?_
  show ab_Fr MX10_init (d + 1) _ 35 [some (.ref 199), some (.ref 7)] [] (0, 0) cS_262 (cE_395 sc)
  refine ab_aloadn dX10_init_35 rfl ?_
  refine ab_iconst (v := 3) dX10_init_36 (by decide) ?_
  refine ab_newArr (t := 1) (n := 3) (ty := .long) (E2 := cE_396 sc) (σ2 := cS_263) dX10_init_37 rfl (Or.inr (Or.inl ⟨rfl, rfl⟩)) wd_315 rfl (by decide) (by decide) (Nat.le_of_ble_eq_true rfl) ⟨Nat.le_of_ble_eq_true rfl, Nat.le_of_ble_eq_true rfl⟩ rfl rfl ?_
  show ab_Fr MX10_init (d + 1) _ 39 [some (.ref 199), some (.ref 7)] [.ref 200, .ref 199] (1, 3) cS_263 (cE_396 sc)
  refine ab_putF (E2 := cE_397 sc) dX10_init_39 fl_X10_28 (fun C T N ty h9 => by have h8 := h9.1; cases h8; rfl) rfl rfl rfl rfl ?_
  show ab_Fr MX10_init (d + 1) _ 42 [some (.ref 199), some (.ref 7)] [] (1, 3) cS_263 (cE_397 sc)
  refine ab_aloadn dX10_init_42 rfl ?_
  refine ab_bipush (v := 9) dX10_init_43 (by decide) ?_
  refine ab_newArr (t := 0) (n := 9) (ty := .int) (E2 := cE_398 sc) (σ2 := cS_264) dX10_init_45 rfl (Or.inl ⟨rfl, rfl⟩) wd_180 rfl (by decide) (by decide) (Nat.le_of_ble_eq_true rfl) ⟨Nat.le_of_ble_eq_true rfl, Nat.le_of_ble_eq_true rfl⟩ rfl rfl ?_
  show ab_Fr MX10_init (d + 1) _ 47 [some (.ref 199), some (.ref 7)] [.ref 201, .ref 199] (2, 12) cS_264 (cE_398 sc)
  refine ab_putF (E2 := cE_399 sc) dX10_init_47 fl_X10_32 (fun C T N ty h9 => by have h8 := h9.1; cases h8; rfl) rfl rfl rfl rfl ?_
  show ab_Fr MX10_init (d + 1) _ 50 [some (.ref 199), some (.ref 7)] [] (2, 12) cS_264 (cE_399 sc)
  exact ab_vret dX10_init_50 rfl ⟨Nat.le_of_ble_eq_true rfl, Nat.le_of_ble_eq_true rfl⟩ ⟨none, rfl, rfl, rfl, rfl⟩
set_option maxRecDepth 100000 in
theorem kI_57 {d : Nat} {sc : Nat × (Nat → Int32)} : ab_Call MX6_init (d + 1) [.ref 202] cS_265 (cE_401 sc) (fun v σ E => v = none ∧ σ = cS_266 ∧ E = cE_403 sc) := by
  refine ab_enter (n := 0) okMX6_init (fun G => Nat.le_of_ble_eq_true rfl) ?_
  show ab_Fr MX6_init (d + 1) _ 0 [some (.ref 202)] [] (0, 0) cS_265 (cE_401 sc)
  refine ab_aloadn dX6_init_0 rfl ?_
  refine ab_oinit dX6_init_1 wd_493 wd_162 wd_163 (Nat.le_of_ble_eq_true rfl) ?_
  refine ab_aloadn dX6_init_4 rfl ?_
  refine ab_bipush (v := 7) dX6_init_5 (by decide) ?_
  refine ab_newArr (t := 0) (n := 7) (ty := .int) (E2 := cE_402 sc) (σ2 := cS_266) dX6_init_7 rfl (Or.inl ⟨rfl, rfl⟩) wd_180 rfl (by decide) (by decide) (Nat.le_of_ble_eq_true rfl) ⟨Nat.le_of_ble_eq_true rfl, Nat.le_of_ble_eq_true rfl⟩ rfl rfl ?_
  show ab_Fr MX6_init (d + 1) _ 9 [some (.ref 202)] [.ref 203, .ref 202] (1, 7) cS_266 (cE_402 sc)
  refine ab_putF (E2 := cE_403 sc) dX6_init_9 fl_X6_9 (fun C T N ty h9 => by have h8 := h9.1; cases h8; rfl) rfl rfl rfl rfl ?_
  show ab_Fr MX6_init (d + 1) _ 12 [some (.ref 202)] [] (1, 7) cS_266 (cE_403 sc)
  exact ab_vret dX6_init_12 rfl ⟨Nat.le_of_ble_eq_true rfl, Nat.le_of_ble_eq_true rfl⟩ ⟨none, rfl, rfl, rfl, rfl⟩
set_option maxRecDepth 100000 in
theorem kI_58 {d : Nat} {sc : Nat × (Nat → Int32)} : ab_Call MX11_init (d + 4) [.ref 3] cS_1 (cE_1 sc) (fun v σ E => v = none ∧ σ = cS_267 ∧ E = cE_406 sc) := by
  refine ab_enter (n := 0) okMX11_init (fun G => Nat.le_of_ble_eq_true rfl) ?_
  show ab_Fr MX11_init (d + 4) _ 0 [some (.ref 3), none] [] (0, 0) cS_1 (cE_1 sc)
  refine ab_aloadn dX11_init_0 rfl ?_
  refine ab_oinit dX11_init_1 wd_161 wd_162 wd_163 (Nat.le_of_ble_eq_true rfl) ?_
  refine ab_aloadn dX11_init_4 rfl ?_
  refine ab_new (E2 := cE_2 sc) (σ2 := cS_2) dX11_init_5 ck_7 wd_164 wd_165 wd_139 rfl ⟨Nat.le_of_ble_eq_true rfl, Nat.le_of_ble_eq_true rfl⟩ rfl rfl ?_
  show ab_Fr MX11_init (d + 4) _ 8 [some (.ref 3), none] [.ref 4, .ref 3] (1, 2) cS_2 (cE_2 sc)
  refine ab_dup dX11_init_8 rfl ?_
  refine ab_callI (vs := []) (st := [.ref 4, .ref 3]) dX11_init_9 okMX7_init rfl rfl wd_167 wd_166 rfl rfl (Nat.le_of_ble_eq_true rfl) ⟨Nat.le_of_ble_eq_true rfl, Nat.le_of_ble_eq_true rfl⟩ (kI_1 (d := d + 2)) ?_
  rintro v9 σ9 E9 - ⟨rfl, rfl, rfl⟩
  show ab_Fr MX11_init (d + 4) _ 12 [some (.ref 3), none] [.ref 4, .ref 3] (2, 742) cS_3 (cE_4 sc)
  refine ab_putF (E2 := cE_5 sc) dX11_init_12 fl_X11_10 (fun C T N ty h9 => by have h8 := h9.1; cases h8; rfl) rfl rfl rfl rfl ?_
  show ab_Fr MX11_init (d + 4) _ 15 [some (.ref 3), none] [] (2, 742) cS_3 (cE_5 sc)
  refine ab_aloadn dX11_init_15 rfl ?_
  refine ab_iconst (v := 3) dX11_init_16 (by decide) ?_
  refine ab_newRef (t := 4) (n := 3) (D := RX1) (E2 := cE_6 sc) (σ2 := cS_4) dX11_init_17 (Or.inr ⟨rfl, rfl⟩) wd_181 rfl (by decide) (by decide) (Nat.le_of_ble_eq_true rfl) ⟨Nat.le_of_ble_eq_true rfl, Nat.le_of_ble_eq_true rfl⟩ rfl rfl ?_
  show ab_Fr MX11_init (d + 4) _ 20 [some (.ref 3), none] [.ref 6, .ref 3] (3, 745) cS_4 (cE_6 sc)
  refine ab_putF (E2 := cE_7 sc) dX11_init_20 fl_X11_18 (fun C T N ty h9 => by have h8 := h9.1; cases h8; rfl) rfl rfl rfl rfl ?_
  show ab_Fr MX11_init (d + 4) _ 23 [some (.ref 3), none] [] (3, 745) cS_4 (cE_7 sc)
  refine ab_iconst (v := 0) dX11_init_23 (by decide) ?_
  refine ab_istoren dX11_init_24 (Nat.le_of_ble_eq_true rfl) (L2 := [some (.ref 3), some (.int 0)]) rfl ?_
  refine ab_iloadn dX11_init_25 rfl ?_
  refine ab_iconst (v := 3) dX11_init_26 (by decide) ?_
  refine ab_icmp_ge (tgt := 49) dX11_init_27 (by decide) (fun q => absurd q (by decide)) (fun _ => ?_)
  refine ab_aloadn dX11_init_30 rfl ?_
  refine ab_getf (v := .ref 6) dX11_init_31 fl_X11_18 rfl rfl ?_
  refine ab_iloadn dX11_init_34 rfl ?_
  refine ab_new (E2 := cE_8 sc) (σ2 := cS_5) dX11_init_35 ck_1 wd_181 wd_182 wd_140 rfl ⟨Nat.le_of_ble_eq_true rfl, Nat.le_of_ble_eq_true rfl⟩ rfl rfl ?_
  show ab_Fr MX11_init (d + 4) _ 38 [some (.ref 3), some (.int 0)] [.ref 7, .int 0, .ref 6] (4, 757) cS_5 (cE_8 sc)
  refine ab_dup dX11_init_38 rfl ?_
  refine ab_callI (vs := []) (st := [.ref 7, .int 0, .ref 6]) dX11_init_39 okMX1_init rfl rfl wd_184 wd_183 rfl rfl (Nat.le_of_ble_eq_true rfl) ⟨Nat.le_of_ble_eq_true rfl, Nat.le_of_ble_eq_true rfl⟩ (kI_17 (d := d + 0)) ?_
  rintro v9 σ9 E9 - ⟨rfl, rfl, rfl⟩
  show ab_Fr MX11_init (d + 4) _ 42 [some (.ref 3), some (.int 0)] [.ref 7, .int 0, .ref 6] (53, 1077) cS_55 (cE_106 sc)
  refine ab_aastore (E2 := cE_107 sc) dX11_init_42 (Or.inr ⟨rfl, rfl⟩) rfl rfl (ab_vp (by decide)) rfl ?_
  show ab_Fr MX11_init (d + 4) _ 43 [some (.ref 3), some (.int 0)] [] (53, 1077) cS_55 (cE_107 sc)
  refine ab_iinc (v := 1) dX11_init_43 rfl (by decide) (Nat.le_of_ble_eq_true rfl) (L2 := [some (.ref 3), some (.int 1)]) rfl ?_
  refine ab_goto (tgt := 25) dX11_init_46 (by decide) ?_
  refine ab_iloadn dX11_init_25 rfl ?_
  refine ab_iconst (v := 3) dX11_init_26 (by decide) ?_
  refine ab_icmp_ge (tgt := 49) dX11_init_27 (by decide) (fun q => absurd q (by decide)) (fun _ => ?_)
  refine ab_aloadn dX11_init_30 rfl ?_
  refine ab_getf (v := .ref 6) dX11_init_31 fl_X11_18 rfl rfl ?_
  refine ab_iloadn dX11_init_34 rfl ?_
  refine ab_new (E2 := cE_108 sc) (σ2 := cS_56) dX11_init_35 ck_1 wd_181 wd_182 wd_140 rfl ⟨Nat.le_of_ble_eq_true rfl, Nat.le_of_ble_eq_true rfl⟩ rfl rfl ?_
  show ab_Fr MX11_init (d + 4) _ 38 [some (.ref 3), some (.int 1)] [.ref 57, .int 1, .ref 6] (54, 1089) cS_56 (cE_108 sc)
  refine ab_dup dX11_init_38 rfl ?_
  refine ab_callI (vs := []) (st := [.ref 57, .int 1, .ref 6]) dX11_init_39 okMX1_init rfl rfl wd_184 wd_183 rfl rfl (Nat.le_of_ble_eq_true rfl) ⟨Nat.le_of_ble_eq_true rfl, Nat.le_of_ble_eq_true rfl⟩ (kI_33 (d := d + 0)) ?_
  rintro v9 σ9 E9 - ⟨rfl, rfl, rfl⟩
  show ab_Fr MX11_init (d + 4) _ 42 [some (.ref 3), some (.int 1)] [.ref 57, .int 1, .ref 6] (103, 1409) cS_106 (cE_206 sc)
  refine ab_aastore (E2 := cE_207 sc) dX11_init_42 (Or.inr ⟨rfl, rfl⟩) rfl rfl (ab_vp (by decide)) rfl ?_
  show ab_Fr MX11_init (d + 4) _ 43 [some (.ref 3), some (.int 1)] [] (103, 1409) cS_106 (cE_207 sc)
  refine ab_iinc (v := 2) dX11_init_43 rfl (by decide) (Nat.le_of_ble_eq_true rfl) (L2 := [some (.ref 3), some (.int 2)]) rfl ?_
  refine ab_goto (tgt := 25) dX11_init_46 (by decide) ?_
  refine ab_iloadn dX11_init_25 rfl ?_
  refine ab_iconst (v := 3) dX11_init_26 (by decide) ?_
  refine ab_icmp_ge (tgt := 49) dX11_init_27 (by decide) (fun q => absurd q (by decide)) (fun _ => ?_)
  refine ab_aloadn dX11_init_30 rfl ?_
  refine ab_getf (v := .ref 6) dX11_init_31 fl_X11_18 rfl rfl ?_
  refine ab_iloadn dX11_init_34 rfl ?_
  refine ab_new (E2 := cE_208 sc) (σ2 := cS_107) dX11_init_35 ck_1 wd_181 wd_182 wd_140 rfl ⟨Nat.le_of_ble_eq_true rfl, Nat.le_of_ble_eq_true rfl⟩ rfl rfl ?_
  show ab_Fr MX11_init (d + 4) _ 38 [some (.ref 3), some (.int 2)] [.ref 107, .int 2, .ref 6] (104, 1421) cS_107 (cE_208 sc)
  refine ab_dup dX11_init_38 rfl ?_
  refine ab_callI (vs := []) (st := [.ref 107, .int 2, .ref 6]) dX11_init_39 okMX1_init rfl rfl wd_184 wd_183 rfl rfl (Nat.le_of_ble_eq_true rfl) ⟨Nat.le_of_ble_eq_true rfl, Nat.le_of_ble_eq_true rfl⟩ (kI_49 (d := d + 0)) ?_
  rintro v9 σ9 E9 - ⟨rfl, rfl, rfl⟩
  show ab_Fr MX11_init (d + 4) _ 42 [some (.ref 3), some (.int 2)] [.ref 107, .int 2, .ref 6] (153, 1741) cS_157 (cE_306 sc)
  refine ab_aastore (E2 := cE_307 sc) dX11_init_42 (Or.inr ⟨rfl, rfl⟩) rfl rfl (ab_vp (by decide)) rfl ?_
  show ab_Fr MX11_init (d + 4) _ 43 [some (.ref 3), some (.int 2)] [] (153, 1741) cS_157 (cE_307 sc)
  refine ab_iinc (v := 3) dX11_init_43 rfl (by decide) (Nat.le_of_ble_eq_true rfl) (L2 := [some (.ref 3), some (.int 3)]) rfl ?_
  refine ab_goto (tgt := 25) dX11_init_46 (by decide) ?_
  refine ab_iloadn dX11_init_25 rfl ?_
  refine ab_iconst (v := 3) dX11_init_26 (by decide) ?_
  refine ab_icmp_ge (tgt := 49) dX11_init_27 (by decide) (fun _ => ?_) (fun q => absurd (by decide) q)
  refine ab_aloadn dX11_init_49 rfl ?_
  refine ab_aloadn dX11_init_50 rfl ?_
  refine ab_getf (v := .ref 6) dX11_init_51 fl_X11_18 rfl rfl ?_
  refine ab_iconst (v := 0) dX11_init_54 (by decide) ?_
  refine ab_aaload (a := 7) dX11_init_55 (Or.inr rfl) rfl (ab_vp (by decide)) rfl ?_
  refine ab_putR dX11_init_56 fl_X11_23 rfl rfl ?_
  show ab_Fr MX11_init (d + 4) _ 59 [some (.ref 3), some (.int 3)] [] (153, 1741) cS_158 (cE_307 sc)
  refine ab_aloadn dX11_init_59 rfl ?_
  refine ab_new (E2 := cE_308 sc) (σ2 := cS_159) dX11_init_60 ck_2 wd_316 wd_317 wd_143 rfl ⟨Nat.le_of_ble_eq_true rfl, Nat.le_of_ble_eq_true rfl⟩ rfl rfl ?_
  show ab_Fr MX11_init (d + 4) _ 63 [some (.ref 3), some (.int 3)] [.ref 157, .ref 3] (154, 1755) cS_159 (cE_308 sc)
  refine ab_dup dX11_init_63 rfl ?_
  refine ab_aloadn dX11_init_64 rfl ?_
  refine ab_getf (v := .ref 4) dX11_init_65 fl_X11_10 rfl rfl ?_
  refine ab_aloadn dX11_init_68 rfl ?_
  refine ab_getf (v := .ref 7) dX11_init_69 fl_X11_23 rfl rfl ?_
  refine ab_callI (vs := [.ref 4, .ref 7]) (st := [.ref 157, .ref 3]) dX11_init_72 okMX2_init rfl rfl wd_319 wd_318 rfl rfl (Nat.le_of_ble_eq_true rfl) ⟨Nat.le_of_ble_eq_true rfl, Nat.le_of_ble_eq_true rfl⟩ (kI_50 (d := d + 2)) ?_
  rintro v9 σ9 E9 - ⟨rfl, rfl, rfl⟩
  show ab_Fr MX11_init (d + 4) _ 75 [some (.ref 3), some (.int 3)] [.ref 157, .ref 3] (156, 1765) cS_162 (cE_313 sc)
  refine ab_putF (E2 := cE_314 sc) dX11_init_75 fl_X11_32 (fun C T N ty h9 => by have h8 := h9.1; cases h8; rfl) rfl rfl rfl rfl ?_
  show ab_Fr MX11_init (d + 4) _ 78 [some (.ref 3), some (.int 3)] [] (156, 1765) cS_162 (cE_314 sc)
  refine ab_aloadn dX11_init_78 rfl ?_
  refine ab_new (E2 := cE_315 sc) (σ2 := cS_163) dX11_init_79 ck_4 wd_351 wd_352 wd_144 rfl ⟨Nat.le_of_ble_eq_true rfl, Nat.le_of_ble_eq_true rfl⟩ rfl rfl ?_
  show ab_Fr MX11_init (d + 4) _ 82 [some (.ref 3), some (.int 3)] [.ref 160, .ref 3] (157, 1774) cS_163 (cE_315 sc)
  refine ab_dup dX11_init_82 rfl ?_
  refine ab_aloadn dX11_init_83 rfl ?_
  refine ab_getf (v := .ref 7) dX11_init_84 fl_X11_23 rfl rfl ?_
  refine ab_callI (vs := [.ref 7]) (st := [.ref 160, .ref 3]) dX11_init_87 okMX4_init rfl rfl wd_354 wd_353 rfl rfl (Nat.le_of_ble_eq_true rfl) ⟨Nat.le_of_ble_eq_true rfl, Nat.le_of_ble_eq_true rfl⟩ (kI_51 (d := d + 2)) ?_
  rintro v9 σ9 E9 - ⟨rfl, rfl, rfl⟩
  show ab_Fr MX11_init (d + 4) _ 90 [some (.ref 3), some (.int 3)] [.ref 160, .ref 3] (165, 1930) cS_172 (cE_331 sc)
  refine ab_putF (E2 := cE_332 sc) dX11_init_90 fl_X11_41 (fun C T N ty h9 => by have h8 := h9.1; cases h8; rfl) rfl rfl rfl rfl ?_
  show ab_Fr MX11_init (d + 4) _ 93 [some (.ref 3), some (.int 3)] [] (165, 1930) cS_172 (cE_332 sc)
  refine ab_aloadn dX11_init_93 rfl ?_
  refine ab_new (E2 := cE_333 sc) (σ2 := cS_173) dX11_init_94 ck_3 wd_375 wd_376 wd_145 rfl ⟨Nat.le_of_ble_eq_true rfl, Nat.le_of_ble_eq_true rfl⟩ rfl rfl ?_
  show ab_Fr MX11_init (d + 4) _ 97 [some (.ref 3), some (.int 3)] [.ref 169, .ref 3] (166, 1944) cS_173 (cE_333 sc)
  refine ab_dup dX11_init_97 rfl ?_
  refine ab_aloadn dX11_init_98 rfl ?_
  refine ab_getf (v := .ref 160) dX11_init_99 fl_X11_41 rfl rfl ?_
  refine ab_aloadn dX11_init_102 rfl ?_
  refine ab_getf (v := .ref 7) dX11_init_103 fl_X11_23 rfl rfl ?_
  refine ab_callI (vs := [.ref 160, .ref 7]) (st := [.ref 169, .ref 3]) dX11_init_106 okMX3_init rfl rfl wd_378 wd_377 rfl rfl (Nat.le_of_ble_eq_true rfl) ⟨Nat.le_of_ble_eq_true rfl, Nat.le_of_ble_eq_true rfl⟩ (kI_52 (d := d + 2)) ?_
  rintro v9 σ9 E9 - ⟨rfl, rfl, rfl⟩
  show ab_Fr MX11_init (d + 4) _ 109 [some (.ref 3), some (.int 3)] [.ref 169, .ref 3] (175, 2046) cS_227 (cE_352 sc)
  refine ab_putF (E2 := cE_353 sc) dX11_init_109 fl_X11_50 (fun C T N ty h9 => by have h8 := h9.1; cases h8; rfl) rfl rfl rfl rfl ?_
  show ab_Fr MX11_init (d + 4) _ 112 [some (.ref 3), some (.int 3)] [] (175, 2046) cS_227 (cE_353 sc)
  refine ab_aloadn dX11_init_112 rfl ?_
  refine ab_new (E2 := cE_354 sc) (σ2 := cS_228) dX11_init_113 ck_8 wd_415 wd_416 wd_146 rfl ⟨Nat.le_of_ble_eq_true rfl, Nat.le_of_ble_eq_true rfl⟩ rfl rfl ?_
  show ab_Fr MX11_init (d + 4) _ 116 [some (.ref 3), some (.int 3)] [.ref 179, .ref 3] (176, 2054) cS_228 (cE_354 sc)
  refine ab_dup dX11_init_116 rfl ?_
  refine ab_aloadn dX11_init_117 rfl ?_
  refine ab_getf (v := .ref 7) dX11_init_118 fl_X11_23 rfl rfl ?_
  refine ab_callI (vs := [.ref 7]) (st := [.ref 179, .ref 3]) dX11_init_121 okMX8_init rfl rfl wd_418 wd_417 rfl rfl (Nat.le_of_ble_eq_true rfl) ⟨Nat.le_of_ble_eq_true rfl, Nat.le_of_ble_eq_true rfl⟩ (kI_53 (d := d + 2)) ?_
  rintro v9 σ9 E9 - ⟨rfl, rfl, rfl⟩
  show ab_Fr MX11_init (d + 4) _ 124 [some (.ref 3), some (.int 3)] [.ref 179, .ref 3] (181, 2118) cS_234 (cE_364 sc)
  refine ab_putF (E2 := cE_365 sc) dX11_init_124 fl_X11_57 (fun C T N ty h9 => by have h8 := h9.1; cases h8; rfl) rfl rfl rfl rfl ?_
  show ab_Fr MX11_init (d + 4) _ 127 [some (.ref 3), some (.int 3)] [] (181, 2118) cS_234 (cE_365 sc)
  refine ab_aloadn dX11_init_127 rfl ?_
  refine ab_new (E2 := cE_366 sc) (σ2 := cS_235) dX11_init_128 ck_8 wd_415 wd_416 wd_146 rfl ⟨Nat.le_of_ble_eq_true rfl, Nat.le_of_ble_eq_true rfl⟩ rfl rfl ?_
  show ab_Fr MX11_init (d + 4) _ 131 [some (.ref 3), some (.int 3)] [.ref 185, .ref 3] (182, 2126) cS_235 (cE_366 sc)
  refine ab_dup dX11_init_131 rfl ?_
  refine ab_aloadn dX11_init_132 rfl ?_
  refine ab_getf (v := .ref 7) dX11_init_133 fl_X11_23 rfl rfl ?_
  refine ab_callI (vs := [.ref 7]) (st := [.ref 185, .ref 3]) dX11_init_136 okMX8_init rfl rfl wd_418 wd_417 rfl rfl (Nat.le_of_ble_eq_true rfl) ⟨Nat.le_of_ble_eq_true rfl, Nat.le_of_ble_eq_true rfl⟩ (kI_54 (d := d + 2)) ?_
  rintro v9 σ9 E9 - ⟨rfl, rfl, rfl⟩
  show ab_Fr MX11_init (d + 4) _ 139 [some (.ref 3), some (.int 3)] [.ref 185, .ref 3] (187, 2190) cS_241 (cE_376 sc)
  refine ab_putF (E2 := cE_377 sc) dX11_init_139 fl_X11_61 (fun C T N ty h9 => by have h8 := h9.1; cases h8; rfl) rfl rfl rfl rfl ?_
  show ab_Fr MX11_init (d + 4) _ 142 [some (.ref 3), some (.int 3)] [] (187, 2190) cS_241 (cE_377 sc)
  refine ab_aloadn dX11_init_142 rfl ?_
  refine ab_new (E2 := cE_378 sc) (σ2 := cS_242) dX11_init_143 ck_5 wd_441 wd_442 wd_147 rfl ⟨Nat.le_of_ble_eq_true rfl, Nat.le_of_ble_eq_true rfl⟩ rfl rfl ?_
  show ab_Fr MX11_init (d + 4) _ 146 [some (.ref 3), some (.int 3)] [.ref 191, .ref 3] (188, 2200) cS_242 (cE_378 sc)
  refine ab_dup dX11_init_146 rfl ?_
  refine ab_aloadn dX11_init_147 rfl ?_
  refine ab_getf (v := .ref 160) dX11_init_148 fl_X11_41 rfl rfl ?_
  refine ab_callI (vs := [.ref 160]) (st := [.ref 191, .ref 3]) dX11_init_151 okMX5_init rfl rfl wd_444 wd_443 rfl rfl (Nat.le_of_ble_eq_true rfl) ⟨Nat.le_of_ble_eq_true rfl, Nat.le_of_ble_eq_true rfl⟩ (kI_55 (d := d + 2)) ?_
  rintro v9 σ9 E9 - ⟨rfl, rfl, rfl⟩
  show ab_Fr MX11_init (d + 4) _ 154 [some (.ref 3), some (.int 3)] [.ref 191, .ref 3] (195, 2805) cS_258 (cE_393 sc)
  refine ab_putF (E2 := cE_394 sc) dX11_init_154 fl_X11_69 (fun C T N ty h9 => by have h8 := h9.1; cases h8; rfl) rfl rfl rfl rfl ?_
  show ab_Fr MX11_init (d + 4) _ 157 [some (.ref 3), some (.int 3)] [] (195, 2805) cS_258 (cE_394 sc)
  refine ab_aloadn dX11_init_157 rfl ?_
  refine ab_new (E2 := cE_395 sc) (σ2 := cS_259) dX11_init_158 ck_10 wd_470 wd_471 wd_148 rfl ⟨Nat.le_of_ble_eq_true rfl, Nat.le_of_ble_eq_true rfl⟩ rfl rfl ?_
  show ab_Fr MX11_init (d + 4) _ 161 [some (.ref 3), some (.int 3)] [.ref 199, .ref 3] (196, 2811) cS_259 (cE_395 sc)
  refine ab_dup dX11_init_161 rfl ?_
  refine ab_aloadn dX11_init_162 rfl ?_
  refine ab_getf (v := .ref 7) dX11_init_163 fl_X11_23 rfl rfl ?_
  refine ab_callI (vs := [.ref 7]) (st := [.ref 199, .ref 3]) dX11_init_166 okMX10_init rfl rfl wd_473 wd_472 rfl rfl (Nat.le_of_ble_eq_true rfl) ⟨Nat.le_of_ble_eq_true rfl, Nat.le_of_ble_eq_true rfl⟩ (kI_56 (d := d + 2)) ?_
  rintro v9 σ9 E9 - ⟨rfl, rfl, rfl⟩
  show ab_Fr MX11_init (d + 4) _ 169 [some (.ref 3), some (.int 3)] [.ref 199, .ref 3] (198, 2823) cS_264 (cE_399 sc)
  refine ab_putF (E2 := cE_400 sc) dX11_init_169 fl_X11_76 (fun C T N ty h9 => by have h8 := h9.1; cases h8; rfl) rfl rfl rfl rfl ?_
  show ab_Fr MX11_init (d + 4) _ 172 [some (.ref 3), some (.int 3)] [] (198, 2823) cS_264 (cE_400 sc)
  refine ab_aloadn dX11_init_172 rfl ?_
  refine ab_new (E2 := cE_401 sc) (σ2 := cS_265) dX11_init_173 ck_6 wd_488 wd_489 wd_149 rfl ⟨Nat.le_of_ble_eq_true rfl, Nat.le_of_ble_eq_true rfl⟩ rfl rfl ?_
  show ab_Fr MX11_init (d + 4) _ 176 [some (.ref 3), some (.int 3)] [.ref 202, .ref 3] (199, 2825) cS_265 (cE_401 sc)
  refine ab_dup dX11_init_176 rfl ?_
  refine ab_callI (vs := []) (st := [.ref 202, .ref 3]) dX11_init_177 okMX6_init rfl rfl wd_491 wd_490 rfl rfl (Nat.le_of_ble_eq_true rfl) ⟨Nat.le_of_ble_eq_true rfl, Nat.le_of_ble_eq_true rfl⟩ (kI_57 (d := d + 2)) ?_
  rintro v9 σ9 E9 - ⟨rfl, rfl, rfl⟩
  show ab_Fr MX11_init (d + 4) _ 180 [some (.ref 3), some (.int 3)] [.ref 202, .ref 3] (200, 2832) cS_266 (cE_403 sc)
  refine ab_putF (E2 := cE_404 sc) dX11_init_180 fl_X11_83 (fun C T N ty h9 => by have h8 := h9.1; cases h8; rfl) rfl rfl rfl rfl ?_
  show ab_Fr MX11_init (d + 4) _ 183 [some (.ref 3), some (.int 3)] [] (200, 2832) cS_266 (cE_404 sc)
  refine ab_aloadn dX11_init_183 rfl ?_
  refine ab_bipush (v := 9) dX11_init_184 (by decide) ?_
  refine ab_newArr (t := 1) (n := 9) (ty := .long) (E2 := cE_405 sc) (σ2 := cS_267) dX11_init_186 rfl (Or.inr (Or.inl ⟨rfl, rfl⟩)) wd_315 rfl (by decide) (by decide) (Nat.le_of_ble_eq_true rfl) ⟨Nat.le_of_ble_eq_true rfl, Nat.le_of_ble_eq_true rfl⟩ rfl rfl ?_
  show ab_Fr MX11_init (d + 4) _ 188 [some (.ref 3), some (.int 3)] [.ref 204, .ref 3] (201, 2841) cS_267 (cE_405 sc)
  refine ab_putF (E2 := cE_406 sc) dX11_init_188 fl_X11_87 (fun C T N ty h9 => by have h8 := h9.1; cases h8; rfl) rfl rfl rfl rfl ?_
  show ab_Fr MX11_init (d + 4) _ 191 [some (.ref 3), some (.int 3)] [] (201, 2841) cS_267 (cE_406 sc)
  exact ab_vret dX11_init_191 rfl ⟨Nat.le_of_ble_eq_true rfl, Nat.le_of_ble_eq_true rfl⟩ ⟨none, rfl, rfl, rfl, rfl⟩
set_option maxRecDepth 100000 in
theorem kI_59 {d : Nat} {sc : Nat × (Nat → Int32)} : ab_Call MX12_init (d + 1) [.ref 205] cS_268 (cE_407 sc) (fun v σ E => v = none ∧ σ = cS_312 ∧ E = cE_493 sc) := by
  refine ab_enter (n := 0) okMX12_init (fun G => Nat.le_of_ble_eq_true rfl) ?_
  show ab_Fr MX12_init (d + 1) _ 0 [some (.ref 205)] [] (0, 0) cS_268 (cE_407 sc)
  refine ab_aloadn dX12_init_0 rfl ?_
  refine ab_oinit dX12_init_1 wd_1254 wd_162 wd_163 (Nat.le_of_ble_eq_true rfl) ?_
  refine ab_aloadn dX12_init_4 rfl ?_
  refine ab_sipush (v := 740) dX12_init_5 (by decide) ?_
  refine ab_newArr (t := 0) (n := 740) (ty := .int) (E2 := cE_408 sc) (σ2 := cS_269) dX12_init_8 rfl (Or.inl ⟨rfl, rfl⟩) wd_180 rfl (by decide) (by decide) (Nat.le_of_ble_eq_true rfl) ⟨Nat.le_of_ble_eq_true rfl, Nat.le_of_ble_eq_true rfl⟩ rfl rfl ?_
  show ab_Fr MX12_init (d + 1) _ 10 [some (.ref 205)] [.ref 206, .ref 205] (1, 740) cS_269 (cE_408 sc)
  refine ab_putF (E2 := cE_409 sc) dX12_init_10 fl_X12_7 (fun C T N ty h9 => by have h8 := h9.1; cases h8; rfl) rfl rfl rfl rfl ?_
  show ab_Fr MX12_init (d + 1) _ 13 [some (.ref 205)] [] (1, 740) cS_269 (cE_409 sc)
  refine ab_aloadn dX12_init_13 rfl ?_
  refine ab_bipush (v := 6) dX12_init_14 (by decide) ?_
  refine ab_newArr (t := 1) (n := 6) (ty := .long) (E2 := cE_410 sc) (σ2 := cS_270) dX12_init_16 rfl (Or.inr (Or.inl ⟨rfl, rfl⟩)) wd_315 rfl (by decide) (by decide) (Nat.le_of_ble_eq_true rfl) ⟨Nat.le_of_ble_eq_true rfl, Nat.le_of_ble_eq_true rfl⟩ rfl rfl ?_
  show ab_Fr MX12_init (d + 1) _ 18 [some (.ref 205)] [.ref 207, .ref 205] (2, 746) cS_270 (cE_410 sc)
  refine ab_putF (E2 := cE_411 sc) dX12_init_18 fl_X12_13 (fun C T N ty h9 => by have h8 := h9.1; cases h8; rfl) rfl rfl rfl rfl ?_
  show ab_Fr MX12_init (d + 1) _ 21 [some (.ref 205)] [] (2, 746) cS_270 (cE_411 sc)
  refine ab_aloadn dX12_init_21 rfl ?_
  refine ab_bipush (v := 14) dX12_init_22 (by decide) ?_
  refine ab_newArr (t := 1) (n := 14) (ty := .long) (E2 := cE_412 sc) (σ2 := cS_271) dX12_init_24 rfl (Or.inr (Or.inl ⟨rfl, rfl⟩)) wd_315 rfl (by decide) (by decide) (Nat.le_of_ble_eq_true rfl) ⟨Nat.le_of_ble_eq_true rfl, Nat.le_of_ble_eq_true rfl⟩ rfl rfl ?_
  show ab_Fr MX12_init (d + 1) _ 26 [some (.ref 205)] [.ref 208, .ref 205] (3, 760) cS_271 (cE_412 sc)
  refine ab_putF (E2 := cE_413 sc) dX12_init_26 fl_X12_17 (fun C T N ty h9 => by have h8 := h9.1; cases h8; rfl) rfl rfl rfl rfl ?_
  show ab_Fr MX12_init (d + 1) _ 29 [some (.ref 205)] [] (3, 760) cS_271 (cE_413 sc)
  refine ab_aloadn dX12_init_29 rfl ?_
  refine ab_iconst (v := 2) dX12_init_30 (by decide) ?_
  refine ab_newArr (t := 0) (n := 2) (ty := .int) (E2 := cE_414 sc) (σ2 := cS_272) dX12_init_31 rfl (Or.inl ⟨rfl, rfl⟩) wd_180 rfl (by decide) (by decide) (Nat.le_of_ble_eq_true rfl) ⟨Nat.le_of_ble_eq_true rfl, Nat.le_of_ble_eq_true rfl⟩ rfl rfl ?_
  show ab_Fr MX12_init (d + 1) _ 33 [some (.ref 205)] [.ref 209, .ref 205] (4, 762) cS_272 (cE_414 sc)
  refine ab_putF (E2 := cE_415 sc) dX12_init_33 fl_X12_20 (fun C T N ty h9 => by have h8 := h9.1; cases h8; rfl) rfl rfl rfl rfl ?_
  show ab_Fr MX12_init (d + 1) _ 36 [some (.ref 205)] [] (4, 762) cS_272 (cE_415 sc)
  refine ab_aloadn dX12_init_36 rfl ?_
  refine ab_iconst (v := 2) dX12_init_37 (by decide) ?_
  refine ab_newArr (t := 0) (n := 2) (ty := .int) (E2 := cE_416 sc) (σ2 := cS_273) dX12_init_38 rfl (Or.inl ⟨rfl, rfl⟩) wd_180 rfl (by decide) (by decide) (Nat.le_of_ble_eq_true rfl) ⟨Nat.le_of_ble_eq_true rfl, Nat.le_of_ble_eq_true rfl⟩ rfl rfl ?_
  show ab_Fr MX12_init (d + 1) _ 40 [some (.ref 205)] [.ref 210, .ref 205] (5, 764) cS_273 (cE_416 sc)
  refine ab_putF (E2 := cE_417 sc) dX12_init_40 fl_X12_23 (fun C T N ty h9 => by have h8 := h9.1; cases h8; rfl) rfl rfl rfl rfl ?_
  show ab_Fr MX12_init (d + 1) _ 43 [some (.ref 205)] [] (5, 764) cS_273 (cE_417 sc)
  refine ab_aloadn dX12_init_43 rfl ?_
  refine ab_bipush (v := 6) dX12_init_44 (by decide) ?_
  refine ab_newArr (t := 0) (n := 6) (ty := .int) (E2 := cE_418 sc) (σ2 := cS_274) dX12_init_46 rfl (Or.inl ⟨rfl, rfl⟩) wd_180 rfl (by decide) (by decide) (Nat.le_of_ble_eq_true rfl) ⟨Nat.le_of_ble_eq_true rfl, Nat.le_of_ble_eq_true rfl⟩ rfl rfl ?_
  show ab_Fr MX12_init (d + 1) _ 48 [some (.ref 205)] [.ref 211, .ref 205] (6, 770) cS_274 (cE_418 sc)
  refine ab_putF (E2 := cE_419 sc) dX12_init_48 fl_X12_26 (fun C T N ty h9 => by have h8 := h9.1; cases h8; rfl) rfl rfl rfl rfl ?_
  show ab_Fr MX12_init (d + 1) _ 51 [some (.ref 205)] [] (6, 770) cS_274 (cE_419 sc)
  refine ab_aloadn dX12_init_51 rfl ?_
  refine ab_bipush (v := 14) dX12_init_52 (by decide) ?_
  refine ab_newArr (t := 0) (n := 14) (ty := .int) (E2 := cE_420 sc) (σ2 := cS_275) dX12_init_54 rfl (Or.inl ⟨rfl, rfl⟩) wd_180 rfl (by decide) (by decide) (Nat.le_of_ble_eq_true rfl) ⟨Nat.le_of_ble_eq_true rfl, Nat.le_of_ble_eq_true rfl⟩ rfl rfl ?_
  show ab_Fr MX12_init (d + 1) _ 56 [some (.ref 205)] [.ref 212, .ref 205] (7, 784) cS_275 (cE_420 sc)
  refine ab_putF (E2 := cE_421 sc) dX12_init_56 fl_X12_29 (fun C T N ty h9 => by have h8 := h9.1; cases h8; rfl) rfl rfl rfl rfl ?_
  show ab_Fr MX12_init (d + 1) _ 59 [some (.ref 205)] [] (7, 784) cS_275 (cE_421 sc)
  refine ab_aloadn dX12_init_59 rfl ?_
  refine ab_bipush (v := 126) dX12_init_60 (by decide) ?_
  refine ab_newArr (t := 0) (n := 126) (ty := .int) (E2 := cE_422 sc) (σ2 := cS_276) dX12_init_62 rfl (Or.inl ⟨rfl, rfl⟩) wd_180 rfl (by decide) (by decide) (Nat.le_of_ble_eq_true rfl) ⟨Nat.le_of_ble_eq_true rfl, Nat.le_of_ble_eq_true rfl⟩ rfl rfl ?_
  show ab_Fr MX12_init (d + 1) _ 64 [some (.ref 205)] [.ref 213, .ref 205] (8, 910) cS_276 (cE_422 sc)
  refine ab_putF (E2 := cE_423 sc) dX12_init_64 fl_X12_32 (fun C T N ty h9 => by have h8 := h9.1; cases h8; rfl) rfl rfl rfl rfl ?_
  show ab_Fr MX12_init (d + 1) _ 67 [some (.ref 205)] [] (8, 910) cS_276 (cE_423 sc)
  refine ab_aloadn dX12_init_67 rfl ?_
  refine ab_sipush (v := 144) dX12_init_68 (by decide) ?_
  refine ab_newArr (t := 0) (n := 144) (ty := .int) (E2 := cE_424 sc) (σ2 := cS_277) dX12_init_71 rfl (Or.inl ⟨rfl, rfl⟩) wd_180 rfl (by decide) (by decide) (Nat.le_of_ble_eq_true rfl) ⟨Nat.le_of_ble_eq_true rfl, Nat.le_of_ble_eq_true rfl⟩ rfl rfl ?_
  show ab_Fr MX12_init (d + 1) _ 73 [some (.ref 205)] [.ref 214, .ref 205] (9, 1054) cS_277 (cE_424 sc)
  refine ab_putF (E2 := cE_425 sc) dX12_init_73 fl_X12_35 (fun C T N ty h9 => by have h8 := h9.1; cases h8; rfl) rfl rfl rfl rfl ?_
  show ab_Fr MX12_init (d + 1) _ 76 [some (.ref 205)] [] (9, 1054) cS_277 (cE_425 sc)
  refine ab_aloadn dX12_init_76 rfl ?_
  refine ab_bipush (v := 14) dX12_init_77 (by decide) ?_
  refine ab_newArr (t := 0) (n := 14) (ty := .int) (E2 := cE_426 sc) (σ2 := cS_278) dX12_init_79 rfl (Or.inl ⟨rfl, rfl⟩) wd_180 rfl (by decide) (by decide) (Nat.le_of_ble_eq_true rfl) ⟨Nat.le_of_ble_eq_true rfl, Nat.le_of_ble_eq_true rfl⟩ rfl rfl ?_
  show ab_Fr MX12_init (d + 1) _ 81 [some (.ref 205)] [.ref 215, .ref 205] (10, 1068) cS_278 (cE_426 sc)
  refine ab_putF (E2 := cE_427 sc) dX12_init_81 fl_X12_38 (fun C T N ty h9 => by have h8 := h9.1; cases h8; rfl) rfl rfl rfl rfl ?_
  show ab_Fr MX12_init (d + 1) _ 84 [some (.ref 205)] [] (10, 1068) cS_278 (cE_427 sc)
  refine ab_aloadn dX12_init_84 rfl ?_
  refine ab_bipush (v := 14) dX12_init_85 (by decide) ?_
  refine ab_newArr (t := 0) (n := 14) (ty := .int) (E2 := cE_428 sc) (σ2 := cS_279) dX12_init_87 rfl (Or.inl ⟨rfl, rfl⟩) wd_180 rfl (by decide) (by decide) (Nat.le_of_ble_eq_true rfl) ⟨Nat.le_of_ble_eq_true rfl, Nat.le_of_ble_eq_true rfl⟩ rfl rfl ?_
  show ab_Fr MX12_init (d + 1) _ 89 [some (.ref 205)] [.ref 216, .ref 205] (11, 1082) cS_279 (cE_428 sc)
  refine ab_putF (E2 := cE_429 sc) dX12_init_89 fl_X12_41 (fun C T N ty h9 => by have h8 := h9.1; cases h8; rfl) rfl rfl rfl rfl ?_
  show ab_Fr MX12_init (d + 1) _ 92 [some (.ref 205)] [] (11, 1082) cS_279 (cE_429 sc)
  refine ab_aloadn dX12_init_92 rfl ?_
  refine ab_bipush (v := 42) dX12_init_93 (by decide) ?_
  refine ab_newArr (t := 0) (n := 42) (ty := .int) (E2 := cE_430 sc) (σ2 := cS_280) dX12_init_95 rfl (Or.inl ⟨rfl, rfl⟩) wd_180 rfl (by decide) (by decide) (Nat.le_of_ble_eq_true rfl) ⟨Nat.le_of_ble_eq_true rfl, Nat.le_of_ble_eq_true rfl⟩ rfl rfl ?_
  show ab_Fr MX12_init (d + 1) _ 97 [some (.ref 205)] [.ref 217, .ref 205] (12, 1124) cS_280 (cE_430 sc)
  refine ab_putF (E2 := cE_431 sc) dX12_init_97 fl_X12_44 (fun C T N ty h9 => by have h8 := h9.1; cases h8; rfl) rfl rfl rfl rfl ?_
  show ab_Fr MX12_init (d + 1) _ 100 [some (.ref 205)] [] (12, 1124) cS_280 (cE_431 sc)
  refine ab_aloadn dX12_init_100 rfl ?_
  refine ab_bipush (v := 14) dX12_init_101 (by decide) ?_
  refine ab_newArr (t := 0) (n := 14) (ty := .int) (E2 := cE_432 sc) (σ2 := cS_281) dX12_init_103 rfl (Or.inl ⟨rfl, rfl⟩) wd_180 rfl (by decide) (by decide) (Nat.le_of_ble_eq_true rfl) ⟨Nat.le_of_ble_eq_true rfl, Nat.le_of_ble_eq_true rfl⟩ rfl rfl ?_
  show ab_Fr MX12_init (d + 1) _ 105 [some (.ref 205)] [.ref 218, .ref 205] (13, 1138) cS_281 (cE_432 sc)
  refine ab_putF (E2 := cE_433 sc) dX12_init_105 fl_X12_47 (fun C T N ty h9 => by have h8 := h9.1; cases h8; rfl) rfl rfl rfl rfl ?_
  show ab_Fr MX12_init (d + 1) _ 108 [some (.ref 205)] [] (13, 1138) cS_281 (cE_433 sc)
  refine ab_aloadn dX12_init_108 rfl ?_
  refine ab_iconst (v := 2) dX12_init_109 (by decide) ?_
  refine ab_newArr (t := 0) (n := 2) (ty := .int) (E2 := cE_434 sc) (σ2 := cS_282) dX12_init_110 rfl (Or.inl ⟨rfl, rfl⟩) wd_180 rfl (by decide) (by decide) (Nat.le_of_ble_eq_true rfl) ⟨Nat.le_of_ble_eq_true rfl, Nat.le_of_ble_eq_true rfl⟩ rfl rfl ?_
  show ab_Fr MX12_init (d + 1) _ 112 [some (.ref 205)] [.ref 219, .ref 205] (14, 1140) cS_282 (cE_434 sc)
  refine ab_putF (E2 := cE_435 sc) dX12_init_112 fl_X12_50 (fun C T N ty h9 => by have h8 := h9.1; cases h8; rfl) rfl rfl rfl rfl ?_
  show ab_Fr MX12_init (d + 1) _ 115 [some (.ref 205)] [] (14, 1140) cS_282 (cE_435 sc)
  refine ab_aloadn dX12_init_115 rfl ?_
  refine ab_iconst (v := 2) dX12_init_116 (by decide) ?_
  refine ab_newArr (t := 0) (n := 2) (ty := .int) (E2 := cE_436 sc) (σ2 := cS_283) dX12_init_117 rfl (Or.inl ⟨rfl, rfl⟩) wd_180 rfl (by decide) (by decide) (Nat.le_of_ble_eq_true rfl) ⟨Nat.le_of_ble_eq_true rfl, Nat.le_of_ble_eq_true rfl⟩ rfl rfl ?_
  show ab_Fr MX12_init (d + 1) _ 119 [some (.ref 205)] [.ref 220, .ref 205] (15, 1142) cS_283 (cE_436 sc)
  refine ab_putF (E2 := cE_437 sc) dX12_init_119 fl_X12_53 (fun C T N ty h9 => by have h8 := h9.1; cases h8; rfl) rfl rfl rfl rfl ?_
  show ab_Fr MX12_init (d + 1) _ 122 [some (.ref 205)] [] (15, 1142) cS_283 (cE_437 sc)
  refine ab_aloadn dX12_init_122 rfl ?_
  refine ab_iconst (v := 2) dX12_init_123 (by decide) ?_
  refine ab_newArr (t := 0) (n := 2) (ty := .int) (E2 := cE_438 sc) (σ2 := cS_284) dX12_init_124 rfl (Or.inl ⟨rfl, rfl⟩) wd_180 rfl (by decide) (by decide) (Nat.le_of_ble_eq_true rfl) ⟨Nat.le_of_ble_eq_true rfl, Nat.le_of_ble_eq_true rfl⟩ rfl rfl ?_
  show ab_Fr MX12_init (d + 1) _ 126 [some (.ref 205)] [.ref 221, .ref 205] (16, 1144) cS_284 (cE_438 sc)
  refine ab_putF (E2 := cE_439 sc) dX12_init_126 fl_X12_56 (fun C T N ty h9 => by have h8 := h9.1; cases h8; rfl) rfl rfl rfl rfl ?_
  show ab_Fr MX12_init (d + 1) _ 129 [some (.ref 205)] [] (16, 1144) cS_284 (cE_439 sc)
  refine ab_aloadn dX12_init_129 rfl ?_
  refine ab_iconst (v := 2) dX12_init_130 (by decide) ?_
  refine ab_newArr (t := 0) (n := 2) (ty := .int) (E2 := cE_440 sc) (σ2 := cS_285) dX12_init_131 rfl (Or.inl ⟨rfl, rfl⟩) wd_180 rfl (by decide) (by decide) (Nat.le_of_ble_eq_true rfl) ⟨Nat.le_of_ble_eq_true rfl, Nat.le_of_ble_eq_true rfl⟩ rfl rfl ?_
  show ab_Fr MX12_init (d + 1) _ 133 [some (.ref 205)] [.ref 222, .ref 205] (17, 1146) cS_285 (cE_440 sc)
  refine ab_putF (E2 := cE_441 sc) dX12_init_133 fl_X12_59 (fun C T N ty h9 => by have h8 := h9.1; cases h8; rfl) rfl rfl rfl rfl ?_
  show ab_Fr MX12_init (d + 1) _ 136 [some (.ref 205)] [] (17, 1146) cS_285 (cE_441 sc)
  refine ab_aloadn dX12_init_136 rfl ?_
  refine ab_bipush (v := 8) dX12_init_137 (by decide) ?_
  refine ab_newArr (t := 0) (n := 8) (ty := .int) (E2 := cE_442 sc) (σ2 := cS_286) dX12_init_139 rfl (Or.inl ⟨rfl, rfl⟩) wd_180 rfl (by decide) (by decide) (Nat.le_of_ble_eq_true rfl) ⟨Nat.le_of_ble_eq_true rfl, Nat.le_of_ble_eq_true rfl⟩ rfl rfl ?_
  show ab_Fr MX12_init (d + 1) _ 141 [some (.ref 205)] [.ref 223, .ref 205] (18, 1154) cS_286 (cE_442 sc)
  refine ab_putF (E2 := cE_443 sc) dX12_init_141 fl_X12_62 (fun C T N ty h9 => by have h8 := h9.1; cases h8; rfl) rfl rfl rfl rfl ?_
  show ab_Fr MX12_init (d + 1) _ 144 [some (.ref 205)] [] (18, 1154) cS_286 (cE_443 sc)
  refine ab_aloadn dX12_init_144 rfl ?_
  refine ab_sipush (v := 6561) dX12_init_145 (by decide) ?_
  refine ab_newArr (t := 1) (n := 6561) (ty := .long) (E2 := cE_444 sc) (σ2 := cS_287) dX12_init_148 rfl (Or.inr (Or.inl ⟨rfl, rfl⟩)) wd_315 rfl (by decide) (by decide) (Nat.le_of_ble_eq_true rfl) ⟨Nat.le_of_ble_eq_true rfl, Nat.le_of_ble_eq_true rfl⟩ rfl rfl ?_
  show ab_Fr MX12_init (d + 1) _ 150 [some (.ref 205)] [.ref 224, .ref 205] (19, 7715) cS_287 (cE_444 sc)
  refine ab_putF (E2 := cE_445 sc) dX12_init_150 fl_X12_65 (fun C T N ty h9 => by have h8 := h9.1; cases h8; rfl) rfl rfl rfl rfl ?_
  show ab_Fr MX12_init (d + 1) _ 153 [some (.ref 205)] [] (19, 7715) cS_287 (cE_445 sc)
  refine ab_aloadn dX12_init_153 rfl ?_
  refine ab_bipush (v := 42) dX12_init_154 (by decide) ?_
  refine ab_newArr (t := 0) (n := 42) (ty := .int) (E2 := cE_446 sc) (σ2 := cS_288) dX12_init_156 rfl (Or.inl ⟨rfl, rfl⟩) wd_180 rfl (by decide) (by decide) (Nat.le_of_ble_eq_true rfl) ⟨Nat.le_of_ble_eq_true rfl, Nat.le_of_ble_eq_true rfl⟩ rfl rfl ?_
  show ab_Fr MX12_init (d + 1) _ 158 [some (.ref 205)] [.ref 225, .ref 205] (20, 7757) cS_288 (cE_446 sc)
  refine ab_putF (E2 := cE_447 sc) dX12_init_158 fl_X12_68 (fun C T N ty h9 => by have h8 := h9.1; cases h8; rfl) rfl rfl rfl rfl ?_
  show ab_Fr MX12_init (d + 1) _ 161 [some (.ref 205)] [] (20, 7757) cS_288 (cE_447 sc)
  refine ab_aloadn dX12_init_161 rfl ?_
  refine ab_bipush (v := 7) dX12_init_162 (by decide) ?_
  refine ab_newArr (t := 0) (n := 7) (ty := .int) (E2 := cE_448 sc) (σ2 := cS_289) dX12_init_164 rfl (Or.inl ⟨rfl, rfl⟩) wd_180 rfl (by decide) (by decide) (Nat.le_of_ble_eq_true rfl) ⟨Nat.le_of_ble_eq_true rfl, Nat.le_of_ble_eq_true rfl⟩ rfl rfl ?_
  show ab_Fr MX12_init (d + 1) _ 166 [some (.ref 205)] [.ref 226, .ref 205] (21, 7764) cS_289 (cE_448 sc)
  refine ab_putF (E2 := cE_449 sc) dX12_init_166 fl_X12_71 (fun C T N ty h9 => by have h8 := h9.1; cases h8; rfl) rfl rfl rfl rfl ?_
  show ab_Fr MX12_init (d + 1) _ 169 [some (.ref 205)] [] (21, 7764) cS_289 (cE_449 sc)
  refine ab_aloadn dX12_init_169 rfl ?_
  refine ab_bipush (v := 10) dX12_init_170 (by decide) ?_
  refine ab_newArr (t := 0) (n := 10) (ty := .int) (E2 := cE_450 sc) (σ2 := cS_290) dX12_init_172 rfl (Or.inl ⟨rfl, rfl⟩) wd_180 rfl (by decide) (by decide) (Nat.le_of_ble_eq_true rfl) ⟨Nat.le_of_ble_eq_true rfl, Nat.le_of_ble_eq_true rfl⟩ rfl rfl ?_
  show ab_Fr MX12_init (d + 1) _ 174 [some (.ref 205)] [.ref 227, .ref 205] (22, 7774) cS_290 (cE_450 sc)
  refine ab_putF (E2 := cE_451 sc) dX12_init_174 fl_X12_74 (fun C T N ty h9 => by have h8 := h9.1; cases h8; rfl) rfl rfl rfl rfl ?_
  show ab_Fr MX12_init (d + 1) _ 177 [some (.ref 205)] [] (22, 7774) cS_290 (cE_451 sc)
  refine ab_aloadn dX12_init_177 rfl ?_
  refine ab_iconst (v := 4) dX12_init_178 (by decide) ?_
  refine ab_newArr (t := 1) (n := 4) (ty := .long) (E2 := cE_452 sc) (σ2 := cS_291) dX12_init_179 rfl (Or.inr (Or.inl ⟨rfl, rfl⟩)) wd_315 rfl (by decide) (by decide) (Nat.le_of_ble_eq_true rfl) ⟨Nat.le_of_ble_eq_true rfl, Nat.le_of_ble_eq_true rfl⟩ rfl rfl ?_
  show ab_Fr MX12_init (d + 1) _ 181 [some (.ref 205)] [.ref 228, .ref 205] (23, 7778) cS_291 (cE_452 sc)
  refine ab_putF (E2 := cE_453 sc) dX12_init_181 fl_X12_77 (fun C T N ty h9 => by have h8 := h9.1; cases h8; rfl) rfl rfl rfl rfl ?_
  show ab_Fr MX12_init (d + 1) _ 184 [some (.ref 205)] [] (23, 7778) cS_291 (cE_453 sc)
  refine ab_aloadn dX12_init_184 rfl ?_
  refine ab_bipush (v := 21) dX12_init_185 (by decide) ?_
  refine ab_newArr (t := 0) (n := 21) (ty := .int) (E2 := cE_454 sc) (σ2 := cS_292) dX12_init_187 rfl (Or.inl ⟨rfl, rfl⟩) wd_180 rfl (by decide) (by decide) (Nat.le_of_ble_eq_true rfl) ⟨Nat.le_of_ble_eq_true rfl, Nat.le_of_ble_eq_true rfl⟩ rfl rfl ?_
  show ab_Fr MX12_init (d + 1) _ 189 [some (.ref 205)] [.ref 229, .ref 205] (24, 7799) cS_292 (cE_454 sc)
  refine ab_putF (E2 := cE_455 sc) dX12_init_189 fl_X12_80 (fun C T N ty h9 => by have h8 := h9.1; cases h8; rfl) rfl rfl rfl rfl ?_
  show ab_Fr MX12_init (d + 1) _ 192 [some (.ref 205)] [] (24, 7799) cS_292 (cE_455 sc)
  refine ab_aloadn dX12_init_192 rfl ?_
  refine ab_bipush (v := 7) dX12_init_193 (by decide) ?_
  refine ab_newArr (t := 0) (n := 7) (ty := .int) (E2 := cE_456 sc) (σ2 := cS_293) dX12_init_195 rfl (Or.inl ⟨rfl, rfl⟩) wd_180 rfl (by decide) (by decide) (Nat.le_of_ble_eq_true rfl) ⟨Nat.le_of_ble_eq_true rfl, Nat.le_of_ble_eq_true rfl⟩ rfl rfl ?_
  show ab_Fr MX12_init (d + 1) _ 197 [some (.ref 205)] [.ref 230, .ref 205] (25, 7806) cS_293 (cE_456 sc)
  refine ab_putF (E2 := cE_457 sc) dX12_init_197 fl_X12_83 (fun C T N ty h9 => by have h8 := h9.1; cases h8; rfl) rfl rfl rfl rfl ?_
  show ab_Fr MX12_init (d + 1) _ 200 [some (.ref 205)] [] (25, 7806) cS_293 (cE_457 sc)
  refine ab_aloadn dX12_init_200 rfl ?_
  refine ab_iconst (v := 3) dX12_init_201 (by decide) ?_
  refine ab_newArr (t := 0) (n := 3) (ty := .int) (E2 := cE_458 sc) (σ2 := cS_294) dX12_init_202 rfl (Or.inl ⟨rfl, rfl⟩) wd_180 rfl (by decide) (by decide) (Nat.le_of_ble_eq_true rfl) ⟨Nat.le_of_ble_eq_true rfl, Nat.le_of_ble_eq_true rfl⟩ rfl rfl ?_
  show ab_Fr MX12_init (d + 1) _ 204 [some (.ref 205)] [.ref 231, .ref 205] (26, 7809) cS_294 (cE_458 sc)
  refine ab_putF (E2 := cE_459 sc) dX12_init_204 fl_X12_86 (fun C T N ty h9 => by have h8 := h9.1; cases h8; rfl) rfl rfl rfl rfl ?_
  show ab_Fr MX12_init (d + 1) _ 207 [some (.ref 205)] [] (26, 7809) cS_294 (cE_459 sc)
  refine ab_aloadn dX12_init_207 rfl ?_
  refine ab_bipush (v := 7) dX12_init_208 (by decide) ?_
  refine ab_newArr (t := 0) (n := 7) (ty := .int) (E2 := cE_460 sc) (σ2 := cS_295) dX12_init_210 rfl (Or.inl ⟨rfl, rfl⟩) wd_180 rfl (by decide) (by decide) (Nat.le_of_ble_eq_true rfl) ⟨Nat.le_of_ble_eq_true rfl, Nat.le_of_ble_eq_true rfl⟩ rfl rfl ?_
  show ab_Fr MX12_init (d + 1) _ 212 [some (.ref 205)] [.ref 232, .ref 205] (27, 7816) cS_295 (cE_460 sc)
  refine ab_putF (E2 := cE_461 sc) dX12_init_212 fl_X12_89 (fun C T N ty h9 => by have h8 := h9.1; cases h8; rfl) rfl rfl rfl rfl ?_
  show ab_Fr MX12_init (d + 1) _ 215 [some (.ref 205)] [] (27, 7816) cS_295 (cE_461 sc)
  refine ab_aloadn dX12_init_215 rfl ?_
  refine ab_sipush (v := 2187) dX12_init_216 (by decide) ?_
  refine ab_newArr (t := 0) (n := 2187) (ty := .int) (E2 := cE_462 sc) (σ2 := cS_296) dX12_init_219 rfl (Or.inl ⟨rfl, rfl⟩) wd_180 rfl (by decide) (by decide) (Nat.le_of_ble_eq_true rfl) ⟨Nat.le_of_ble_eq_true rfl, Nat.le_of_ble_eq_true rfl⟩ rfl rfl ?_
  show ab_Fr MX12_init (d + 1) _ 221 [some (.ref 205)] [.ref 233, .ref 205] (28, 10003) cS_296 (cE_462 sc)
  refine ab_putF (E2 := cE_463 sc) dX12_init_221 fl_X12_92 (fun C T N ty h9 => by have h8 := h9.1; cases h8; rfl) rfl rfl rfl rfl ?_
  show ab_Fr MX12_init (d + 1) _ 224 [some (.ref 205)] [] (28, 10003) cS_296 (cE_463 sc)
  refine ab_aloadn dX12_init_224 rfl ?_
  refine ab_bipush (v := 21) dX12_init_225 (by decide) ?_
  refine ab_newArr (t := 0) (n := 21) (ty := .int) (E2 := cE_464 sc) (σ2 := cS_297) dX12_init_227 rfl (Or.inl ⟨rfl, rfl⟩) wd_180 rfl (by decide) (by decide) (Nat.le_of_ble_eq_true rfl) ⟨Nat.le_of_ble_eq_true rfl, Nat.le_of_ble_eq_true rfl⟩ rfl rfl ?_
  show ab_Fr MX12_init (d + 1) _ 229 [some (.ref 205)] [.ref 234, .ref 205] (29, 10024) cS_297 (cE_464 sc)
  refine ab_putF (E2 := cE_465 sc) dX12_init_229 fl_X12_95 (fun C T N ty h9 => by have h8 := h9.1; cases h8; rfl) rfl rfl rfl rfl ?_
  show ab_Fr MX12_init (d + 1) _ 232 [some (.ref 205)] [] (29, 10024) cS_297 (cE_465 sc)
  refine ab_aloadn dX12_init_232 rfl ?_
  refine ab_ldc dX12_init_233 wd_1255 ?_
  refine ab_newArr (t := 0) (n := 45927) (ty := .int) (E2 := cE_466 sc) (σ2 := cS_298) dX12_init_235 rfl (Or.inl ⟨rfl, rfl⟩) wd_180 rfl (by decide) (by decide) (Nat.le_of_ble_eq_true rfl) ⟨Nat.le_of_ble_eq_true rfl, Nat.le_of_ble_eq_true rfl⟩ rfl rfl ?_
  show ab_Fr MX12_init (d + 1) _ 237 [some (.ref 205)] [.ref 235, .ref 205] (30, 55951) cS_298 (cE_466 sc)
  refine ab_putF (E2 := cE_467 sc) dX12_init_237 fl_X12_99 (fun C T N ty h9 => by have h8 := h9.1; cases h8; rfl) rfl rfl rfl rfl ?_
  show ab_Fr MX12_init (d + 1) _ 240 [some (.ref 205)] [] (30, 55951) cS_298 (cE_467 sc)
  refine ab_aloadn dX12_init_240 rfl ?_
  refine ab_sipush (v := 19683) dX12_init_241 (by decide) ?_
  refine ab_newArr (t := 1) (n := 19683) (ty := .long) (E2 := cE_468 sc) (σ2 := cS_299) dX12_init_244 rfl (Or.inr (Or.inl ⟨rfl, rfl⟩)) wd_315 rfl (by decide) (by decide) (Nat.le_of_ble_eq_true rfl) ⟨Nat.le_of_ble_eq_true rfl, Nat.le_of_ble_eq_true rfl⟩ rfl rfl ?_
  show ab_Fr MX12_init (d + 1) _ 246 [some (.ref 205)] [.ref 236, .ref 205] (31, 75634) cS_299 (cE_468 sc)
  refine ab_putF (E2 := cE_469 sc) dX12_init_246 fl_X12_102 (fun C T N ty h9 => by have h8 := h9.1; cases h8; rfl) rfl rfl rfl rfl ?_
  show ab_Fr MX12_init (d + 1) _ 249 [some (.ref 205)] [] (31, 75634) cS_299 (cE_469 sc)
  refine ab_aloadn dX12_init_249 rfl ?_
  refine ab_sipush (v := 6561) dX12_init_250 (by decide) ?_
  refine ab_newArr (t := 2) (n := 6561) (ty := .boolean) (E2 := cE_470 sc) (σ2 := cS_300) dX12_init_253 rfl (Or.inr (Or.inr ⟨rfl, rfl⟩)) wd_1398 rfl (by decide) (by decide) (Nat.le_of_ble_eq_true rfl) ⟨Nat.le_of_ble_eq_true rfl, Nat.le_of_ble_eq_true rfl⟩ rfl rfl ?_
  show ab_Fr MX12_init (d + 1) _ 255 [some (.ref 205)] [.ref 237, .ref 205] (32, 82195) cS_300 (cE_470 sc)
  refine ab_putF (E2 := cE_471 sc) dX12_init_255 fl_X12_105 (fun C T N ty h9 => by have h8 := h9.1; cases h8; rfl) rfl rfl rfl rfl ?_
  show ab_Fr MX12_init (d + 1) _ 258 [some (.ref 205)] [] (32, 82195) cS_300 (cE_471 sc)
  refine ab_aloadn dX12_init_258 rfl ?_
  refine ab_bipush (v := 7) dX12_init_259 (by decide) ?_
  refine ab_newArr (t := 0) (n := 7) (ty := .int) (E2 := cE_472 sc) (σ2 := cS_301) dX12_init_261 rfl (Or.inl ⟨rfl, rfl⟩) wd_180 rfl (by decide) (by decide) (Nat.le_of_ble_eq_true rfl) ⟨Nat.le_of_ble_eq_true rfl, Nat.le_of_ble_eq_true rfl⟩ rfl rfl ?_
  show ab_Fr MX12_init (d + 1) _ 263 [some (.ref 205)] [.ref 238, .ref 205] (33, 82202) cS_301 (cE_472 sc)
  refine ab_putF (E2 := cE_473 sc) dX12_init_263 fl_X12_109 (fun C T N ty h9 => by have h8 := h9.1; cases h8; rfl) rfl rfl rfl rfl ?_
  show ab_Fr MX12_init (d + 1) _ 266 [some (.ref 205)] [] (33, 82202) cS_301 (cE_473 sc)
  refine ab_aloadn dX12_init_266 rfl ?_
  refine ab_ldc dX12_init_267 wd_1255 ?_
  refine ab_newArr (t := 0) (n := 45927) (ty := .int) (E2 := cE_474 sc) (σ2 := cS_302) dX12_init_269 rfl (Or.inl ⟨rfl, rfl⟩) wd_180 rfl (by decide) (by decide) (Nat.le_of_ble_eq_true rfl) ⟨Nat.le_of_ble_eq_true rfl, Nat.le_of_ble_eq_true rfl⟩ rfl rfl ?_
  show ab_Fr MX12_init (d + 1) _ 271 [some (.ref 205)] [.ref 239, .ref 205] (34, 128129) cS_302 (cE_474 sc)
  refine ab_putF (E2 := cE_475 sc) dX12_init_271 fl_X12_112 (fun C T N ty h9 => by have h8 := h9.1; cases h8; rfl) rfl rfl rfl rfl ?_
  show ab_Fr MX12_init (d + 1) _ 274 [some (.ref 205)] [] (34, 128129) cS_302 (cE_475 sc)
  refine ab_aloadn dX12_init_274 rfl ?_
  refine ab_bipush (v := 7) dX12_init_275 (by decide) ?_
  refine ab_newArr (t := 0) (n := 7) (ty := .int) (E2 := cE_476 sc) (σ2 := cS_303) dX12_init_277 rfl (Or.inl ⟨rfl, rfl⟩) wd_180 rfl (by decide) (by decide) (Nat.le_of_ble_eq_true rfl) ⟨Nat.le_of_ble_eq_true rfl, Nat.le_of_ble_eq_true rfl⟩ rfl rfl ?_
  show ab_Fr MX12_init (d + 1) _ 279 [some (.ref 205)] [.ref 240, .ref 205] (35, 128136) cS_303 (cE_476 sc)
  refine ab_putF (E2 := cE_477 sc) dX12_init_279 fl_X12_115 (fun C T N ty h9 => by have h8 := h9.1; cases h8; rfl) rfl rfl rfl rfl ?_
  show ab_Fr MX12_init (d + 1) _ 282 [some (.ref 205)] [] (35, 128136) cS_303 (cE_477 sc)
  refine ab_aloadn dX12_init_282 rfl ?_
  refine ab_ldc dX12_init_283 wd_1256 ?_
  refine ab_newArr (t := 1) (n := 49152) (ty := .long) (E2 := cE_478 sc) (σ2 := cS_304) dX12_init_285 rfl (Or.inr (Or.inl ⟨rfl, rfl⟩)) wd_315 rfl (by decide) (by decide) (Nat.le_of_ble_eq_true rfl) ⟨Nat.le_of_ble_eq_true rfl, Nat.le_of_ble_eq_true rfl⟩ rfl rfl ?_
  show ab_Fr MX12_init (d + 1) _ 287 [some (.ref 205)] [.ref 241, .ref 205] (36, 177288) cS_304 (cE_478 sc)
  refine ab_putF (E2 := cE_479 sc) dX12_init_287 fl_X12_119 (fun C T N ty h9 => by have h8 := h9.1; cases h8; rfl) rfl rfl rfl rfl ?_
  show ab_Fr MX12_init (d + 1) _ 290 [some (.ref 205)] [] (36, 177288) cS_304 (cE_479 sc)
  refine ab_aloadn dX12_init_290 rfl ?_
  refine ab_sipush (v := 16384) dX12_init_291 (by decide) ?_
  refine ab_newArr (t := 2) (n := 16384) (ty := .boolean) (E2 := cE_480 sc) (σ2 := cS_305) dX12_init_294 rfl (Or.inr (Or.inr ⟨rfl, rfl⟩)) wd_1398 rfl (by decide) (by decide) (Nat.le_of_ble_eq_true rfl) ⟨Nat.le_of_ble_eq_true rfl, Nat.le_of_ble_eq_true rfl⟩ rfl rfl ?_
  show ab_Fr MX12_init (d + 1) _ 296 [some (.ref 205)] [.ref 242, .ref 205] (37, 193672) cS_305 (cE_480 sc)
  refine ab_putF (E2 := cE_481 sc) dX12_init_296 fl_X12_122 (fun C T N ty h9 => by have h8 := h9.1; cases h8; rfl) rfl rfl rfl rfl ?_
  show ab_Fr MX12_init (d + 1) _ 299 [some (.ref 205)] [] (37, 193672) cS_305 (cE_481 sc)
  refine ab_aloadn dX12_init_299 rfl ?_
  refine ab_sipush (v := 768) dX12_init_300 (by decide) ?_
  refine ab_newArr (t := 1) (n := 768) (ty := .long) (E2 := cE_482 sc) (σ2 := cS_306) dX12_init_303 rfl (Or.inr (Or.inl ⟨rfl, rfl⟩)) wd_315 rfl (by decide) (by decide) (Nat.le_of_ble_eq_true rfl) ⟨Nat.le_of_ble_eq_true rfl, Nat.le_of_ble_eq_true rfl⟩ rfl rfl ?_
  show ab_Fr MX12_init (d + 1) _ 305 [some (.ref 205)] [.ref 243, .ref 205] (38, 194440) cS_306 (cE_482 sc)
  refine ab_putF (E2 := cE_483 sc) dX12_init_305 fl_X12_125 (fun C T N ty h9 => by have h8 := h9.1; cases h8; rfl) rfl rfl rfl rfl ?_
  show ab_Fr MX12_init (d + 1) _ 308 [some (.ref 205)] [] (38, 194440) cS_306 (cE_483 sc)
  refine ab_aloadn dX12_init_308 rfl ?_
  refine ab_ldc2 dX12_init_309 wd_1257 ?_
  refine ab_putL dX12_init_312 fl_X12_130 rfl rfl ?_
  show ab_Fr MX12_init (d + 1) _ 315 [some (.ref 205)] [] (38, 194440) cS_307 (cE_483 sc)
  refine ab_aloadn dX12_init_315 rfl ?_
  refine ab_bipush (v := 7) dX12_init_316 (by decide) ?_
  refine ab_newArr (t := 0) (n := 7) (ty := .int) (E2 := cE_484 sc) (σ2 := cS_308) dX12_init_318 rfl (Or.inl ⟨rfl, rfl⟩) wd_180 rfl (by decide) (by decide) (Nat.le_of_ble_eq_true rfl) ⟨Nat.le_of_ble_eq_true rfl, Nat.le_of_ble_eq_true rfl⟩ rfl rfl ?_
  show ab_Fr MX12_init (d + 1) _ 320 [some (.ref 205)] [.ref 244, .ref 205] (39, 194447) cS_308 (cE_484 sc)
  refine ab_putF (E2 := cE_485 sc) dX12_init_320 fl_X12_134 (fun C T N ty h9 => by have h8 := h9.1; cases h8; rfl) rfl rfl rfl rfl ?_
  show ab_Fr MX12_init (d + 1) _ 323 [some (.ref 205)] [] (39, 194447) cS_308 (cE_485 sc)
  refine ab_aloadn dX12_init_323 rfl ?_
  refine ab_bipush (v := 8) dX12_init_324 (by decide) ?_
  refine ab_newArr (t := 0) (n := 8) (ty := .int) (E2 := cE_486 sc) (σ2 := cS_309) dX12_init_326 rfl (Or.inl ⟨rfl, rfl⟩) wd_180 rfl (by decide) (by decide) (Nat.le_of_ble_eq_true rfl) ⟨Nat.le_of_ble_eq_true rfl, Nat.le_of_ble_eq_true rfl⟩ rfl rfl ?_
  show ab_Fr MX12_init (d + 1) _ 328 [some (.ref 205)] [.ref 245, .ref 205] (40, 194455) cS_309 (cE_486 sc)
  refine ab_putF (E2 := cE_487 sc) dX12_init_328 fl_X12_137 (fun C T N ty h9 => by have h8 := h9.1; cases h8; rfl) rfl rfl rfl rfl ?_
  show ab_Fr MX12_init (d + 1) _ 331 [some (.ref 205)] [] (40, 194455) cS_309 (cE_487 sc)
  refine ab_aloadn dX12_init_331 rfl ?_
  refine ab_bipush (v := 9) dX12_init_332 (by decide) ?_
  refine ab_newArr (t := 0) (n := 9) (ty := .int) (E2 := cE_488 sc) (σ2 := cS_310) dX12_init_334 rfl (Or.inl ⟨rfl, rfl⟩) wd_180 rfl (by decide) (by decide) (Nat.le_of_ble_eq_true rfl) ⟨Nat.le_of_ble_eq_true rfl, Nat.le_of_ble_eq_true rfl⟩ rfl rfl ?_
  show ab_Fr MX12_init (d + 1) _ 336 [some (.ref 205)] [.ref 246, .ref 205] (41, 194464) cS_310 (cE_488 sc)
  refine ab_putF (E2 := cE_489 sc) dX12_init_336 fl_X12_140 (fun C T N ty h9 => by have h8 := h9.1; cases h8; rfl) rfl rfl rfl rfl ?_
  show ab_Fr MX12_init (d + 1) _ 339 [some (.ref 205)] [] (41, 194464) cS_310 (cE_489 sc)
  refine ab_aloadn dX12_init_339 rfl ?_
  refine ab_bipush (v := 21) dX12_init_340 (by decide) ?_
  refine ab_newArr (t := 0) (n := 21) (ty := .int) (E2 := cE_490 sc) (σ2 := cS_311) dX12_init_342 rfl (Or.inl ⟨rfl, rfl⟩) wd_180 rfl (by decide) (by decide) (Nat.le_of_ble_eq_true rfl) ⟨Nat.le_of_ble_eq_true rfl, Nat.le_of_ble_eq_true rfl⟩ rfl rfl ?_
  show ab_Fr MX12_init (d + 1) _ 344 [some (.ref 205)] [.ref 247, .ref 205] (42, 194485) cS_311 (cE_490 sc)
  refine ab_putF (E2 := cE_491 sc) dX12_init_344 fl_X12_143 (fun C T N ty h9 => by have h8 := h9.1; cases h8; rfl) rfl rfl rfl rfl ?_
  show ab_Fr MX12_init (d + 1) _ 347 [some (.ref 205)] [] (42, 194485) cS_311 (cE_491 sc)
  refine ab_aloadn dX12_init_347 rfl ?_
  refine ab_bipush (v := 7) dX12_init_348 (by decide) ?_
  refine ab_newArr (t := 0) (n := 7) (ty := .int) (E2 := cE_492 sc) (σ2 := cS_312) dX12_init_350 rfl (Or.inl ⟨rfl, rfl⟩) wd_180 rfl (by decide) (by decide) (Nat.le_of_ble_eq_true rfl) ⟨Nat.le_of_ble_eq_true rfl, Nat.le_of_ble_eq_true rfl⟩ rfl rfl ?_
  show ab_Fr MX12_init (d + 1) _ 352 [some (.ref 205)] [.ref 248, .ref 205] (43, 194492) cS_312 (cE_492 sc)
  refine ab_putF (E2 := cE_493 sc) dX12_init_352 fl_X12_146 (fun C T N ty h9 => by have h8 := h9.1; cases h8; rfl) rfl rfl rfl rfl ?_
  show ab_Fr MX12_init (d + 1) _ 355 [some (.ref 205)] [] (43, 194492) cS_312 (cE_493 sc)
  exact ab_vret dX12_init_355 rfl ⟨Nat.le_of_ble_eq_true rfl, Nat.le_of_ble_eq_true rfl⟩ ⟨none, rfl, rfl, rfl, rfl⟩
set_option maxRecDepth 100000 in
theorem law_first {d : Nat} {Q : ab_Qt} {sc : Nat × (Nat → Int32)} (h : ab_Fr ML_law (d + 5) Q 23 [some (.ref 0), some (.ref 3), some (.ref 205), some (.ref 249), some (.int 0), none, none, none] [] (247, 197416) cS_313 (cE_494 sc)) : ab_Fr ML_law (d + 5) Q 0 [some (.ref 0), none, none, none, none, none, none, none] [] (0, 0) cS_0 (cE_0 sc) := by
  refine ab_new (E2 := cE_1 sc) (σ2 := cS_1) dL_law_0 ck_11 wd_156 wd_157 wd_138 rfl ⟨Nat.le_of_ble_eq_true rfl, Nat.le_of_ble_eq_true rfl⟩ rfl rfl ?_
  show ab_Fr ML_law (d + 5) _ 3 [some (.ref 0), none, none, none, none, none, none, none] [.ref 3] (1, 12) cS_1 (cE_1 sc)
  refine ab_dup dL_law_3 rfl ?_
  refine ab_callI (vs := []) (st := [.ref 3]) dL_law_4 okMX11_init rfl rfl wd_159 wd_158 rfl rfl (Nat.le_of_ble_eq_true rfl) ⟨Nat.le_of_ble_eq_true rfl, Nat.le_of_ble_eq_true rfl⟩ (kI_58 (d := d + 0)) ?_
  rintro v9 σ9 E9 - ⟨rfl, rfl, rfl⟩
  show ab_Fr ML_law (d + 5) _ 7 [some (.ref 0), none, none, none, none, none, none, none] [.ref 3] (202, 2853) cS_267 (cE_406 sc)
  refine ab_astoren dL_law_7 (Nat.le_of_ble_eq_true rfl) (L2 := [some (.ref 0), some (.ref 3), none, none, none, none, none, none]) rfl ?_
  refine ab_new (E2 := cE_407 sc) (σ2 := cS_268) dL_law_8 ck_12 wd_1249 wd_1250 wd_150 rfl ⟨Nat.le_of_ble_eq_true rfl, Nat.le_of_ble_eq_true rfl⟩ rfl rfl ?_
  show ab_Fr ML_law (d + 5) _ 11 [some (.ref 0), some (.ref 3), none, none, none, none, none, none] [.ref 205] (203, 2923) cS_268 (cE_407 sc)
  refine ab_dup dL_law_11 rfl ?_
  refine ab_callI (vs := []) (st := [.ref 205]) dL_law_12 okMX12_init rfl rfl wd_1252 wd_1251 rfl rfl (Nat.le_of_ble_eq_true rfl) ⟨Nat.le_of_ble_eq_true rfl, Nat.le_of_ble_eq_true rfl⟩ (kI_59 (d := d + 3)) ?_
  rintro v9 σ9 E9 - ⟨rfl, rfl, rfl⟩
  show ab_Fr ML_law (d + 5) _ 15 [some (.ref 0), some (.ref 3), none, none, none, none, none, none] [.ref 205] (246, 197415) cS_312 (cE_493 sc)
  refine ab_astoren dL_law_15 (Nat.le_of_ble_eq_true rfl) (L2 := [some (.ref 0), some (.ref 3), some (.ref 205), none, none, none, none, none]) rfl ?_
  refine ab_iconst (v := 1) dL_law_16 (by decide) ?_
  refine ab_newArr (t := 1) (n := 1) (ty := .long) (E2 := cE_494 sc) (σ2 := cS_313) dL_law_17 rfl (Or.inr (Or.inl ⟨rfl, rfl⟩)) wd_315 rfl (by decide) (by decide) (Nat.le_of_ble_eq_true rfl) ⟨Nat.le_of_ble_eq_true rfl, Nat.le_of_ble_eq_true rfl⟩ rfl rfl ?_
  show ab_Fr ML_law (d + 5) _ 19 [some (.ref 0), some (.ref 3), some (.ref 205), none, none, none, none, none] [.ref 249] (247, 197416) cS_313 (cE_494 sc)
  refine ab_astoren dL_law_19 (Nat.le_of_ble_eq_true rfl) (L2 := [some (.ref 0), some (.ref 3), some (.ref 205), some (.ref 249), none, none, none, none]) rfl ?_
  refine ab_iconst (v := 0) dL_law_20 (by decide) ?_
  refine ab_istore dL_law_21 (Nat.le_of_ble_eq_true rfl) (L2 := [some (.ref 0), some (.ref 3), some (.ref 205), some (.ref 249), some (.int 0), none, none, none]) rfl ?_
  exact h
