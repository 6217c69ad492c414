theorem tb_parts : ab_tb ML_parts = [(0, 8, 11, 13)] := by decide +kernel
theorem cw_parts : Cond.codeWith ML_parts.1 ML_parts.2.1 ML_parts.2.2.1 ML_parts.2.2.2.1 (ab_tb ML_parts) ∈ ab_tbl := by
  rw [tb_parts]
  exact ab_w5 219 rfl rfl
theorem wr_parts {d : Nat} {sc : Nat × (Nat → Int32)} {a1 : Int32} {σ : ab_S} {Q2 : ab_Qt} (hc : ab_CallX MX11_parts d [.ref 3, .int a1] σ (ab_E0 sc) Q2) (hE : ∀ o σ E, Q2 o σ E → E = ab_E0 sc ∧ ∀ v, o = some v → ∃ w : Int64, v = some (.long w)) : ab_CallW ML_parts (d + 1) [.ref 3, .int a1, .ref 249] σ (ab_E0 sc) (fun v σ2 E2 => E2 = ab_E0 sc ∧ ((v = some (.int 1) ∧ Q2 none σ2 E2) ∨ (v = some (.int 0) ∧ ∃ w σ1, Q2 (some (some (.long w))) σ1 E2 ∧ σ2 = (σ1.1, ab_u σ1.2.1 249 0 w, σ1.2.2)))) := by
  refine ab_enterW (by decide +kernel) (fun G => Nat.le_of_ble_eq_true rfl) ?_
  show ab_Fr ML_parts (d + 1) _ 0 [some (.ref 3), some (.int a1), some (.ref 249), none] [] (0, 0) σ (ab_E0 sc)
  refine ab_aloadn dL_parts_0 rfl ?_
  refine ab_iconst (v := 0) dL_parts_1 (by decide) ?_
  refine ab_aloadn dL_parts_2 rfl ?_
  refine ab_iloadn dL_parts_3 rfl ?_
  refine ab_callX (vs := [.int a1]) (st := [.int 0, .ref 249]) (ins := .astore_n 3) (len := 1) (kx := 3) (hs := 0) (he := 8) (hp := 11) dL_parts_4 okMX11_parts wd_1132 kd_3 rfl rfl rfl (Nat.le_of_ble_eq_true rfl) ⟨Nat.le_of_ble_eq_true rfl, Nat.le_of_ble_eq_true rfl⟩ rfl tb_parts ⟨Nat.le_of_ble_eq_true rfl, Nat.le_of_ble_eq_true rfl⟩ hc ?_ (Or.inr ⟨3, rfl, rfl, rfl⟩) dL_parts_11 (Nat.le_of_ble_eq_true rfl) rfl (by intro v hv; cases hv; rfl) ?_
  · intro v σ2 E2 _ hq
    obtain ⟨rfl, hw⟩ := hE _ _ _ hq
    obtain ⟨w, rfl⟩ := hw v rfl
    show ab_Fr ML_parts (d + 1) _ 7 [some (.ref 3), some (.int a1), some (.ref 249), none] [.long w, .int 0, .ref 249] (1, 6) σ2 (ab_E0 sc)
    refine ab_lastore dL_parts_7 kd_249 (ab_vp (by decide)) ?_
    refine ab_goto (tgt := 14) dL_parts_8 (by decide) ?_
    refine ab_iconst (v := 0) dL_parts_14 (by decide) ?_
    exact ab_iret dL_parts_15 rfl ⟨Nat.le_of_ble_eq_true rfl, Nat.le_of_ble_eq_true rfl⟩ ⟨_, rfl, rfl, Or.inr ⟨rfl, w, σ2, hq, rfl⟩⟩
  · intro σ2 E2 _ hq
    obtain ⟨rfl, -⟩ := hE _ _ _ hq
    show ab_Fr ML_parts (d + 1) _ 12 [some (.ref 3), some (.int a1), some (.ref 249), none] [] (1, 6) σ2 (ab_E0 sc)
    refine ab_iconst (v := 1) dL_parts_12 (by decide) ?_
    exact ab_iret dL_parts_13 rfl ⟨Nat.le_of_ble_eq_true rfl, Nat.le_of_ble_eq_true rfl⟩ ⟨_, rfl, rfl, Or.inl ⟨rfl, hq⟩⟩
theorem tb_comes : ab_tb ML_comes = [(0, 9, 12, 13)] := by decide +kernel
theorem cw_comes : Cond.codeWith ML_comes.1 ML_comes.2.1 ML_comes.2.2.1 ML_comes.2.2.2.1 (ab_tb ML_comes) ∈ ab_tbl := by
  rw [tb_comes]
  exact ab_w6 49 rfl rfl
theorem wr_comes {d : Nat} {sc : Nat × (Nat → Int32)} {a1 a2 : Int32} {σ : ab_S} {Q2 : ab_Qt} (hc : ab_CallX MX11_comes d [.ref 3, .int a1, .int a2] σ (ab_E0 sc) Q2) (hE : ∀ o σ E, Q2 o σ E → E = ab_E0 sc ∧ ∀ v, o = some v → ∃ w : Int64, v = some (.long w)) : ab_CallW ML_comes (d + 1) [.ref 3, .int a1, .int a2, .ref 249] σ (ab_E0 sc) (fun v σ2 E2 => E2 = ab_E0 sc ∧ ((v = some (.int 1) ∧ Q2 none σ2 E2) ∨ (v = some (.int 0) ∧ ∃ w σ1, Q2 (some (some (.long w))) σ1 E2 ∧ σ2 = (σ1.1, ab_u σ1.2.1 249 0 w, σ1.2.2)))) := by
  refine ab_enterW (by decide +kernel) (fun G => Nat.le_of_ble_eq_true rfl) ?_
  show ab_Fr ML_comes (d + 1) _ 0 [some (.ref 3), some (.int a1), some (.int a2), some (.ref 249), none] [] (0, 0) σ (ab_E0 sc)
  refine ab_aloadn dL_comes_0 rfl ?_
  refine ab_iconst (v := 0) dL_comes_1 (by decide) ?_
  refine ab_aloadn dL_comes_2 rfl ?_
  refine ab_iloadn dL_comes_3 rfl ?_
  refine ab_iloadn dL_comes_4 rfl ?_
  refine ab_callX (vs := [.int a1, .int a2]) (st := [.int 0, .ref 249]) (ins := .astore 4) (len := 2) (kx := 4) (hs := 0) (he := 9) (hp := 12) dL_comes_5 okMX11_comes wd_1179 kd_3 rfl rfl rfl (Nat.le_of_ble_eq_true rfl) ⟨Nat.le_of_ble_eq_true rfl, Nat.le_of_ble_eq_true rfl⟩ rfl tb_comes ⟨Nat.le_of_ble_eq_true rfl, Nat.le_of_ble_eq_true rfl⟩ hc ?_ (Or.inl ⟨rfl, rfl⟩) dL_comes_12 (Nat.le_of_ble_eq_true rfl) rfl (by intro v hv; cases hv; rfl) ?_
  · intro v σ2 E2 _ hq
    obtain ⟨rfl, hw⟩ := hE _ _ _ hq
    obtain ⟨w, rfl⟩ := hw v rfl
    show ab_Fr ML_comes (d + 1) _ 8 [some (.ref 3), some (.int a1), some (.int a2), some (.ref 249), none] [.long w, .int 0, .ref 249] (1, 6) σ2 (ab_E0 sc)
    refine ab_lastore dL_comes_8 kd_249 (ab_vp (by decide)) ?_
    refine ab_goto (tgt := 16) dL_comes_9 (by decide) ?_
    refine ab_iconst (v := 0) dL_comes_16 (by decide) ?_
    exact ab_iret dL_comes_17 rfl ⟨Nat.le_of_ble_eq_true rfl, Nat.le_of_ble_eq_true rfl⟩ ⟨_, rfl, rfl, Or.inr ⟨rfl, w, σ2, hq, rfl⟩⟩
  · intro σ2 E2 _ hq
    obtain ⟨rfl, -⟩ := hE _ _ _ hq
    show ab_Fr ML_comes (d + 1) _ 14 [some (.ref 3), some (.int a1), some (.int a2), some (.ref 249), none] [] (1, 6) σ2 (ab_E0 sc)
    refine ab_iconst (v := 1) dL_comes_14 (by decide) ?_
    exact ab_iret dL_comes_15 rfl ⟨Nat.le_of_ble_eq_true rfl, Nat.le_of_ble_eq_true rfl⟩ ⟨_, rfl, rfl, Or.inl ⟨rfl, hq⟩⟩
theorem tb_knows : ab_tb ML_knows = [(0, 8, 11, 13)] := by decide +kernel
theorem cw_knows : Cond.codeWith ML_knows.1 ML_knows.2.1 ML_knows.2.2.1 ML_knows.2.2.2.1 (ab_tb ML_knows) ∈ ab_tbl := by
  rw [tb_knows]
  exact ab_w6 56 rfl rfl
theorem wr_knows {d : Nat} {sc : Nat × (Nat → Int32)} {a1 : Int32} {σ : ab_S} {Q2 : ab_Qt} (hc : ab_CallX MX11_knows d [.ref 3, .int a1] σ (ab_E0 sc) Q2) (hE : ∀ o σ E, Q2 o σ E → E = ab_E0 sc ∧ ∀ v, o = some v → ∃ w : Int64, v = some (.long w)) : ab_CallW ML_knows (d + 1) [.ref 3, .int a1, .ref 249] σ (ab_E0 sc) (fun v σ2 E2 => E2 = ab_E0 sc ∧ ((v = some (.int 1) ∧ Q2 none σ2 E2) ∨ (v = some (.int 0) ∧ ∃ w σ1, Q2 (some (some (.long w))) σ1 E2 ∧ σ2 = (σ1.1, ab_u σ1.2.1 249 0 w, σ1.2.2)))) := by
  refine ab_enterW (by decide +kernel) (fun G => Nat.le_of_ble_eq_true rfl) ?_
  show ab_Fr ML_knows (d + 1) _ 0 [some (.ref 3), some (.int a1), some (.ref 249), none] [] (0, 0) σ (ab_E0 sc)
  refine ab_aloadn dL_knows_0 rfl ?_
  refine ab_iconst (v := 0) dL_knows_1 (by decide) ?_
  refine ab_aloadn dL_knows_2 rfl ?_
  refine ab_iloadn dL_knows_3 rfl ?_
  refine ab_callX (vs := [.int a1]) (st := [.int 0, .ref 249]) (ins := .astore_n 3) (len := 1) (kx := 3) (hs := 0) (he := 8) (hp := 11) dL_knows_4 okMX11_knows wd_1185 kd_3 rfl rfl rfl (Nat.le_of_ble_eq_true rfl) ⟨Nat.le_of_ble_eq_true rfl, Nat.le_of_ble_eq_true rfl⟩ rfl tb_knows ⟨Nat.le_of_ble_eq_true rfl, Nat.le_of_ble_eq_true rfl⟩ hc ?_ (Or.inr ⟨3, rfl, rfl, rfl⟩) dL_knows_11 (Nat.le_of_ble_eq_true rfl) rfl (by intro v hv; cases hv; rfl) ?_
  · intro v σ2 E2 _ hq
    obtain ⟨rfl, hw⟩ := hE _ _ _ hq
    obtain ⟨w, rfl⟩ := hw v rfl
    show ab_Fr ML_knows (d + 1) _ 7 [some (.ref 3), some (.int a1), some (.ref 249), none] [.long w, .int 0, .ref 249] (1, 6) σ2 (ab_E0 sc)
    refine ab_lastore dL_knows_7 kd_249 (ab_vp (by decide)) ?_
    refine ab_goto (tgt := 14) dL_knows_8 (by decide) ?_
    refine ab_iconst (v := 0) dL_knows_14 (by decide) ?_
    exact ab_iret dL_knows_15 rfl ⟨Nat.le_of_ble_eq_true rfl, Nat.le_of_ble_eq_true rfl⟩ ⟨_, rfl, rfl, Or.inr ⟨rfl, w, σ2, hq, rfl⟩⟩
  · intro σ2 E2 _ hq
    obtain ⟨rfl, -⟩ := hE _ _ _ hq
    show ab_Fr ML_knows (d + 1) _ 12 [some (.ref 3), some (.int a1), some (.ref 249), none] [] (1, 6) σ2 (ab_E0 sc)
    refine ab_iconst (v := 1) dL_knows_12 (by decide) ?_
    exact ab_iret dL_knows_13 rfl ⟨Nat.le_of_ble_eq_true rfl, Nat.le_of_ble_eq_true rfl⟩ ⟨_, rfl, rfl, Or.inl ⟨rfl, hq⟩⟩
theorem tb_turns : ab_tb ML_turns = [(0, 9, 12, 13)] := by decide +kernel
theorem cw_turns : Cond.codeWith ML_turns.1 ML_turns.2.1 ML_turns.2.2.1 ML_turns.2.2.2.1 (ab_tb ML_turns) ∈ ab_tbl := by
  rw [tb_turns]
  exact ab_w6 72 rfl rfl
theorem wr_turns {d : Nat} {sc : Nat × (Nat → Int32)} {a1 a2 : Int32} {σ : ab_S} {Q2 : ab_Qt} (hc : ab_CallX MX11_turns d [.ref 3, .int a1, .int a2] σ (ab_E0 sc) Q2) (hE : ∀ o σ E, Q2 o σ E → E = ab_E0 sc ∧ ∀ v, o = some v → ∃ w : Int64, v = some (.long w)) : ab_CallW ML_turns (d + 1) [.ref 3, .int a1, .int a2, .ref 249] σ (ab_E0 sc) (fun v σ2 E2 => E2 = ab_E0 sc ∧ ((v = some (.int 1) ∧ Q2 none σ2 E2) ∨ (v = some (.int 0) ∧ ∃ w σ1, Q2 (some (some (.long w))) σ1 E2 ∧ σ2 = (σ1.1, ab_u σ1.2.1 249 0 w, σ1.2.2)))) := by
  refine ab_enterW (by decide +kernel) (fun G => Nat.le_of_ble_eq_true rfl) ?_
  show ab_Fr ML_turns (d + 1) _ 0 [some (.ref 3), some (.int a1), some (.int a2), some (.ref 249), none] [] (0, 0) σ (ab_E0 sc)
  refine ab_aloadn dL_turns_0 rfl ?_
  refine ab_iconst (v := 0) dL_turns_1 (by decide) ?_
  refine ab_aloadn dL_turns_2 rfl ?_
  refine ab_iloadn dL_turns_3 rfl ?_
  refine ab_iloadn dL_turns_4 rfl ?_
  refine ab_callX (vs := [.int a1, .int a2]) (st := [.int 0, .ref 249]) (ins := .astore 4) (len := 2) (kx := 4) (hs := 0) (he := 9) (hp := 12) dL_turns_5 okMX11_turns wd_1200 kd_3 rfl rfl rfl (Nat.le_of_ble_eq_true rfl) ⟨Nat.le_of_ble_eq_true rfl, Nat.le_of_ble_eq_true rfl⟩ rfl tb_turns ⟨Nat.le_of_ble_eq_true rfl, Nat.le_of_ble_eq_true rfl⟩ hc ?_ (Or.inl ⟨rfl, rfl⟩) dL_turns_12 (Nat.le_of_ble_eq_true rfl) rfl (by intro v hv; cases hv; rfl) ?_
  · intro v σ2 E2 _ hq
    obtain ⟨rfl, hw⟩ := hE _ _ _ hq
    obtain ⟨w, rfl⟩ := hw v rfl
    show ab_Fr ML_turns (d + 1) _ 8 [some (.ref 3), some (.int a1), some (.int a2), some (.ref 249), none] [.long w, .int 0, .ref 249] (1, 6) σ2 (ab_E0 sc)
    refine ab_lastore dL_turns_8 kd_249 (ab_vp (by decide)) ?_
    refine ab_goto (tgt := 16) dL_turns_9 (by decide) ?_
    refine ab_iconst (v := 0) dL_turns_16 (by decide) ?_
    exact ab_iret dL_turns_17 rfl ⟨Nat.le_of_ble_eq_true rfl, Nat.le_of_ble_eq_true rfl⟩ ⟨_, rfl, rfl, Or.inr ⟨rfl, w, σ2, hq, rfl⟩⟩
  · intro σ2 E2 _ hq
    obtain ⟨rfl, -⟩ := hE _ _ _ hq
    show ab_Fr ML_turns (d + 1) _ 14 [some (.ref 3), some (.int a1), some (.int a2), some (.ref 249), none] [] (1, 6) σ2 (ab_E0 sc)
    refine ab_iconst (v := 1) dL_turns_14 (by decide) ?_
    exact ab_iret dL_turns_15 rfl ⟨Nat.le_of_ble_eq_true rfl, Nat.le_of_ble_eq_true rfl⟩ ⟨_, rfl, rfl, Or.inl ⟨rfl, hq⟩⟩
theorem tb_think : ab_tb ML_think = [(0, 11, 14, 13)] := by decide +kernel
theorem cw_think : Cond.codeWith ML_think.1 ML_think.2.1 ML_think.2.2.1 ML_think.2.2.2.1 (ab_tb ML_think) ∈ ab_tbl := by
  rw [tb_think]
  exact ab_w6 91 rfl rfl
theorem wr_think {d : Nat} {sc : Nat × (Nat → Int32)} {a1 a2 a3 : Int32} {σ : ab_S} {Q2 : ab_Qt} (hc : ab_CallX MX11_think d [.ref 3, .int a1, .int a2, .int a3] σ (ab_E0 sc) Q2) (hE : ∀ o σ E, Q2 o σ E → E = ab_E0 sc ∧ ∀ v, o = some v → ∃ w : Int64, v = some (.long w)) : ab_CallW ML_think (d + 1) [.ref 3, .int a1, .int a2, .int a3, .ref 249] σ (ab_E0 sc) (fun v σ2 E2 => E2 = ab_E0 sc ∧ ((v = some (.int 1) ∧ Q2 none σ2 E2) ∨ (v = some (.int 0) ∧ ∃ w σ1, Q2 (some (some (.long w))) σ1 E2 ∧ σ2 = (σ1.1, ab_u σ1.2.1 249 0 w, σ1.2.2)))) := by
  refine ab_enterW (by decide +kernel) (fun G => Nat.le_of_ble_eq_true rfl) ?_
  show ab_Fr ML_think (d + 1) _ 0 [some (.ref 3), some (.int a1), some (.int a2), some (.int a3), some (.ref 249), none] [] (0, 0) σ (ab_E0 sc)
  refine ab_aload dL_think_0 rfl ?_
  refine ab_iconst (v := 0) dL_think_2 (by decide) ?_
  refine ab_aloadn dL_think_3 rfl ?_
  refine ab_iloadn dL_think_4 rfl ?_
  refine ab_iloadn dL_think_5 rfl ?_
  refine ab_iloadn dL_think_6 rfl ?_
  refine ab_callX (vs := [.int a1, .int a2, .int a3]) (st := [.int 0, .ref 249]) (ins := .astore 5) (len := 2) (kx := 5) (hs := 0) (he := 11) (hp := 14) dL_think_7 okMX11_think wd_1217 kd_3 rfl rfl rfl (Nat.le_of_ble_eq_true rfl) ⟨Nat.le_of_ble_eq_true rfl, Nat.le_of_ble_eq_true rfl⟩ rfl tb_think ⟨Nat.le_of_ble_eq_true rfl, Nat.le_of_ble_eq_true rfl⟩ hc ?_ (Or.inl ⟨rfl, rfl⟩) dL_think_14 (Nat.le_of_ble_eq_true rfl) rfl (by intro v hv; cases hv; rfl) ?_
  · intro v σ2 E2 _ hq
    obtain ⟨rfl, hw⟩ := hE _ _ _ hq
    obtain ⟨w, rfl⟩ := hw v rfl
    show ab_Fr ML_think (d + 1) _ 10 [some (.ref 3), some (.int a1), some (.int a2), some (.int a3), some (.ref 249), none] [.long w, .int 0, .ref 249] (1, 6) σ2 (ab_E0 sc)
    refine ab_lastore dL_think_10 kd_249 (ab_vp (by decide)) ?_
    refine ab_goto (tgt := 18) dL_think_11 (by decide) ?_
    refine ab_iconst (v := 0) dL_think_18 (by decide) ?_
    exact ab_iret dL_think_19 rfl ⟨Nat.le_of_ble_eq_true rfl, Nat.le_of_ble_eq_true rfl⟩ ⟨_, rfl, rfl, Or.inr ⟨rfl, w, σ2, hq, rfl⟩⟩
  · intro σ2 E2 _ hq
    obtain ⟨rfl, -⟩ := hE _ _ _ hq
    show ab_Fr ML_think (d + 1) _ 16 [some (.ref 3), some (.int a1), some (.int a2), some (.int a3), some (.ref 249), none] [] (1, 6) σ2 (ab_E0 sc)
    refine ab_iconst (v := 1) dL_think_16 (by decide) ?_
    exact ab_iret dL_think_17 rfl ⟨Nat.le_of_ble_eq_true rfl, Nat.le_of_ble_eq_true rfl⟩ ⟨_, rfl, rfl, Or.inl ⟨rfl, hq⟩⟩
theorem tb_bestRule : ab_tb ML_bestRule = [(0, 7, 10, 13)] := by decide +kernel
theorem cw_bestRule : Cond.codeWith ML_bestRule.1 ML_bestRule.2.1 ML_bestRule.2.2.1 ML_bestRule.2.2.2.1 (ab_tb ML_bestRule) ∈ ab_tbl := by
  rw [tb_bestRule]
  exact ab_w6 98 rfl rfl
theorem wr_bestRule {d : Nat} {sc : Nat × (Nat → Int32)} {σ : ab_S} {Q2 : ab_Qt} (hc : ab_CallX MX11_bestRule d [.ref 3] σ (ab_E0 sc) Q2) (hE : ∀ o σ E, Q2 o σ E → E = ab_E0 sc ∧ ∀ v, o = some v → ∃ w : Int64, v = some (.long w)) : ab_CallW ML_bestRule (d + 1) [.ref 3, .ref 249] σ (ab_E0 sc) (fun v σ2 E2 => E2 = ab_E0 sc ∧ ((v = some (.int 1) ∧ Q2 none σ2 E2) ∨ (v = some (.int 0) ∧ ∃ w σ1, Q2 (some (some (.long w))) σ1 E2 ∧ σ2 = (σ1.1, ab_u σ1.2.1 249 0 w, σ1.2.2)))) := by
  refine ab_enterW (by decide +kernel) (fun G => Nat.le_of_ble_eq_true rfl) ?_
  show ab_Fr ML_bestRule (d + 1) _ 0 [some (.ref 3), some (.ref 249), none] [] (0, 0) σ (ab_E0 sc)
  refine ab_aloadn dL_bestRule_0 rfl ?_
  refine ab_iconst (v := 0) dL_bestRule_1 (by decide) ?_
  refine ab_aloadn dL_bestRule_2 rfl ?_
  refine ab_callX (vs := []) (st := [.int 0, .ref 249]) (ins := .astore_n 2) (len := 1) (kx := 2) (hs := 0) (he := 7) (hp := 10) dL_bestRule_3 okMX11_bestRule wd_1223 kd_3 rfl rfl rfl (Nat.le_of_ble_eq_true rfl) ⟨Nat.le_of_ble_eq_true rfl, Nat.le_of_ble_eq_true rfl⟩ rfl tb_bestRule ⟨Nat.le_of_ble_eq_true rfl, Nat.le_of_ble_eq_true rfl⟩ hc ?_ (Or.inr ⟨2, rfl, rfl, rfl⟩) dL_bestRule_10 (Nat.le_of_ble_eq_true rfl) rfl (by intro v hv; cases hv; rfl) ?_
  · intro v σ2 E2 _ hq
    obtain ⟨rfl, hw⟩ := hE _ _ _ hq
    obtain ⟨w, rfl⟩ := hw v rfl
    show ab_Fr ML_bestRule (d + 1) _ 6 [some (.ref 3), some (.ref 249), none] [.long w, .int 0, .ref 249] (1, 6) σ2 (ab_E0 sc)
    refine ab_lastore dL_bestRule_6 kd_249 (ab_vp (by decide)) ?_
    refine ab_goto (tgt := 13) dL_bestRule_7 (by decide) ?_
    refine ab_iconst (v := 0) dL_bestRule_13 (by decide) ?_
    exact ab_iret dL_bestRule_14 rfl ⟨Nat.le_of_ble_eq_true rfl, Nat.le_of_ble_eq_true rfl⟩ ⟨_, rfl, rfl, Or.inr ⟨rfl, w, σ2, hq, rfl⟩⟩
  · intro σ2 E2 _ hq
    obtain ⟨rfl, -⟩ := hE _ _ _ hq
    show ab_Fr ML_bestRule (d + 1) _ 11 [some (.ref 3), some (.ref 249), none] [] (1, 6) σ2 (ab_E0 sc)
    refine ab_iconst (v := 1) dL_bestRule_11 (by decide) ?_
    exact ab_iret dL_bestRule_12 rfl ⟨Nat.le_of_ble_eq_true rfl, Nat.le_of_ble_eq_true rfl⟩ ⟨_, rfl, rfl, Or.inl ⟨rfl, hq⟩⟩
theorem tb_minutes : ab_tb ML_minutes = [(0, 9, 12, 13)] := by decide +kernel
theorem cw_minutes : Cond.codeWith ML_minutes.1 ML_minutes.2.1 ML_minutes.2.2.1 ML_minutes.2.2.2.1 (ab_tb ML_minutes) ∈ ab_tbl := by
  rw [tb_minutes]
  exact ab_w6 105 rfl rfl
theorem wr_minutes {d : Nat} {sc : Nat × (Nat → Int32)} {a1 a2 : Int32} {σ : ab_S} {Q2 : ab_Qt} (hc : ab_CallX MX11_minutes d [.ref 3, .int a1, .int a2] σ (ab_E0 sc) Q2) (hE : ∀ o σ E, Q2 o σ E → E = ab_E0 sc ∧ ∀ v, o = some v → ∃ w : Int64, v = some (.long w)) : ab_CallW ML_minutes (d + 1) [.ref 3, .int a1, .int a2, .ref 249] σ (ab_E0 sc) (fun v σ2 E2 => E2 = ab_E0 sc ∧ ((v = some (.int 1) ∧ Q2 none σ2 E2) ∨ (v = some (.int 0) ∧ ∃ w σ1, Q2 (some (some (.long w))) σ1 E2 ∧ σ2 = (σ1.1, ab_u σ1.2.1 249 0 w, σ1.2.2)))) := by
  refine ab_enterW (by decide +kernel) (fun G => Nat.le_of_ble_eq_true rfl) ?_
  show ab_Fr ML_minutes (d + 1) _ 0 [some (.ref 3), some (.int a1), some (.int a2), some (.ref 249), none] [] (0, 0) σ (ab_E0 sc)
  refine ab_aloadn dL_minutes_0 rfl ?_
  refine ab_iconst (v := 0) dL_minutes_1 (by decide) ?_
  refine ab_aloadn dL_minutes_2 rfl ?_
  refine ab_iloadn dL_minutes_3 rfl ?_
  refine ab_iloadn dL_minutes_4 rfl ?_
  refine ab_callX (vs := [.int a1, .int a2]) (st := [.int 0, .ref 249]) (ins := .astore 4) (len := 2) (kx := 4) (hs := 0) (he := 9) (hp := 12) dL_minutes_5 okMX11_minutes wd_1229 kd_3 rfl rfl rfl (Nat.le_of_ble_eq_true rfl) ⟨Nat.le_of_ble_eq_true rfl, Nat.le_of_ble_eq_true rfl⟩ rfl tb_minutes ⟨Nat.le_of_ble_eq_true rfl, Nat.le_of_ble_eq_true rfl⟩ hc ?_ (Or.inl ⟨rfl, rfl⟩) dL_minutes_12 (Nat.le_of_ble_eq_true rfl) rfl (by intro v hv; cases hv; rfl) ?_
  · intro v σ2 E2 _ hq
    obtain ⟨rfl, hw⟩ := hE _ _ _ hq
    obtain ⟨w, rfl⟩ := hw v rfl
    show ab_Fr ML_minutes (d + 1) _ 8 [some (.ref 3), some (.int a1), some (.int a2), some (.ref 249), none] [.long w, .int 0, .ref 249] (1, 6) σ2 (ab_E0 sc)
    refine ab_lastore dL_minutes_8 kd_249 (ab_vp (by decide)) ?_
    refine ab_goto (tgt := 16) dL_minutes_9 (by decide) ?_
    refine ab_iconst (v := 0) dL_minutes_16 (by decide) ?_
    exact ab_iret dL_minutes_17 rfl ⟨Nat.le_of_ble_eq_true rfl, Nat.le_of_ble_eq_true rfl⟩ ⟨_, rfl, rfl, Or.inr ⟨rfl, w, σ2, hq, rfl⟩⟩
  · intro σ2 E2 _ hq
    obtain ⟨rfl, -⟩ := hE _ _ _ hq
    show ab_Fr ML_minutes (d + 1) _ 14 [some (.ref 3), some (.int a1), some (.int a2), some (.ref 249), none] [] (1, 6) σ2 (ab_E0 sc)
    refine ab_iconst (v := 1) dL_minutes_14 (by decide) ?_
    exact ab_iret dL_minutes_15 rfl ⟨Nat.le_of_ble_eq_true rfl, Nat.le_of_ble_eq_true rfl⟩ ⟨_, rfl, rfl, Or.inl ⟨rfl, hq⟩⟩
theorem tb_shut : ab_tb ML_shut = [(0, 11, 14, 13)] := by decide +kernel
theorem cw_shut : Cond.codeWith ML_shut.1 ML_shut.2.1 ML_shut.2.2.1 ML_shut.2.2.2.1 (ab_tb ML_shut) ∈ ab_tbl := by
  rw [tb_shut]
  exact ab_w6 116 rfl rfl
theorem wr_shut {d : Nat} {sc : Nat × (Nat → Int32)} {a1 a2 a3 : Int32} {σ : ab_S} {Q2 : ab_Qt} (hc : ab_CallX MX11_shut d [.ref 3, .int a1, .int a2, .int a3] σ (ab_E0 sc) Q2) (hE : ∀ o σ E, Q2 o σ E → E = ab_E0 sc ∧ ∀ v, o = some v → ∃ w : Int64, v = some (.long w)) : ab_CallW ML_shut (d + 1) [.ref 3, .int a1, .int a2, .int a3, .ref 249] σ (ab_E0 sc) (fun v σ2 E2 => E2 = ab_E0 sc ∧ ((v = some (.int 1) ∧ Q2 none σ2 E2) ∨ (v = some (.int 0) ∧ ∃ w σ1, Q2 (some (some (.long w))) σ1 E2 ∧ σ2 = (σ1.1, ab_u σ1.2.1 249 0 w, σ1.2.2)))) := by
  refine ab_enterW (by decide +kernel) (fun G => Nat.le_of_ble_eq_true rfl) ?_
  show ab_Fr ML_shut (d + 1) _ 0 [some (.ref 3), some (.int a1), some (.int a2), some (.int a3), some (.ref 249), none] [] (0, 0) σ (ab_E0 sc)
  refine ab_aload dL_shut_0 rfl ?_
  refine ab_iconst (v := 0) dL_shut_2 (by decide) ?_
  refine ab_aloadn dL_shut_3 rfl ?_
  refine ab_iloadn dL_shut_4 rfl ?_
  refine ab_iloadn dL_shut_5 rfl ?_
  refine ab_iloadn dL_shut_6 rfl ?_
  refine ab_callX (vs := [.int a1, .int a2, .int a3]) (st := [.int 0, .ref 249]) (ins := .astore 5) (len := 2) (kx := 5) (hs := 0) (he := 11) (hp := 14) dL_shut_7 okMX11_shut wd_1239 kd_3 rfl rfl rfl (Nat.le_of_ble_eq_true rfl) ⟨Nat.le_of_ble_eq_true rfl, Nat.le_of_ble_eq_true rfl⟩ rfl tb_shut ⟨Nat.le_of_ble_eq_true rfl, Nat.le_of_ble_eq_true rfl⟩ hc ?_ (Or.inl ⟨rfl, rfl⟩) dL_shut_14 (Nat.le_of_ble_eq_true rfl) rfl (by intro v hv; cases hv; rfl) ?_
  · intro v σ2 E2 _ hq
    obtain ⟨rfl, hw⟩ := hE _ _ _ hq
    obtain ⟨w, rfl⟩ := hw v rfl
    show ab_Fr ML_shut (d + 1) _ 10 [some (.ref 3), some (.int a1), some (.int a2), some (.int a3), some (.ref 249), none] [.long w, .int 0, .ref 249] (1, 6) σ2 (ab_E0 sc)
    refine ab_lastore dL_shut_10 kd_249 (ab_vp (by decide)) ?_
    refine ab_goto (tgt := 18) dL_shut_11 (by decide) ?_
    refine ab_iconst (v := 0) dL_shut_18 (by decide) ?_
    exact ab_iret dL_shut_19 rfl ⟨Nat.le_of_ble_eq_true rfl, Nat.le_of_ble_eq_true rfl⟩ ⟨_, rfl, rfl, Or.inr ⟨rfl, w, σ2, hq, rfl⟩⟩
  · intro σ2 E2 _ hq
    obtain ⟨rfl, -⟩ := hE _ _ _ hq
    show ab_Fr ML_shut (d + 1) _ 16 [some (.ref 3), some (.int a1), some (.int a2), some (.int a3), some (.ref 249), none] [] (1, 6) σ2 (ab_E0 sc)
    refine ab_iconst (v := 1) dL_shut_16 (by decide) ?_
    exact ab_iret dL_shut_17 rfl ⟨Nat.le_of_ble_eq_true rfl, Nat.le_of_ble_eq_true rfl⟩ ⟨_, rfl, rfl, Or.inl ⟨rfl, hq⟩⟩
theorem tb_many : ab_tb ML_many = [(0, 9, 12, 13)] := by decide +kernel
theorem cw_many : Cond.codeWith ML_many.1 ML_many.2.1 ML_many.2.2.1 ML_many.2.2.2.1 (ab_tb ML_many) ∈ ab_tbl := by
  rw [tb_many]
  exact ab_w6 123 rfl rfl
theorem wr_many {d : Nat} {sc : Nat × (Nat → Int32)} {a1 a2 : Int32} {σ : ab_S} {Q2 : ab_Qt} (hc : ab_CallX MX11_many d [.ref 3, .int a1, .int a2] σ (ab_E0 sc) Q2) (hE : ∀ o σ E, Q2 o σ E → E = ab_E0 sc ∧ ∀ v, o = some v → ∃ w : Int64, v = some (.long w)) : ab_CallW ML_many (d + 1) [.ref 3, .int a1, .int a2, .ref 249] σ (ab_E0 sc) (fun v σ2 E2 => E2 = ab_E0 sc ∧ ((v = some (.int 1) ∧ Q2 none σ2 E2) ∨ (v = some (.int 0) ∧ ∃ w σ1, Q2 (some (some (.long w))) σ1 E2 ∧ σ2 = (σ1.1, ab_u σ1.2.1 249 0 w, σ1.2.2)))) := by
  refine ab_enterW (by decide +kernel) (fun G => Nat.le_of_ble_eq_true rfl) ?_
  show ab_Fr ML_many (d + 1) _ 0 [some (.ref 3), some (.int a1), some (.int a2), some (.ref 249), none] [] (0, 0) σ (ab_E0 sc)
  refine ab_aloadn dL_many_0 rfl ?_
  refine ab_iconst (v := 0) dL_many_1 (by decide) ?_
  refine ab_aloadn dL_many_2 rfl ?_
  refine ab_iloadn dL_many_3 rfl ?_
  refine ab_iloadn dL_many_4 rfl ?_
  refine ab_callX (vs := [.int a1, .int a2]) (st := [.int 0, .ref 249]) (ins := .astore 4) (len := 2) (kx := 4) (hs := 0) (he := 9) (hp := 12) dL_many_5 okMX11_many wd_1245 kd_3 rfl rfl rfl (Nat.le_of_ble_eq_true rfl) ⟨Nat.le_of_ble_eq_true rfl, Nat.le_of_ble_eq_true rfl⟩ rfl tb_many ⟨Nat.le_of_ble_eq_true rfl, Nat.le_of_ble_eq_true rfl⟩ hc ?_ (Or.inl ⟨rfl, rfl⟩) dL_many_12 (Nat.le_of_ble_eq_true rfl) rfl (by intro v hv; cases hv; rfl) ?_
  · intro v σ2 E2 _ hq
    obtain ⟨rfl, hw⟩ := hE _ _ _ hq
    obtain ⟨w, rfl⟩ := hw v rfl
    show ab_Fr ML_many (d + 1) _ 8 [some (.ref 3), some (.int a1), some (.int a2), some (.ref 249), none] [.long w, .int 0, .ref 249] (1, 6) σ2 (ab_E0 sc)
    refine ab_lastore dL_many_8 kd_249 (ab_vp (by decide)) ?_
    refine ab_goto (tgt := 16) dL_many_9 (by decide) ?_
    refine ab_iconst (v := 0) dL_many_16 (by decide) ?_
    exact ab_iret dL_many_17 rfl ⟨Nat.le_of_ble_eq_true rfl, Nat.le_of_ble_eq_true rfl⟩ ⟨_, rfl, rfl, Or.inr ⟨rfl, w, σ2, hq, rfl⟩⟩
  · intro σ2 E2 _ hq
    obtain ⟨rfl, -⟩ := hE _ _ _ hq
    show ab_Fr ML_many (d + 1) _ 14 [some (.ref 3), some (.int a1), some (.int a2), some (.ref 249), none] [] (1, 6) σ2 (ab_E0 sc)
    refine ab_iconst (v := 1) dL_many_14 (by decide) ?_
    exact ab_iret dL_many_15 rfl ⟨Nat.le_of_ble_eq_true rfl, Nat.le_of_ble_eq_true rfl⟩ ⟨_, rfl, rfl, Or.inl ⟨rfl, hq⟩⟩
