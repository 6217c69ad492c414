def la_L (i : Int32) : List (Option Value) := [some (.ref 0), some (.ref 3), some (.ref 205), some (.ref 249), some (.int i), none, none, none]
def la_in (sc : Nat × (Nat → Int32)) (i : Int32) : Prop := vp_in i sc.1 ∧ vp_in (i + 1) sc.1 ∧ vp_in (i + 2) sc.1 ∧ vp_in (i + 3) sc.1 ∧ vp_in (i + 4) sc.1 ∧ vp_in (i + 5) sc.1
def la_a (sc : Nat × (Nat → Int32)) (i j : Int32) : Int32 := sc.2 (i + j).toNatClampNeg
def la_o (σ : ab_S) (w : Int64) : ab_S := (σ.1, ab_u σ.2.1 249 0 w, σ.2.2)
def la_c0 (d : Nat) (sc : Nat × (Nat → Int32)) (I : ab_S → Prop) : Prop := ∀ (σ : ab_S) (a1 a2 a3 a4 a5 : Int32), I σ → ∃ (r : Int32) (P : ab_S → Prop), ab_Sp MX11_feed (d + 1) [.ref 3, .int a1, .int a2, .int a3, .int a4, .int a5] σ (ab_E0 sc) (some (.int r)) P ∧ ∀ σ1, P σ1 → ab_Sp MX12_feed (d + 1) [.ref 205, .int a1, .int a2, .int a3, .int a4, .int a5] σ1 (ab_E0 sc) (some (.int r)) I
theorem la_case0 {d c z : Nat} {Q : ab_Qt} {sc : Nat × (Nat → Int32)} {i : Int32} {σ : ab_S} {I : ab_S → Prop} (hc : la_c0 d sc I) (hI : I σ) (hi : la_in sc i) (hz : c + 1 ≤ 601024 ∧ z + 6 ≤ 7293034) (h : ∀ (σ2 : ab_S) (c2 z2 : Nat), I σ2 → c2 ≤ c + 1 → z2 ≤ z + 6 → ab_Fr ML_law (d + 2) Q 1576 (la_L i) [] (c2, z2) σ2 (ab_E0 sc)) : ab_Fr ML_law (d + 2) Q 224 (la_L i) [] (c, z) σ (ab_E0 sc) := by
  obtain ⟨r, P, h1, h2⟩ := hc σ (la_a sc i 1) (la_a sc i 2) (la_a sc i 3) (la_a sc i 4) (la_a sc i 5) hI
  refine ab_aloadn dL_law_224 rfl ?_
  refine ab_aloadn dL_law_225 rfl ?_
  refine ab_iload dL_law_226 rfl ?_
  refine ab_iconst (v := 1) dL_law_228 (by decide) ?_
  refine ab_iadd dL_law_229 ?_
  refine ab_sld (v := la_a sc i 1) dL_law_230 hi.2.1 rfl ?_
  refine ab_aloadn dL_law_231 rfl ?_
  refine ab_iload dL_law_232 rfl ?_
  refine ab_iconst (v := 2) dL_law_234 (by decide) ?_
  refine ab_iadd dL_law_235 ?_
  refine ab_sld (v := la_a sc i 2) dL_law_236 hi.2.2.1 rfl ?_
  refine ab_aloadn dL_law_237 rfl ?_
  refine ab_iload dL_law_238 rfl ?_
  refine ab_iconst (v := 3) dL_law_240 (by decide) ?_
  refine ab_iadd dL_law_241 ?_
  refine ab_sld (v := la_a sc i 3) dL_law_242 hi.2.2.2.1 rfl ?_
  refine ab_aloadn dL_law_243 rfl ?_
  refine ab_iload dL_law_244 rfl ?_
  refine ab_iconst (v := 4) dL_law_246 (by decide) ?_
  refine ab_iadd dL_law_247 ?_
  refine ab_sld (v := la_a sc i 4) dL_law_248 hi.2.2.2.2.1 rfl ?_
  refine ab_aloadn dL_law_249 rfl ?_
  refine ab_iload dL_law_250 rfl ?_
  refine ab_iconst (v := 5) dL_law_252 (by decide) ?_
  refine ab_iadd dL_law_253 ?_
  refine ab_sld (v := la_a sc i 5) dL_law_254 hi.2.2.2.2.2 rfl ?_
  refine ab_callV (vs := [.int (la_a sc i 1), .int (la_a sc i 2), .int (la_a sc i 3), .int (la_a sc i 4), .int (la_a sc i 5)]) (st := []) dL_law_255 okMX11_feed wd_522 kd_3 rfl rfl rfl (Nat.le_of_ble_eq_true rfl) ⟨Nat.le_trans (Nat.le_add_right _ 1) hz.1, Nat.le_trans (Nat.le_add_right _ 6) hz.2⟩ h1 ?_
  rintro v9 σ1 E9 - ⟨rfl, rfl, p1⟩
  show ab_Fr ML_law (d + 2) Q 258 (la_L i) [.int r] (c, z) σ1 (ab_E0 sc)
  refine ab_aloadn dL_law_258 rfl ?_
  refine ab_aloadn dL_law_259 rfl ?_
  refine ab_iload dL_law_260 rfl ?_
  refine ab_iconst (v := 1) dL_law_262 (by decide) ?_
  refine ab_iadd dL_law_263 ?_
  refine ab_sld (v := la_a sc i 1) dL_law_264 hi.2.1 rfl ?_
  refine ab_aloadn dL_law_265 rfl ?_
  refine ab_iload dL_law_266 rfl ?_
  refine ab_iconst (v := 2) dL_law_268 (by decide) ?_
  refine ab_iadd dL_law_269 ?_
  refine ab_sld (v := la_a sc i 2) dL_law_270 hi.2.2.1 rfl ?_
  refine ab_aloadn dL_law_271 rfl ?_
  refine ab_iload dL_law_272 rfl ?_
  refine ab_iconst (v := 3) dL_law_274 (by decide) ?_
  refine ab_iadd dL_law_275 ?_
  refine ab_sld (v := la_a sc i 3) dL_law_276 hi.2.2.2.1 rfl ?_
  refine ab_aloadn dL_law_277 rfl ?_
  refine ab_iload dL_law_278 rfl ?_
  refine ab_iconst (v := 4) dL_law_280 (by decide) ?_
  refine ab_iadd dL_law_281 ?_
  refine ab_sld (v := la_a sc i 4) dL_law_282 hi.2.2.2.2.1 rfl ?_
  refine ab_aloadn dL_law_283 rfl ?_
  refine ab_iload dL_law_284 rfl ?_
  refine ab_iconst (v := 5) dL_law_286 (by decide) ?_
  refine ab_iadd dL_law_287 ?_
  refine ab_sld (v := la_a sc i 5) dL_law_288 hi.2.2.2.2.2 rfl ?_
  refine ab_callV (vs := [.int (la_a sc i 1), .int (la_a sc i 2), .int (la_a sc i 3), .int (la_a sc i 4), .int (la_a sc i 5)]) (st := [.int r]) dL_law_289 okMX12_feed wd_1403 kd_205 rfl rfl rfl (Nat.le_of_ble_eq_true rfl) ⟨Nat.le_trans (Nat.le_add_right _ 1) hz.1, Nat.le_trans (Nat.le_add_right _ 6) hz.2⟩ (h2 σ1 p1) ?_
  rintro v9 σ2 E9 - ⟨rfl, rfl, p2⟩
  show ab_Fr ML_law (d + 2) Q 292 (la_L i) [.int r, .int r] (c, z) σ2 (ab_E0 sc)
  refine ab_icmp_eq (tgt := 1576) dL_law_292 (by decide) (fun _ => ?_) (fun z => absurd rfl z)
  exact (h σ2 c z p2 (Nat.le_add_right _ _) (Nat.le_add_right _ _))
def la_c1 (d : Nat) (sc : Nat × (Nat → Int32)) (I : ab_S → Prop) : Prop := ∀ (σ : ab_S) (a1 : Int32), I σ → ∃ (r : Int32) (P : ab_S → Prop), ab_Sp MX11_end (d + 1) [.ref 3, .int a1] σ (ab_E0 sc) (some (.int r)) P ∧ ∀ σ1, P σ1 → ab_Sp MX12_end (d + 1) [.ref 205, .int a1] σ1 (ab_E0 sc) (some (.int r)) I
theorem la_case1 {d c z : Nat} {Q : ab_Qt} {sc : Nat × (Nat → Int32)} {i : Int32} {σ : ab_S} {I : ab_S → Prop} (hc : la_c1 d sc I) (hI : I σ) (hi : la_in sc i) (hz : c + 1 ≤ 601024 ∧ z + 6 ≤ 7293034) (h : ∀ (σ2 : ab_S) (c2 z2 : Nat), I σ2 → c2 ≤ c + 1 → z2 ≤ z + 6 → ab_Fr ML_law (d + 2) Q 1576 (la_L i) [] (c2, z2) σ2 (ab_E0 sc)) : ab_Fr ML_law (d + 2) Q 297 (la_L i) [] (c, z) σ (ab_E0 sc) := by
  obtain ⟨r, P, h1, h2⟩ := hc σ (la_a sc i 1) hI
  refine ab_aloadn dL_law_297 rfl ?_
  refine ab_aloadn dL_law_298 rfl ?_
  refine ab_iload dL_law_299 rfl ?_
  refine ab_iconst (v := 1) dL_law_301 (by decide) ?_
  refine ab_iadd dL_law_302 ?_
  refine ab_sld (v := la_a sc i 1) dL_law_303 hi.2.1 rfl ?_
  refine ab_callV (vs := [.int (la_a sc i 1)]) (st := []) dL_law_304 okMX11_end wd_533 kd_3 rfl rfl rfl (Nat.le_of_ble_eq_true rfl) ⟨Nat.le_trans (Nat.le_add_right _ 1) hz.1, Nat.le_trans (Nat.le_add_right _ 6) hz.2⟩ h1 ?_
  rintro v9 σ1 E9 - ⟨rfl, rfl, p1⟩
  show ab_Fr ML_law (d + 2) Q 307 (la_L i) [.int r] (c, z) σ1 (ab_E0 sc)
  refine ab_aloadn dL_law_307 rfl ?_
  refine ab_aloadn dL_law_308 rfl ?_
  refine ab_iload dL_law_309 rfl ?_
  refine ab_iconst (v := 1) dL_law_311 (by decide) ?_
  refine ab_iadd dL_law_312 ?_
  refine ab_sld (v := la_a sc i 1) dL_law_313 hi.2.1 rfl ?_
  refine ab_callV (vs := [.int (la_a sc i 1)]) (st := [.int r]) dL_law_314 okMX12_end wd_1410 kd_205 rfl rfl rfl (Nat.le_of_ble_eq_true rfl) ⟨Nat.le_trans (Nat.le_add_right _ 1) hz.1, Nat.le_trans (Nat.le_add_right _ 6) hz.2⟩ (h2 σ1 p1) ?_
  rintro v9 σ2 E9 - ⟨rfl, rfl, p2⟩
  show ab_Fr ML_law (d + 2) Q 317 (la_L i) [.int r, .int r] (c, z) σ2 (ab_E0 sc)
  refine ab_icmp_eq (tgt := 1576) dL_law_317 (by decide) (fun _ => ?_) (fun z => absurd rfl z)
  exact (h σ2 c z p2 (Nat.le_add_right _ _) (Nat.le_add_right _ _))
def la_c2 (d : Nat) (sc : Nat × (Nat → Int32)) (I : ab_S → Prop) : Prop := ∀ (σ : ab_S), I σ → ∃ (r : Int32) (P : ab_S → Prop), ab_Sp MX11_matter (d + 1) [.ref 3] σ (ab_E0 sc) (some (.int r)) P ∧ ∀ σ1, P σ1 → ab_Sp MX12_matter (d + 1) [.ref 205] σ1 (ab_E0 sc) (some (.int r)) I
theorem la_case2 {d c z : Nat} {Q : ab_Qt} {sc : Nat × (Nat → Int32)} {i : Int32} {σ : ab_S} {I : ab_S → Prop} (hc : la_c2 d sc I) (hI : I σ) (hi : la_in sc i) (hz : c + 1 ≤ 601024 ∧ z + 6 ≤ 7293034) (h : ∀ (σ2 : ab_S) (c2 z2 : Nat), I σ2 → c2 ≤ c + 1 → z2 ≤ z + 6 → ab_Fr ML_law (d + 2) Q 1576 (la_L i) [] (c2, z2) σ2 (ab_E0 sc)) : ab_Fr ML_law (d + 2) Q 322 (la_L i) [] (c, z) σ (ab_E0 sc) := by
  obtain ⟨r, P, h1, h2⟩ := hc σ hI
  refine ab_aloadn dL_law_322 rfl ?_
  refine ab_callV (vs := []) (st := []) dL_law_323 okMX11_matter wd_541 kd_3 rfl rfl rfl (Nat.le_of_ble_eq_true rfl) ⟨Nat.le_trans (Nat.le_add_right _ 1) hz.1, Nat.le_trans (Nat.le_add_right _ 6) hz.2⟩ h1 ?_
  rintro v9 σ1 E9 - ⟨rfl, rfl, p1⟩
  show ab_Fr ML_law (d + 2) Q 326 (la_L i) [.int r] (c, z) σ1 (ab_E0 sc)
  refine ab_aloadn dL_law_326 rfl ?_
  refine ab_callV (vs := []) (st := [.int r]) dL_law_327 okMX12_matter wd_1414 kd_205 rfl rfl rfl (Nat.le_of_ble_eq_true rfl) ⟨Nat.le_trans (Nat.le_add_right _ 1) hz.1, Nat.le_trans (Nat.le_add_right _ 6) hz.2⟩ (h2 σ1 p1) ?_
  rintro v9 σ2 E9 - ⟨rfl, rfl, p2⟩
  show ab_Fr ML_law (d + 2) Q 330 (la_L i) [.int r, .int r] (c, z) σ2 (ab_E0 sc)
  refine ab_icmp_eq (tgt := 1576) dL_law_330 (by decide) (fun _ => ?_) (fun z => absurd rfl z)
  exact (h σ2 c z p2 (Nat.le_add_right _ _) (Nat.le_add_right _ _))
def la_c3 (d : Nat) (sc : Nat × (Nat → Int32)) (I : ab_S → Prop) : Prop := ∀ (σ : ab_S), I σ → ∃ (r : Int32) (P : ab_S → Prop), ab_Sp MX11_fault (d + 1) [.ref 3] σ (ab_E0 sc) (some (.int r)) P ∧ ∀ σ1, P σ1 → ab_Sp MX12_fault (d + 1) [.ref 205] σ1 (ab_E0 sc) (some (.int r)) I
theorem la_case3 {d c z : Nat} {Q : ab_Qt} {sc : Nat × (Nat → Int32)} {i : Int32} {σ : ab_S} {I : ab_S → Prop} (hc : la_c3 d sc I) (hI : I σ) (hi : la_in sc i) (hz : c + 1 ≤ 601024 ∧ z + 6 ≤ 7293034) (h : ∀ (σ2 : ab_S) (c2 z2 : Nat), I σ2 → c2 ≤ c + 1 → z2 ≤ z + 6 → ab_Fr ML_law (d + 2) Q 1576 (la_L i) [] (c2, z2) σ2 (ab_E0 sc)) : ab_Fr ML_law (d + 2) Q 335 (la_L i) [] (c, z) σ (ab_E0 sc) := by
  obtain ⟨r, P, h1, h2⟩ := hc σ hI
  refine ab_aloadn dL_law_335 rfl ?_
  refine ab_callV (vs := []) (st := []) dL_law_336 okMX11_fault wd_663 kd_3 rfl rfl rfl (Nat.le_of_ble_eq_true rfl) ⟨Nat.le_trans (Nat.le_add_right _ 1) hz.1, Nat.le_trans (Nat.le_add_right _ 6) hz.2⟩ h1 ?_
  rintro v9 σ1 E9 - ⟨rfl, rfl, p1⟩
  show ab_Fr ML_law (d + 2) Q 339 (la_L i) [.int r] (c, z) σ1 (ab_E0 sc)
  refine ab_aloadn dL_law_339 rfl ?_
  refine ab_callV (vs := []) (st := [.int r]) dL_law_340 okMX12_fault wd_1541 kd_205 rfl rfl rfl (Nat.le_of_ble_eq_true rfl) ⟨Nat.le_trans (Nat.le_add_right _ 1) hz.1, Nat.le_trans (Nat.le_add_right _ 6) hz.2⟩ (h2 σ1 p1) ?_
  rintro v9 σ2 E9 - ⟨rfl, rfl, p2⟩
  show ab_Fr ML_law (d + 2) Q 343 (la_L i) [.int r, .int r] (c, z) σ2 (ab_E0 sc)
  refine ab_icmp_eq (tgt := 1576) dL_law_343 (by decide) (fun _ => ?_) (fun z => absurd rfl z)
  exact (h σ2 c z p2 (Nat.le_add_right _ _) (Nat.le_add_right _ _))
def la_c4 (d : Nat) (sc : Nat × (Nat → Int32)) (I : ab_S → Prop) : Prop := ∀ (σ : ab_S) (a1 : Int32), I σ → ∃ (r : Int32) (P : ab_S → Prop), ab_Sp MX11_count (d + 1) [.ref 3, .int a1] σ (ab_E0 sc) (some (.int r)) P ∧ ∀ σ1, P σ1 → ab_Sp MX12_count (d + 1) [.ref 205, .int a1] σ1 (ab_E0 sc) (some (.int r)) I
theorem la_case4 {d c z : Nat} {Q : ab_Qt} {sc : Nat × (Nat → Int32)} {i : Int32} {σ : ab_S} {I : ab_S → Prop} (hc : la_c4 d sc I) (hI : I σ) (hi : la_in sc i) (hz : c + 1 ≤ 601024 ∧ z + 6 ≤ 7293034) (h : ∀ (σ2 : ab_S) (c2 z2 : Nat), I σ2 → c2 ≤ c + 1 → z2 ≤ z + 6 → ab_Fr ML_law (d + 2) Q 1576 (la_L i) [] (c2, z2) σ2 (ab_E0 sc)) : ab_Fr ML_law (d + 2) Q 348 (la_L i) [] (c, z) σ (ab_E0 sc) := by
  obtain ⟨r, P, h1, h2⟩ := hc σ (la_a sc i 1) hI
  refine ab_aloadn dL_law_348 rfl ?_
  refine ab_aloadn dL_law_349 rfl ?_
  refine ab_iload dL_law_350 rfl ?_
  refine ab_iconst (v := 1) dL_law_352 (by decide) ?_
  refine ab_iadd dL_law_353 ?_
  refine ab_sld (v := la_a sc i 1) dL_law_354 hi.2.1 rfl ?_
  refine ab_callV (vs := [.int (la_a sc i 1)]) (st := []) dL_law_355 okMX11_count wd_667 kd_3 rfl rfl rfl (Nat.le_of_ble_eq_true rfl) ⟨Nat.le_trans (Nat.le_add_right _ 1) hz.1, Nat.le_trans (Nat.le_add_right _ 6) hz.2⟩ h1 ?_
  rintro v9 σ1 E9 - ⟨rfl, rfl, p1⟩
  show ab_Fr ML_law (d + 2) Q 358 (la_L i) [.int r] (c, z) σ1 (ab_E0 sc)
  refine ab_aloadn dL_law_358 rfl ?_
  refine ab_aloadn dL_law_359 rfl ?_
  refine ab_iload dL_law_360 rfl ?_
  refine ab_iconst (v := 1) dL_law_362 (by decide) ?_
  refine ab_iadd dL_law_363 ?_
  refine ab_sld (v := la_a sc i 1) dL_law_364 hi.2.1 rfl ?_
  refine ab_callV (vs := [.int (la_a sc i 1)]) (st := [.int r]) dL_law_365 okMX12_count wd_1545 kd_205 rfl rfl rfl (Nat.le_of_ble_eq_true rfl) ⟨Nat.le_trans (Nat.le_add_right _ 1) hz.1, Nat.le_trans (Nat.le_add_right _ 6) hz.2⟩ (h2 σ1 p1) ?_
  rintro v9 σ2 E9 - ⟨rfl, rfl, p2⟩
  show ab_Fr ML_law (d + 2) Q 368 (la_L i) [.int r, .int r] (c, z) σ2 (ab_E0 sc)
  refine ab_icmp_eq (tgt := 1576) dL_law_368 (by decide) (fun _ => ?_) (fun z => absurd rfl z)
  exact (h σ2 c z p2 (Nat.le_add_right _ _) (Nat.le_add_right _ _))
def la_c5 (d : Nat) (sc : Nat × (Nat → Int32)) (I : ab_S → Prop) : Prop := ∀ (σ : ab_S) (a1 : Int32), I σ → ∃ (r : Int32) (P : ab_S → Prop), ab_Sp MX11_signs (d + 1) [.ref 3, .int a1] σ (ab_E0 sc) (some (.int r)) P ∧ ∀ σ1, P σ1 → ab_Sp MX12_signs (d + 1) [.ref 205, .int a1] σ1 (ab_E0 sc) (some (.int r)) I
theorem la_case5 {d c z : Nat} {Q : ab_Qt} {sc : Nat × (Nat → Int32)} {i : Int32} {σ : ab_S} {I : ab_S → Prop} (hc : la_c5 d sc I) (hI : I σ) (hi : la_in sc i) (hz : c + 1 ≤ 601024 ∧ z + 6 ≤ 7293034) (h : ∀ (σ2 : ab_S) (c2 z2 : Nat), I σ2 → c2 ≤ c + 1 → z2 ≤ z + 6 → ab_Fr ML_law (d + 2) Q 1576 (la_L i) [] (c2, z2) σ2 (ab_E0 sc)) : ab_Fr ML_law (d + 2) Q 373 (la_L i) [] (c, z) σ (ab_E0 sc) := by
  obtain ⟨r, P, h1, h2⟩ := hc σ (la_a sc i 1) hI
  refine ab_aloadn dL_law_373 rfl ?_
  refine ab_aloadn dL_law_374 rfl ?_
  refine ab_iload dL_law_375 rfl ?_
  refine ab_iconst (v := 1) dL_law_377 (by decide) ?_
  refine ab_iadd dL_law_378 ?_
  refine ab_sld (v := la_a sc i 1) dL_law_379 hi.2.1 rfl ?_
  refine ab_callV (vs := [.int (la_a sc i 1)]) (st := []) dL_law_380 okMX11_signs wd_671 kd_3 rfl rfl rfl (Nat.le_of_ble_eq_true rfl) ⟨Nat.le_trans (Nat.le_add_right _ 1) hz.1, Nat.le_trans (Nat.le_add_right _ 6) hz.2⟩ h1 ?_
  rintro v9 σ1 E9 - ⟨rfl, rfl, p1⟩
  show ab_Fr ML_law (d + 2) Q 383 (la_L i) [.int r] (c, z) σ1 (ab_E0 sc)
  refine ab_aloadn dL_law_383 rfl ?_
  refine ab_aloadn dL_law_384 rfl ?_
  refine ab_iload dL_law_385 rfl ?_
  refine ab_iconst (v := 1) dL_law_387 (by decide) ?_
  refine ab_iadd dL_law_388 ?_
  refine ab_sld (v := la_a sc i 1) dL_law_389 hi.2.1 rfl ?_
  refine ab_callV (vs := [.int (la_a sc i 1)]) (st := [.int r]) dL_law_390 okMX12_signs wd_1549 kd_205 rfl rfl rfl (Nat.le_of_ble_eq_true rfl) ⟨Nat.le_trans (Nat.le_add_right _ 1) hz.1, Nat.le_trans (Nat.le_add_right _ 6) hz.2⟩ (h2 σ1 p1) ?_
  rintro v9 σ2 E9 - ⟨rfl, rfl, p2⟩
  show ab_Fr ML_law (d + 2) Q 393 (la_L i) [.int r, .int r] (c, z) σ2 (ab_E0 sc)
  refine ab_icmp_eq (tgt := 1576) dL_law_393 (by decide) (fun _ => ?_) (fun z => absurd rfl z)
  exact (h σ2 c z p2 (Nat.le_add_right _ _) (Nat.le_add_right _ _))
def la_c6 (d : Nat) (sc : Nat × (Nat → Int32)) (I : ab_S → Prop) : Prop := ∀ (σ : ab_S) (a1 : Int32), I σ → ∃ (o : Option Int64) (b : Int64) (P1 P2 : ab_S → Prop), ab_CallX MX11_parts d [.ref 3, .int a1] σ (ab_E0 sc) (fun v σ1 E1 => E1 = ab_E0 sc ∧ v = o.map (fun w => some (.long w)) ∧ P1 σ1) ∧ (∀ σ1 w, P1 σ1 → P1 (la_o σ1 w)) ∧ (∀ σ1, P1 σ1 → ab_Sp MX12_parts (d + 1) [.ref 205, .int a1] σ1 (ab_E0 sc) (some (.long b)) (fun σ2 => σ2.2.1 249 0 = σ1.2.1 249 0 ∧ P2 σ2)) ∧ (∀ σ2, P2 σ2 → I σ2 ∧ ab_Sp MX12_thrown (d + 1) [.ref 205] σ2 (ab_E0 sc) (some (.int (if o = none then 1 else 0))) (fun σ3 => σ3 = σ2)) ∧ ∀ w, o = some w → w = b
theorem la_case6 {d c z : Nat} {Q : ab_Qt} {sc : Nat × (Nat → Int32)} {i : Int32} {σ : ab_S} {I : ab_S → Prop} (hc : la_c6 d sc I) (hI : I σ) (hi : la_in sc i) (hz : c + 1 ≤ 601024 ∧ z + 6 ≤ 7293034) (h : ∀ (σ2 : ab_S) (c2 z2 : Nat), I σ2 → c2 ≤ c + 1 → z2 ≤ z + 6 → ab_Fr ML_law (d + 2) Q 1576 (la_L i) [] (c2, z2) σ2 (ab_E0 sc)) : ab_Fr ML_law (d + 2) Q 398 (la_L i) [] (c, z) σ (ab_E0 sc) := by
  obtain ⟨o, b, P1, P2, h1, h1b, h2, h3, hb⟩ := hc σ (la_a sc i 1) hI
  refine ab_aloadn dL_law_398 rfl ?_
  refine ab_aloadn dL_law_399 rfl ?_
  refine ab_iload dL_law_400 rfl ?_
  refine ab_iconst (v := 1) dL_law_402 (by decide) ?_
  refine ab_iadd dL_law_403 ?_
  refine ab_sld (v := la_a sc i 1) dL_law_404 hi.2.1 rfl ?_
  refine ab_aloadn dL_law_405 rfl ?_
  refine ab_callW (vs := [.ref 3, .int (la_a sc i 1), .ref 249]) (st := []) (n := 3) dL_law_406 wd_137 cw_parts ⟨by decide +kernel, by decide +kernel, by decide +kernel⟩ (Nat.le_of_ble_eq_true rfl) wd_1130 wd_1129 rfl rfl (Nat.le_of_ble_eq_true rfl) hz (wr_parts h1 (fun o2 σ2 E2 hq => ⟨hq.1, fun v hv => by have h9 := hq.2.1; rw [hv] at h9; cases o with | none => cases h9 | some w => exact ⟨w, Option.some.inj h9⟩⟩)) ?_
  rintro v9 σ1 E9 - ⟨rfl, hv⟩
  have hk : ∃ k9 : Int32, v9 = some (.int k9) ∧ k9 = (if o = none then 1 else 0) ∧ P1 σ1 ∧ ∀ w, o = some w → σ1.2.1 249 0 = w := by
    rcases hv with ⟨rfl, h9⟩ | ⟨rfl, w, σ0, h9, rfl⟩
    · cases o with
      | none => exact ⟨1, rfl, rfl, h9.2.2, fun w hw => by cases hw⟩
      | some w => cases h9.2.1
    · cases o with
      | none => cases h9.2.1
      | some w2 =>
        have h8 := h9.2.1
        simp only [Option.map_some, Option.some.injEq, Value.long.injEq] at h8
        refine ⟨0, rfl, rfl, h1b σ0 w h9.2.2, fun w3 hw => ?_⟩
        cases hw
        simp [ab_u, h8]
  obtain ⟨k9, rfl, hk9, p1, hw9⟩ := hk
  show ab_Fr ML_law (d + 2) Q 409 (la_L i) [.int k9] (c + 1, z + 6) σ1 (ab_E0 sc)
  refine ab_istore dL_law_409 (Nat.le_of_ble_eq_true rfl) (L2 := [some (.ref 0), some (.ref 3), some (.ref 205), some (.ref 249), some (.int i), some (.int k9), none, none]) rfl ?_
  refine ab_aloadn dL_law_411 rfl ?_
  refine ab_aloadn dL_law_412 rfl ?_
  refine ab_iload dL_law_413 rfl ?_
  refine ab_iconst (v := 1) dL_law_415 (by decide) ?_
  refine ab_iadd dL_law_416 ?_
  refine ab_sld (v := la_a sc i 1) dL_law_417 hi.2.1 rfl ?_
  refine ab_callV (vs := [.int (la_a sc i 1)]) (st := []) dL_law_418 okMX12_parts wd_1556 kd_205 rfl rfl rfl (Nat.le_of_ble_eq_true rfl) hz (h2 σ1 p1) ?_
  rintro v9 σ2 E9 - ⟨rfl, rfl, e2, p2⟩
  show ab_Fr ML_law (d + 2) Q 421 [some (.ref 0), some (.ref 3), some (.ref 205), some (.ref 249), some (.int i), some (.int k9), none, none] [.long b] (c + 1, z + 6) σ2 (ab_E0 sc)
  refine ab_lstore dL_law_421 (Nat.le_of_ble_eq_true rfl) (L2 := [some (.ref 0), some (.ref 3), some (.ref 205), some (.ref 249), some (.int i), some (.int k9), some (.long b), none]) rfl ?_
  refine ab_aloadn dL_law_423 rfl ?_
  refine ab_callV (vs := []) (st := []) dL_law_424 okMX12_thrown wd_1399 kd_205 rfl rfl rfl (Nat.le_of_ble_eq_true rfl) hz (h3 σ2 p2).2 ?_
  rintro v9 σ3 E9 - ⟨rfl, rfl, rfl⟩
  show ab_Fr ML_law (d + 2) Q 427 [some (.ref 0), some (.ref 3), some (.ref 205), some (.ref 249), some (.int i), some (.int k9), some (.long b), none] [.int (if o = none then 1 else 0)] (c + 1, z + 6) σ3 (ab_E0 sc)
  refine ab_iload dL_law_427 rfl ?_
  refine ab_icmp_eq (tgt := 434) dL_law_429 (by decide) (fun _ => ?_) (fun z => absurd hk9.symm z)
  have hend : ab_Fr ML_law (d + 2) Q 450 [some (.ref 0), some (.ref 3), some (.ref 205), some (.ref 249), some (.int i), some (.int k9), some (.long b), none] [] (c + 1, z + 6) σ3 (ab_E0 sc) := by
    refine ab_goto (tgt := 1576) dL_law_450 (by decide) ?_
    refine ab_forget (i := 5) (L2 := [some (.ref 0), some (.ref 3), some (.ref 205), some (.ref 249), some (.int i), none, some (.long b), none]) rfl ?_
    refine ab_forget (i := 6) (L2 := [some (.ref 0), some (.ref 3), some (.ref 205), some (.ref 249), some (.int i), none, none, none]) rfl ?_
    exact h σ3 (c + 1) (z + 6) (h3 σ3 p2).1 (Nat.le_refl _) (Nat.le_refl _)
  refine ab_iload dL_law_434 rfl ?_
  refine ab_if_ne (tgt := 450) dL_law_436 (by decide) (fun _ => hend) (fun k0 => ?_)
  refine ab_aloadn dL_law_439 rfl ?_
  refine ab_iconst (v := 0) dL_law_440 (by decide) ?_
  refine ab_laload (v := σ3.2.1 249 0) dL_law_441 kd_249 (ab_vp (by decide)) rfl ?_
  refine ab_lload dL_law_442 rfl ?_
  refine ab_lceq (tgt := 450) dL_law_444 dL_law_445 (by decide) (fun _ => hend) (fun z9 => absurd ?_ z9)
  cases o with
  | none => rw [k0] at hk9; exact absurd hk9 (by decide)
  | some w => rw [e2, hw9 w rfl, hb w rfl]
def la_c7 (d : Nat) (sc : Nat × (Nat → Int32)) (I : ab_S → Prop) : Prop := ∀ (σ : ab_S), I σ → ∃ (r : Int64) (P : ab_S → Prop), ab_Sp MX11_all (d + 1) [.ref 3] σ (ab_E0 sc) (some (.long r)) P ∧ ∀ σ1, P σ1 → ab_Sp MX12_all (d + 1) [.ref 205] σ1 (ab_E0 sc) (some (.long r)) I
theorem la_case7 {d c z : Nat} {Q : ab_Qt} {sc : Nat × (Nat → Int32)} {i : Int32} {σ : ab_S} {I : ab_S → Prop} (hc : la_c7 d sc I) (hI : I σ) (hi : la_in sc i) (hz : c + 1 ≤ 601024 ∧ z + 6 ≤ 7293034) (h : ∀ (σ2 : ab_S) (c2 z2 : Nat), I σ2 → c2 ≤ c + 1 → z2 ≤ z + 6 → ab_Fr ML_law (d + 2) Q 1576 (la_L i) [] (c2, z2) σ2 (ab_E0 sc)) : ab_Fr ML_law (d + 2) Q 453 (la_L i) [] (c, z) σ (ab_E0 sc) := by
  obtain ⟨r, P, h1, h2⟩ := hc σ hI
  refine ab_aloadn dL_law_453 rfl ?_
  refine ab_callV (vs := []) (st := []) dL_law_454 okMX11_all wd_679 kd_3 rfl rfl rfl (Nat.le_of_ble_eq_true rfl) ⟨Nat.le_trans (Nat.le_add_right _ 1) hz.1, Nat.le_trans (Nat.le_add_right _ 6) hz.2⟩ h1 ?_
  rintro v9 σ1 E9 - ⟨rfl, rfl, p1⟩
  show ab_Fr ML_law (d + 2) Q 457 (la_L i) [.long r] (c, z) σ1 (ab_E0 sc)
  refine ab_aloadn dL_law_457 rfl ?_
  refine ab_callV (vs := []) (st := [.long r]) dL_law_458 okMX12_all wd_1569 kd_205 rfl rfl rfl (Nat.le_of_ble_eq_true rfl) ⟨Nat.le_trans (Nat.le_add_right _ 1) hz.1, Nat.le_trans (Nat.le_add_right _ 6) hz.2⟩ (h2 σ1 p1) ?_
  rintro v9 σ2 E9 - ⟨rfl, rfl, p2⟩
  show ab_Fr ML_law (d + 2) Q 461 (la_L i) [.long r, .long r] (c, z) σ2 (ab_E0 sc)
  refine ab_lceq (tgt := 1576) dL_law_461 dL_law_462 (by decide) (fun _ => ?_) (fun z => absurd rfl z)
  exact (h σ2 c z p2 (Nat.le_add_right _ _) (Nat.le_add_right _ _))
def la_c8 (d : Nat) (sc : Nat × (Nat → Int32)) (I : ab_S → Prop) : Prop := ∀ (σ : ab_S) (a1 a2 : Int32), I σ → ∃ (r : Int32) (P : ab_S → Prop), ab_Sp MX11_vote (d + 1) [.ref 3, .int a1, .int a2] σ (ab_E0 sc) (some (.int r)) P ∧ ∀ σ1, P σ1 → ab_Sp MX12_vote (d + 1) [.ref 205, .int a1, .int a2] σ1 (ab_E0 sc) (some (.int r)) I
theorem la_case8 {d c z : Nat} {Q : ab_Qt} {sc : Nat × (Nat → Int32)} {i : Int32} {σ : ab_S} {I : ab_S → Prop} (hc : la_c8 d sc I) (hI : I σ) (hi : la_in sc i) (hz : c + 1 ≤ 601024 ∧ z + 6 ≤ 7293034) (h : ∀ (σ2 : ab_S) (c2 z2 : Nat), I σ2 → c2 ≤ c + 1 → z2 ≤ z + 6 → ab_Fr ML_law (d + 2) Q 1576 (la_L i) [] (c2, z2) σ2 (ab_E0 sc)) : ab_Fr ML_law (d + 2) Q 467 (la_L i) [] (c, z) σ (ab_E0 sc) := by
  obtain ⟨r, P, h1, h2⟩ := hc σ (la_a sc i 1) (la_a sc i 2) hI
  refine ab_aloadn dL_law_467 rfl ?_
  refine ab_aloadn dL_law_468 rfl ?_
  refine ab_iload dL_law_469 rfl ?_
  refine ab_iconst (v := 1) dL_law_471 (by decide) ?_
  refine ab_iadd dL_law_472 ?_
  refine ab_sld (v := la_a sc i 1) dL_law_473 hi.2.1 rfl ?_
  refine ab_aloadn dL_law_474 rfl ?_
  refine ab_iload dL_law_475 rfl ?_
  refine ab_iconst (v := 2) dL_law_477 (by decide) ?_
  refine ab_iadd dL_law_478 ?_
  refine ab_sld (v := la_a sc i 2) dL_law_479 hi.2.2.1 rfl ?_
  refine ab_callV (vs := [.int (la_a sc i 1), .int (la_a sc i 2)]) (st := []) dL_law_480 okMX11_vote wd_687 kd_3 rfl rfl rfl (Nat.le_of_ble_eq_true rfl) ⟨Nat.le_trans (Nat.le_add_right _ 1) hz.1, Nat.le_trans (Nat.le_add_right _ 6) hz.2⟩ h1 ?_
  rintro v9 σ1 E9 - ⟨rfl, rfl, p1⟩
  show ab_Fr ML_law (d + 2) Q 483 (la_L i) [.int r] (c, z) σ1 (ab_E0 sc)
  refine ab_aloadn dL_law_483 rfl ?_
  refine ab_aloadn dL_law_484 rfl ?_
  refine ab_iload dL_law_485 rfl ?_
  refine ab_iconst (v := 1) dL_law_487 (by decide) ?_
  refine ab_iadd dL_law_488 ?_
  refine ab_sld (v := la_a sc i 1) dL_law_489 hi.2.1 rfl ?_
  refine ab_aloadn dL_law_490 rfl ?_
  refine ab_iload dL_law_491 rfl ?_
  refine ab_iconst (v := 2) dL_law_493 (by decide) ?_
  refine ab_iadd dL_law_494 ?_
  refine ab_sld (v := la_a sc i 2) dL_law_495 hi.2.2.1 rfl ?_
  refine ab_callV (vs := [.int (la_a sc i 1), .int (la_a sc i 2)]) (st := [.int r]) dL_law_496 okMX12_vote wd_1573 kd_205 rfl rfl rfl (Nat.le_of_ble_eq_true rfl) ⟨Nat.le_trans (Nat.le_add_right _ 1) hz.1, Nat.le_trans (Nat.le_add_right _ 6) hz.2⟩ (h2 σ1 p1) ?_
  rintro v9 σ2 E9 - ⟨rfl, rfl, p2⟩
  show ab_Fr ML_law (d + 2) Q 499 (la_L i) [.int r, .int r] (c, z) σ2 (ab_E0 sc)
  refine ab_icmp_eq (tgt := 1576) dL_law_499 (by decide) (fun _ => ?_) (fun z => absurd rfl z)
  exact (h σ2 c z p2 (Nat.le_add_right _ _) (Nat.le_add_right _ _))
def la_c9 (d : Nat) (sc : Nat × (Nat → Int32)) (I : ab_S → Prop) : Prop := ∀ (σ : ab_S), I σ → ∃ (r : Int32) (P : ab_S → Prop), ab_Sp MX11_decided (d + 1) [.ref 3] σ (ab_E0 sc) (some (.int r)) P ∧ ∀ σ1, P σ1 → ab_Sp MX12_decided (d + 1) [.ref 205] σ1 (ab_E0 sc) (some (.int r)) I
theorem la_case9 {d c z : Nat} {Q : ab_Qt} {sc : Nat × (Nat → Int32)} {i : Int32} {σ : ab_S} {I : ab_S → Prop} (hc : la_c9 d sc I) (hI : I σ) (hi : la_in sc i) (hz : c + 1 ≤ 601024 ∧ z + 6 ≤ 7293034) (h : ∀ (σ2 : ab_S) (c2 z2 : Nat), I σ2 → c2 ≤ c + 1 → z2 ≤ z + 6 → ab_Fr ML_law (d + 2) Q 1576 (la_L i) [] (c2, z2) σ2 (ab_E0 sc)) : ab_Fr ML_law (d + 2) Q 504 (la_L i) [] (c, z) σ (ab_E0 sc) := by
  obtain ⟨r, P, h1, h2⟩ := hc σ hI
  refine ab_aloadn dL_law_504 rfl ?_
  refine ab_callV (vs := []) (st := []) dL_law_505 okMX11_decided wd_696 kd_3 rfl rfl rfl (Nat.le_of_ble_eq_true rfl) ⟨Nat.le_trans (Nat.le_add_right _ 1) hz.1, Nat.le_trans (Nat.le_add_right _ 6) hz.2⟩ h1 ?_
  rintro v9 σ1 E9 - ⟨rfl, rfl, p1⟩
  show ab_Fr ML_law (d + 2) Q 508 (la_L i) [.int r] (c, z) σ1 (ab_E0 sc)
  refine ab_aloadn dL_law_508 rfl ?_
  refine ab_callV (vs := []) (st := [.int r]) dL_law_509 okMX12_decided wd_1580 kd_205 rfl rfl rfl (Nat.le_of_ble_eq_true rfl) ⟨Nat.le_trans (Nat.le_add_right _ 1) hz.1, Nat.le_trans (Nat.le_add_right _ 6) hz.2⟩ (h2 σ1 p1) ?_
  rintro v9 σ2 E9 - ⟨rfl, rfl, p2⟩
  show ab_Fr ML_law (d + 2) Q 512 (la_L i) [.int r, .int r] (c, z) σ2 (ab_E0 sc)
  refine ab_icmp_eq (tgt := 1576) dL_law_512 (by decide) (fun _ => ?_) (fun z => absurd rfl z)
  exact (h σ2 c z p2 (Nat.le_add_right _ _) (Nat.le_add_right _ _))
def la_c10 (d : Nat) (sc : Nat × (Nat → Int32)) (I : ab_S → Prop) : Prop := ∀ (σ : ab_S), I σ → ∃ (r : Int64) (P : ab_S → Prop), ab_Sp MX11_right (d + 1) [.ref 3] σ (ab_E0 sc) (some (.long r)) P ∧ ∀ σ1, P σ1 → ab_Sp MX12_right (d + 1) [.ref 205] σ1 (ab_E0 sc) (some (.long r)) I
theorem la_case10 {d c z : Nat} {Q : ab_Qt} {sc : Nat × (Nat → Int32)} {i : Int32} {σ : ab_S} {I : ab_S → Prop} (hc : la_c10 d sc I) (hI : I σ) (hi : la_in sc i) (hz : c + 1 ≤ 601024 ∧ z + 6 ≤ 7293034) (h : ∀ (σ2 : ab_S) (c2 z2 : Nat), I σ2 → c2 ≤ c + 1 → z2 ≤ z + 6 → ab_Fr ML_law (d + 2) Q 1576 (la_L i) [] (c2, z2) σ2 (ab_E0 sc)) : ab_Fr ML_law (d + 2) Q 517 (la_L i) [] (c, z) σ (ab_E0 sc) := by
  obtain ⟨r, P, h1, h2⟩ := hc σ hI
  refine ab_aloadn dL_law_517 rfl ?_
  refine ab_callV (vs := []) (st := []) dL_law_518 okMX11_right wd_721 kd_3 rfl rfl rfl (Nat.le_of_ble_eq_true rfl) ⟨Nat.le_trans (Nat.le_add_right _ 1) hz.1, Nat.le_trans (Nat.le_add_right _ 6) hz.2⟩ h1 ?_
  rintro v9 σ1 E9 - ⟨rfl, rfl, p1⟩
  show ab_Fr ML_law (d + 2) Q 521 (la_L i) [.long r] (c, z) σ1 (ab_E0 sc)
  refine ab_aloadn dL_law_521 rfl ?_
  refine ab_callV (vs := []) (st := [.long r]) dL_law_522 okMX12_right wd_1590 kd_205 rfl rfl rfl (Nat.le_of_ble_eq_true rfl) ⟨Nat.le_trans (Nat.le_add_right _ 1) hz.1, Nat.le_trans (Nat.le_add_right _ 6) hz.2⟩ (h2 σ1 p1) ?_
  rintro v9 σ2 E9 - ⟨rfl, rfl, p2⟩
  show ab_Fr ML_law (d + 2) Q 525 (la_L i) [.long r, .long r] (c, z) σ2 (ab_E0 sc)
  refine ab_lceq (tgt := 1576) dL_law_525 dL_law_526 (by decide) (fun _ => ?_) (fun z => absurd rfl z)
  exact (h σ2 c z p2 (Nat.le_add_right _ _) (Nat.le_add_right _ _))
def la_c11 (d : Nat) (sc : Nat × (Nat → Int32)) (I : ab_S → Prop) : Prop := ∀ (σ : ab_S) (a1 a2 : Int32), I σ → ∃ (o : Option Int64) (b : Int64) (P1 P2 : ab_S → Prop), ab_CallX MX11_comes d [.ref 3, .int a1, .int a2] σ (ab_E0 sc) (fun v σ1 E1 => E1 = ab_E0 sc ∧ v = o.map (fun w => some (.long w)) ∧ P1 σ1) ∧ (∀ σ1 w, P1 σ1 → P1 (la_o σ1 w)) ∧ (∀ σ1, P1 σ1 → ab_Sp MX12_comes (d + 1) [.ref 205, .int a1, .int a2] σ1 (ab_E0 sc) (some (.long b)) (fun σ2 => σ2.2.1 249 0 = σ1.2.1 249 0 ∧ P2 σ2)) ∧ (∀ σ2, P2 σ2 → I σ2 ∧ ab_Sp MX12_thrown (d + 1) [.ref 205] σ2 (ab_E0 sc) (some (.int (if o = none then 1 else 0))) (fun σ3 => σ3 = σ2)) ∧ ∀ w, o = some w → w = b
theorem la_case11 {d c z : Nat} {Q : ab_Qt} {sc : Nat × (Nat → Int32)} {i : Int32} {σ : ab_S} {I : ab_S → Prop} (hc : la_c11 d sc I) (hI : I σ) (hi : la_in sc i) (hz : c + 1 ≤ 601024 ∧ z + 6 ≤ 7293034) (h : ∀ (σ2 : ab_S) (c2 z2 : Nat), I σ2 → c2 ≤ c + 1 → z2 ≤ z + 6 → ab_Fr ML_law (d + 2) Q 1576 (la_L i) [] (c2, z2) σ2 (ab_E0 sc)) : ab_Fr ML_law (d + 2) Q 531 (la_L i) [] (c, z) σ (ab_E0 sc) := by
  obtain ⟨o, b, P1, P2, h1, h1b, h2, h3, hb⟩ := hc σ (la_a sc i 1) (la_a sc i 2) hI
  refine ab_aloadn dL_law_531 rfl ?_
  refine ab_aloadn dL_law_532 rfl ?_
  refine ab_iload dL_law_533 rfl ?_
  refine ab_iconst (v := 1) dL_law_535 (by decide) ?_
  refine ab_iadd dL_law_536 ?_
  refine ab_sld (v := la_a sc i 1) dL_law_537 hi.2.1 rfl ?_
  refine ab_aloadn dL_law_538 rfl ?_
  refine ab_iload dL_law_539 rfl ?_
  refine ab_iconst (v := 2) dL_law_541 (by decide) ?_
  refine ab_iadd dL_law_542 ?_
  refine ab_sld (v := la_a sc i 2) dL_law_543 hi.2.2.1 rfl ?_
  refine ab_aloadn dL_law_544 rfl ?_
  refine ab_callW (vs := [.ref 3, .int (la_a sc i 1), .int (la_a sc i 2), .ref 249]) (st := []) (n := 4) dL_law_545 wd_137 cw_comes ⟨by decide +kernel, by decide +kernel, by decide +kernel⟩ (Nat.le_of_ble_eq_true rfl) wd_1178 wd_1177 rfl rfl (Nat.le_of_ble_eq_true rfl) hz (wr_comes h1 (fun o2 σ2 E2 hq => ⟨hq.1, fun v hv => by have h9 := hq.2.1; rw [hv] at h9; cases o with | none => cases h9 | some w => exact ⟨w, Option.some.inj h9⟩⟩)) ?_
  rintro v9 σ1 E9 - ⟨rfl, hv⟩
  have hk : ∃ k9 : Int32, v9 = some (.int k9) ∧ k9 = (if o = none then 1 else 0) ∧ P1 σ1 ∧ ∀ w, o = some w → σ1.2.1 249 0 = w := by
    rcases hv with ⟨rfl, h9⟩ | ⟨rfl, w, σ0, h9, rfl⟩
    · cases o with
      | none => exact ⟨1, rfl, rfl, h9.2.2, fun w hw => by cases hw⟩
      | some w => cases h9.2.1
    · cases o with
      | none => cases h9.2.1
      | some w2 =>
        have h8 := h9.2.1
        simp only [Option.map_some, Option.some.injEq, Value.long.injEq] at h8
        refine ⟨0, rfl, rfl, h1b σ0 w h9.2.2, fun w3 hw => ?_⟩
        cases hw
        simp [ab_u, h8]
  obtain ⟨k9, rfl, hk9, p1, hw9⟩ := hk
  show ab_Fr ML_law (d + 2) Q 548 (la_L i) [.int k9] (c + 1, z + 6) σ1 (ab_E0 sc)
  refine ab_istore dL_law_548 (Nat.le_of_ble_eq_true rfl) (L2 := [some (.ref 0), some (.ref 3), some (.ref 205), some (.ref 249), some (.int i), some (.int k9), none, none]) rfl ?_
  refine ab_aloadn dL_law_550 rfl ?_
  refine ab_aloadn dL_law_551 rfl ?_
  refine ab_iload dL_law_552 rfl ?_
  refine ab_iconst (v := 1) dL_law_554 (by decide) ?_
  refine ab_iadd dL_law_555 ?_
  refine ab_sld (v := la_a sc i 1) dL_law_556 hi.2.1 rfl ?_
  refine ab_aloadn dL_law_557 rfl ?_
  refine ab_iload dL_law_558 rfl ?_
  refine ab_iconst (v := 2) dL_law_560 (by decide) ?_
  refine ab_iadd dL_law_561 ?_
  refine ab_sld (v := la_a sc i 2) dL_law_562 hi.2.2.1 rfl ?_
  refine ab_callV (vs := [.int (la_a sc i 1), .int (la_a sc i 2)]) (st := []) dL_law_563 okMX12_comes wd_1604 kd_205 rfl rfl rfl (Nat.le_of_ble_eq_true rfl) hz (h2 σ1 p1) ?_
  rintro v9 σ2 E9 - ⟨rfl, rfl, e2, p2⟩
  show ab_Fr ML_law (d + 2) Q 566 [some (.ref 0), some (.ref 3), some (.ref 205), some (.ref 249), some (.int i), some (.int k9), none, none] [.long b] (c + 1, z + 6) σ2 (ab_E0 sc)
  refine ab_lstore dL_law_566 (Nat.le_of_ble_eq_true rfl) (L2 := [some (.ref 0), some (.ref 3), some (.ref 205), some (.ref 249), some (.int i), some (.int k9), some (.long b), none]) rfl ?_
  refine ab_aloadn dL_law_568 rfl ?_
  refine ab_callV (vs := []) (st := []) dL_law_569 okMX12_thrown wd_1399 kd_205 rfl rfl rfl (Nat.le_of_ble_eq_true rfl) hz (h3 σ2 p2).2 ?_
  rintro v9 σ3 E9 - ⟨rfl, rfl, rfl⟩
  show ab_Fr ML_law (d + 2) Q 572 [some (.ref 0), some (.ref 3), some (.ref 205), some (.ref 249), some (.int i), some (.int k9), some (.long b), none] [.int (if o = none then 1 else 0)] (c + 1, z + 6) σ3 (ab_E0 sc)
  refine ab_iload dL_law_572 rfl ?_
  refine ab_icmp_eq (tgt := 579) dL_law_574 (by decide) (fun _ => ?_) (fun z => absurd hk9.symm z)
  have hend : ab_Fr ML_law (d + 2) Q 595 [some (.ref 0), some (.ref 3), some (.ref 205), some (.ref 249), some (.int i), some (.int k9), some (.long b), none] [] (c + 1, z + 6) σ3 (ab_E0 sc) := by
    refine ab_goto (tgt := 1576) dL_law_595 (by decide) ?_
    refine ab_forget (i := 5) (L2 := [some (.ref 0), some (.ref 3), some (.ref 205), some (.ref 249), some (.int i), none, some (.long b), none]) rfl ?_
    refine ab_forget (i := 6) (L2 := [some (.ref 0), some (.ref 3), some (.ref 205), some (.ref 249), some (.int i), none, none, none]) rfl ?_
    exact h σ3 (c + 1) (z + 6) (h3 σ3 p2).1 (Nat.le_refl _) (Nat.le_refl _)
  refine ab_iload dL_law_579 rfl ?_
  refine ab_if_ne (tgt := 595) dL_law_581 (by decide) (fun _ => hend) (fun k0 => ?_)
  refine ab_aloadn dL_law_584 rfl ?_
  refine ab_iconst (v := 0) dL_law_585 (by decide) ?_
  refine ab_laload (v := σ3.2.1 249 0) dL_law_586 kd_249 (ab_vp (by decide)) rfl ?_
  refine ab_lload dL_law_587 rfl ?_
  refine ab_lceq (tgt := 595) dL_law_589 dL_law_590 (by decide) (fun _ => hend) (fun z9 => absurd ?_ z9)
  cases o with
  | none => rw [k0] at hk9; exact absurd hk9 (by decide)
  | some w => rw [e2, hw9 w rfl, hb w rfl]
def la_c12 (d : Nat) (sc : Nat × (Nat → Int32)) (I : ab_S → Prop) : Prop := ∀ (σ : ab_S), I σ → ∃ (r : Int64) (P : ab_S → Prop), ab_Sp MX11_lost (d + 1) [.ref 3] σ (ab_E0 sc) (some (.long r)) P ∧ ∀ σ1, P σ1 → ab_Sp MX12_lost (d + 1) [.ref 205] σ1 (ab_E0 sc) (some (.long r)) I
theorem la_case12 {d c z : Nat} {Q : ab_Qt} {sc : Nat × (Nat → Int32)} {i : Int32} {σ : ab_S} {I : ab_S → Prop} (hc : la_c12 d sc I) (hI : I σ) (hi : la_in sc i) (hz : c + 1 ≤ 601024 ∧ z + 6 ≤ 7293034) (h : ∀ (σ2 : ab_S) (c2 z2 : Nat), I σ2 → c2 ≤ c + 1 → z2 ≤ z + 6 → ab_Fr ML_law (d + 2) Q 1576 (la_L i) [] (c2, z2) σ2 (ab_E0 sc)) : ab_Fr ML_law (d + 2) Q 598 (la_L i) [] (c, z) σ (ab_E0 sc) := by
  obtain ⟨r, P, h1, h2⟩ := hc σ hI
  refine ab_aloadn dL_law_598 rfl ?_
  refine ab_callV (vs := []) (st := []) dL_law_599 okMX11_lost wd_769 kd_3 rfl rfl rfl (Nat.le_of_ble_eq_true rfl) ⟨Nat.le_trans (Nat.le_add_right _ 1) hz.1, Nat.le_trans (Nat.le_add_right _ 6) hz.2⟩ h1 ?_
  rintro v9 σ1 E9 - ⟨rfl, rfl, p1⟩
  show ab_Fr ML_law (d + 2) Q 602 (la_L i) [.long r] (c, z) σ1 (ab_E0 sc)
  refine ab_aloadn dL_law_602 rfl ?_
  refine ab_callV (vs := []) (st := [.long r]) dL_law_603 okMX12_lost wd_1597 kd_205 rfl rfl rfl (Nat.le_of_ble_eq_true rfl) ⟨Nat.le_trans (Nat.le_add_right _ 1) hz.1, Nat.le_trans (Nat.le_add_right _ 6) hz.2⟩ (h2 σ1 p1) ?_
  rintro v9 σ2 E9 - ⟨rfl, rfl, p2⟩
  show ab_Fr ML_law (d + 2) Q 606 (la_L i) [.long r, .long r] (c, z) σ2 (ab_E0 sc)
  refine ab_lceq (tgt := 1576) dL_law_606 dL_law_607 (by decide) (fun _ => ?_) (fun z => absurd rfl z)
  exact (h σ2 c z p2 (Nat.le_add_right _ _) (Nat.le_add_right _ _))
def la_c13 (d : Nat) (sc : Nat × (Nat → Int32)) (I : ab_S → Prop) : Prop := ∀ (σ : ab_S), I σ → ∃ (r : Int32) (P : ab_S → Prop), ab_Sp MX11_known (d + 1) [.ref 3] σ (ab_E0 sc) (some (.int r)) P ∧ ∀ σ1, P σ1 → ab_Sp MX12_known (d + 1) [.ref 205] σ1 (ab_E0 sc) (some (.int r)) I
theorem la_case13 {d c z : Nat} {Q : ab_Qt} {sc : Nat × (Nat → Int32)} {i : Int32} {σ : ab_S} {I : ab_S → Prop} (hc : la_c13 d sc I) (hI : I σ) (hi : la_in sc i) (hz : c + 1 ≤ 601024 ∧ z + 6 ≤ 7293034) (h : ∀ (σ2 : ab_S) (c2 z2 : Nat), I σ2 → c2 ≤ c + 1 → z2 ≤ z + 6 → ab_Fr ML_law (d + 2) Q 1576 (la_L i) [] (c2, z2) σ2 (ab_E0 sc)) : ab_Fr ML_law (d + 2) Q 612 (la_L i) [] (c, z) σ (ab_E0 sc) := by
  obtain ⟨r, P, h1, h2⟩ := hc σ hI
  refine ab_aloadn dL_law_612 rfl ?_
  refine ab_callV (vs := []) (st := []) dL_law_613 okMX11_known wd_784 kd_3 rfl rfl rfl (Nat.le_of_ble_eq_true rfl) ⟨Nat.le_trans (Nat.le_add_right _ 1) hz.1, Nat.le_trans (Nat.le_add_right _ 6) hz.2⟩ h1 ?_
  rintro v9 σ1 E9 - ⟨rfl, rfl, p1⟩
  show ab_Fr ML_law (d + 2) Q 616 (la_L i) [.int r] (c, z) σ1 (ab_E0 sc)
  refine ab_aloadn dL_law_616 rfl ?_
  refine ab_callV (vs := []) (st := [.int r]) dL_law_617 okMX12_known wd_1608 kd_205 rfl rfl rfl (Nat.le_of_ble_eq_true rfl) ⟨Nat.le_trans (Nat.le_add_right _ 1) hz.1, Nat.le_trans (Nat.le_add_right _ 6) hz.2⟩ (h2 σ1 p1) ?_
  rintro v9 σ2 E9 - ⟨rfl, rfl, p2⟩
  show ab_Fr ML_law (d + 2) Q 620 (la_L i) [.int r, .int r] (c, z) σ2 (ab_E0 sc)
  refine ab_icmp_eq (tgt := 1576) dL_law_620 (by decide) (fun _ => ?_) (fun z => absurd rfl z)
  exact (h σ2 c z p2 (Nat.le_add_right _ _) (Nat.le_add_right _ _))
def la_c14 (d : Nat) (sc : Nat × (Nat → Int32)) (I : ab_S → Prop) : Prop := ∀ (σ : ab_S) (a1 : Int32), I σ → ∃ (o : Option Int64) (b : Int64) (P1 P2 : ab_S → Prop), ab_CallX MX11_knows d [.ref 3, .int a1] σ (ab_E0 sc) (fun v σ1 E1 => E1 = ab_E0 sc ∧ v = o.map (fun w => some (.long w)) ∧ P1 σ1) ∧ (∀ σ1 w, P1 σ1 → P1 (la_o σ1 w)) ∧ (∀ σ1, P1 σ1 → ab_Sp MX12_knows (d + 1) [.ref 205, .int a1] σ1 (ab_E0 sc) (some (.long b)) (fun σ2 => σ2.2.1 249 0 = σ1.2.1 249 0 ∧ P2 σ2)) ∧ (∀ σ2, P2 σ2 → I σ2 ∧ ab_Sp MX12_thrown (d + 1) [.ref 205] σ2 (ab_E0 sc) (some (.int (if o = none then 1 else 0))) (fun σ3 => σ3 = σ2)) ∧ ∀ w, o = some w → w = b
theorem la_case14 {d c z : Nat} {Q : ab_Qt} {sc : Nat × (Nat → Int32)} {i : Int32} {σ : ab_S} {I : ab_S → Prop} (hc : la_c14 d sc I) (hI : I σ) (hi : la_in sc i) (hz : c + 1 ≤ 601024 ∧ z + 6 ≤ 7293034) (h : ∀ (σ2 : ab_S) (c2 z2 : Nat), I σ2 → c2 ≤ c + 1 → z2 ≤ z + 6 → ab_Fr ML_law (d + 2) Q 1576 (la_L i) [] (c2, z2) σ2 (ab_E0 sc)) : ab_Fr ML_law (d + 2) Q 625 (la_L i) [] (c, z) σ (ab_E0 sc) := by
  obtain ⟨o, b, P1, P2, h1, h1b, h2, h3, hb⟩ := hc σ (la_a sc i 1) hI
  refine ab_aloadn dL_law_625 rfl ?_
  refine ab_aloadn dL_law_626 rfl ?_
  refine ab_iload dL_law_627 rfl ?_
  refine ab_iconst (v := 1) dL_law_629 (by decide) ?_
  refine ab_iadd dL_law_630 ?_
  refine ab_sld (v := la_a sc i 1) dL_law_631 hi.2.1 rfl ?_
  refine ab_aloadn dL_law_632 rfl ?_
  refine ab_callW (vs := [.ref 3, .int (la_a sc i 1), .ref 249]) (st := []) (n := 3) dL_law_633 wd_137 cw_knows ⟨by decide +kernel, by decide +kernel, by decide +kernel⟩ (Nat.le_of_ble_eq_true rfl) wd_1184 wd_1183 rfl rfl (Nat.le_of_ble_eq_true rfl) hz (wr_knows h1 (fun o2 σ2 E2 hq => ⟨hq.1, fun v hv => by have h9 := hq.2.1; rw [hv] at h9; cases o with | none => cases h9 | some w => exact ⟨w, Option.some.inj h9⟩⟩)) ?_
  rintro v9 σ1 E9 - ⟨rfl, hv⟩
  have hk : ∃ k9 : Int32, v9 = some (.int k9) ∧ k9 = (if o = none then 1 else 0) ∧ P1 σ1 ∧ ∀ w, o = some w → σ1.2.1 249 0 = w := by
    rcases hv with ⟨rfl, h9⟩ | ⟨rfl, w, σ0, h9, rfl⟩
    · cases o with
      | none => exact ⟨1, rfl, rfl, h9.2.2, fun w hw => by cases hw⟩
      | some w => cases h9.2.1
    · cases o with
      | none => cases h9.2.1
      | some w2 =>
        have h8 := h9.2.1
        simp only [Option.map_some, Option.some.injEq, Value.long.injEq] at h8
        refine ⟨0, rfl, rfl, h1b σ0 w h9.2.2, fun w3 hw => ?_⟩
        cases hw
        simp [ab_u, h8]
  obtain ⟨k9, rfl, hk9, p1, hw9⟩ := hk
  show ab_Fr ML_law (d + 2) Q 636 (la_L i) [.int k9] (c + 1, z + 6) σ1 (ab_E0 sc)
  refine ab_istore dL_law_636 (Nat.le_of_ble_eq_true rfl) (L2 := [some (.ref 0), some (.ref 3), some (.ref 205), some (.ref 249), some (.int i), some (.int k9), none, none]) rfl ?_
  refine ab_aloadn dL_law_638 rfl ?_
  refine ab_aloadn dL_law_639 rfl ?_
  refine ab_iload dL_law_640 rfl ?_
  refine ab_iconst (v := 1) dL_law_642 (by decide) ?_
  refine ab_iadd dL_law_643 ?_
  refine ab_sld (v := la_a sc i 1) dL_law_644 hi.2.1 rfl ?_
  refine ab_callV (vs := [.int (la_a sc i 1)]) (st := []) dL_law_645 okMX12_knows wd_1618 kd_205 rfl rfl rfl (Nat.le_of_ble_eq_true rfl) hz (h2 σ1 p1) ?_
  rintro v9 σ2 E9 - ⟨rfl, rfl, e2, p2⟩
  show ab_Fr ML_law (d + 2) Q 648 [some (.ref 0), some (.ref 3), some (.ref 205), some (.ref 249), some (.int i), some (.int k9), none, none] [.long b] (c + 1, z + 6) σ2 (ab_E0 sc)
  refine ab_lstore dL_law_648 (Nat.le_of_ble_eq_true rfl) (L2 := [some (.ref 0), some (.ref 3), some (.ref 205), some (.ref 249), some (.int i), some (.int k9), some (.long b), none]) rfl ?_
  refine ab_aloadn dL_law_650 rfl ?_
  refine ab_callV (vs := []) (st := []) dL_law_651 okMX12_thrown wd_1399 kd_205 rfl rfl rfl (Nat.le_of_ble_eq_true rfl) hz (h3 σ2 p2).2 ?_
  rintro v9 σ3 E9 - ⟨rfl, rfl, rfl⟩
  show ab_Fr ML_law (d + 2) Q 654 [some (.ref 0), some (.ref 3), some (.ref 205), some (.ref 249), some (.int i), some (.int k9), some (.long b), none] [.int (if o = none then 1 else 0)] (c + 1, z + 6) σ3 (ab_E0 sc)
  refine ab_iload dL_law_654 rfl ?_
  refine ab_icmp_eq (tgt := 661) dL_law_656 (by decide) (fun _ => ?_) (fun z => absurd hk9.symm z)
  have hend : ab_Fr ML_law (d + 2) Q 677 [some (.ref 0), some (.ref 3), some (.ref 205), some (.ref 249), some (.int i), some (.int k9), some (.long b), none] [] (c + 1, z + 6) σ3 (ab_E0 sc) := by
    refine ab_goto (tgt := 1576) dL_law_677 (by decide) ?_
    refine ab_forget (i := 5) (L2 := [some (.ref 0), some (.ref 3), some (.ref 205), some (.ref 249), some (.int i), none, some (.long b), none]) rfl ?_
    refine ab_forget (i := 6) (L2 := [some (.ref 0), some (.ref 3), some (.ref 205), some (.ref 249), some (.int i), none, none, none]) rfl ?_
    exact h σ3 (c + 1) (z + 6) (h3 σ3 p2).1 (Nat.le_refl _) (Nat.le_refl _)
  refine ab_iload dL_law_661 rfl ?_
  refine ab_if_ne (tgt := 677) dL_law_663 (by decide) (fun _ => hend) (fun k0 => ?_)
  refine ab_aloadn dL_law_666 rfl ?_
  refine ab_iconst (v := 0) dL_law_667 (by decide) ?_
  refine ab_laload (v := σ3.2.1 249 0) dL_law_668 kd_249 (ab_vp (by decide)) rfl ?_
  refine ab_lload dL_law_669 rfl ?_
  refine ab_lceq (tgt := 677) dL_law_671 dL_law_672 (by decide) (fun _ => hend) (fun z9 => absurd ?_ z9)
  cases o with
  | none => rw [k0] at hk9; exact absurd hk9 (by decide)
  | some w => rw [e2, hw9 w rfl, hb w rfl]
def la_c15 (d : Nat) (sc : Nat × (Nat → Int32)) (I : ab_S → Prop) : Prop := ∀ (σ : ab_S) (a1 a2 : Int32), I σ → ∃ (o : Option Int64) (b : Int64) (P1 P2 : ab_S → Prop), ab_CallX MX11_turns d [.ref 3, .int a1, .int a2] σ (ab_E0 sc) (fun v σ1 E1 => E1 = ab_E0 sc ∧ v = o.map (fun w => some (.long w)) ∧ P1 σ1) ∧ (∀ σ1 w, P1 σ1 → P1 (la_o σ1 w)) ∧ (∀ σ1, P1 σ1 → ab_Sp MX12_turns (d + 1) [.ref 205, .int a1, .int a2] σ1 (ab_E0 sc) (some (.long b)) (fun σ2 => σ2.2.1 249 0 = σ1.2.1 249 0 ∧ P2 σ2)) ∧ (∀ σ2, P2 σ2 → I σ2 ∧ ab_Sp MX12_thrown (d + 1) [.ref 205] σ2 (ab_E0 sc) (some (.int (if o = none then 1 else 0))) (fun σ3 => σ3 = σ2)) ∧ ∀ w, o = some w → w = b
theorem la_case15 {d c z : Nat} {Q : ab_Qt} {sc : Nat × (Nat → Int32)} {i : Int32} {σ : ab_S} {I : ab_S → Prop} (hc : la_c15 d sc I) (hI : I σ) (hi : la_in sc i) (hz : c + 1 ≤ 601024 ∧ z + 6 ≤ 7293034) (h : ∀ (σ2 : ab_S) (c2 z2 : Nat), I σ2 → c2 ≤ c + 1 → z2 ≤ z + 6 → ab_Fr ML_law (d + 2) Q 1576 (la_L i) [] (c2, z2) σ2 (ab_E0 sc)) : ab_Fr ML_law (d + 2) Q 680 (la_L i) [] (c, z) σ (ab_E0 sc) := by
  obtain ⟨o, b, P1, P2, h1, h1b, h2, h3, hb⟩ := hc σ (la_a sc i 1) (la_a sc i 2) hI
  refine ab_aloadn dL_law_680 rfl ?_
  refine ab_aloadn dL_law_681 rfl ?_
  refine ab_iload dL_law_682 rfl ?_
  refine ab_iconst (v := 1) dL_law_684 (by decide) ?_
  refine ab_iadd dL_law_685 ?_
  refine ab_sld (v := la_a sc i 1) dL_law_686 hi.2.1 rfl ?_
  refine ab_aloadn dL_law_687 rfl ?_
  refine ab_iload dL_law_688 rfl ?_
  refine ab_iconst (v := 2) dL_law_690 (by decide) ?_
  refine ab_iadd dL_law_691 ?_
  refine ab_sld (v := la_a sc i 2) dL_law_692 hi.2.2.1 rfl ?_
  refine ab_aloadn dL_law_693 rfl ?_
  refine ab_callW (vs := [.ref 3, .int (la_a sc i 1), .int (la_a sc i 2), .ref 249]) (st := []) (n := 4) dL_law_694 wd_137 cw_turns ⟨by decide +kernel, by decide +kernel, by decide +kernel⟩ (Nat.le_of_ble_eq_true rfl) wd_1199 wd_1198 rfl rfl (Nat.le_of_ble_eq_true rfl) hz (wr_turns h1 (fun o2 σ2 E2 hq => ⟨hq.1, fun v hv => by have h9 := hq.2.1; rw [hv] at h9; cases o with | none => cases h9 | some w => exact ⟨w, Option.some.inj h9⟩⟩)) ?_
  rintro v9 σ1 E9 - ⟨rfl, hv⟩
  have hk : ∃ k9 : Int32, v9 = some (.int k9) ∧ k9 = (if o = none then 1 else 0) ∧ P1 σ1 ∧ ∀ w, o = some w → σ1.2.1 249 0 = w := by
    rcases hv with ⟨rfl, h9⟩ | ⟨rfl, w, σ0, h9, rfl⟩
    · cases o with
      | none => exact ⟨1, rfl, rfl, h9.2.2, fun w hw => by cases hw⟩
      | some w => cases h9.2.1
    · cases o with
      | none => cases h9.2.1
      | some w2 =>
        have h8 := h9.2.1
        simp only [Option.map_some, Option.some.injEq, Value.long.injEq] at h8
        refine ⟨0, rfl, rfl, h1b σ0 w h9.2.2, fun w3 hw => ?_⟩
        cases hw
        simp [ab_u, h8]
  obtain ⟨k9, rfl, hk9, p1, hw9⟩ := hk
  show ab_Fr ML_law (d + 2) Q 697 (la_L i) [.int k9] (c + 1, z + 6) σ1 (ab_E0 sc)
  refine ab_istore dL_law_697 (Nat.le_of_ble_eq_true rfl) (L2 := [some (.ref 0), some (.ref 3), some (.ref 205), some (.ref 249), some (.int i), some (.int k9), none, none]) rfl ?_
  refine ab_aloadn dL_law_699 rfl ?_
  refine ab_aloadn dL_law_700 rfl ?_
  refine ab_iload dL_law_701 rfl ?_
  refine ab_iconst (v := 1) dL_law_703 (by decide) ?_
  refine ab_iadd dL_law_704 ?_
  refine ab_sld (v := la_a sc i 1) dL_law_705 hi.2.1 rfl ?_
  refine ab_aloadn dL_law_706 rfl ?_
  refine ab_iload dL_law_707 rfl ?_
  refine ab_iconst (v := 2) dL_law_709 (by decide) ?_
  refine ab_iadd dL_law_710 ?_
  refine ab_sld (v := la_a sc i 2) dL_law_711 hi.2.2.1 rfl ?_
  refine ab_callV (vs := [.int (la_a sc i 1), .int (la_a sc i 2)]) (st := []) dL_law_712 okMX12_turns wd_1622 kd_205 rfl rfl rfl (Nat.le_of_ble_eq_true rfl) hz (h2 σ1 p1) ?_
  rintro v9 σ2 E9 - ⟨rfl, rfl, e2, p2⟩
  show ab_Fr ML_law (d + 2) Q 715 [some (.ref 0), some (.ref 3), some (.ref 205), some (.ref 249), some (.int i), some (.int k9), none, none] [.long b] (c + 1, z + 6) σ2 (ab_E0 sc)
  refine ab_lstore dL_law_715 (Nat.le_of_ble_eq_true rfl) (L2 := [some (.ref 0), some (.ref 3), some (.ref 205), some (.ref 249), some (.int i), some (.int k9), some (.long b), none]) rfl ?_
  refine ab_aloadn dL_law_717 rfl ?_
  refine ab_callV (vs := []) (st := []) dL_law_718 okMX12_thrown wd_1399 kd_205 rfl rfl rfl (Nat.le_of_ble_eq_true rfl) hz (h3 σ2 p2).2 ?_
  rintro v9 σ3 E9 - ⟨rfl, rfl, rfl⟩
  show ab_Fr ML_law (d + 2) Q 721 [some (.ref 0), some (.ref 3), some (.ref 205), some (.ref 249), some (.int i), some (.int k9), some (.long b), none] [.int (if o = none then 1 else 0)] (c + 1, z + 6) σ3 (ab_E0 sc)
  refine ab_iload dL_law_721 rfl ?_
  refine ab_icmp_eq (tgt := 728) dL_law_723 (by decide) (fun _ => ?_) (fun z => absurd hk9.symm z)
  have hend : ab_Fr ML_law (d + 2) Q 744 [some (.ref 0), some (.ref 3), some (.ref 205), some (.ref 249), some (.int i), some (.int k9), some (.long b), none] [] (c + 1, z + 6) σ3 (ab_E0 sc) := by
    refine ab_goto (tgt := 1576) dL_law_744 (by decide) ?_
    refine ab_forget (i := 5) (L2 := [some (.ref 0), some (.ref 3), some (.ref 205), some (.ref 249), some (.int i), none, some (.long b), none]) rfl ?_
    refine ab_forget (i := 6) (L2 := [some (.ref 0), some (.ref 3), some (.ref 205), some (.ref 249), some (.int i), none, none, none]) rfl ?_
    exact h σ3 (c + 1) (z + 6) (h3 σ3 p2).1 (Nat.le_refl _) (Nat.le_refl _)
  refine ab_iload dL_law_728 rfl ?_
  refine ab_if_ne (tgt := 744) dL_law_730 (by decide) (fun _ => hend) (fun k0 => ?_)
  refine ab_aloadn dL_law_733 rfl ?_
  refine ab_iconst (v := 0) dL_law_734 (by decide) ?_
  refine ab_laload (v := σ3.2.1 249 0) dL_law_735 kd_249 (ab_vp (by decide)) rfl ?_
  refine ab_lload dL_law_736 rfl ?_
  refine ab_lceq (tgt := 744) dL_law_738 dL_law_739 (by decide) (fun _ => hend) (fun z9 => absurd ?_ z9)
  cases o with
  | none => rw [k0] at hk9; exact absurd hk9 (by decide)
  | some w => rw [e2, hw9 w rfl, hb w rfl]
def la_c16 (d : Nat) (sc : Nat × (Nat → Int32)) (I : ab_S → Prop) : Prop := ∀ (σ : ab_S) (a1 a2 a3 : Int32), I σ → ∃ (o : Option Int64) (b : Int64) (P1 P2 : ab_S → Prop), ab_CallX MX11_think d [.ref 3, .int a1, .int a2, .int a3] σ (ab_E0 sc) (fun v σ1 E1 => E1 = ab_E0 sc ∧ v = o.map (fun w => some (.long w)) ∧ P1 σ1) ∧ (∀ σ1 w, P1 σ1 → P1 (la_o σ1 w)) ∧ (∀ σ1, P1 σ1 → ab_Sp MX12_think (d + 1) [.ref 205, .int a1, .int a2, .int a3] σ1 (ab_E0 sc) (some (.long b)) (fun σ2 => σ2.2.1 249 0 = σ1.2.1 249 0 ∧ P2 σ2)) ∧ (∀ σ2, P2 σ2 → I σ2 ∧ ab_Sp MX12_thrown (d + 1) [.ref 205] σ2 (ab_E0 sc) (some (.int (if o = none then 1 else 0))) (fun σ3 => σ3 = σ2)) ∧ ∀ w, o = some w → w = b
theorem la_case16 {d c z : Nat} {Q : ab_Qt} {sc : Nat × (Nat → Int32)} {i : Int32} {σ : ab_S} {I : ab_S → Prop} (hc : la_c16 d sc I) (hI : I σ) (hi : la_in sc i) (hz : c + 1 ≤ 601024 ∧ z + 6 ≤ 7293034) (h : ∀ (σ2 : ab_S) (c2 z2 : Nat), I σ2 → c2 ≤ c + 1 → z2 ≤ z + 6 → ab_Fr ML_law (d + 2) Q 1576 (la_L i) [] (c2, z2) σ2 (ab_E0 sc)) : ab_Fr ML_law (d + 2) Q 747 (la_L i) [] (c, z) σ (ab_E0 sc) := by
  obtain ⟨o, b, P1, P2, h1, h1b, h2, h3, hb⟩ := hc σ (la_a sc i 1) (la_a sc i 2) (la_a sc i 3) hI
  refine ab_aloadn dL_law_747 rfl ?_
  refine ab_aloadn dL_law_748 rfl ?_
  refine ab_iload dL_law_749 rfl ?_
  refine ab_iconst (v := 1) dL_law_751 (by decide) ?_
  refine ab_iadd dL_law_752 ?_
  refine ab_sld (v := la_a sc i 1) dL_law_753 hi.2.1 rfl ?_
  refine ab_aloadn dL_law_754 rfl ?_
  refine ab_iload dL_law_755 rfl ?_
  refine ab_iconst (v := 2) dL_law_757 (by decide) ?_
  refine ab_iadd dL_law_758 ?_
  refine ab_sld (v := la_a sc i 2) dL_law_759 hi.2.2.1 rfl ?_
  refine ab_aloadn dL_law_760 rfl ?_
  refine ab_iload dL_law_761 rfl ?_
  refine ab_iconst (v := 3) dL_law_763 (by decide) ?_
  refine ab_iadd dL_law_764 ?_
  refine ab_sld (v := la_a sc i 3) dL_law_765 hi.2.2.2.1 rfl ?_
  refine ab_aloadn dL_law_766 rfl ?_
  refine ab_callW (vs := [.ref 3, .int (la_a sc i 1), .int (la_a sc i 2), .int (la_a sc i 3), .ref 249]) (st := []) (n := 5) dL_law_767 wd_137 cw_think ⟨by decide +kernel, by decide +kernel, by decide +kernel⟩ (Nat.le_of_ble_eq_true rfl) wd_1216 wd_1215 rfl rfl (Nat.le_of_ble_eq_true rfl) hz (wr_think h1 (fun o2 σ2 E2 hq => ⟨hq.1, fun v hv => by have h9 := hq.2.1; rw [hv] at h9; cases o with | none => cases h9 | some w => exact ⟨w, Option.some.inj h9⟩⟩)) ?_
  rintro v9 σ1 E9 - ⟨rfl, hv⟩
  have hk : ∃ k9 : Int32, v9 = some (.int k9) ∧ k9 = (if o = none then 1 else 0) ∧ P1 σ1 ∧ ∀ w, o = some w → σ1.2.1 249 0 = w := by
    rcases hv with ⟨rfl, h9⟩ | ⟨rfl, w, σ0, h9, rfl⟩
    · cases o with
      | none => exact ⟨1, rfl, rfl, h9.2.2, fun w hw => by cases hw⟩
      | some w => cases h9.2.1
    · cases o with
      | none => cases h9.2.1
      | some w2 =>
        have h8 := h9.2.1
        simp only [Option.map_some, Option.some.injEq, Value.long.injEq] at h8
        refine ⟨0, rfl, rfl, h1b σ0 w h9.2.2, fun w3 hw => ?_⟩
        cases hw
        simp [ab_u, h8]
  obtain ⟨k9, rfl, hk9, p1, hw9⟩ := hk
  show ab_Fr ML_law (d + 2) Q 770 (la_L i) [.int k9] (c + 1, z + 6) σ1 (ab_E0 sc)
  refine ab_istore dL_law_770 (Nat.le_of_ble_eq_true rfl) (L2 := [some (.ref 0), some (.ref 3), some (.ref 205), some (.ref 249), some (.int i), some (.int k9), none, none]) rfl ?_
  refine ab_aloadn dL_law_772 rfl ?_
  refine ab_aloadn dL_law_773 rfl ?_
  refine ab_iload dL_law_774 rfl ?_
  refine ab_iconst (v := 1) dL_law_776 (by decide) ?_
  refine ab_iadd dL_law_777 ?_
  refine ab_sld (v := la_a sc i 1) dL_law_778 hi.2.1 rfl ?_
  refine ab_aloadn dL_law_779 rfl ?_
  refine ab_iload dL_law_780 rfl ?_
  refine ab_iconst (v := 2) dL_law_782 (by decide) ?_
  refine ab_iadd dL_law_783 ?_
  refine ab_sld (v := la_a sc i 2) dL_law_784 hi.2.2.1 rfl ?_
  refine ab_aloadn dL_law_785 rfl ?_
  refine ab_iload dL_law_786 rfl ?_
  refine ab_iconst (v := 3) dL_law_788 (by decide) ?_
  refine ab_iadd dL_law_789 ?_
  refine ab_sld (v := la_a sc i 3) dL_law_790 hi.2.2.2.1 rfl ?_
  refine ab_callV (vs := [.int (la_a sc i 1), .int (la_a sc i 2), .int (la_a sc i 3)]) (st := []) dL_law_791 okMX12_think wd_1635 kd_205 rfl rfl rfl (Nat.le_of_ble_eq_true rfl) hz (h2 σ1 p1) ?_
  rintro v9 σ2 E9 - ⟨rfl, rfl, e2, p2⟩
  show ab_Fr ML_law (d + 2) Q 794 [some (.ref 0), some (.ref 3), some (.ref 205), some (.ref 249), some (.int i), some (.int k9), none, none] [.long b] (c + 1, z + 6) σ2 (ab_E0 sc)
  refine ab_lstore dL_law_794 (Nat.le_of_ble_eq_true rfl) (L2 := [some (.ref 0), some (.ref 3), some (.ref 205), some (.ref 249), some (.int i), some (.int k9), some (.long b), none]) rfl ?_
  refine ab_aloadn dL_law_796 rfl ?_
  refine ab_callV (vs := []) (st := []) dL_law_797 okMX12_thrown wd_1399 kd_205 rfl rfl rfl (Nat.le_of_ble_eq_true rfl) hz (h3 σ2 p2).2 ?_
  rintro v9 σ3 E9 - ⟨rfl, rfl, rfl⟩
  show ab_Fr ML_law (d + 2) Q 800 [some (.ref 0), some (.ref 3), some (.ref 205), some (.ref 249), some (.int i), some (.int k9), some (.long b), none] [.int (if o = none then 1 else 0)] (c + 1, z + 6) σ3 (ab_E0 sc)
  refine ab_iload dL_law_800 rfl ?_
  refine ab_icmp_eq (tgt := 807) dL_law_802 (by decide) (fun _ => ?_) (fun z => absurd hk9.symm z)
  have hend : ab_Fr ML_law (d + 2) Q 823 [some (.ref 0), some (.ref 3), some (.ref 205), some (.ref 249), some (.int i), some (.int k9), some (.long b), none] [] (c + 1, z + 6) σ3 (ab_E0 sc) := by
    refine ab_goto (tgt := 1576) dL_law_823 (by decide) ?_
    refine ab_forget (i := 5) (L2 := [some (.ref 0), some (.ref 3), some (.ref 205), some (.ref 249), some (.int i), none, some (.long b), none]) rfl ?_
    refine ab_forget (i := 6) (L2 := [some (.ref 0), some (.ref 3), some (.ref 205), some (.ref 249), some (.int i), none, none, none]) rfl ?_
    exact h σ3 (c + 1) (z + 6) (h3 σ3 p2).1 (Nat.le_refl _) (Nat.le_refl _)
  refine ab_iload dL_law_807 rfl ?_
  refine ab_if_ne (tgt := 823) dL_law_809 (by decide) (fun _ => hend) (fun k0 => ?_)
  refine ab_aloadn dL_law_812 rfl ?_
  refine ab_iconst (v := 0) dL_law_813 (by decide) ?_
  refine ab_laload (v := σ3.2.1 249 0) dL_law_814 kd_249 (ab_vp (by decide)) rfl ?_
  refine ab_lload dL_law_815 rfl ?_
  refine ab_lceq (tgt := 823) dL_law_817 dL_law_818 (by decide) (fun _ => hend) (fun z9 => absurd ?_ z9)
  cases o with
  | none => rw [k0] at hk9; exact absurd hk9 (by decide)
  | some w => rw [e2, hw9 w rfl, hb w rfl]
def la_c17 (d : Nat) (sc : Nat × (Nat → Int32)) (I : ab_S → Prop) : Prop := ∀ (σ : ab_S) (a1 a2 : Int32), I σ → ∃ (r : Int32) (P : ab_S → Prop), ab_Sp MX11_reply (d + 1) [.ref 3, .int a1, .int a2] σ (ab_E0 sc) (some (.int r)) P ∧ ∀ σ1, P σ1 → ab_Sp MX12_reply (d + 1) [.ref 205, .int a1, .int a2] σ1 (ab_E0 sc) (some (.int r)) I
theorem la_case17 {d c z : Nat} {Q : ab_Qt} {sc : Nat × (Nat → Int32)} {i : Int32} {σ : ab_S} {I : ab_S → Prop} (hc : la_c17 d sc I) (hI : I σ) (hi : la_in sc i) (hz : c + 1 ≤ 601024 ∧ z + 6 ≤ 7293034) (h : ∀ (σ2 : ab_S) (c2 z2 : Nat), I σ2 → c2 ≤ c + 1 → z2 ≤ z + 6 → ab_Fr ML_law (d + 2) Q 1576 (la_L i) [] (c2, z2) σ2 (ab_E0 sc)) : ab_Fr ML_law (d + 2) Q 826 (la_L i) [] (c, z) σ (ab_E0 sc) := by
  obtain ⟨r, P, h1, h2⟩ := hc σ (la_a sc i 1) (la_a sc i 2) hI
  refine ab_aloadn dL_law_826 rfl ?_
  refine ab_aloadn dL_law_827 rfl ?_
  refine ab_iload dL_law_828 rfl ?_
  refine ab_iconst (v := 1) dL_law_830 (by decide) ?_
  refine ab_iadd dL_law_831 ?_
  refine ab_sld (v := la_a sc i 1) dL_law_832 hi.2.1 rfl ?_
  refine ab_aloadn dL_law_833 rfl ?_
  refine ab_iload dL_law_834 rfl ?_
  refine ab_iconst (v := 2) dL_law_836 (by decide) ?_
  refine ab_iadd dL_law_837 ?_
  refine ab_sld (v := la_a sc i 2) dL_law_838 hi.2.2.1 rfl ?_
  refine ab_callV (vs := [.int (la_a sc i 1), .int (la_a sc i 2)]) (st := []) dL_law_839 okMX11_reply wd_796 kd_3 rfl rfl rfl (Nat.le_of_ble_eq_true rfl) ⟨Nat.le_trans (Nat.le_add_right _ 1) hz.1, Nat.le_trans (Nat.le_add_right _ 6) hz.2⟩ h1 ?_
  rintro v9 σ1 E9 - ⟨rfl, rfl, p1⟩
  show ab_Fr ML_law (d + 2) Q 842 (la_L i) [.int r] (c, z) σ1 (ab_E0 sc)
  refine ab_aloadn dL_law_842 rfl ?_
  refine ab_aloadn dL_law_843 rfl ?_
  refine ab_iload dL_law_844 rfl ?_
  refine ab_iconst (v := 1) dL_law_846 (by decide) ?_
  refine ab_iadd dL_law_847 ?_
  refine ab_sld (v := la_a sc i 1) dL_law_848 hi.2.1 rfl ?_
  refine ab_aloadn dL_law_849 rfl ?_
  refine ab_iload dL_law_850 rfl ?_
  refine ab_iconst (v := 2) dL_law_852 (by decide) ?_
  refine ab_iadd dL_law_853 ?_
  refine ab_sld (v := la_a sc i 2) dL_law_854 hi.2.2.1 rfl ?_
  refine ab_callV (vs := [.int (la_a sc i 1), .int (la_a sc i 2)]) (st := [.int r]) dL_law_855 okMX12_reply wd_1639 kd_205 rfl rfl rfl (Nat.le_of_ble_eq_true rfl) ⟨Nat.le_trans (Nat.le_add_right _ 1) hz.1, Nat.le_trans (Nat.le_add_right _ 6) hz.2⟩ (h2 σ1 p1) ?_
  rintro v9 σ2 E9 - ⟨rfl, rfl, p2⟩
  show ab_Fr ML_law (d + 2) Q 858 (la_L i) [.int r, .int r] (c, z) σ2 (ab_E0 sc)
  refine ab_icmp_eq (tgt := 1576) dL_law_858 (by decide) (fun _ => ?_) (fun z => absurd rfl z)
  exact (h σ2 c z p2 (Nat.le_add_right _ _) (Nat.le_add_right _ _))
def la_c18 (d : Nat) (sc : Nat × (Nat → Int32)) (I : ab_S → Prop) : Prop := ∀ (σ : ab_S), I σ → ∃ (r : Int32) (P : ab_S → Prop), ab_Sp MX11_fit (d + 1) [.ref 3] σ (ab_E0 sc) (some (.int r)) P ∧ ∀ σ1, P σ1 → ab_Sp MX12_fit (d + 1) [.ref 205] σ1 (ab_E0 sc) (some (.int r)) I
theorem la_case18 {d c z : Nat} {Q : ab_Qt} {sc : Nat × (Nat → Int32)} {i : Int32} {σ : ab_S} {I : ab_S → Prop} (hc : la_c18 d sc I) (hI : I σ) (hi : la_in sc i) (hz : c + 1 ≤ 601024 ∧ z + 6 ≤ 7293034) (h : ∀ (σ2 : ab_S) (c2 z2 : Nat), I σ2 → c2 ≤ c + 1 → z2 ≤ z + 6 → ab_Fr ML_law (d + 2) Q 1576 (la_L i) [] (c2, z2) σ2 (ab_E0 sc)) : ab_Fr ML_law (d + 2) Q 863 (la_L i) [] (c, z) σ (ab_E0 sc) := by
  obtain ⟨r, P, h1, h2⟩ := hc σ hI
  refine ab_aloadn dL_law_863 rfl ?_
  refine ab_callV (vs := []) (st := []) dL_law_864 okMX11_fit wd_834 kd_3 rfl rfl rfl (Nat.le_of_ble_eq_true rfl) ⟨Nat.le_trans (Nat.le_add_right _ 1) hz.1, Nat.le_trans (Nat.le_add_right _ 6) hz.2⟩ h1 ?_
  rintro v9 σ1 E9 - ⟨rfl, rfl, p1⟩
  show ab_Fr ML_law (d + 2) Q 867 (la_L i) [.int r] (c, z) σ1 (ab_E0 sc)
  refine ab_aloadn dL_law_867 rfl ?_
  refine ab_callV (vs := []) (st := [.int r]) dL_law_868 okMX12_fit wd_1646 kd_205 rfl rfl rfl (Nat.le_of_ble_eq_true rfl) ⟨Nat.le_trans (Nat.le_add_right _ 1) hz.1, Nat.le_trans (Nat.le_add_right _ 6) hz.2⟩ (h2 σ1 p1) ?_
  rintro v9 σ2 E9 - ⟨rfl, rfl, p2⟩
  show ab_Fr ML_law (d + 2) Q 871 (la_L i) [.int r, .int r] (c, z) σ2 (ab_E0 sc)
  refine ab_icmp_eq (tgt := 1576) dL_law_871 (by decide) (fun _ => ?_) (fun z => absurd rfl z)
  exact (h σ2 c z p2 (Nat.le_add_right _ _) (Nat.le_add_right _ _))
def la_c19 (d : Nat) (sc : Nat × (Nat → Int32)) (I : ab_S → Prop) : Prop := ∀ (σ : ab_S), I σ → ∃ (r : Int32) (P : ab_S → Prop), ab_Sp MX11_settle (d + 1) [.ref 3] σ (ab_E0 sc) (some (.int r)) P ∧ ∀ σ1, P σ1 → ab_Sp MX12_settle (d + 1) [.ref 205] σ1 (ab_E0 sc) (some (.int r)) I
theorem la_case19 {d c z : Nat} {Q : ab_Qt} {sc : Nat × (Nat → Int32)} {i : Int32} {σ : ab_S} {I : ab_S → Prop} (hc : la_c19 d sc I) (hI : I σ) (hi : la_in sc i) (hz : c + 1 ≤ 601024 ∧ z + 6 ≤ 7293034) (h : ∀ (σ2 : ab_S) (c2 z2 : Nat), I σ2 → c2 ≤ c + 1 → z2 ≤ z + 6 → ab_Fr ML_law (d + 2) Q 1576 (la_L i) [] (c2, z2) σ2 (ab_E0 sc)) : ab_Fr ML_law (d + 2) Q 876 (la_L i) [] (c, z) σ (ab_E0 sc) := by
  obtain ⟨r, P, h1, h2⟩ := hc σ hI
  refine ab_aloadn dL_law_876 rfl ?_
  refine ab_callV (vs := []) (st := []) dL_law_877 okMX11_settle wd_844 kd_3 rfl rfl rfl (Nat.le_of_ble_eq_true rfl) ⟨Nat.le_trans (Nat.le_add_right _ 1) hz.1, Nat.le_trans (Nat.le_add_right _ 6) hz.2⟩ h1 ?_
  rintro v9 σ1 E9 - ⟨rfl, rfl, p1⟩
  show ab_Fr ML_law (d + 2) Q 880 (la_L i) [.int r] (c, z) σ1 (ab_E0 sc)
  refine ab_aloadn dL_law_880 rfl ?_
  refine ab_callV (vs := []) (st := [.int r]) dL_law_881 okMX12_settle wd_1653 kd_205 rfl rfl rfl (Nat.le_of_ble_eq_true rfl) ⟨Nat.le_trans (Nat.le_add_right _ 1) hz.1, Nat.le_trans (Nat.le_add_right _ 6) hz.2⟩ (h2 σ1 p1) ?_
  rintro v9 σ2 E9 - ⟨rfl, rfl, p2⟩
  show ab_Fr ML_law (d + 2) Q 884 (la_L i) [.int r, .int r] (c, z) σ2 (ab_E0 sc)
  refine ab_icmp_eq (tgt := 1576) dL_law_884 (by decide) (fun _ => ?_) (fun z => absurd rfl z)
  exact (h σ2 c z p2 (Nat.le_add_right _ _) (Nat.le_add_right _ _))
def la_c20 (d : Nat) (sc : Nat × (Nat → Int32)) (I : ab_S → Prop) : Prop := ∀ (σ : ab_S) (a1 a2 : Int32), I σ → ∃ (r : Int32) (P : ab_S → Prop), ab_Sp MX11_settled (d + 1) [.ref 3, .int a1, .int a2] σ (ab_E0 sc) (some (.int r)) P ∧ ∀ σ1, P σ1 → ab_Sp MX12_settled (d + 1) [.ref 205, .int a1, .int a2] σ1 (ab_E0 sc) (some (.int r)) I
theorem la_case20 {d c z : Nat} {Q : ab_Qt} {sc : Nat × (Nat → Int32)} {i : Int32} {σ : ab_S} {I : ab_S → Prop} (hc : la_c20 d sc I) (hI : I σ) (hi : la_in sc i) (hz : c + 1 ≤ 601024 ∧ z + 6 ≤ 7293034) (h : ∀ (σ2 : ab_S) (c2 z2 : Nat), I σ2 → c2 ≤ c + 1 → z2 ≤ z + 6 → ab_Fr ML_law (d + 2) Q 1576 (la_L i) [] (c2, z2) σ2 (ab_E0 sc)) : ab_Fr ML_law (d + 2) Q 889 (la_L i) [] (c, z) σ (ab_E0 sc) := by
  obtain ⟨r, P, h1, h2⟩ := hc σ (la_a sc i 1) (la_a sc i 2) hI
  refine ab_aloadn dL_law_889 rfl ?_
  refine ab_aloadn dL_law_890 rfl ?_
  refine ab_iload dL_law_891 rfl ?_
  refine ab_iconst (v := 1) dL_law_893 (by decide) ?_
  refine ab_iadd dL_law_894 ?_
  refine ab_sld (v := la_a sc i 1) dL_law_895 hi.2.1 rfl ?_
  refine ab_aloadn dL_law_896 rfl ?_
  refine ab_iload dL_law_897 rfl ?_
  refine ab_iconst (v := 2) dL_law_899 (by decide) ?_
  refine ab_iadd dL_law_900 ?_
  refine ab_sld (v := la_a sc i 2) dL_law_901 hi.2.2.1 rfl ?_
  refine ab_callV (vs := [.int (la_a sc i 1), .int (la_a sc i 2)]) (st := []) dL_law_902 okMX11_settled wd_864 kd_3 rfl rfl rfl (Nat.le_of_ble_eq_true rfl) ⟨Nat.le_trans (Nat.le_add_right _ 1) hz.1, Nat.le_trans (Nat.le_add_right _ 6) hz.2⟩ h1 ?_
  rintro v9 σ1 E9 - ⟨rfl, rfl, p1⟩
  show ab_Fr ML_law (d + 2) Q 905 (la_L i) [.int r] (c, z) σ1 (ab_E0 sc)
  refine ab_aloadn dL_law_905 rfl ?_
  refine ab_aloadn dL_law_906 rfl ?_
  refine ab_iload dL_law_907 rfl ?_
  refine ab_iconst (v := 1) dL_law_909 (by decide) ?_
  refine ab_iadd dL_law_910 ?_
  refine ab_sld (v := la_a sc i 1) dL_law_911 hi.2.1 rfl ?_
  refine ab_aloadn dL_law_912 rfl ?_
  refine ab_iload dL_law_913 rfl ?_
  refine ab_iconst (v := 2) dL_law_915 (by decide) ?_
  refine ab_iadd dL_law_916 ?_
  refine ab_sld (v := la_a sc i 2) dL_law_917 hi.2.2.1 rfl ?_
  refine ab_callV (vs := [.int (la_a sc i 1), .int (la_a sc i 2)]) (st := [.int r]) dL_law_918 okMX12_settled wd_1660 kd_205 rfl rfl rfl (Nat.le_of_ble_eq_true rfl) ⟨Nat.le_trans (Nat.le_add_right _ 1) hz.1, Nat.le_trans (Nat.le_add_right _ 6) hz.2⟩ (h2 σ1 p1) ?_
  rintro v9 σ2 E9 - ⟨rfl, rfl, p2⟩
  show ab_Fr ML_law (d + 2) Q 921 (la_L i) [.int r, .int r] (c, z) σ2 (ab_E0 sc)
  refine ab_icmp_eq (tgt := 1576) dL_law_921 (by decide) (fun _ => ?_) (fun z => absurd rfl z)
  exact (h σ2 c z p2 (Nat.le_add_right _ _) (Nat.le_add_right _ _))
def la_c21 (d : Nat) (sc : Nat × (Nat → Int32)) (I : ab_S → Prop) : Prop := ∀ (σ : ab_S) (a1 : Int32), I σ → ∃ (r : Int64) (P : ab_S → Prop), ab_Sp MX11_settles (d + 1) [.ref 3, .int a1] σ (ab_E0 sc) (some (.long r)) P ∧ ∀ σ1, P σ1 → ab_Sp MX12_settles (d + 1) [.ref 205, .int a1] σ1 (ab_E0 sc) (some (.long r)) I
theorem la_case21 {d c z : Nat} {Q : ab_Qt} {sc : Nat × (Nat → Int32)} {i : Int32} {σ : ab_S} {I : ab_S → Prop} (hc : la_c21 d sc I) (hI : I σ) (hi : la_in sc i) (hz : c + 1 ≤ 601024 ∧ z + 6 ≤ 7293034) (h : ∀ (σ2 : ab_S) (c2 z2 : Nat), I σ2 → c2 ≤ c + 1 → z2 ≤ z + 6 → ab_Fr ML_law (d + 2) Q 1576 (la_L i) [] (c2, z2) σ2 (ab_E0 sc)) : ab_Fr ML_law (d + 2) Q 926 (la_L i) [] (c, z) σ (ab_E0 sc) := by
  obtain ⟨r, P, h1, h2⟩ := hc σ (la_a sc i 1) hI
  refine ab_aloadn dL_law_926 rfl ?_
  refine ab_aloadn dL_law_927 rfl ?_
  refine ab_iload dL_law_928 rfl ?_
  refine ab_iconst (v := 1) dL_law_930 (by decide) ?_
  refine ab_iadd dL_law_931 ?_
  refine ab_sld (v := la_a sc i 1) dL_law_932 hi.2.1 rfl ?_
  refine ab_callV (vs := [.int (la_a sc i 1)]) (st := []) dL_law_933 okMX11_settles wd_871 kd_3 rfl rfl rfl (Nat.le_of_ble_eq_true rfl) ⟨Nat.le_trans (Nat.le_add_right _ 1) hz.1, Nat.le_trans (Nat.le_add_right _ 6) hz.2⟩ h1 ?_
  rintro v9 σ1 E9 - ⟨rfl, rfl, p1⟩
  show ab_Fr ML_law (d + 2) Q 936 (la_L i) [.long r] (c, z) σ1 (ab_E0 sc)
  refine ab_aloadn dL_law_936 rfl ?_
  refine ab_aloadn dL_law_937 rfl ?_
  refine ab_iload dL_law_938 rfl ?_
  refine ab_iconst (v := 1) dL_law_940 (by decide) ?_
  refine ab_iadd dL_law_941 ?_
  refine ab_sld (v := la_a sc i 1) dL_law_942 hi.2.1 rfl ?_
  refine ab_callV (vs := [.int (la_a sc i 1)]) (st := [.long r]) dL_law_943 okMX12_settles wd_1664 kd_205 rfl rfl rfl (Nat.le_of_ble_eq_true rfl) ⟨Nat.le_trans (Nat.le_add_right _ 1) hz.1, Nat.le_trans (Nat.le_add_right _ 6) hz.2⟩ (h2 σ1 p1) ?_
  rintro v9 σ2 E9 - ⟨rfl, rfl, p2⟩
  show ab_Fr ML_law (d + 2) Q 946 (la_L i) [.long r, .long r] (c, z) σ2 (ab_E0 sc)
  refine ab_lceq (tgt := 1576) dL_law_946 dL_law_947 (by decide) (fun _ => ?_) (fun z => absurd rfl z)
  exact (h σ2 c z p2 (Nat.le_add_right _ _) (Nat.le_add_right _ _))
def la_c22 (d : Nat) (sc : Nat × (Nat → Int32)) (I : ab_S → Prop) : Prop := ∀ (σ : ab_S), I σ → ∃ (r : Int64) (P : ab_S → Prop), ab_Sp MX11_inTurns (d + 1) [.ref 3] σ (ab_E0 sc) (some (.long r)) P ∧ ∀ σ1, P σ1 → ab_Sp MX12_inTurns (d + 1) [.ref 205] σ1 (ab_E0 sc) (some (.long r)) I
theorem la_case22 {d c z : Nat} {Q : ab_Qt} {sc : Nat × (Nat → Int32)} {i : Int32} {σ : ab_S} {I : ab_S → Prop} (hc : la_c22 d sc I) (hI : I σ) (hi : la_in sc i) (hz : c + 1 ≤ 601024 ∧ z + 6 ≤ 7293034) (h : ∀ (σ2 : ab_S) (c2 z2 : Nat), I σ2 → c2 ≤ c + 1 → z2 ≤ z + 6 → ab_Fr ML_law (d + 2) Q 1576 (la_L i) [] (c2, z2) σ2 (ab_E0 sc)) : ab_Fr ML_law (d + 2) Q 952 (la_L i) [] (c, z) σ (ab_E0 sc) := by
  obtain ⟨r, P, h1, h2⟩ := hc σ hI
  refine ab_aloadn dL_law_952 rfl ?_
  refine ab_callV (vs := []) (st := []) dL_law_953 okMX11_inTurns wd_876 kd_3 rfl rfl rfl (Nat.le_of_ble_eq_true rfl) ⟨Nat.le_trans (Nat.le_add_right _ 1) hz.1, Nat.le_trans (Nat.le_add_right _ 6) hz.2⟩ h1 ?_
  rintro v9 σ1 E9 - ⟨rfl, rfl, p1⟩
  show ab_Fr ML_law (d + 2) Q 956 (la_L i) [.long r] (c, z) σ1 (ab_E0 sc)
  refine ab_aloadn dL_law_956 rfl ?_
  refine ab_callV (vs := []) (st := [.long r]) dL_law_957 okMX12_inTurns wd_1668 kd_205 rfl rfl rfl (Nat.le_of_ble_eq_true rfl) ⟨Nat.le_trans (Nat.le_add_right _ 1) hz.1, Nat.le_trans (Nat.le_add_right _ 6) hz.2⟩ (h2 σ1 p1) ?_
  rintro v9 σ2 E9 - ⟨rfl, rfl, p2⟩
  show ab_Fr ML_law (d + 2) Q 960 (la_L i) [.long r, .long r] (c, z) σ2 (ab_E0 sc)
  refine ab_lceq (tgt := 1576) dL_law_960 dL_law_961 (by decide) (fun _ => ?_) (fun z => absurd rfl z)
  exact (h σ2 c z p2 (Nat.le_add_right _ _) (Nat.le_add_right _ _))
def la_c23 (d : Nat) (sc : Nat × (Nat → Int32)) (I : ab_S → Prop) : Prop := ∀ (σ : ab_S) (a1 : Int32), I σ → ∃ (r : Int64) (P : ab_S → Prop), ab_Sp MX11_herd (d + 1) [.ref 3, .int a1] σ (ab_E0 sc) (some (.long r)) P ∧ ∀ σ1, P σ1 → ab_Sp MX12_herd (d + 1) [.ref 205, .int a1] σ1 (ab_E0 sc) (some (.long r)) I
theorem la_case23 {d c z : Nat} {Q : ab_Qt} {sc : Nat × (Nat → Int32)} {i : Int32} {σ : ab_S} {I : ab_S → Prop} (hc : la_c23 d sc I) (hI : I σ) (hi : la_in sc i) (hz : c + 1 ≤ 601024 ∧ z + 6 ≤ 7293034) (h : ∀ (σ2 : ab_S) (c2 z2 : Nat), I σ2 → c2 ≤ c + 1 → z2 ≤ z + 6 → ab_Fr ML_law (d + 2) Q 1576 (la_L i) [] (c2, z2) σ2 (ab_E0 sc)) : ab_Fr ML_law (d + 2) Q 966 (la_L i) [] (c, z) σ (ab_E0 sc) := by
  obtain ⟨r, P, h1, h2⟩ := hc σ (la_a sc i 1) hI
  refine ab_aloadn dL_law_966 rfl ?_
  refine ab_aloadn dL_law_967 rfl ?_
  refine ab_iload dL_law_968 rfl ?_
  refine ab_iconst (v := 1) dL_law_970 (by decide) ?_
  refine ab_iadd dL_law_971 ?_
  refine ab_sld (v := la_a sc i 1) dL_law_972 hi.2.1 rfl ?_
  refine ab_callV (vs := [.int (la_a sc i 1)]) (st := []) dL_law_973 okMX11_herd wd_916 kd_3 rfl rfl rfl (Nat.le_of_ble_eq_true rfl) ⟨Nat.le_trans (Nat.le_add_right _ 1) hz.1, Nat.le_trans (Nat.le_add_right _ 6) hz.2⟩ h1 ?_
  rintro v9 σ1 E9 - ⟨rfl, rfl, p1⟩
  show ab_Fr ML_law (d + 2) Q 976 (la_L i) [.long r] (c, z) σ1 (ab_E0 sc)
  refine ab_aloadn dL_law_976 rfl ?_
  refine ab_aloadn dL_law_977 rfl ?_
  refine ab_iload dL_law_978 rfl ?_
  refine ab_iconst (v := 1) dL_law_980 (by decide) ?_
  refine ab_iadd dL_law_981 ?_
  refine ab_sld (v := la_a sc i 1) dL_law_982 hi.2.1 rfl ?_
  refine ab_callV (vs := [.int (la_a sc i 1)]) (st := [.long r]) dL_law_983 okMX12_herd wd_1684 kd_205 rfl rfl rfl (Nat.le_of_ble_eq_true rfl) ⟨Nat.le_trans (Nat.le_add_right _ 1) hz.1, Nat.le_trans (Nat.le_add_right _ 6) hz.2⟩ (h2 σ1 p1) ?_
  rintro v9 σ2 E9 - ⟨rfl, rfl, p2⟩
  show ab_Fr ML_law (d + 2) Q 986 (la_L i) [.long r, .long r] (c, z) σ2 (ab_E0 sc)
  refine ab_lceq (tgt := 1576) dL_law_986 dL_law_987 (by decide) (fun _ => ?_) (fun z => absurd rfl z)
  exact (h σ2 c z p2 (Nat.le_add_right _ _) (Nat.le_add_right _ _))
def la_c24 (d : Nat) (sc : Nat × (Nat → Int32)) (I : ab_S → Prop) : Prop := ∀ (σ : ab_S), I σ → ∃ (r : Int32) (P : ab_S → Prop), ab_Sp MX11_says (d + 1) [.ref 3] σ (ab_E0 sc) (some (.int r)) P ∧ ∀ σ1, P σ1 → ab_Sp MX12_says (d + 1) [.ref 205] σ1 (ab_E0 sc) (some (.int r)) I
theorem la_case24 {d c z : Nat} {Q : ab_Qt} {sc : Nat × (Nat → Int32)} {i : Int32} {σ : ab_S} {I : ab_S → Prop} (hc : la_c24 d sc I) (hI : I σ) (hi : la_in sc i) (hz : c + 1 ≤ 601024 ∧ z + 6 ≤ 7293034) (h : ∀ (σ2 : ab_S) (c2 z2 : Nat), I σ2 → c2 ≤ c + 1 → z2 ≤ z + 6 → ab_Fr ML_law (d + 2) Q 1576 (la_L i) [] (c2, z2) σ2 (ab_E0 sc)) : ab_Fr ML_law (d + 2) Q 992 (la_L i) [] (c, z) σ (ab_E0 sc) := by
  obtain ⟨r, P, h1, h2⟩ := hc σ hI
  refine ab_aloadn dL_law_992 rfl ?_
  refine ab_callV (vs := []) (st := []) dL_law_993 okMX11_says wd_925 kd_3 rfl rfl rfl (Nat.le_of_ble_eq_true rfl) ⟨Nat.le_trans (Nat.le_add_right _ 1) hz.1, Nat.le_trans (Nat.le_add_right _ 6) hz.2⟩ h1 ?_
  rintro v9 σ1 E9 - ⟨rfl, rfl, p1⟩
  show ab_Fr ML_law (d + 2) Q 996 (la_L i) [.int r] (c, z) σ1 (ab_E0 sc)
  refine ab_aloadn dL_law_996 rfl ?_
  refine ab_callV (vs := []) (st := [.int r]) dL_law_997 okMX12_says wd_1688 kd_205 rfl rfl rfl (Nat.le_of_ble_eq_true rfl) ⟨Nat.le_trans (Nat.le_add_right _ 1) hz.1, Nat.le_trans (Nat.le_add_right _ 6) hz.2⟩ (h2 σ1 p1) ?_
  rintro v9 σ2 E9 - ⟨rfl, rfl, p2⟩
  show ab_Fr ML_law (d + 2) Q 1000 (la_L i) [.int r, .int r] (c, z) σ2 (ab_E0 sc)
  refine ab_icmp_eq (tgt := 1576) dL_law_1000 (by decide) (fun _ => ?_) (fun z => absurd rfl z)
  exact (h σ2 c z p2 (Nat.le_add_right _ _) (Nat.le_add_right _ _))
def la_c25 (d : Nat) (sc : Nat × (Nat → Int32)) (I : ab_S → Prop) : Prop := ∀ (σ : ab_S), I σ → ∃ (r : Int32) (P : ab_S → Prop), ab_Sp MX11_cliff (d + 1) [.ref 3] σ (ab_E0 sc) (some (.int r)) P ∧ ∀ σ1, P σ1 → ab_Sp MX12_cliff (d + 1) [.ref 205] σ1 (ab_E0 sc) (some (.int r)) I
theorem la_case25 {d c z : Nat} {Q : ab_Qt} {sc : Nat × (Nat → Int32)} {i : Int32} {σ : ab_S} {I : ab_S → Prop} (hc : la_c25 d sc I) (hI : I σ) (hi : la_in sc i) (hz : c + 1 ≤ 601024 ∧ z + 6 ≤ 7293034) (h : ∀ (σ2 : ab_S) (c2 z2 : Nat), I σ2 → c2 ≤ c + 1 → z2 ≤ z + 6 → ab_Fr ML_law (d + 2) Q 1576 (la_L i) [] (c2, z2) σ2 (ab_E0 sc)) : ab_Fr ML_law (d + 2) Q 1005 (la_L i) [] (c, z) σ (ab_E0 sc) := by
  obtain ⟨r, P, h1, h2⟩ := hc σ hI
  refine ab_aloadn dL_law_1005 rfl ?_
  refine ab_callV (vs := []) (st := []) dL_law_1006 okMX11_cliff wd_941 kd_3 rfl rfl rfl (Nat.le_of_ble_eq_true rfl) ⟨Nat.le_trans (Nat.le_add_right _ 1) hz.1, Nat.le_trans (Nat.le_add_right _ 6) hz.2⟩ h1 ?_
  rintro v9 σ1 E9 - ⟨rfl, rfl, p1⟩
  show ab_Fr ML_law (d + 2) Q 1009 (la_L i) [.int r] (c, z) σ1 (ab_E0 sc)
  refine ab_aloadn dL_law_1009 rfl ?_
  refine ab_callV (vs := []) (st := [.int r]) dL_law_1010 okMX12_cliff wd_1695 kd_205 rfl rfl rfl (Nat.le_of_ble_eq_true rfl) ⟨Nat.le_trans (Nat.le_add_right _ 1) hz.1, Nat.le_trans (Nat.le_add_right _ 6) hz.2⟩ (h2 σ1 p1) ?_
  rintro v9 σ2 E9 - ⟨rfl, rfl, p2⟩
  show ab_Fr ML_law (d + 2) Q 1013 (la_L i) [.int r, .int r] (c, z) σ2 (ab_E0 sc)
  refine ab_icmp_eq (tgt := 1576) dL_law_1013 (by decide) (fun _ => ?_) (fun z => absurd rfl z)
  exact (h σ2 c z p2 (Nat.le_add_right _ _) (Nat.le_add_right _ _))
def la_c26 (d : Nat) (sc : Nat × (Nat → Int32)) (I : ab_S → Prop) : Prop := ∀ (σ : ab_S), I σ → ∃ (r : Int32) (P : ab_S → Prop), ab_Sp MX11_bestOrder (d + 1) [.ref 3] σ (ab_E0 sc) (some (.int r)) P ∧ ∀ σ1, P σ1 → ab_Sp MX12_bestOrder (d + 1) [.ref 205] σ1 (ab_E0 sc) (some (.int r)) I
theorem la_case26 {d c z : Nat} {Q : ab_Qt} {sc : Nat × (Nat → Int32)} {i : Int32} {σ : ab_S} {I : ab_S → Prop} (hc : la_c26 d sc I) (hI : I σ) (hi : la_in sc i) (hz : c + 1 ≤ 601024 ∧ z + 6 ≤ 7293034) (h : ∀ (σ2 : ab_S) (c2 z2 : Nat), I σ2 → c2 ≤ c + 1 → z2 ≤ z + 6 → ab_Fr ML_law (d + 2) Q 1576 (la_L i) [] (c2, z2) σ2 (ab_E0 sc)) : ab_Fr ML_law (d + 2) Q 1018 (la_L i) [] (c, z) σ (ab_E0 sc) := by
  obtain ⟨r, P, h1, h2⟩ := hc σ hI
  refine ab_aloadn dL_law_1018 rfl ?_
  refine ab_callV (vs := []) (st := []) dL_law_1019 okMX11_bestOrder wd_949 kd_3 rfl rfl rfl (Nat.le_of_ble_eq_true rfl) ⟨Nat.le_trans (Nat.le_add_right _ 1) hz.1, Nat.le_trans (Nat.le_add_right _ 6) hz.2⟩ h1 ?_
  rintro v9 σ1 E9 - ⟨rfl, rfl, p1⟩
  show ab_Fr ML_law (d + 2) Q 1022 (la_L i) [.int r] (c, z) σ1 (ab_E0 sc)
  refine ab_aloadn dL_law_1022 rfl ?_
  refine ab_callV (vs := []) (st := [.int r]) dL_law_1023 okMX12_bestOrder wd_1699 kd_205 rfl rfl rfl (Nat.le_of_ble_eq_true rfl) ⟨Nat.le_trans (Nat.le_add_right _ 1) hz.1, Nat.le_trans (Nat.le_add_right _ 6) hz.2⟩ (h2 σ1 p1) ?_
  rintro v9 σ2 E9 - ⟨rfl, rfl, p2⟩
  show ab_Fr ML_law (d + 2) Q 1026 (la_L i) [.int r, .int r] (c, z) σ2 (ab_E0 sc)
  refine ab_icmp_eq (tgt := 1576) dL_law_1026 (by decide) (fun _ => ?_) (fun z => absurd rfl z)
  exact (h σ2 c z p2 (Nat.le_add_right _ _) (Nat.le_add_right _ _))
def la_c27 (d : Nat) (sc : Nat × (Nat → Int32)) (I : ab_S → Prop) : Prop := ∀ (σ : ab_S), I σ → ∃ (o : Option Int64) (b : Int64) (P1 P2 : ab_S → Prop), ab_CallX MX11_bestRule d [.ref 3] σ (ab_E0 sc) (fun v σ1 E1 => E1 = ab_E0 sc ∧ v = o.map (fun w => some (.long w)) ∧ P1 σ1) ∧ (∀ σ1 w, P1 σ1 → P1 (la_o σ1 w)) ∧ (∀ σ1, P1 σ1 → ab_Sp MX12_bestRule (d + 1) [.ref 205] σ1 (ab_E0 sc) (some (.long b)) (fun σ2 => σ2.2.1 249 0 = σ1.2.1 249 0 ∧ P2 σ2)) ∧ (∀ σ2, P2 σ2 → I σ2 ∧ ab_Sp MX12_thrown (d + 1) [.ref 205] σ2 (ab_E0 sc) (some (.int (if o = none then 1 else 0))) (fun σ3 => σ3 = σ2)) ∧ ∀ w, o = some w → w = b
theorem la_case27 {d c z : Nat} {Q : ab_Qt} {sc : Nat × (Nat → Int32)} {i : Int32} {σ : ab_S} {I : ab_S → Prop} (hc : la_c27 d sc I) (hI : I σ) (hi : la_in sc i) (hz : c + 1 ≤ 601024 ∧ z + 6 ≤ 7293034) (h : ∀ (σ2 : ab_S) (c2 z2 : Nat), I σ2 → c2 ≤ c + 1 → z2 ≤ z + 6 → ab_Fr ML_law (d + 2) Q 1576 (la_L i) [] (c2, z2) σ2 (ab_E0 sc)) : ab_Fr ML_law (d + 2) Q 1031 (la_L i) [] (c, z) σ (ab_E0 sc) := by
  obtain ⟨o, b, P1, P2, h1, h1b, h2, h3, hb⟩ := hc σ hI
  refine ab_aloadn dL_law_1031 rfl ?_
  refine ab_aloadn dL_law_1032 rfl ?_
  refine ab_callW (vs := [.ref 3, .ref 249]) (st := []) (n := 2) dL_law_1033 wd_137 cw_bestRule ⟨by decide +kernel, by decide +kernel, by decide +kernel⟩ (Nat.le_of_ble_eq_true rfl) wd_1222 wd_1221 rfl rfl (Nat.le_of_ble_eq_true rfl) hz (wr_bestRule h1 (fun o2 σ2 E2 hq => ⟨hq.1, fun v hv => by have h9 := hq.2.1; rw [hv] at h9; cases o with | none => cases h9 | some w => exact ⟨w, Option.some.inj h9⟩⟩)) ?_
  rintro v9 σ1 E9 - ⟨rfl, hv⟩
  have hk : ∃ k9 : Int32, v9 = some (.int k9) ∧ k9 = (if o = none then 1 else 0) ∧ P1 σ1 ∧ ∀ w, o = some w → σ1.2.1 249 0 = w := by
    rcases hv with ⟨rfl, h9⟩ | ⟨rfl, w, σ0, h9, rfl⟩
    · cases o with
      | none => exact ⟨1, rfl, rfl, h9.2.2, fun w hw => by cases hw⟩
      | some w => cases h9.2.1
    · cases o with
      | none => cases h9.2.1
      | some w2 =>
        have h8 := h9.2.1
        simp only [Option.map_some, Option.some.injEq, Value.long.injEq] at h8
        refine ⟨0, rfl, rfl, h1b σ0 w h9.2.2, fun w3 hw => ?_⟩
        cases hw
        simp [ab_u, h8]
  obtain ⟨k9, rfl, hk9, p1, hw9⟩ := hk
  show ab_Fr ML_law (d + 2) Q 1036 (la_L i) [.int k9] (c + 1, z + 6) σ1 (ab_E0 sc)
  refine ab_istore dL_law_1036 (Nat.le_of_ble_eq_true rfl) (L2 := [some (.ref 0), some (.ref 3), some (.ref 205), some (.ref 249), some (.int i), some (.int k9), none, none]) rfl ?_
  refine ab_aloadn dL_law_1038 rfl ?_
  refine ab_callV (vs := []) (st := []) dL_law_1039 okMX12_bestRule wd_1710 kd_205 rfl rfl rfl (Nat.le_of_ble_eq_true rfl) hz (h2 σ1 p1) ?_
  rintro v9 σ2 E9 - ⟨rfl, rfl, e2, p2⟩
  show ab_Fr ML_law (d + 2) Q 1042 [some (.ref 0), some (.ref 3), some (.ref 205), some (.ref 249), some (.int i), some (.int k9), none, none] [.long b] (c + 1, z + 6) σ2 (ab_E0 sc)
  refine ab_lstore dL_law_1042 (Nat.le_of_ble_eq_true rfl) (L2 := [some (.ref 0), some (.ref 3), some (.ref 205), some (.ref 249), some (.int i), some (.int k9), some (.long b), none]) rfl ?_
  refine ab_aloadn dL_law_1044 rfl ?_
  refine ab_callV (vs := []) (st := []) dL_law_1045 okMX12_thrown wd_1399 kd_205 rfl rfl rfl (Nat.le_of_ble_eq_true rfl) hz (h3 σ2 p2).2 ?_
  rintro v9 σ3 E9 - ⟨rfl, rfl, rfl⟩
  show ab_Fr ML_law (d + 2) Q 1048 [some (.ref 0), some (.ref 3), some (.ref 205), some (.ref 249), some (.int i), some (.int k9), some (.long b), none] [.int (if o = none then 1 else 0)] (c + 1, z + 6) σ3 (ab_E0 sc)
  refine ab_iload dL_law_1048 rfl ?_
  refine ab_icmp_eq (tgt := 1055) dL_law_1050 (by decide) (fun _ => ?_) (fun z => absurd hk9.symm z)
  have hend : ab_Fr ML_law (d + 2) Q 1071 [some (.ref 0), some (.ref 3), some (.ref 205), some (.ref 249), some (.int i), some (.int k9), some (.long b), none] [] (c + 1, z + 6) σ3 (ab_E0 sc) := by
    refine ab_goto (tgt := 1576) dL_law_1071 (by decide) ?_
    refine ab_forget (i := 5) (L2 := [some (.ref 0), some (.ref 3), some (.ref 205), some (.ref 249), some (.int i), none, some (.long b), none]) rfl ?_
    refine ab_forget (i := 6) (L2 := [some (.ref 0), some (.ref 3), some (.ref 205), some (.ref 249), some (.int i), none, none, none]) rfl ?_
    exact h σ3 (c + 1) (z + 6) (h3 σ3 p2).1 (Nat.le_refl _) (Nat.le_refl _)
  refine ab_iload dL_law_1055 rfl ?_
  refine ab_if_ne (tgt := 1071) dL_law_1057 (by decide) (fun _ => hend) (fun k0 => ?_)
  refine ab_aloadn dL_law_1060 rfl ?_
  refine ab_iconst (v := 0) dL_law_1061 (by decide) ?_
  refine ab_laload (v := σ3.2.1 249 0) dL_law_1062 kd_249 (ab_vp (by decide)) rfl ?_
  refine ab_lload dL_law_1063 rfl ?_
  refine ab_lceq (tgt := 1071) dL_law_1065 dL_law_1066 (by decide) (fun _ => hend) (fun z9 => absurd ?_ z9)
  cases o with
  | none => rw [k0] at hk9; exact absurd hk9 (by decide)
  | some w => rw [e2, hw9 w rfl, hb w rfl]
def la_c28 (d : Nat) (sc : Nat × (Nat → Int32)) (I : ab_S → Prop) : Prop := ∀ (σ : ab_S) (a1 a2 : Int32), I σ → ∃ (r : Int32) (P : ab_S → Prop), ab_Sp MX11_bar (d + 1) [.ref 3, .int a1, .int a2] σ (ab_E0 sc) (some (.int r)) P ∧ ∀ σ1, P σ1 → ab_Sp MX12_bar (d + 1) [.ref 205, .int a1, .int a2] σ1 (ab_E0 sc) (some (.int r)) I
theorem la_case28 {d c z : Nat} {Q : ab_Qt} {sc : Nat × (Nat → Int32)} {i : Int32} {σ : ab_S} {I : ab_S → Prop} (hc : la_c28 d sc I) (hI : I σ) (hi : la_in sc i) (hz : c + 1 ≤ 601024 ∧ z + 6 ≤ 7293034) (h : ∀ (σ2 : ab_S) (c2 z2 : Nat), I σ2 → c2 ≤ c + 1 → z2 ≤ z + 6 → ab_Fr ML_law (d + 2) Q 1576 (la_L i) [] (c2, z2) σ2 (ab_E0 sc)) : ab_Fr ML_law (d + 2) Q 1074 (la_L i) [] (c, z) σ (ab_E0 sc) := by
  obtain ⟨r, P, h1, h2⟩ := hc σ (la_a sc i 1) (la_a sc i 2) hI
  refine ab_aloadn dL_law_1074 rfl ?_
  refine ab_aloadn dL_law_1075 rfl ?_
  refine ab_iload dL_law_1076 rfl ?_
  refine ab_iconst (v := 1) dL_law_1078 (by decide) ?_
  refine ab_iadd dL_law_1079 ?_
  refine ab_sld (v := la_a sc i 1) dL_law_1080 hi.2.1 rfl ?_
  refine ab_aloadn dL_law_1081 rfl ?_
  refine ab_iload dL_law_1082 rfl ?_
  refine ab_iconst (v := 2) dL_law_1084 (by decide) ?_
  refine ab_iadd dL_law_1085 ?_
  refine ab_sld (v := la_a sc i 2) dL_law_1086 hi.2.2.1 rfl ?_
  refine ab_callV (vs := [.int (la_a sc i 1), .int (la_a sc i 2)]) (st := []) dL_law_1087 okMX11_bar wd_968 kd_3 rfl rfl rfl (Nat.le_of_ble_eq_true rfl) ⟨Nat.le_trans (Nat.le_add_right _ 1) hz.1, Nat.le_trans (Nat.le_add_right _ 6) hz.2⟩ h1 ?_
  rintro v9 σ1 E9 - ⟨rfl, rfl, p1⟩
  show ab_Fr ML_law (d + 2) Q 1090 (la_L i) [.int r] (c, z) σ1 (ab_E0 sc)
  refine ab_aloadn dL_law_1090 rfl ?_
  refine ab_aloadn dL_law_1091 rfl ?_
  refine ab_iload dL_law_1092 rfl ?_
  refine ab_iconst (v := 1) dL_law_1094 (by decide) ?_
  refine ab_iadd dL_law_1095 ?_
  refine ab_sld (v := la_a sc i 1) dL_law_1096 hi.2.1 rfl ?_
  refine ab_aloadn dL_law_1097 rfl ?_
  refine ab_iload dL_law_1098 rfl ?_
  refine ab_iconst (v := 2) dL_law_1100 (by decide) ?_
  refine ab_iadd dL_law_1101 ?_
  refine ab_sld (v := la_a sc i 2) dL_law_1102 hi.2.2.1 rfl ?_
  refine ab_callV (vs := [.int (la_a sc i 1), .int (la_a sc i 2)]) (st := [.int r]) dL_law_1103 okMX12_bar wd_1720 kd_205 rfl rfl rfl (Nat.le_of_ble_eq_true rfl) ⟨Nat.le_trans (Nat.le_add_right _ 1) hz.1, Nat.le_trans (Nat.le_add_right _ 6) hz.2⟩ (h2 σ1 p1) ?_
  rintro v9 σ2 E9 - ⟨rfl, rfl, p2⟩
  show ab_Fr ML_law (d + 2) Q 1106 (la_L i) [.int r, .int r] (c, z) σ2 (ab_E0 sc)
  refine ab_icmp_eq (tgt := 1576) dL_law_1106 (by decide) (fun _ => ?_) (fun z => absurd rfl z)
  exact (h σ2 c z p2 (Nat.le_add_right _ _) (Nat.le_add_right _ _))
def la_c29 (d : Nat) (sc : Nat × (Nat → Int32)) (I : ab_S → Prop) : Prop := ∀ (σ : ab_S), I σ → ∃ (r : Int64) (P : ab_S → Prop), ab_Sp MX11_barLost (d + 1) [.ref 3] σ (ab_E0 sc) (some (.long r)) P ∧ ∀ σ1, P σ1 → ab_Sp MX12_barLost (d + 1) [.ref 205] σ1 (ab_E0 sc) (some (.long r)) I
theorem la_case29 {d c z : Nat} {Q : ab_Qt} {sc : Nat × (Nat → Int32)} {i : Int32} {σ : ab_S} {I : ab_S → Prop} (hc : la_c29 d sc I) (hI : I σ) (hi : la_in sc i) (hz : c + 1 ≤ 601024 ∧ z + 6 ≤ 7293034) (h : ∀ (σ2 : ab_S) (c2 z2 : Nat), I σ2 → c2 ≤ c + 1 → z2 ≤ z + 6 → ab_Fr ML_law (d + 2) Q 1576 (la_L i) [] (c2, z2) σ2 (ab_E0 sc)) : ab_Fr ML_law (d + 2) Q 1111 (la_L i) [] (c, z) σ (ab_E0 sc) := by
  obtain ⟨r, P, h1, h2⟩ := hc σ hI
  refine ab_aloadn dL_law_1111 rfl ?_
  refine ab_callV (vs := []) (st := []) dL_law_1112 okMX11_barLost wd_992 kd_3 rfl rfl rfl (Nat.le_of_ble_eq_true rfl) ⟨Nat.le_trans (Nat.le_add_right _ 1) hz.1, Nat.le_trans (Nat.le_add_right _ 6) hz.2⟩ h1 ?_
  rintro v9 σ1 E9 - ⟨rfl, rfl, p1⟩
  show ab_Fr ML_law (d + 2) Q 1115 (la_L i) [.long r] (c, z) σ1 (ab_E0 sc)
  refine ab_aloadn dL_law_1115 rfl ?_
  refine ab_callV (vs := []) (st := [.long r]) dL_law_1116 okMX12_barLost wd_1730 kd_205 rfl rfl rfl (Nat.le_of_ble_eq_true rfl) ⟨Nat.le_trans (Nat.le_add_right _ 1) hz.1, Nat.le_trans (Nat.le_add_right _ 6) hz.2⟩ (h2 σ1 p1) ?_
  rintro v9 σ2 E9 - ⟨rfl, rfl, p2⟩
  show ab_Fr ML_law (d + 2) Q 1119 (la_L i) [.long r, .long r] (c, z) σ2 (ab_E0 sc)
  refine ab_lceq (tgt := 1576) dL_law_1119 dL_law_1120 (by decide) (fun _ => ?_) (fun z => absurd rfl z)
  exact (h σ2 c z p2 (Nat.le_add_right _ _) (Nat.le_add_right _ _))
def la_c30 (d : Nat) (sc : Nat × (Nat → Int32)) (I : ab_S → Prop) : Prop := ∀ (σ : ab_S), I σ → ∃ (r : Int32) (P : ab_S → Prop), ab_Sp MX11_silent (d + 1) [.ref 3] σ (ab_E0 sc) (some (.int r)) P ∧ ∀ σ1, P σ1 → ab_Sp MX12_silent (d + 1) [.ref 205] σ1 (ab_E0 sc) (some (.int r)) I
theorem la_case30 {d c z : Nat} {Q : ab_Qt} {sc : Nat × (Nat → Int32)} {i : Int32} {σ : ab_S} {I : ab_S → Prop} (hc : la_c30 d sc I) (hI : I σ) (hi : la_in sc i) (hz : c + 1 ≤ 601024 ∧ z + 6 ≤ 7293034) (h : ∀ (σ2 : ab_S) (c2 z2 : Nat), I σ2 → c2 ≤ c + 1 → z2 ≤ z + 6 → ab_Fr ML_law (d + 2) Q 1576 (la_L i) [] (c2, z2) σ2 (ab_E0 sc)) : ab_Fr ML_law (d + 2) Q 1125 (la_L i) [] (c, z) σ (ab_E0 sc) := by
  obtain ⟨r, P, h1, h2⟩ := hc σ hI
  refine ab_aloadn dL_law_1125 rfl ?_
  refine ab_callV (vs := []) (st := []) dL_law_1126 okMX11_silent wd_996 kd_3 rfl rfl rfl (Nat.le_of_ble_eq_true rfl) ⟨Nat.le_trans (Nat.le_add_right _ 1) hz.1, Nat.le_trans (Nat.le_add_right _ 6) hz.2⟩ h1 ?_
  rintro v9 σ1 E9 - ⟨rfl, rfl, p1⟩
  show ab_Fr ML_law (d + 2) Q 1129 (la_L i) [.int r] (c, z) σ1 (ab_E0 sc)
  refine ab_aloadn dL_law_1129 rfl ?_
  refine ab_callV (vs := []) (st := [.int r]) dL_law_1130 okMX12_silent wd_1742 kd_205 rfl rfl rfl (Nat.le_of_ble_eq_true rfl) ⟨Nat.le_trans (Nat.le_add_right _ 1) hz.1, Nat.le_trans (Nat.le_add_right _ 6) hz.2⟩ (h2 σ1 p1) ?_
  rintro v9 σ2 E9 - ⟨rfl, rfl, p2⟩
  show ab_Fr ML_law (d + 2) Q 1133 (la_L i) [.int r, .int r] (c, z) σ2 (ab_E0 sc)
  refine ab_icmp_eq (tgt := 1576) dL_law_1133 (by decide) (fun _ => ?_) (fun z => absurd rfl z)
  exact (h σ2 c z p2 (Nat.le_add_right _ _) (Nat.le_add_right _ _))
def la_c31 (d : Nat) (sc : Nat × (Nat → Int32)) (I : ab_S → Prop) : Prop := ∀ (σ : ab_S) (a1 a2 : Int32), I σ → ∃ (r : Int32) (P : ab_S → Prop), ab_Sp MX11_helps (d + 1) [.ref 3, .int a1, .int a2] σ (ab_E0 sc) (some (.int r)) P ∧ ∀ σ1, P σ1 → ab_Sp MX12_helps (d + 1) [.ref 205, .int a1, .int a2] σ1 (ab_E0 sc) (some (.int r)) I
theorem la_case31 {d c z : Nat} {Q : ab_Qt} {sc : Nat × (Nat → Int32)} {i : Int32} {σ : ab_S} {I : ab_S → Prop} (hc : la_c31 d sc I) (hI : I σ) (hi : la_in sc i) (hz : c + 1 ≤ 601024 ∧ z + 6 ≤ 7293034) (h : ∀ (σ2 : ab_S) (c2 z2 : Nat), I σ2 → c2 ≤ c + 1 → z2 ≤ z + 6 → ab_Fr ML_law (d + 2) Q 1576 (la_L i) [] (c2, z2) σ2 (ab_E0 sc)) : ab_Fr ML_law (d + 2) Q 1138 (la_L i) [] (c, z) σ (ab_E0 sc) := by
  obtain ⟨r, P, h1, h2⟩ := hc σ (la_a sc i 1) (la_a sc i 2) hI
  refine ab_aloadn dL_law_1138 rfl ?_
  refine ab_aloadn dL_law_1139 rfl ?_
  refine ab_iload dL_law_1140 rfl ?_
  refine ab_iconst (v := 1) dL_law_1142 (by decide) ?_
  refine ab_iadd dL_law_1143 ?_
  refine ab_sld (v := la_a sc i 1) dL_law_1144 hi.2.1 rfl ?_
  refine ab_aloadn dL_law_1145 rfl ?_
  refine ab_iload dL_law_1146 rfl ?_
  refine ab_iconst (v := 2) dL_law_1148 (by decide) ?_
  refine ab_iadd dL_law_1149 ?_
  refine ab_sld (v := la_a sc i 2) dL_law_1150 hi.2.2.1 rfl ?_
  refine ab_callV (vs := [.int (la_a sc i 1), .int (la_a sc i 2)]) (st := []) dL_law_1151 okMX11_helps wd_1001 kd_3 rfl rfl rfl (Nat.le_of_ble_eq_true rfl) ⟨Nat.le_trans (Nat.le_add_right _ 1) hz.1, Nat.le_trans (Nat.le_add_right _ 6) hz.2⟩ h1 ?_
  rintro v9 σ1 E9 - ⟨rfl, rfl, p1⟩
  show ab_Fr ML_law (d + 2) Q 1154 (la_L i) [.int r] (c, z) σ1 (ab_E0 sc)
  refine ab_aloadn dL_law_1154 rfl ?_
  refine ab_aloadn dL_law_1155 rfl ?_
  refine ab_iload dL_law_1156 rfl ?_
  refine ab_iconst (v := 1) dL_law_1158 (by decide) ?_
  refine ab_iadd dL_law_1159 ?_
  refine ab_sld (v := la_a sc i 1) dL_law_1160 hi.2.1 rfl ?_
  refine ab_aloadn dL_law_1161 rfl ?_
  refine ab_iload dL_law_1162 rfl ?_
  refine ab_iconst (v := 2) dL_law_1164 (by decide) ?_
  refine ab_iadd dL_law_1165 ?_
  refine ab_sld (v := la_a sc i 2) dL_law_1166 hi.2.2.1 rfl ?_
  refine ab_callV (vs := [.int (la_a sc i 1), .int (la_a sc i 2)]) (st := [.int r]) dL_law_1167 okMX12_helps wd_1752 kd_205 rfl rfl rfl (Nat.le_of_ble_eq_true rfl) ⟨Nat.le_trans (Nat.le_add_right _ 1) hz.1, Nat.le_trans (Nat.le_add_right _ 6) hz.2⟩ (h2 σ1 p1) ?_
  rintro v9 σ2 E9 - ⟨rfl, rfl, p2⟩
  show ab_Fr ML_law (d + 2) Q 1170 (la_L i) [.int r, .int r] (c, z) σ2 (ab_E0 sc)
  refine ab_icmp_eq (tgt := 1576) dL_law_1170 (by decide) (fun _ => ?_) (fun z => absurd rfl z)
  exact (h σ2 c z p2 (Nat.le_add_right _ _) (Nat.le_add_right _ _))
def la_c32 (d : Nat) (sc : Nat × (Nat → Int32)) (I : ab_S → Prop) : Prop := ∀ (σ : ab_S) (a1 a2 a3 : Int32), I σ → ∃ (r : Int32) (P : ab_S → Prop), ab_Sp MX11_believed (d + 1) [.ref 3, .int a1, .int a2, .int a3] σ (ab_E0 sc) (some (.int r)) P ∧ ∀ σ1, P σ1 → ab_Sp MX12_believed (d + 1) [.ref 205, .int a1, .int a2, .int a3] σ1 (ab_E0 sc) (some (.int r)) I
theorem la_case32 {d c z : Nat} {Q : ab_Qt} {sc : Nat × (Nat → Int32)} {i : Int32} {σ : ab_S} {I : ab_S → Prop} (hc : la_c32 d sc I) (hI : I σ) (hi : la_in sc i) (hz : c + 1 ≤ 601024 ∧ z + 6 ≤ 7293034) (h : ∀ (σ2 : ab_S) (c2 z2 : Nat), I σ2 → c2 ≤ c + 1 → z2 ≤ z + 6 → ab_Fr ML_law (d + 2) Q 1576 (la_L i) [] (c2, z2) σ2 (ab_E0 sc)) : ab_Fr ML_law (d + 2) Q 1175 (la_L i) [] (c, z) σ (ab_E0 sc) := by
  obtain ⟨r, P, h1, h2⟩ := hc σ (la_a sc i 1) (la_a sc i 2) (la_a sc i 3) hI
  refine ab_aloadn dL_law_1175 rfl ?_
  refine ab_aloadn dL_law_1176 rfl ?_
  refine ab_iload dL_law_1177 rfl ?_
  refine ab_iconst (v := 1) dL_law_1179 (by decide) ?_
  refine ab_iadd dL_law_1180 ?_
  refine ab_sld (v := la_a sc i 1) dL_law_1181 hi.2.1 rfl ?_
  refine ab_aloadn dL_law_1182 rfl ?_
  refine ab_iload dL_law_1183 rfl ?_
  refine ab_iconst (v := 2) dL_law_1185 (by decide) ?_
  refine ab_iadd dL_law_1186 ?_
  refine ab_sld (v := la_a sc i 2) dL_law_1187 hi.2.2.1 rfl ?_
  refine ab_aloadn dL_law_1188 rfl ?_
  refine ab_iload dL_law_1189 rfl ?_
  refine ab_iconst (v := 3) dL_law_1191 (by decide) ?_
  refine ab_iadd dL_law_1192 ?_
  refine ab_sld (v := la_a sc i 3) dL_law_1193 hi.2.2.2.1 rfl ?_
  refine ab_callV (vs := [.int (la_a sc i 1), .int (la_a sc i 2), .int (la_a sc i 3)]) (st := []) dL_law_1194 okMX11_believed wd_1005 kd_3 rfl rfl rfl (Nat.le_of_ble_eq_true rfl) ⟨Nat.le_trans (Nat.le_add_right _ 1) hz.1, Nat.le_trans (Nat.le_add_right _ 6) hz.2⟩ h1 ?_
  rintro v9 σ1 E9 - ⟨rfl, rfl, p1⟩
  show ab_Fr ML_law (d + 2) Q 1197 (la_L i) [.int r] (c, z) σ1 (ab_E0 sc)
  refine ab_aloadn dL_law_1197 rfl ?_
  refine ab_aloadn dL_law_1198 rfl ?_
  refine ab_iload dL_law_1199 rfl ?_
  refine ab_iconst (v := 1) dL_law_1201 (by decide) ?_
  refine ab_iadd dL_law_1202 ?_
  refine ab_sld (v := la_a sc i 1) dL_law_1203 hi.2.1 rfl ?_
  refine ab_aloadn dL_law_1204 rfl ?_
  refine ab_iload dL_law_1205 rfl ?_
  refine ab_iconst (v := 2) dL_law_1207 (by decide) ?_
  refine ab_iadd dL_law_1208 ?_
  refine ab_sld (v := la_a sc i 2) dL_law_1209 hi.2.2.1 rfl ?_
  refine ab_aloadn dL_law_1210 rfl ?_
  refine ab_iload dL_law_1211 rfl ?_
  refine ab_iconst (v := 3) dL_law_1213 (by decide) ?_
  refine ab_iadd dL_law_1214 ?_
  refine ab_sld (v := la_a sc i 3) dL_law_1215 hi.2.2.2.1 rfl ?_
  refine ab_callV (vs := [.int (la_a sc i 1), .int (la_a sc i 2), .int (la_a sc i 3)]) (st := [.int r]) dL_law_1216 okMX12_believed wd_1756 kd_205 rfl rfl rfl (Nat.le_of_ble_eq_true rfl) ⟨Nat.le_trans (Nat.le_add_right _ 1) hz.1, Nat.le_trans (Nat.le_add_right _ 6) hz.2⟩ (h2 σ1 p1) ?_
  rintro v9 σ2 E9 - ⟨rfl, rfl, p2⟩
  show ab_Fr ML_law (d + 2) Q 1219 (la_L i) [.int r, .int r] (c, z) σ2 (ab_E0 sc)
  refine ab_icmp_eq (tgt := 1576) dL_law_1219 (by decide) (fun _ => ?_) (fun z => absurd rfl z)
  exact (h σ2 c z p2 (Nat.le_add_right _ _) (Nat.le_add_right _ _))
def la_c33 (d : Nat) (sc : Nat × (Nat → Int32)) (I : ab_S → Prop) : Prop := ∀ (σ : ab_S) (a1 a2 : Int32), I σ → ∃ (o : Option Int64) (b : Int64) (P1 P2 : ab_S → Prop), ab_CallX MX11_minutes d [.ref 3, .int a1, .int a2] σ (ab_E0 sc) (fun v σ1 E1 => E1 = ab_E0 sc ∧ v = o.map (fun w => some (.long w)) ∧ P1 σ1) ∧ (∀ σ1 w, P1 σ1 → P1 (la_o σ1 w)) ∧ (∀ σ1, P1 σ1 → ab_Sp MX12_minutes (d + 1) [.ref 205, .int a1, .int a2] σ1 (ab_E0 sc) (some (.long b)) (fun σ2 => σ2.2.1 249 0 = σ1.2.1 249 0 ∧ P2 σ2)) ∧ (∀ σ2, P2 σ2 → I σ2 ∧ ab_Sp MX12_thrown (d + 1) [.ref 205] σ2 (ab_E0 sc) (some (.int (if o = none then 1 else 0))) (fun σ3 => σ3 = σ2)) ∧ ∀ w, o = some w → w = b
theorem la_case33 {d c z : Nat} {Q : ab_Qt} {sc : Nat × (Nat → Int32)} {i : Int32} {σ : ab_S} {I : ab_S → Prop} (hc : la_c33 d sc I) (hI : I σ) (hi : la_in sc i) (hz : c + 1 ≤ 601024 ∧ z + 6 ≤ 7293034) (h : ∀ (σ2 : ab_S) (c2 z2 : Nat), I σ2 → c2 ≤ c + 1 → z2 ≤ z + 6 → ab_Fr ML_law (d + 2) Q 1576 (la_L i) [] (c2, z2) σ2 (ab_E0 sc)) : ab_Fr ML_law (d + 2) Q 1224 (la_L i) [] (c, z) σ (ab_E0 sc) := by
  obtain ⟨o, b, P1, P2, h1, h1b, h2, h3, hb⟩ := hc σ (la_a sc i 1) (la_a sc i 2) hI
  refine ab_aloadn dL_law_1224 rfl ?_
  refine ab_aloadn dL_law_1225 rfl ?_
  refine ab_iload dL_law_1226 rfl ?_
  refine ab_iconst (v := 1) dL_law_1228 (by decide) ?_
  refine ab_iadd dL_law_1229 ?_
  refine ab_sld (v := la_a sc i 1) dL_law_1230 hi.2.1 rfl ?_
  refine ab_aloadn dL_law_1231 rfl ?_
  refine ab_iload dL_law_1232 rfl ?_
  refine ab_iconst (v := 2) dL_law_1234 (by decide) ?_
  refine ab_iadd dL_law_1235 ?_
  refine ab_sld (v := la_a sc i 2) dL_law_1236 hi.2.2.1 rfl ?_
  refine ab_aloadn dL_law_1237 rfl ?_
  refine ab_callW (vs := [.ref 3, .int (la_a sc i 1), .int (la_a sc i 2), .ref 249]) (st := []) (n := 4) dL_law_1238 wd_137 cw_minutes ⟨by decide +kernel, by decide +kernel, by decide +kernel⟩ (Nat.le_of_ble_eq_true rfl) wd_1228 wd_1227 rfl rfl (Nat.le_of_ble_eq_true rfl) hz (wr_minutes h1 (fun o2 σ2 E2 hq => ⟨hq.1, fun v hv => by have h9 := hq.2.1; rw [hv] at h9; cases o with | none => cases h9 | some w => exact ⟨w, Option.some.inj h9⟩⟩)) ?_
  rintro v9 σ1 E9 - ⟨rfl, hv⟩
  have hk : ∃ k9 : Int32, v9 = some (.int k9) ∧ k9 = (if o = none then 1 else 0) ∧ P1 σ1 ∧ ∀ w, o = some w → σ1.2.1 249 0 = w := by
    rcases hv with ⟨rfl, h9⟩ | ⟨rfl, w, σ0, h9, rfl⟩
    · cases o with
      | none => exact ⟨1, rfl, rfl, h9.2.2, fun w hw => by cases hw⟩
      | some w => cases h9.2.1
    · cases o with
      | none => cases h9.2.1
      | some w2 =>
        have h8 := h9.2.1
        simp only [Option.map_some, Option.some.injEq, Value.long.injEq] at h8
        refine ⟨0, rfl, rfl, h1b σ0 w h9.2.2, fun w3 hw => ?_⟩
        cases hw
        simp [ab_u, h8]
  obtain ⟨k9, rfl, hk9, p1, hw9⟩ := hk
  show ab_Fr ML_law (d + 2) Q 1241 (la_L i) [.int k9] (c + 1, z + 6) σ1 (ab_E0 sc)
  refine ab_istore dL_law_1241 (Nat.le_of_ble_eq_true rfl) (L2 := [some (.ref 0), some (.ref 3), some (.ref 205), some (.ref 249), some (.int i), some (.int k9), none, none]) rfl ?_
  refine ab_aloadn dL_law_1243 rfl ?_
  refine ab_aloadn dL_law_1244 rfl ?_
  refine ab_iload dL_law_1245 rfl ?_
  refine ab_iconst (v := 1) dL_law_1247 (by decide) ?_
  refine ab_iadd dL_law_1248 ?_
  refine ab_sld (v := la_a sc i 1) dL_law_1249 hi.2.1 rfl ?_
  refine ab_aloadn dL_law_1250 rfl ?_
  refine ab_iload dL_law_1251 rfl ?_
  refine ab_iconst (v := 2) dL_law_1253 (by decide) ?_
  refine ab_iadd dL_law_1254 ?_
  refine ab_sld (v := la_a sc i 2) dL_law_1255 hi.2.2.1 rfl ?_
  refine ab_callV (vs := [.int (la_a sc i 1), .int (la_a sc i 2)]) (st := []) dL_law_1256 okMX12_minutes wd_1769 kd_205 rfl rfl rfl (Nat.le_of_ble_eq_true rfl) hz (h2 σ1 p1) ?_
  rintro v9 σ2 E9 - ⟨rfl, rfl, e2, p2⟩
  show ab_Fr ML_law (d + 2) Q 1259 [some (.ref 0), some (.ref 3), some (.ref 205), some (.ref 249), some (.int i), some (.int k9), none, none] [.long b] (c + 1, z + 6) σ2 (ab_E0 sc)
  refine ab_lstore dL_law_1259 (Nat.le_of_ble_eq_true rfl) (L2 := [some (.ref 0), some (.ref 3), some (.ref 205), some (.ref 249), some (.int i), some (.int k9), some (.long b), none]) rfl ?_
  refine ab_aloadn dL_law_1261 rfl ?_
  refine ab_callV (vs := []) (st := []) dL_law_1262 okMX12_thrown wd_1399 kd_205 rfl rfl rfl (Nat.le_of_ble_eq_true rfl) hz (h3 σ2 p2).2 ?_
  rintro v9 σ3 E9 - ⟨rfl, rfl, rfl⟩
  show ab_Fr ML_law (d + 2) Q 1265 [some (.ref 0), some (.ref 3), some (.ref 205), some (.ref 249), some (.int i), some (.int k9), some (.long b), none] [.int (if o = none then 1 else 0)] (c + 1, z + 6) σ3 (ab_E0 sc)
  refine ab_iload dL_law_1265 rfl ?_
  refine ab_icmp_eq (tgt := 1272) dL_law_1267 (by decide) (fun _ => ?_) (fun z => absurd hk9.symm z)
  have hend : ab_Fr ML_law (d + 2) Q 1288 [some (.ref 0), some (.ref 3), some (.ref 205), some (.ref 249), some (.int i), some (.int k9), some (.long b), none] [] (c + 1, z + 6) σ3 (ab_E0 sc) := by
    refine ab_goto (tgt := 1576) dL_law_1288 (by decide) ?_
    refine ab_forget (i := 5) (L2 := [some (.ref 0), some (.ref 3), some (.ref 205), some (.ref 249), some (.int i), none, some (.long b), none]) rfl ?_
    refine ab_forget (i := 6) (L2 := [some (.ref 0), some (.ref 3), some (.ref 205), some (.ref 249), some (.int i), none, none, none]) rfl ?_
    exact h σ3 (c + 1) (z + 6) (h3 σ3 p2).1 (Nat.le_refl _) (Nat.le_refl _)
  refine ab_iload dL_law_1272 rfl ?_
  refine ab_if_ne (tgt := 1288) dL_law_1274 (by decide) (fun _ => hend) (fun k0 => ?_)
  refine ab_aloadn dL_law_1277 rfl ?_
  refine ab_iconst (v := 0) dL_law_1278 (by decide) ?_
  refine ab_laload (v := σ3.2.1 249 0) dL_law_1279 kd_249 (ab_vp (by decide)) rfl ?_
  refine ab_lload dL_law_1280 rfl ?_
  refine ab_lceq (tgt := 1288) dL_law_1282 dL_law_1283 (by decide) (fun _ => hend) (fun z9 => absurd ?_ z9)
  cases o with
  | none => rw [k0] at hk9; exact absurd hk9 (by decide)
  | some w => rw [e2, hw9 w rfl, hb w rfl]
def la_c34 (d : Nat) (sc : Nat × (Nat → Int32)) (I : ab_S → Prop) : Prop := ∀ (σ : ab_S) (a1 a2 a3 : Int32), I σ → ∃ (o : Option Int64) (b : Int64) (P1 P2 : ab_S → Prop), ab_CallX MX11_shut d [.ref 3, .int a1, .int a2, .int a3] σ (ab_E0 sc) (fun v σ1 E1 => E1 = ab_E0 sc ∧ v = o.map (fun w => some (.long w)) ∧ P1 σ1) ∧ (∀ σ1 w, P1 σ1 → P1 (la_o σ1 w)) ∧ (∀ σ1, P1 σ1 → ab_Sp MX12_shut (d + 1) [.ref 205, .int a1, .int a2, .int a3] σ1 (ab_E0 sc) (some (.long b)) (fun σ2 => σ2.2.1 249 0 = σ1.2.1 249 0 ∧ P2 σ2)) ∧ (∀ σ2, P2 σ2 → I σ2 ∧ ab_Sp MX12_thrown (d + 1) [.ref 205] σ2 (ab_E0 sc) (some (.int (if o = none then 1 else 0))) (fun σ3 => σ3 = σ2)) ∧ ∀ w, o = some w → w = b
theorem la_case34 {d c z : Nat} {Q : ab_Qt} {sc : Nat × (Nat → Int32)} {i : Int32} {σ : ab_S} {I : ab_S → Prop} (hc : la_c34 d sc I) (hI : I σ) (hi : la_in sc i) (hz : c + 1 ≤ 601024 ∧ z + 6 ≤ 7293034) (h : ∀ (σ2 : ab_S) (c2 z2 : Nat), I σ2 → c2 ≤ c + 1 → z2 ≤ z + 6 → ab_Fr ML_law (d + 2) Q 1576 (la_L i) [] (c2, z2) σ2 (ab_E0 sc)) : ab_Fr ML_law (d + 2) Q 1291 (la_L i) [] (c, z) σ (ab_E0 sc) := by
  obtain ⟨o, b, P1, P2, h1, h1b, h2, h3, hb⟩ := hc σ (la_a sc i 1) (la_a sc i 2) (la_a sc i 3) hI
  refine ab_aloadn dL_law_1291 rfl ?_
  refine ab_aloadn dL_law_1292 rfl ?_
  refine ab_iload dL_law_1293 rfl ?_
  refine ab_iconst (v := 1) dL_law_1295 (by decide) ?_
  refine ab_iadd dL_law_1296 ?_
  refine ab_sld (v := la_a sc i 1) dL_law_1297 hi.2.1 rfl ?_
  refine ab_aloadn dL_law_1298 rfl ?_
  refine ab_iload dL_law_1299 rfl ?_
  refine ab_iconst (v := 2) dL_law_1301 (by decide) ?_
  refine ab_iadd dL_law_1302 ?_
  refine ab_sld (v := la_a sc i 2) dL_law_1303 hi.2.2.1 rfl ?_
  refine ab_aloadn dL_law_1304 rfl ?_
  refine ab_iload dL_law_1305 rfl ?_
  refine ab_iconst (v := 3) dL_law_1307 (by decide) ?_
  refine ab_iadd dL_law_1308 ?_
  refine ab_sld (v := la_a sc i 3) dL_law_1309 hi.2.2.2.1 rfl ?_
  refine ab_aloadn dL_law_1310 rfl ?_
  refine ab_callW (vs := [.ref 3, .int (la_a sc i 1), .int (la_a sc i 2), .int (la_a sc i 3), .ref 249]) (st := []) (n := 5) dL_law_1311 wd_137 cw_shut ⟨by decide +kernel, by decide +kernel, by decide +kernel⟩ (Nat.le_of_ble_eq_true rfl) wd_1238 wd_1237 rfl rfl (Nat.le_of_ble_eq_true rfl) hz (wr_shut h1 (fun o2 σ2 E2 hq => ⟨hq.1, fun v hv => by have h9 := hq.2.1; rw [hv] at h9; cases o with | none => cases h9 | some w => exact ⟨w, Option.some.inj h9⟩⟩)) ?_
  rintro v9 σ1 E9 - ⟨rfl, hv⟩
  have hk : ∃ k9 : Int32, v9 = some (.int k9) ∧ k9 = (if o = none then 1 else 0) ∧ P1 σ1 ∧ ∀ w, o = some w → σ1.2.1 249 0 = w := by
    rcases hv with ⟨rfl, h9⟩ | ⟨rfl, w, σ0, h9, rfl⟩
    · cases o with
      | none => exact ⟨1, rfl, rfl, h9.2.2, fun w hw => by cases hw⟩
      | some w => cases h9.2.1
    · cases o with
      | none => cases h9.2.1
      | some w2 =>
        have h8 := h9.2.1
        simp only [Option.map_some, Option.some.injEq, Value.long.injEq] at h8
        refine ⟨0, rfl, rfl, h1b σ0 w h9.2.2, fun w3 hw => ?_⟩
        cases hw
        simp [ab_u, h8]
  obtain ⟨k9, rfl, hk9, p1, hw9⟩ := hk
  show ab_Fr ML_law (d + 2) Q 1314 (la_L i) [.int k9] (c + 1, z + 6) σ1 (ab_E0 sc)
  refine ab_istore dL_law_1314 (Nat.le_of_ble_eq_true rfl) (L2 := [some (.ref 0), some (.ref 3), some (.ref 205), some (.ref 249), some (.int i), some (.int k9), none, none]) rfl ?_
  refine ab_aloadn dL_law_1316 rfl ?_
  refine ab_aloadn dL_law_1317 rfl ?_
  refine ab_iload dL_law_1318 rfl ?_
  refine ab_iconst (v := 1) dL_law_1320 (by decide) ?_
  refine ab_iadd dL_law_1321 ?_
  refine ab_sld (v := la_a sc i 1) dL_law_1322 hi.2.1 rfl ?_
  refine ab_aloadn dL_law_1323 rfl ?_
  refine ab_iload dL_law_1324 rfl ?_
  refine ab_iconst (v := 2) dL_law_1326 (by decide) ?_
  refine ab_iadd dL_law_1327 ?_
  refine ab_sld (v := la_a sc i 2) dL_law_1328 hi.2.2.1 rfl ?_
  refine ab_aloadn dL_law_1329 rfl ?_
  refine ab_iload dL_law_1330 rfl ?_
  refine ab_iconst (v := 3) dL_law_1332 (by decide) ?_
  refine ab_iadd dL_law_1333 ?_
  refine ab_sld (v := la_a sc i 3) dL_law_1334 hi.2.2.2.1 rfl ?_
  refine ab_callV (vs := [.int (la_a sc i 1), .int (la_a sc i 2), .int (la_a sc i 3)]) (st := []) dL_law_1335 okMX12_shut wd_1782 kd_205 rfl rfl rfl (Nat.le_of_ble_eq_true rfl) hz (h2 σ1 p1) ?_
  rintro v9 σ2 E9 - ⟨rfl, rfl, e2, p2⟩
  show ab_Fr ML_law (d + 2) Q 1338 [some (.ref 0), some (.ref 3), some (.ref 205), some (.ref 249), some (.int i), some (.int k9), none, none] [.long b] (c + 1, z + 6) σ2 (ab_E0 sc)
  refine ab_lstore dL_law_1338 (Nat.le_of_ble_eq_true rfl) (L2 := [some (.ref 0), some (.ref 3), some (.ref 205), some (.ref 249), some (.int i), some (.int k9), some (.long b), none]) rfl ?_
  refine ab_aloadn dL_law_1340 rfl ?_
  refine ab_callV (vs := []) (st := []) dL_law_1341 okMX12_thrown wd_1399 kd_205 rfl rfl rfl (Nat.le_of_ble_eq_true rfl) hz (h3 σ2 p2).2 ?_
  rintro v9 σ3 E9 - ⟨rfl, rfl, rfl⟩
  show ab_Fr ML_law (d + 2) Q 1344 [some (.ref 0), some (.ref 3), some (.ref 205), some (.ref 249), some (.int i), some (.int k9), some (.long b), none] [.int (if o = none then 1 else 0)] (c + 1, z + 6) σ3 (ab_E0 sc)
  refine ab_iload dL_law_1344 rfl ?_
  refine ab_icmp_eq (tgt := 1351) dL_law_1346 (by decide) (fun _ => ?_) (fun z => absurd hk9.symm z)
  have hend : ab_Fr ML_law (d + 2) Q 1367 [some (.ref 0), some (.ref 3), some (.ref 205), some (.ref 249), some (.int i), some (.int k9), some (.long b), none] [] (c + 1, z + 6) σ3 (ab_E0 sc) := by
    refine ab_goto (tgt := 1576) dL_law_1367 (by decide) ?_
    refine ab_forget (i := 5) (L2 := [some (.ref 0), some (.ref 3), some (.ref 205), some (.ref 249), some (.int i), none, some (.long b), none]) rfl ?_
    refine ab_forget (i := 6) (L2 := [some (.ref 0), some (.ref 3), some (.ref 205), some (.ref 249), some (.int i), none, none, none]) rfl ?_
    exact h σ3 (c + 1) (z + 6) (h3 σ3 p2).1 (Nat.le_refl _) (Nat.le_refl _)
  refine ab_iload dL_law_1351 rfl ?_
  refine ab_if_ne (tgt := 1367) dL_law_1353 (by decide) (fun _ => hend) (fun k0 => ?_)
  refine ab_aloadn dL_law_1356 rfl ?_
  refine ab_iconst (v := 0) dL_law_1357 (by decide) ?_
  refine ab_laload (v := σ3.2.1 249 0) dL_law_1358 kd_249 (ab_vp (by decide)) rfl ?_
  refine ab_lload dL_law_1359 rfl ?_
  refine ab_lceq (tgt := 1367) dL_law_1361 dL_law_1362 (by decide) (fun _ => hend) (fun z9 => absurd ?_ z9)
  cases o with
  | none => rw [k0] at hk9; exact absurd hk9 (by decide)
  | some w => rw [e2, hw9 w rfl, hb w rfl]
def la_c35 (d : Nat) (sc : Nat × (Nat → Int32)) (I : ab_S → Prop) : Prop := ∀ (σ : ab_S), I σ → ∃ (r : Int32) (P : ab_S → Prop), ab_Sp MX11_fits (d + 1) [.ref 3] σ (ab_E0 sc) (some (.int r)) P ∧ ∀ σ1, P σ1 → ab_Sp MX12_fits (d + 1) [.ref 205] σ1 (ab_E0 sc) (some (.int r)) I
theorem la_case35 {d c z : Nat} {Q : ab_Qt} {sc : Nat × (Nat → Int32)} {i : Int32} {σ : ab_S} {I : ab_S → Prop} (hc : la_c35 d sc I) (hI : I σ) (hi : la_in sc i) (hz : c + 1 ≤ 601024 ∧ z + 6 ≤ 7293034) (h : ∀ (σ2 : ab_S) (c2 z2 : Nat), I σ2 → c2 ≤ c + 1 → z2 ≤ z + 6 → ab_Fr ML_law (d + 2) Q 1576 (la_L i) [] (c2, z2) σ2 (ab_E0 sc)) : ab_Fr ML_law (d + 2) Q 1370 (la_L i) [] (c, z) σ (ab_E0 sc) := by
  obtain ⟨r, P, h1, h2⟩ := hc σ hI
  refine ab_aloadn dL_law_1370 rfl ?_
  refine ab_callV (vs := []) (st := []) dL_law_1371 okMX11_fits wd_1034 kd_3 rfl rfl rfl (Nat.le_of_ble_eq_true rfl) ⟨Nat.le_trans (Nat.le_add_right _ 1) hz.1, Nat.le_trans (Nat.le_add_right _ 6) hz.2⟩ h1 ?_
  rintro v9 σ1 E9 - ⟨rfl, rfl, p1⟩
  show ab_Fr ML_law (d + 2) Q 1374 (la_L i) [.int r] (c, z) σ1 (ab_E0 sc)
  refine ab_aloadn dL_law_1374 rfl ?_
  refine ab_callV (vs := []) (st := [.int r]) dL_law_1375 okMX12_fits wd_1790 kd_205 rfl rfl rfl (Nat.le_of_ble_eq_true rfl) ⟨Nat.le_trans (Nat.le_add_right _ 1) hz.1, Nat.le_trans (Nat.le_add_right _ 6) hz.2⟩ (h2 σ1 p1) ?_
  rintro v9 σ2 E9 - ⟨rfl, rfl, p2⟩
  show ab_Fr ML_law (d + 2) Q 1378 (la_L i) [.int r, .int r] (c, z) σ2 (ab_E0 sc)
  refine ab_icmp_eq (tgt := 1576) dL_law_1378 (by decide) (fun _ => ?_) (fun z => absurd rfl z)
  exact (h σ2 c z p2 (Nat.le_add_right _ _) (Nat.le_add_right _ _))
def la_c36 (d : Nat) (sc : Nat × (Nat → Int32)) (I : ab_S → Prop) : Prop := ∀ (σ : ab_S) (a1 a2 : Int32), I σ → ∃ (r : Int32) (P : ab_S → Prop), ab_Sp MX11_fitAt (d + 1) [.ref 3, .int a1, .int a2] σ (ab_E0 sc) (some (.int r)) P ∧ ∀ σ1, P σ1 → ab_Sp MX12_fitAt (d + 1) [.ref 205, .int a1, .int a2] σ1 (ab_E0 sc) (some (.int r)) I
theorem la_case36 {d c z : Nat} {Q : ab_Qt} {sc : Nat × (Nat → Int32)} {i : Int32} {σ : ab_S} {I : ab_S → Prop} (hc : la_c36 d sc I) (hI : I σ) (hi : la_in sc i) (hz : c + 1 ≤ 601024 ∧ z + 6 ≤ 7293034) (h : ∀ (σ2 : ab_S) (c2 z2 : Nat), I σ2 → c2 ≤ c + 1 → z2 ≤ z + 6 → ab_Fr ML_law (d + 2) Q 1576 (la_L i) [] (c2, z2) σ2 (ab_E0 sc)) : ab_Fr ML_law (d + 2) Q 1383 (la_L i) [] (c, z) σ (ab_E0 sc) := by
  obtain ⟨r, P, h1, h2⟩ := hc σ (la_a sc i 1) (la_a sc i 2) hI
  refine ab_aloadn dL_law_1383 rfl ?_
  refine ab_aloadn dL_law_1384 rfl ?_
  refine ab_iload dL_law_1385 rfl ?_
  refine ab_iconst (v := 1) dL_law_1387 (by decide) ?_
  refine ab_iadd dL_law_1388 ?_
  refine ab_sld (v := la_a sc i 1) dL_law_1389 hi.2.1 rfl ?_
  refine ab_aloadn dL_law_1390 rfl ?_
  refine ab_iload dL_law_1391 rfl ?_
  refine ab_iconst (v := 2) dL_law_1393 (by decide) ?_
  refine ab_iadd dL_law_1394 ?_
  refine ab_sld (v := la_a sc i 2) dL_law_1395 hi.2.2.1 rfl ?_
  refine ab_callV (vs := [.int (la_a sc i 1), .int (la_a sc i 2)]) (st := []) dL_law_1396 okMX11_fitAt wd_1060 kd_3 rfl rfl rfl (Nat.le_of_ble_eq_true rfl) ⟨Nat.le_trans (Nat.le_add_right _ 1) hz.1, Nat.le_trans (Nat.le_add_right _ 6) hz.2⟩ h1 ?_
  rintro v9 σ1 E9 - ⟨rfl, rfl, p1⟩
  show ab_Fr ML_law (d + 2) Q 1399 (la_L i) [.int r] (c, z) σ1 (ab_E0 sc)
  refine ab_aloadn dL_law_1399 rfl ?_
  refine ab_aloadn dL_law_1400 rfl ?_
  refine ab_iload dL_law_1401 rfl ?_
  refine ab_iconst (v := 1) dL_law_1403 (by decide) ?_
  refine ab_iadd dL_law_1404 ?_
  refine ab_sld (v := la_a sc i 1) dL_law_1405 hi.2.1 rfl ?_
  refine ab_aloadn dL_law_1406 rfl ?_
  refine ab_iload dL_law_1407 rfl ?_
  refine ab_iconst (v := 2) dL_law_1409 (by decide) ?_
  refine ab_iadd dL_law_1410 ?_
  refine ab_sld (v := la_a sc i 2) dL_law_1411 hi.2.2.1 rfl ?_
  refine ab_callV (vs := [.int (la_a sc i 1), .int (la_a sc i 2)]) (st := [.int r]) dL_law_1412 okMX12_fitAt wd_1794 kd_205 rfl rfl rfl (Nat.le_of_ble_eq_true rfl) ⟨Nat.le_trans (Nat.le_add_right _ 1) hz.1, Nat.le_trans (Nat.le_add_right _ 6) hz.2⟩ (h2 σ1 p1) ?_
  rintro v9 σ2 E9 - ⟨rfl, rfl, p2⟩
  show ab_Fr ML_law (d + 2) Q 1415 (la_L i) [.int r, .int r] (c, z) σ2 (ab_E0 sc)
  refine ab_icmp_eq (tgt := 1576) dL_law_1415 (by decide) (fun _ => ?_) (fun z => absurd rfl z)
  exact (h σ2 c z p2 (Nat.le_add_right _ _) (Nat.le_add_right _ _))
def la_c37 (d : Nat) (sc : Nat × (Nat → Int32)) (I : ab_S → Prop) : Prop := ∀ (σ : ab_S), I σ → ∃ (r : Int64) (P : ab_S → Prop), ab_Sp MX11_weighed (d + 1) [.ref 3] σ (ab_E0 sc) (some (.long r)) P ∧ ∀ σ1, P σ1 → ab_Sp MX12_weighed (d + 1) [.ref 205] σ1 (ab_E0 sc) (some (.long r)) I
theorem la_case37 {d c z : Nat} {Q : ab_Qt} {sc : Nat × (Nat → Int32)} {i : Int32} {σ : ab_S} {I : ab_S → Prop} (hc : la_c37 d sc I) (hI : I σ) (hi : la_in sc i) (hz : c + 1 ≤ 601024 ∧ z + 6 ≤ 7293034) (h : ∀ (σ2 : ab_S) (c2 z2 : Nat), I σ2 → c2 ≤ c + 1 → z2 ≤ z + 6 → ab_Fr ML_law (d + 2) Q 1576 (la_L i) [] (c2, z2) σ2 (ab_E0 sc)) : ab_Fr ML_law (d + 2) Q 1420 (la_L i) [] (c, z) σ (ab_E0 sc) := by
  obtain ⟨r, P, h1, h2⟩ := hc σ hI
  refine ab_aloadn dL_law_1420 rfl ?_
  refine ab_callV (vs := []) (st := []) dL_law_1421 okMX11_weighed wd_1064 kd_3 rfl rfl rfl (Nat.le_of_ble_eq_true rfl) ⟨Nat.le_trans (Nat.le_add_right _ 1) hz.1, Nat.le_trans (Nat.le_add_right _ 6) hz.2⟩ h1 ?_
  rintro v9 σ1 E9 - ⟨rfl, rfl, p1⟩
  show ab_Fr ML_law (d + 2) Q 1424 (la_L i) [.long r] (c, z) σ1 (ab_E0 sc)
  refine ab_aloadn dL_law_1424 rfl ?_
  refine ab_callV (vs := []) (st := [.long r]) dL_law_1425 okMX12_weighed wd_1734 kd_205 rfl rfl rfl (Nat.le_of_ble_eq_true rfl) ⟨Nat.le_trans (Nat.le_add_right _ 1) hz.1, Nat.le_trans (Nat.le_add_right _ 6) hz.2⟩ (h2 σ1 p1) ?_
  rintro v9 σ2 E9 - ⟨rfl, rfl, p2⟩
  show ab_Fr ML_law (d + 2) Q 1428 (la_L i) [.long r, .long r] (c, z) σ2 (ab_E0 sc)
  refine ab_lceq (tgt := 1576) dL_law_1428 dL_law_1429 (by decide) (fun _ => ?_) (fun z => absurd rfl z)
  exact (h σ2 c z p2 (Nat.le_add_right _ _) (Nat.le_add_right _ _))
def la_c38 (d : Nat) (sc : Nat × (Nat → Int32)) (I : ab_S → Prop) : Prop := ∀ (σ : ab_S) (a1 : Int32), I σ → ∃ (r : Int32) (P : ab_S → Prop), ab_Sp MX11_weighedAt (d + 1) [.ref 3, .int a1] σ (ab_E0 sc) (some (.int r)) P ∧ ∀ σ1, P σ1 → ab_Sp MX12_weighedAt (d + 1) [.ref 205, .int a1] σ1 (ab_E0 sc) (some (.int r)) I
theorem la_case38 {d c z : Nat} {Q : ab_Qt} {sc : Nat × (Nat → Int32)} {i : Int32} {σ : ab_S} {I : ab_S → Prop} (hc : la_c38 d sc I) (hI : I σ) (hi : la_in sc i) (hz : c + 1 ≤ 601024 ∧ z + 6 ≤ 7293034) (h : ∀ (σ2 : ab_S) (c2 z2 : Nat), I σ2 → c2 ≤ c + 1 → z2 ≤ z + 6 → ab_Fr ML_law (d + 2) Q 1576 (la_L i) [] (c2, z2) σ2 (ab_E0 sc)) : ab_Fr ML_law (d + 2) Q 1434 (la_L i) [] (c, z) σ (ab_E0 sc) := by
  obtain ⟨r, P, h1, h2⟩ := hc σ (la_a sc i 1) hI
  refine ab_aloadn dL_law_1434 rfl ?_
  refine ab_aloadn dL_law_1435 rfl ?_
  refine ab_iload dL_law_1436 rfl ?_
  refine ab_iconst (v := 1) dL_law_1438 (by decide) ?_
  refine ab_iadd dL_law_1439 ?_
  refine ab_sld (v := la_a sc i 1) dL_law_1440 hi.2.1 rfl ?_
  refine ab_callV (vs := [.int (la_a sc i 1)]) (st := []) dL_law_1441 okMX11_weighedAt wd_1095 kd_3 rfl rfl rfl (Nat.le_of_ble_eq_true rfl) ⟨Nat.le_trans (Nat.le_add_right _ 1) hz.1, Nat.le_trans (Nat.le_add_right _ 6) hz.2⟩ h1 ?_
  rintro v9 σ1 E9 - ⟨rfl, rfl, p1⟩
  show ab_Fr ML_law (d + 2) Q 1444 (la_L i) [.int r] (c, z) σ1 (ab_E0 sc)
  refine ab_aloadn dL_law_1444 rfl ?_
  refine ab_aloadn dL_law_1445 rfl ?_
  refine ab_iload dL_law_1446 rfl ?_
  refine ab_iconst (v := 1) dL_law_1448 (by decide) ?_
  refine ab_iadd dL_law_1449 ?_
  refine ab_sld (v := la_a sc i 1) dL_law_1450 hi.2.1 rfl ?_
  refine ab_callV (vs := [.int (la_a sc i 1)]) (st := [.int r]) dL_law_1451 okMX12_weighedAt wd_1738 kd_205 rfl rfl rfl (Nat.le_of_ble_eq_true rfl) ⟨Nat.le_trans (Nat.le_add_right _ 1) hz.1, Nat.le_trans (Nat.le_add_right _ 6) hz.2⟩ (h2 σ1 p1) ?_
  rintro v9 σ2 E9 - ⟨rfl, rfl, p2⟩
  show ab_Fr ML_law (d + 2) Q 1454 (la_L i) [.int r, .int r] (c, z) σ2 (ab_E0 sc)
  refine ab_icmp_eq (tgt := 1576) dL_law_1454 (by decide) (fun _ => ?_) (fun z => absurd rfl z)
  exact (h σ2 c z p2 (Nat.le_add_right _ _) (Nat.le_add_right _ _))
def la_c39 (d : Nat) (sc : Nat × (Nat → Int32)) (I : ab_S → Prop) : Prop := ∀ (σ : ab_S), I σ → ∃ (r : Int32) (P : ab_S → Prop), ab_Sp MX11_guess (d + 1) [.ref 3] σ (ab_E0 sc) (some (.int r)) P ∧ ∀ σ1, P σ1 → ab_Sp MX12_guess (d + 1) [.ref 205] σ1 (ab_E0 sc) (some (.int r)) I
theorem la_case39 {d c z : Nat} {Q : ab_Qt} {sc : Nat × (Nat → Int32)} {i : Int32} {σ : ab_S} {I : ab_S → Prop} (hc : la_c39 d sc I) (hI : I σ) (hi : la_in sc i) (hz : c + 1 ≤ 601024 ∧ z + 6 ≤ 7293034) (h : ∀ (σ2 : ab_S) (c2 z2 : Nat), I σ2 → c2 ≤ c + 1 → z2 ≤ z + 6 → ab_Fr ML_law (d + 2) Q 1576 (la_L i) [] (c2, z2) σ2 (ab_E0 sc)) : ab_Fr ML_law (d + 2) Q 1459 (la_L i) [] (c, z) σ (ab_E0 sc) := by
  obtain ⟨r, P, h1, h2⟩ := hc σ hI
  refine ab_aloadn dL_law_1459 rfl ?_
  refine ab_callV (vs := []) (st := []) dL_law_1460 okMX11_guess wd_1099 kd_3 rfl rfl rfl (Nat.le_of_ble_eq_true rfl) ⟨Nat.le_trans (Nat.le_add_right _ 1) hz.1, Nat.le_trans (Nat.le_add_right _ 6) hz.2⟩ h1 ?_
  rintro v9 σ1 E9 - ⟨rfl, rfl, p1⟩
  show ab_Fr ML_law (d + 2) Q 1463 (la_L i) [.int r] (c, z) σ1 (ab_E0 sc)
  refine ab_aloadn dL_law_1463 rfl ?_
  refine ab_callV (vs := []) (st := [.int r]) dL_law_1464 okMX12_guess wd_1786 kd_205 rfl rfl rfl (Nat.le_of_ble_eq_true rfl) ⟨Nat.le_trans (Nat.le_add_right _ 1) hz.1, Nat.le_trans (Nat.le_add_right _ 6) hz.2⟩ (h2 σ1 p1) ?_
  rintro v9 σ2 E9 - ⟨rfl, rfl, p2⟩
  show ab_Fr ML_law (d + 2) Q 1467 (la_L i) [.int r, .int r] (c, z) σ2 (ab_E0 sc)
  refine ab_icmp_eq (tgt := 1576) dL_law_1467 (by decide) (fun _ => ?_) (fun z => absurd rfl z)
  exact (h σ2 c z p2 (Nat.le_add_right _ _) (Nat.le_add_right _ _))
def la_c40 (d : Nat) (sc : Nat × (Nat → Int32)) (I : ab_S → Prop) : Prop := ∀ (σ : ab_S) (a1 a2 : Int32), I σ → ∃ (o : Option Int64) (b : Int64) (P1 P2 : ab_S → Prop), ab_CallX MX11_many d [.ref 3, .int a1, .int a2] σ (ab_E0 sc) (fun v σ1 E1 => E1 = ab_E0 sc ∧ v = o.map (fun w => some (.long w)) ∧ P1 σ1) ∧ (∀ σ1 w, P1 σ1 → P1 (la_o σ1 w)) ∧ (∀ σ1, P1 σ1 → ab_Sp MX12_many (d + 1) [.ref 205, .int a1, .int a2] σ1 (ab_E0 sc) (some (.long b)) (fun σ2 => σ2.2.1 249 0 = σ1.2.1 249 0 ∧ P2 σ2)) ∧ (∀ σ2, P2 σ2 → I σ2 ∧ ab_Sp MX12_thrown (d + 1) [.ref 205] σ2 (ab_E0 sc) (some (.int (if o = none then 1 else 0))) (fun σ3 => σ3 = σ2)) ∧ ∀ w, o = some w → w = b
theorem la_case40 {d c z : Nat} {Q : ab_Qt} {sc : Nat × (Nat → Int32)} {i : Int32} {σ : ab_S} {I : ab_S → Prop} (hc : la_c40 d sc I) (hI : I σ) (hi : la_in sc i) (hz : c + 1 ≤ 601024 ∧ z + 6 ≤ 7293034) (h : ∀ (σ2 : ab_S) (c2 z2 : Nat), I σ2 → c2 ≤ c + 1 → z2 ≤ z + 6 → ab_Fr ML_law (d + 2) Q 1576 (la_L i) [] (c2, z2) σ2 (ab_E0 sc)) : ab_Fr ML_law (d + 2) Q 1472 (la_L i) [] (c, z) σ (ab_E0 sc) := by
  obtain ⟨o, b, P1, P2, h1, h1b, h2, h3, hb⟩ := hc σ (la_a sc i 1) (la_a sc i 2) hI
  refine ab_aloadn dL_law_1472 rfl ?_
  refine ab_aloadn dL_law_1473 rfl ?_
  refine ab_iload dL_law_1474 rfl ?_
  refine ab_iconst (v := 1) dL_law_1476 (by decide) ?_
  refine ab_iadd dL_law_1477 ?_
  refine ab_sld (v := la_a sc i 1) dL_law_1478 hi.2.1 rfl ?_
  refine ab_aloadn dL_law_1479 rfl ?_
  refine ab_iload dL_law_1480 rfl ?_
  refine ab_iconst (v := 2) dL_law_1482 (by decide) ?_
  refine ab_iadd dL_law_1483 ?_
  refine ab_sld (v := la_a sc i 2) dL_law_1484 hi.2.2.1 rfl ?_
  refine ab_aloadn dL_law_1485 rfl ?_
  refine ab_callW (vs := [.ref 3, .int (la_a sc i 1), .int (la_a sc i 2), .ref 249]) (st := []) (n := 4) dL_law_1486 wd_137 cw_many ⟨by decide +kernel, by decide +kernel, by decide +kernel⟩ (Nat.le_of_ble_eq_true rfl) wd_1244 wd_1243 rfl rfl (Nat.le_of_ble_eq_true rfl) hz (wr_many h1 (fun o2 σ2 E2 hq => ⟨hq.1, fun v hv => by have h9 := hq.2.1; rw [hv] at h9; cases o with | none => cases h9 | some w => exact ⟨w, Option.some.inj h9⟩⟩)) ?_
  rintro v9 σ1 E9 - ⟨rfl, hv⟩
  have hk : ∃ k9 : Int32, v9 = some (.int k9) ∧ k9 = (if o = none then 1 else 0) ∧ P1 σ1 ∧ ∀ w, o = some w → σ1.2.1 249 0 = w := by
    rcases hv with ⟨rfl, h9⟩ | ⟨rfl, w, σ0, h9, rfl⟩
    · cases o with
      | none => exact ⟨1, rfl, rfl, h9.2.2, fun w hw => by cases hw⟩
      | some w => cases h9.2.1
    · cases o with
      | none => cases h9.2.1
      | some w2 =>
        have h8 := h9.2.1
        simp only [Option.map_some, Option.some.injEq, Value.long.injEq] at h8
        refine ⟨0, rfl, rfl, h1b σ0 w h9.2.2, fun w3 hw => ?_⟩
        cases hw
        simp [ab_u, h8]
  obtain ⟨k9, rfl, hk9, p1, hw9⟩ := hk
  show ab_Fr ML_law (d + 2) Q 1489 (la_L i) [.int k9] (c + 1, z + 6) σ1 (ab_E0 sc)
  refine ab_istore dL_law_1489 (Nat.le_of_ble_eq_true rfl) (L2 := [some (.ref 0), some (.ref 3), some (.ref 205), some (.ref 249), some (.int i), some (.int k9), none, none]) rfl ?_
  refine ab_aloadn dL_law_1491 rfl ?_
  refine ab_aloadn dL_law_1492 rfl ?_
  refine ab_iload dL_law_1493 rfl ?_
  refine ab_iconst (v := 1) dL_law_1495 (by decide) ?_
  refine ab_iadd dL_law_1496 ?_
  refine ab_sld (v := la_a sc i 1) dL_law_1497 hi.2.1 rfl ?_
  refine ab_aloadn dL_law_1498 rfl ?_
  refine ab_iload dL_law_1499 rfl ?_
  refine ab_iconst (v := 2) dL_law_1501 (by decide) ?_
  refine ab_iadd dL_law_1502 ?_
  refine ab_sld (v := la_a sc i 2) dL_law_1503 hi.2.2.1 rfl ?_
  refine ab_callV (vs := [.int (la_a sc i 1), .int (la_a sc i 2)]) (st := []) dL_law_1504 okMX12_many wd_1798 kd_205 rfl rfl rfl (Nat.le_of_ble_eq_true rfl) hz (h2 σ1 p1) ?_
  rintro v9 σ2 E9 - ⟨rfl, rfl, e2, p2⟩
  show ab_Fr ML_law (d + 2) Q 1507 [some (.ref 0), some (.ref 3), some (.ref 205), some (.ref 249), some (.int i), some (.int k9), none, none] [.long b] (c + 1, z + 6) σ2 (ab_E0 sc)
  refine ab_lstore dL_law_1507 (Nat.le_of_ble_eq_true rfl) (L2 := [some (.ref 0), some (.ref 3), some (.ref 205), some (.ref 249), some (.int i), some (.int k9), some (.long b), none]) rfl ?_
  refine ab_aloadn dL_law_1509 rfl ?_
  refine ab_callV (vs := []) (st := []) dL_law_1510 okMX12_thrown wd_1399 kd_205 rfl rfl rfl (Nat.le_of_ble_eq_true rfl) hz (h3 σ2 p2).2 ?_
  rintro v9 σ3 E9 - ⟨rfl, rfl, rfl⟩
  show ab_Fr ML_law (d + 2) Q 1513 [some (.ref 0), some (.ref 3), some (.ref 205), some (.ref 249), some (.int i), some (.int k9), some (.long b), none] [.int (if o = none then 1 else 0)] (c + 1, z + 6) σ3 (ab_E0 sc)
  refine ab_iload dL_law_1513 rfl ?_
  refine ab_icmp_eq (tgt := 1520) dL_law_1515 (by decide) (fun _ => ?_) (fun z => absurd hk9.symm z)
  have hend : ab_Fr ML_law (d + 2) Q 1536 [some (.ref 0), some (.ref 3), some (.ref 205), some (.ref 249), some (.int i), some (.int k9), some (.long b), none] [] (c + 1, z + 6) σ3 (ab_E0 sc) := by
    refine ab_goto (tgt := 1576) dL_law_1536 (by decide) ?_
    refine ab_forget (i := 5) (L2 := [some (.ref 0), some (.ref 3), some (.ref 205), some (.ref 249), some (.int i), none, some (.long b), none]) rfl ?_
    refine ab_forget (i := 6) (L2 := [some (.ref 0), some (.ref 3), some (.ref 205), some (.ref 249), some (.int i), none, none, none]) rfl ?_
    exact h σ3 (c + 1) (z + 6) (h3 σ3 p2).1 (Nat.le_refl _) (Nat.le_refl _)
  refine ab_iload dL_law_1520 rfl ?_
  refine ab_if_ne (tgt := 1536) dL_law_1522 (by decide) (fun _ => hend) (fun k0 => ?_)
  refine ab_aloadn dL_law_1525 rfl ?_
  refine ab_iconst (v := 0) dL_law_1526 (by decide) ?_
  refine ab_laload (v := σ3.2.1 249 0) dL_law_1527 kd_249 (ab_vp (by decide)) rfl ?_
  refine ab_lload dL_law_1528 rfl ?_
  refine ab_lceq (tgt := 1536) dL_law_1530 dL_law_1531 (by decide) (fun _ => hend) (fun z9 => absurd ?_ z9)
  cases o with
  | none => rw [k0] at hk9; exact absurd hk9 (by decide)
  | some w => rw [e2, hw9 w rfl, hb w rfl]
def la_c41 (d : Nat) (sc : Nat × (Nat → Int32)) (I : ab_S → Prop) : Prop := ∀ (σ : ab_S) (a1 a2 : Int32), I σ → ∃ (r : Int32) (P : ab_S → Prop), ab_Sp MX11_run (d + 1) [.ref 3, .int a1, .int a2] σ (ab_E0 sc) (some (.int r)) P ∧ ∀ σ1, P σ1 → ab_Sp MX12_run (d + 1) [.ref 205, .int a1, .int a2] σ1 (ab_E0 sc) (some (.int r)) I
theorem la_case41 {d c z : Nat} {Q : ab_Qt} {sc : Nat × (Nat → Int32)} {i : Int32} {σ : ab_S} {I : ab_S → Prop} (hc : la_c41 d sc I) (hI : I σ) (hi : la_in sc i) (hz : c + 1 ≤ 601024 ∧ z + 6 ≤ 7293034) (h : ∀ (σ2 : ab_S) (c2 z2 : Nat), I σ2 → c2 ≤ c + 1 → z2 ≤ z + 6 → ab_Fr ML_law (d + 2) Q 1576 (la_L i) [] (c2, z2) σ2 (ab_E0 sc)) : ab_Fr ML_law (d + 2) Q 1539 (la_L i) [] (c, z) σ (ab_E0 sc) := by
  obtain ⟨r, P, h1, h2⟩ := hc σ (la_a sc i 1) (la_a sc i 2) hI
  refine ab_aloadn dL_law_1539 rfl ?_
  refine ab_aloadn dL_law_1540 rfl ?_
  refine ab_iload dL_law_1541 rfl ?_
  refine ab_iconst (v := 1) dL_law_1543 (by decide) ?_
  refine ab_iadd dL_law_1544 ?_
  refine ab_sld (v := la_a sc i 1) dL_law_1545 hi.2.1 rfl ?_
  refine ab_aloadn dL_law_1546 rfl ?_
  refine ab_iload dL_law_1547 rfl ?_
  refine ab_iconst (v := 2) dL_law_1549 (by decide) ?_
  refine ab_iadd dL_law_1550 ?_
  refine ab_sld (v := la_a sc i 2) dL_law_1551 hi.2.2.1 rfl ?_
  refine ab_callV (vs := [.int (la_a sc i 1), .int (la_a sc i 2)]) (st := []) dL_law_1552 okMX11_run wd_1116 kd_3 rfl rfl rfl (Nat.le_of_ble_eq_true rfl) ⟨Nat.le_trans (Nat.le_add_right _ 1) hz.1, Nat.le_trans (Nat.le_add_right _ 6) hz.2⟩ h1 ?_
  rintro v9 σ1 E9 - ⟨rfl, rfl, p1⟩
  show ab_Fr ML_law (d + 2) Q 1555 (la_L i) [.int r] (c, z) σ1 (ab_E0 sc)
  refine ab_aloadn dL_law_1555 rfl ?_
  refine ab_aloadn dL_law_1556 rfl ?_
  refine ab_iload dL_law_1557 rfl ?_
  refine ab_iconst (v := 1) dL_law_1559 (by decide) ?_
  refine ab_iadd dL_law_1560 ?_
  refine ab_sld (v := la_a sc i 1) dL_law_1561 hi.2.1 rfl ?_
  refine ab_aloadn dL_law_1562 rfl ?_
  refine ab_iload dL_law_1563 rfl ?_
  refine ab_iconst (v := 2) dL_law_1565 (by decide) ?_
  refine ab_iadd dL_law_1566 ?_
  refine ab_sld (v := la_a sc i 2) dL_law_1567 hi.2.2.1 rfl ?_
  refine ab_callV (vs := [.int (la_a sc i 1), .int (la_a sc i 2)]) (st := [.int r]) dL_law_1568 okMX12_run wd_1802 kd_205 rfl rfl rfl (Nat.le_of_ble_eq_true rfl) ⟨Nat.le_trans (Nat.le_add_right _ 1) hz.1, Nat.le_trans (Nat.le_add_right _ 6) hz.2⟩ (h2 σ1 p1) ?_
  rintro v9 σ2 E9 - ⟨rfl, rfl, p2⟩
  show ab_Fr ML_law (d + 2) Q 1571 (la_L i) [.int r, .int r] (c, z) σ2 (ab_E0 sc)
  refine ab_icmp_eq (tgt := 1576) dL_law_1571 (by decide) (fun _ => ?_) (fun z => absurd rfl z)
  exact (h σ2 c z p2 (Nat.le_add_right _ _) (Nat.le_add_right _ _))
