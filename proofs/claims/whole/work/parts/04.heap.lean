section AC
variable {M : ab_M} {d : Nat} {Q : ab_Qt} {pc : Nat} {L : List (Option Value)} {st : List Value} {cz : Nat × Nat} {σ : ab_S} {E : ab_E}
/-- what the tables say of a class of the system, by its number -/
def ab_ck (ci : Nat) (C : String) (T : u_T) (N : Nat) (ty : Nat → FieldType) : Prop := ab_cl[ci]? = some (C, T, N) ∧ (∀ w ∈ u_ws C T N, w ∈ ab_tbl) ∧ (∀ k, k < N → parseFieldDescriptor (T k).2.2.1 = some (ty k)) ∧ (∀ a, a < N → ∀ b, b < N → a ≠ b → (T a).2.1 ≠ (T b).2.1) ∧
  ∀ k, k < N → (T k).1 = C ∧ ((ab_fc ci k = 0 ∧ ty k = .int ∧ (T k).2.2.2 = false) ∨ (ab_fc ci k = 1 ∧ ty k = .boolean ∧ (T k).2.2.2 = false) ∨ (ab_fc ci k = 2 ∧ ty k = .long ∧ (T k).2.2.2 = false) ∨ (ab_fc ci k = 3 ∧ (∃ D, ty k = .object D) ∧ (T k).2.2.2 = false) ∨ (ab_fc ci k = 4 ∧ ((∃ D, ty k = .object D) ∨ ∃ D, ty k = .array D) ∧ (T k).2.2.2 = true))
def ab_fl (own : String) (idx ci j : Nat) : Prop := ∃ (C : String) (T : u_T) (N : Nat) (ty : Nat → FieldType), ab_ck ci C T N ty ∧ j < N ∧ Cond.fieldLink own idx C (T j).2.1 (T j).2.2.1 ∈ ab_tbl
theorem ab_fs_set {n j : Nat} {f : Nat → Value} {v : Value} (g : Nat → Value) (hj : g j = v) (ho : ∀ i, i ≠ j → g i = f i) : ((List.range n).map f).set j v = (List.range n).map g := by
  apply List.ext_getElem?
  intro i
  rw [List.getElem?_set]
  by_cases hi : i < n
  · by_cases h : j = i
    · subst h
      simp [hi, hj]
    · simp [hi, h, ho i (fun q => h q.symm)]
  · by_cases h : j = i
    · subst h
      simp [hi]
    · simp [hi, h]
theorem ab_nf_of {ci N : Nat} {C : String} {T : u_T} {ty : Nat → FieldType} (h : ab_ck ci C T N ty) : ab_nf ci = N := by
  unfold ab_nf
  rw [h.1]
/-- an object of the store, by its place in the world -/
theorem ab_obj {G : ab_G} {H : Heap} {k ci N : Nat} {C : String} {T : u_T} {ty : Nat → FieldType} (hH : ab_H G σ E H) (hk : E.1 k = .inl ci) (hc : ab_ck ci C T N ty) : ∃ i, k = i + 3 ∧ (ab_w G σ E)[i]? = some (ab_al G k, .inr (ci, (List.range N).map (fun j => ab_tr G (ab_fw (ab_fc ci j) j (σ.1 k) (σ.2.1 k) (σ.2.2.1 k) (E.2.1 k))))) := by
  obtain ⟨i, rfl, hi⟩ := ab_ix hH (Or.inl ⟨ci, hk⟩)
  refine ⟨i, rfl, ?_⟩
  rw [ab_w_get hi]
  unfold ab_ct ab_cc
  rw [hk]
  dsimp only
  rw [ab_nf_of hc]
theorem ab_getf {k ci j idx : Nat} {v : Value} (hd : decode M.2.1 pc = .ok (.getfield idx, 3)) (hf : ab_fl M.1.cls idx ci j) (hk : E.1 k = .inl ci) (hv : ab_fw (ab_fc ci j) j (σ.1 k) (σ.2.1 k) (σ.2.2.1 k) (E.2.1 k) = v) (h : ab_Fr M d Q (pc + 3) L (v :: st) cz σ E) : ab_Fr M d Q pc L (.ref k :: st) cz σ E := by
  intro p l e s mid args below meth c G H locs ls Z C hH hS hL hR
  obtain ⟨C9, T, N, ty, hc, hj, hlink⟩ := hf
  obtain ⟨i, rfl, hw⟩ := ab_obj hH hk hc
  refine va_get (D := G.2.2.1) (cl := ab_cl) (tys := ab_tys G) C.1 C.2.1 C.2.2.2.2.1 hc.2.1 C.2.2.2.1 C.2.2.2.2.2.2.1.1 hH.1 i hw hc.1 j hj (C.2.2.2.2.1 _ hlink) (fun x hx => by rw [(hc.2.2.2.2 j hj).1] at hx; exact hx) (v := ab_tr G v) ?_ hd (h p l e s mid args below meth c G H locs ls Z C hH hS hL hR)
  rw [← hv]
  simp [hj]
/-- the store after a cell's one slot has changed -/
theorem ab_H_put {G : ab_G} {H H1 : Heap} {σ' : ab_S} {E' : ab_E} {i : Nat} {e : va_E} (hH : ab_H G σ E H) (hE : E'.1 = E.1 ∧ E'.2.2.1 = E.2.2.1) (hx : σ'.2.2.2 = σ.2.2.2) (he : ab_ct G σ' E' (i + 3) = e) (ho : ∀ j, j ≠ i → ab_ct G σ' E' (j + 3) = ab_ct G σ E (j + 3))
    (hP : va_P G.2.2.1 ab_cl ((ab_w G σ E).set i (ab_al G (i + 3), e)) H1) (hz : H1.size = H.size) : ab_H G σ' E' H1 := by
  rw [ab_w_set (E' := E') (σ' := σ') hE.2 he ho] at hP
  refine ⟨hP, ?_, ?_, ?_⟩
  · exact ⟨fun q => by rw [hz, hE.2]; exact hH.2.1.1 (hx ▸ q), by rw [hz, hE.2]; exact hH.2.1.2⟩
  · rw [hE.1]; exact hH.2.2.1
  · rw [hE.1, hE.2]; exact hH.2.2.2
theorem ab_putK {G : ab_G} {p : Program} {l : Launch} {e : Env} {R : Room} {s : State} {m : MethodId} {args : Array Value} {below : List Frame} {meth : Method} {c : Code} {H : Heap} {locs : List Loc} {cells slots : Nat} {Z : State → Prop} {cc : ByteArray} {ls : Array Slot} {rest : List Value} {a : Nat} {ws : va_W}
    (hexec : p.tables.exec = Jvm.exec) (hb : c.code = cc) {own C : String} {T : u_T} {N ci index : Nat} {Ts : List Cond} (hts : ∀ w ∈ Ts, w.before args s = true) (hin : ∀ w ∈ u_ws C T N, w ∈ Ts) (ty0 : Nat → FieldType) (hty : ∀ k, k < N → parseFieldDescriptor (T k).2.2.1 = some (ty0 k)) (hnm : ∀ a, a < N → ∀ b, b < N → a ≠ b → (T a).2.1 ≠ (T b).2.1) (hown : s.vm.findClass own = some m.cls) (hK : va_K G.2.2.1 ab_cl (ab_tys G) s) (hP : va_P G.2.2.1 ab_cl ws H) (hD : va_D (ab_A G) ws) (hS0 : va_S (ab_A G) s.heap H locs) (q0 : Nat) {fs : List Value} (he : ws[q0]? = some (a, .inr (ci, fs))) (hc : ab_cl[ci]? = some (C, T, N)) (k : Nat) (hk : k < N) (hlink : (Cond.fieldLink own index C (T k).2.1 (T k).2.2.1).before args s = true) (hsame : ∀ x, s.fieldFound? (T k).1 (T k).2.1 (T k).2.2.1 = some x → s.fieldFound? C (T k).2.1 (T k).2.2.1 = some x) (hfin : (T k).2.2.2 = false) {ty : FieldType} {v : Value} (hd : parseFieldDescriptor (T k).2.2.1 = some ty) (hn : narrow ty v = v ∧ fits ty v = true) (hl : k < fs.length)
    (hdg : decode cc pc = .ok (.putfield index, 3)) (kk : ∀ (H1 : Heap) (locs1 : List Loc), H1.size = H.size → va_P G.2.2.1 ab_cl (ws.set q0 (a, .inr (ci, fs.set k v))) H1 → va_S (ab_A G) s.heap H1 locs1 → W p l e R s m args below meth c H1 locs1 cells slots Z (F0 m (pc + 3) ls rest)) : W p l e R s m args below meth c H locs cells slots Z (F0 m pc ls (v :: .ref a :: rest)) := by
  have hap := va_apart (own := own) hts hin ty0 hty hnm hK hc
  obtain ⟨r, h1, cell, q1, q2, q3, q4⟩ := hP q0 _ he
  have hr : r = (C, T, N) := Option.some.inj (h1.symm.trans hc)
  subst hr
  obtain ⟨hS, hfc, kC, hkC, hkind⟩ := hK.1 ci _ hc
  obtain ⟨cf, kf, fi, f, hi, hsl⟩ := hS k hk
  have hlay := hts _ (hin _ (u_in_lay hk))
  unfold u_lay at hlay
  rw [if_neg (by rw [hfin]; decide)] at hlay
  have hst := (u_facts hfc hkC (u_lays hts hin hk) hi).1
  have h6 := u_store hfc hkC hkind hlay hi hd hn.1 hn.2
  refine W.putK hexec hb (f := f) ⟨hown, hlink, ⟨_, _, _, hsame _ hi⟩, hst⟩ (by rw [q2]; exact h6) q1 q3 (by rw [hsl]; exact k2_hasslot (q4 k hk)) rfl rfl hdg fun H' e1 e2 e3 => ?_
  rw [hsl] at e1 ⊢
  exact kk H' _ e2 (hP.set hD he ⟨_, hc, t_OB.to (V := updV (vp_V fs) k v) ⟨_, e1, q2, q3, t_set q4 hap hk v⟩ (fun j _ => vp_updV_set hl v j)⟩ e3) (hS0.put e2 e3 (hD.2 q0 _ he))
theorem ab_putI {k ci j idx : Nat} {x : Int32} (hd : decode M.2.1 pc = .ok (.putfield idx, 3)) (hf : ab_fl M.1.cls idx ci j) (hk : E.1 k = .inl ci) (hc0 : ab_fc ci j = 0) (h : ab_Fr M d Q (pc + 3) L st cz (ab_u σ.1 k j x, σ.2) E) : ab_Fr M d Q pc L (.int x :: .ref k :: st) cz σ E := by
  intro p l e s mid args below meth c G H locs ls Z C hH hS hL hR
  obtain ⟨C9, T, N, ty, hc, hj, hlink⟩ := hf
  obtain ⟨i, rfl, hw⟩ := ab_obj hH hk hc
  have hcode := (hc.2.2.2.2 j hj).2
  rw [hc0] at hcode
  have hty : ty j = .int ∧ (T j).2.2.2 = false := by
    rcases hcode with h9 | h9 | h9 | h9 | h9 <;> first | exact h9.2 | exact absurd h9.1 (by decide)
  refine ab_putK (G := G) C.1 C.2.1 C.2.2.2.2.1 hc.2.1 ty hc.2.2.1 hc.2.2.2.1 C.2.2.2.1 C.2.2.2.2.2.2.1.1 hH.1 (ab_wD G σ E) hS i hw hc.1 j hj (C.2.2.2.2.1 _ hlink) (fun x hx => by rw [(hc.2.2.2.2 j hj).1] at hx; exact hx) hty.2 (ty := .int) (v := ab_tr G (.int x)) (by rw [hc.2.2.1 j hj, hty.1]) ⟨rfl, rfl⟩ (by simp; exact hj) hd (fun H1 locs1 hz hP hS1 => h p l e s mid args below meth c G H1 locs1 ls Z C (ab_H_put hH ⟨rfl, rfl⟩ rfl ?_ ?_ hP hz) hS1 hL hR)
  · unfold ab_ct ab_cc
    rw [hk]
    dsimp only
    rw [ab_nf_of hc]
    refine congrArg (fun z => Sum.inr (ci, z)) (ab_fs_set _ ?_ ?_).symm
    · rw [hc0]
      simp [ab_fw, ab_u]
    · intro q hq
      simp only [ab_u_eq]
      unfold ab_fw ab_v
      split <;> simp [hq]
  · intro q hq
    unfold ab_ct
    simp only [ab_u_ne (show q + 3 ≠ i + 3 by omega)]
theorem ab_putZ {k ci j idx : Nat} {x : Int32} (hd : decode M.2.1 pc = .ok (.putfield idx, 3)) (hf : ab_fl M.1.cls idx ci j) (hk : E.1 k = .inl ci) (hc0 : ab_fc ci j = 1) (hx01 : x = 0 ∨ x = 1) (h : ab_Fr M d Q (pc + 3) L st cz (ab_u σ.1 k j x, σ.2) E) : ab_Fr M d Q pc L (.int x :: .ref k :: st) cz σ E := by
  intro p l e s mid args below meth c G H locs ls Z C hH hS hL hR
  obtain ⟨C9, T, N, ty, hc, hj, hlink⟩ := hf
  obtain ⟨i, rfl, hw⟩ := ab_obj hH hk hc
  have hcode := (hc.2.2.2.2 j hj).2
  rw [hc0] at hcode
  have hty : ty j = .boolean ∧ (T j).2.2.2 = false := by
    rcases hcode with h9 | h9 | h9 | h9 | h9 <;> first | exact h9.2 | exact absurd h9.1 (by decide)
  refine ab_putK (G := G) C.1 C.2.1 C.2.2.2.2.1 hc.2.1 ty hc.2.2.1 hc.2.2.2.1 C.2.2.2.1 C.2.2.2.2.2.2.1.1 hH.1 (ab_wD G σ E) hS i hw hc.1 j hj (C.2.2.2.2.1 _ hlink) (fun x hx => by rw [(hc.2.2.2.2 j hj).1] at hx; exact hx) hty.2 (ty := .boolean) (v := ab_tr G (.int x)) (by rw [hc.2.2.1 j hj, hty.1]) (by rcases hx01 with rfl | rfl <;> exact ⟨rfl, rfl⟩) (by simp; exact hj) hd (fun H1 locs1 hz hP hS1 => h p l e s mid args below meth c G H1 locs1 ls Z C (ab_H_put hH ⟨rfl, rfl⟩ rfl ?_ ?_ hP hz) hS1 hL hR)
  · unfold ab_ct ab_cc
    rw [hk]
    dsimp only
    rw [ab_nf_of hc]
    refine congrArg (fun z => Sum.inr (ci, z)) (ab_fs_set _ ?_ ?_).symm
    · rw [hc0]
      simp [ab_fw, ab_u]
    · intro q hq
      simp only [ab_u_eq]
      unfold ab_fw ab_v
      split <;> simp [hq]
  · intro q hq
    unfold ab_ct
    simp only [ab_u_ne (show q + 3 ≠ i + 3 by omega)]
theorem ab_putR {k ci j idx : Nat} {x : Nat} (hd : decode M.2.1 pc = .ok (.putfield idx, 3)) (hf : ab_fl M.1.cls idx ci j) (hk : E.1 k = .inl ci) (hc0 : ab_fc ci j = 3) (h : ab_Fr M d Q (pc + 3) L st cz (σ.1, σ.2.1, ab_u σ.2.2.1 k j (.ref x), σ.2.2.2) E) : ab_Fr M d Q pc L (.ref x :: .ref k :: st) cz σ E := by
  intro p l e s mid args below meth c G H locs ls Z C hH hS hL hR
  obtain ⟨C9, T, N, ty, hc, hj, hlink⟩ := hf
  obtain ⟨i, rfl, hw⟩ := ab_obj hH hk hc
  have hcode := (hc.2.2.2.2 j hj).2
  rw [hc0] at hcode
  obtain ⟨D, hty⟩ : ∃ D, ty j = .object D ∧ (T j).2.2.2 = false := by
    rcases hcode with h9 | h9 | h9 | h9 | h9 <;> first | (obtain ⟨-, ⟨D, hD⟩, hF⟩ := h9; exact ⟨D, hD, hF⟩) | exact absurd h9.1 (by decide)
  refine ab_putK (G := G) C.1 C.2.1 C.2.2.2.2.1 hc.2.1 ty hc.2.2.1 hc.2.2.2.1 C.2.2.2.1 C.2.2.2.2.2.2.1.1 hH.1 (ab_wD G σ E) hS i hw hc.1 j hj (C.2.2.2.2.1 _ hlink) (fun x hx => by rw [(hc.2.2.2.2 j hj).1] at hx; exact hx) hty.2 (ty := .object D) (v := ab_tr G (.ref x)) (by rw [hc.2.2.1 j hj, hty.1]) ⟨rfl, rfl⟩ (by simp; exact hj) hd (fun H1 locs1 hz hP hS1 => h p l e s mid args below meth c G H1 locs1 ls Z C (ab_H_put hH ⟨rfl, rfl⟩ rfl ?_ ?_ hP hz) hS1 hL hR)
  · unfold ab_ct ab_cc
    rw [hk]
    dsimp only
    rw [ab_nf_of hc]
    refine congrArg (fun z => Sum.inr (ci, z)) (ab_fs_set _ ?_ ?_).symm
    · rw [hc0]
      simp [ab_fw, ab_u]
    · intro q hq
      simp only [ab_u_eq]
      unfold ab_fw ab_v
      split <;> simp [hq]
  · intro q hq
    unfold ab_ct
    simp only [ab_u_ne (show q + 3 ≠ i + 3 by omega)]
theorem ab_putL {k ci j idx : Nat} {x : Int64} (hd : decode M.2.1 pc = .ok (.putfield idx, 3)) (hf : ab_fl M.1.cls idx ci j) (hk : E.1 k = .inl ci) (hc0 : ab_fc ci j = 2) (h : ab_Fr M d Q (pc + 3) L st cz (σ.1, ab_u σ.2.1 k j x, σ.2.2) E) : ab_Fr M d Q pc L (.long x :: .ref k :: st) cz σ E := by
  intro p l e s mid args below meth c G H locs ls Z C hH hS hL hR
  obtain ⟨C9, T, N, ty, hc, hj, hlink⟩ := hf
  obtain ⟨i, rfl, hw⟩ := ab_obj hH hk hc
  have hcode := (hc.2.2.2.2 j hj).2
  rw [hc0] at hcode
  have hty : ty j = .long ∧ (T j).2.2.2 = false := by
    rcases hcode with h9 | h9 | h9 | h9 | h9 <;> first | exact h9.2 | exact absurd h9.1 (by decide)
  refine ab_putK (G := G) C.1 C.2.1 C.2.2.2.2.1 hc.2.1 ty hc.2.2.1 hc.2.2.2.1 C.2.2.2.1 C.2.2.2.2.2.2.1.1 hH.1 (ab_wD G σ E) hS i hw hc.1 j hj (C.2.2.2.2.1 _ hlink) (fun x hx => by rw [(hc.2.2.2.2 j hj).1] at hx; exact hx) hty.2 (ty := .long) (v := ab_tr G (.long x)) (by rw [hc.2.2.1 j hj, hty.1]) ⟨rfl, rfl⟩ (by simp; exact hj) hd (fun H1 locs1 hz hP hS1 => h p l e s mid args below meth c G H1 locs1 ls Z C (ab_H_put hH ⟨rfl, rfl⟩ rfl ?_ ?_ hP hz) hS1 hL hR)
  · unfold ab_ct ab_cc
    rw [hk]
    dsimp only
    rw [ab_nf_of hc]
    refine congrArg (fun z => Sum.inr (ci, z)) (ab_fs_set _ ?_ ?_).symm
    · rw [hc0]
      simp [ab_fw, ab_u]
    · intro q hq
      simp only [ab_u_eq]
      unfold ab_fw ab_v
      split <;> simp [hq]
  · intro q hq
    unfold ab_ct
    simp only [ab_u_ne (show q + 3 ≠ i + 3 by omega)]
theorem ab_arr {G : ab_G} {H : Heap} {k t n : Nat} (hH : ab_H G σ E H) (ht : t < 5) (hk : E.1 k = .inr (t, n)) : ∃ i, k = i + 3 ∧ (ab_w G σ E)[i]? = some (ab_al G k, ab_cc G (.inr (t, n)) (σ.1 k) (σ.2.1 k) (σ.2.2.1 k) (E.2.1 k)) := by
  obtain ⟨i, rfl, hi⟩ := ab_ix hH (Or.inr ⟨t, n, ht, hk⟩)
  refine ⟨i, rfl, ?_⟩
  rw [ab_w_get hi]
  unfold ab_ct
  rw [hk]
theorem ab_iaload {k n : Nat} {i : Int32} {v : Int32} (hd : decode M.2.1 pc = .ok (.iaload, 1)) (hk : E.1 k = .inr (0, n)) (hi : vp_in i n) (hv : σ.1 k i.toNatClampNeg = v) (h : ab_Fr M d Q (pc + 1) L (.int v :: st) cz σ E) : ab_Fr M d Q pc L (.int i :: .ref k :: st) cz σ E := by
  intro p l e s mid args below meth c G H locs ls Z C hH hS hL hR
  subst hv
  obtain ⟨j, rfl, hw⟩ := ab_arr hH (by decide) hk
  exact va_iald (cl := ab_cl) (tys := ab_tys G) C.1 C.2.1 C.2.2.2.2.2.2.1.1 hH.1 j 0 (n := n) (f := σ.1 (j + 3)) hw rfl hi hd (h p l e s mid args below meth c G H locs ls Z C hH hS hL hR)
theorem ab_laload {k n : Nat} {i : Int32} {v : Int64} (hd : decode M.2.1 pc = .ok (.laload, 1)) (hk : E.1 k = .inr (1, n)) (hi : vp_in i n) (hv : σ.2.1 k i.toNatClampNeg = v) (h : ab_Fr M d Q (pc + 1) L (.long v :: st) cz σ E) : ab_Fr M d Q pc L (.int i :: .ref k :: st) cz σ E := by
  intro p l e s mid args below meth c G H locs ls Z C hH hS hL hR
  subst hv
  obtain ⟨j, rfl, hw⟩ := ab_arr hH (by decide) hk
  exact va_lald (cl := ab_cl) (tys := ab_tys G) C.1 C.2.1 C.2.2.2.2.2.2.1.1 hH.1 j 1 (n := n) (f := σ.2.1 (j + 3)) hw rfl hi hd (h p l e s mid args below meth c G H locs ls Z C hH hS hL hR)
theorem ab_baload {k n : Nat} {i : Int32} {v : Int32} (hd : decode M.2.1 pc = .ok (.baload, 1)) (hk : E.1 k = .inr (2, n)) (hi : vp_in i n) (hv : σ.1 k i.toNatClampNeg = v) (h : ab_Fr M d Q (pc + 1) L (.int v :: st) cz σ E) : ab_Fr M d Q pc L (.int i :: .ref k :: st) cz σ E := by
  intro p l e s mid args below meth c G H locs ls Z C hH hS hL hR
  subst hv
  obtain ⟨j, rfl, hw⟩ := ab_arr hH (by decide) hk
  exact va_zald (cl := ab_cl) (tys := ab_tys G) C.1 C.2.1 C.2.2.2.2.2.2.1.1 hH.1 j 2 (n := n) (f := σ.1 (j + 3)) hw rfl hi hd (h p l e s mid args below meth c G H locs ls Z C hH hS hL hR)
theorem ab_aaload {k t n a : Nat} {i : Int32} (hd : decode M.2.1 pc = .ok (.aaload, 1)) (ht : t = 3 ∨ t = 4) (hk : E.1 k = .inr (t, n)) (hi : vp_in i n) (hv : E.2.1 k i.toNatClampNeg = .ref a) (h : ab_Fr M d Q (pc + 1) L (.ref a :: st) cz σ E) : ab_Fr M d Q pc L (.int i :: .ref k :: st) cz σ E := by
  intro p l e s mid args below meth c G H locs ls Z C hH hS hL hR
  obtain ⟨j, rfl, hw⟩ := ab_arr hH (by omega) hk
  have e9 : (va_rf (ab_rv G (E.2.1 (j + 3) i.toNatClampNeg)) : Value) = .ref (ab_al G a) := by rw [hv]; rfl
  rcases ht with rfl | rfl
  · refine va_aldq (cl := ab_cl) (tys := ab_tys G) C.1 C.2.1 C.2.2.2.2.2.2.1.1 hH.1 j 3 (n := n) (f := fun q => ab_rv G (E.2.1 (j + 3) q)) hw rfl hi hd ?_
    rw [e9]
    exact h p l e s mid args below meth c G H locs ls Z C hH hS hL hR
  · refine va_aldq (cl := ab_cl) (tys := ab_tys G) C.1 C.2.1 C.2.2.2.2.2.2.1.1 hH.1 j 4 (n := n) (f := fun q => ab_rv G (E.2.1 (j + 3) q)) hw rfl hi hd ?_
    rw [e9]
    exact h p l e s mid args below meth c G H locs ls Z C hH hS hL hR
theorem ab_alen {k t n : Nat} {v : Int32} (hd : decode M.2.1 pc = .ok (.arraylength, 1)) (ht : t < 5) (hk : E.1 k = .inr (t, n)) (hv : Int32.ofNat n = v) (h : ab_Fr M d Q (pc + 1) L (.int v :: st) cz σ E) : ab_Fr M d Q pc L (.ref k :: st) cz σ E := by
  intro p l e s mid args below meth c G H locs ls Z C hH hS hL hR
  obtain ⟨j, rfl, hw⟩ := ab_arr hH ht hk
  match t, ht, hw with
  | 0, _, hw => exact va_alen (cl := ab_cl) (tys := ab_tys G) C.1 C.2.1 C.2.2.2.2.2.2.1.1 hH.1 j 0 (x := (n, .inl (σ.1 (j + 3)))) hw rfl hv hd (h p l e s mid args below meth c G H locs ls Z C hH hS hL hR)
  | 1, _, hw => exact va_alen (cl := ab_cl) (tys := ab_tys G) C.1 C.2.1 C.2.2.2.2.2.2.1.1 hH.1 j 1 (x := (n, .inr (.inl (σ.2.1 (j + 3))))) hw rfl hv hd (h p l e s mid args below meth c G H locs ls Z C hH hS hL hR)
  | 2, _, hw => exact va_alen (cl := ab_cl) (tys := ab_tys G) C.1 C.2.1 C.2.2.2.2.2.2.1.1 hH.1 j 2 (x := (n, .inl (σ.1 (j + 3)))) hw rfl hv hd (h p l e s mid args below meth c G H locs ls Z C hH hS hL hR)
  | 3, _, hw => exact va_alen (cl := ab_cl) (tys := ab_tys G) C.1 C.2.1 C.2.2.2.2.2.2.1.1 hH.1 j 3 (x := (n, .inr (.inr (.inr (.inr (fun q => ab_rv G (E.2.1 (j + 3) q))))))) hw rfl hv hd (h p l e s mid args below meth c G H locs ls Z C hH hS hL hR)
  | 4, _, hw => exact va_alen (cl := ab_cl) (tys := ab_tys G) C.1 C.2.1 C.2.2.2.2.2.2.1.1 hH.1 j 4 (x := (n, .inr (.inr (.inr (.inr (fun q => ab_rv G (E.2.1 (j + 3) q))))))) hw rfl hv hd (h p l e s mid args below meth c G H locs ls Z C hH hS hL hR)
theorem ab_iastore {k n : Nat} {i : Int32} {x : Int32} (hd : decode M.2.1 pc = .ok (.iastore, 1)) (hk : E.1 k = .inr (0, n)) (hi : vp_in i n) (h : ab_Fr M d Q (pc + 1) L st cz (ab_u σ.1 k i.toNatClampNeg x, σ.2) E) : ab_Fr M d Q pc L (.int x :: .int i :: .ref k :: st) cz σ E := by
  intro p l e s mid args below meth c G H locs ls Z C hH hS hL hR
  obtain ⟨j, rfl, hw⟩ := ab_arr hH (by decide) hk
  refine W.iast C.1 C.2.1 (hH.1 j _ hw) ((C.2.2.2.2.2.2.1.1.2 0 _ rfl).1 n (fun q => .int (σ.1 (j + 3) q))) (fun q => by cases q) (by show ¬ (i < 0 ∨ (arrV _ _ _).slots.size ≤ _); rw [arrV_size]; exact hi) rfl rfl hd fun H1 e1 z1 o1 => ?_
  refine h p l e s mid args below meth c G H1 _ ls Z C (ab_H_put (e := .inl (G.2.2.2 0, n, .inl (ab_v (σ.1 (j + 3)) i.toNatClampNeg x))) hH ⟨rfl, rfl⟩ rfl ?_ ?_ (hH.1.set (ab_wD G σ E) hw ?_ o1) z1) (hS.put z1 o1 ((ab_wD G σ E).2 j _ hw)) hL hR
  · unfold ab_ct ab_cc
    rw [hk]
    simp only [ab_u_eq]
  · intro q hq
    unfold ab_ct
    simp only [ab_u_ne (show q + 3 ≠ j + 3 by omega)]
  · show H1[_]? = some (vp_cell _ _)
    rw [e1]
    show some (Cell.setSlot (arrV (G.2.2.2 0) n (fun q => .int (σ.1 (j + 3) q))) _ _) = some (arrV (G.2.2.2 0) n (fun q => .int (ab_v (σ.1 (j + 3)) i.toNatClampNeg x q)))
    rw [arrV_store]
    refine congrArg some (congrArg (arrV _ _) ?_)
    funext q
    by_cases hq : q = i.toNatClampNeg
    · subst hq
      simp [updV, ab_v]
    · simp [updV, ab_v, hq]
theorem ab_lastore {k n : Nat} {i : Int32} {x : Int64} (hd : decode M.2.1 pc = .ok (.lastore, 1)) (hk : E.1 k = .inr (1, n)) (hi : vp_in i n) (h : ab_Fr M d Q (pc + 1) L st cz (σ.1, ab_u σ.2.1 k i.toNatClampNeg x, σ.2.2) E) : ab_Fr M d Q pc L (.long x :: .int i :: .ref k :: st) cz σ E := by
  intro p l e s mid args below meth c G H locs ls Z C hH hS hL hR
  obtain ⟨j, rfl, hw⟩ := ab_arr hH (by decide) hk
  refine W.last C.1 C.2.1 (hH.1 j _ hw) ((C.2.2.2.2.2.2.1.1.2 1 _ rfl).1 n (fun q => .long (σ.2.1 (j + 3) q))) (fun q => by cases q) (by show ¬ (i < 0 ∨ (arrV _ _ _).slots.size ≤ _); rw [arrV_size]; exact hi) rfl rfl hd fun H1 e1 z1 o1 => ?_
  refine h p l e s mid args below meth c G H1 _ ls Z C (ab_H_put (e := .inl (G.2.2.2 1, n, .inr (.inl (ab_v (σ.2.1 (j + 3)) i.toNatClampNeg x)))) hH ⟨rfl, rfl⟩ rfl ?_ ?_ (hH.1.set (ab_wD G σ E) hw ?_ o1) z1) (hS.put z1 o1 ((ab_wD G σ E).2 j _ hw)) hL hR
  · unfold ab_ct ab_cc
    rw [hk]
    simp only [ab_u_eq]
  · intro q hq
    unfold ab_ct
    simp only [ab_u_ne (show q + 3 ≠ j + 3 by omega)]
  · show H1[_]? = some (vp_cell _ _)
    rw [e1]
    show some (Cell.setSlot (arrV (G.2.2.2 1) n (fun q => .long (σ.2.1 (j + 3) q))) _ _) = some (arrV (G.2.2.2 1) n (fun q => .long (ab_v (σ.2.1 (j + 3)) i.toNatClampNeg x q)))
    rw [arrV_store]
    refine congrArg some (congrArg (arrV _ _) ?_)
    funext q
    by_cases hq : q = i.toNatClampNeg
    · subst hq
      simp [updV, ab_v]
    · simp [updV, ab_v, hq]
theorem ab_bastore {k n : Nat} {i : Int32} {x : Int32} (hd : decode M.2.1 pc = .ok (.bastore, 1)) (hk : E.1 k = .inr (2, n)) (hi : vp_in i n) (hx01 : x = 0 ∨ x = 1) (h : ab_Fr M d Q (pc + 1) L st cz (ab_u σ.1 k i.toNatClampNeg x, σ.2) E) : ab_Fr M d Q pc L (.int x :: .int i :: .ref k :: st) cz σ E := by
  intro p l e s mid args below meth c G H locs ls Z C hH hS hL hR
  obtain ⟨j, rfl, hw⟩ := ab_arr hH (by decide) hk
  refine W.zast C.1 C.2.1 (hH.1 j _ hw) ((C.2.2.2.2.2.2.1.1.2 2 _ rfl).1 n (fun q => .int (σ.1 (j + 3) q))) (fun q => by cases q) (by show ¬ (i < 0 ∨ (arrV _ _ _).slots.size ≤ _); rw [arrV_size]; exact hi) rfl rfl hd fun H1 e1 z1 o1 => ?_
  refine h p l e s mid args below meth c G H1 _ ls Z C (ab_H_put (e := .inl (G.2.2.2 2, n, .inl (ab_v (σ.1 (j + 3)) i.toNatClampNeg x))) hH ⟨rfl, rfl⟩ rfl ?_ ?_ (hH.1.set (ab_wD G σ E) hw ?_ o1) z1) (hS.put z1 o1 ((ab_wD G σ E).2 j _ hw)) hL hR
  · unfold ab_ct ab_cc
    rw [hk]
    simp only [ab_u_eq]
  · intro q hq
    unfold ab_ct
    simp only [ab_u_ne (show q + 3 ≠ j + 3 by omega)]
  · show H1[_]? = some (vp_cell _ _)
    rw [e1]
    show some (Cell.setSlot (arrV (G.2.2.2 2) n (fun q => .int (σ.1 (j + 3) q))) _ _) = some (arrV (G.2.2.2 2) n (fun q => .int (ab_v (σ.1 (j + 3)) i.toNatClampNeg x q)))
    rw [arrV_store]
    refine congrArg some (congrArg (arrV _ _) ?_)
    funext q
    by_cases hq : q = i.toNatClampNeg
    · subst hq
      rcases hx01 with rfl | rfl <;> simp [updV, ab_v] <;> rfl
    · simp [updV, ab_v, hq]
theorem ab_sld {i : Int32} {v : Int32} (hd : decode M.2.1 pc = .ok (.iaload, 1)) (hi : vp_in i E.2.2.2.1) (hv : E.2.2.2.2 i.toNatClampNeg = v) (h : ab_Fr M d Q (pc + 1) L (.int v :: st) cz σ E) : ab_Fr M d Q pc L (.int i :: .ref 0 :: st) cz σ E := by
  intro p l e s mid args below meth c G H locs ls Z C hH hS hL hR
  subst hv
  exact va_ti C.1 C.2.1 C.2.2.2.2.2.2.2.1.1 hS hi rfl hd (h p l e s mid args below meth c G H locs ls Z C hH hS hL hR)
theorem ab_slen {v : Int32} (hd : decode M.2.1 pc = .ok (.arraylength, 1)) (hv : Int32.ofNat E.2.2.2.1 = v) (h : ab_Fr M d Q (pc + 1) L (.int v :: st) cz σ E) : ab_Fr M d Q pc L (.ref 0 :: st) cz σ E := by
  intro p l e s mid args below meth c G H locs ls Z C hH hS hL hR
  exact va_tlen C.1 C.2.1 C.2.2.2.2.2.2.2.1.1 hS hv hd (h p l e s mid args below meth c G H locs ls Z C hH hS hL hR)
theorem ab_kld {i : Int32} {v : Int64} (hd : decode M.2.1 pc = .ok (.laload, 1)) (hi : vp_in i 16) (hv : ab_kw i.toNatClampNeg = v) (h : ab_Fr M d Q (pc + 1) L (.long v :: st) cz σ E) : ab_Fr M d Q pc L (.int i :: .ref 1 :: st) cz σ E := by
  intro p l e s mid args below meth c G H locs ls Z C hH hS hL hR
  subst hv
  exact va_tl C.1 C.2.1 C.2.2.2.2.2.2.2.1.2.1 hS hi rfl hd (h p l e s mid args below meth c G H locs ls Z C hH hS hL hR)
theorem ab_klen (hd : decode M.2.1 pc = .ok (.arraylength, 1)) (h : ab_Fr M d Q (pc + 1) L (.int 16 :: st) cz σ E) : ab_Fr M d Q pc L (.ref 1 :: st) cz σ E := by
  intro p l e s mid args below meth c G H locs ls Z C hH hS hL hR
  exact va_tlen C.1 C.2.1 C.2.2.2.2.2.2.2.1.2.1 hS rfl hd (h p l e s mid args below meth c G H locs ls Z C hH hS hL hR)
theorem ab_old {i : Int32} {v : Int32} (hd : decode M.2.1 pc = .ok (.iaload, 1)) (hi : vp_in i 15) (hv : ab_wo i.toNatClampNeg = v) (h : ab_Fr M d Q (pc + 1) L (.int v :: st) cz σ E) : ab_Fr M d Q pc L (.int i :: .ref 2 :: st) cz σ E := by
  intro p l e s mid args below meth c G H locs ls Z C hH hS hL hR
  subst hv
  exact va_ti C.1 C.2.1 C.2.2.2.2.2.2.2.1.2.2.1 hS hi rfl hd (h p l e s mid args below meth c G H locs ls Z C hH hS hL hR)
theorem ab_getsK {i : Nat} (hd : decode M.2.1 pc = .ok (.getstatic i, 3)) (hf : Cond.fieldLink M.1.cls i "LongTable$Reader" "KEYWORDS" "[J" ∈ ab_tbl) (h : ab_Fr M d Q (pc + 3) L (.ref 1 :: st) cz σ E) : ab_Fr M d Q pc L st cz σ E := by
  intro p l e s mid args below meth c G H locs ls Z C hH hS hL hR
  exact va_gets C.1 C.2.1 C.2.2.2.2.2.2.2.1.2.2.2.1 hS C.2.2.2.1 (C.2.2.2.2.1 _ hf) (fun _ q => q) hd (h p l e s mid args below meth c G H locs ls Z C hH hS hL hR)
theorem ab_getsW {i : Nat} (hd : decode M.2.1 pc = .ok (.getstatic i, 3)) (hf : Cond.fieldLink M.1.cls i "LongTable$Words" "WORD_OF" "[I" ∈ ab_tbl) (h : ab_Fr M d Q (pc + 3) L (.ref 2 :: st) cz σ E) : ab_Fr M d Q pc L st cz σ E := by
  intro p l e s mid args below meth c G H locs ls Z C hH hS hL hR
  exact va_gets C.1 C.2.1 C.2.2.2.2.2.2.2.1.2.2.2.2.1 hS C.2.2.2.1 (C.2.2.2.2.1 _ hf) (fun _ q => q) hd (h p l e s mid args below meth c G H locs ls Z C hH hS hL hR)
end AC
