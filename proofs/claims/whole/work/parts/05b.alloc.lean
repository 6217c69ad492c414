
section AG
/-! ===== the store after a cell is made ===== -/
def ab_z {α : Type} (f : Nat → Nat → α) (k : Nat) (v : α) : Nat → Nat → α := fun a b => if a = k then v else f a b
theorem ab_z_ne {α : Type} {f : Nat → Nat → α} {k a : Nat} {v : α} (h : a ≠ k) : ab_z f k v a = f a := by
  funext b
  simp [ab_z, h]
theorem ab_z_eq {α : Type} {f : Nat → Nat → α} {k : Nat} {v : α} : ab_z f k v k = fun _ => v := by
  funext b
  simp [ab_z]
def ab_mkS (σ : ab_S) (k : Nat) : ab_S := (ab_z σ.1 k 0, ab_z σ.2.1 k 0, ab_z σ.2.2.1 k .null, σ.2.2.2)
def ab_mkE (E : ab_E) (kd : Nat ⊕ (Nat × Nat)) : ab_E := (ab_v E.1 (E.2.2.1 + 3) kd, ab_z E.2.1 (E.2.2.1 + 3) .null, E.2.2.1 + 1, E.2.2.2)
def ab_fin (E : ab_E) (k j : Nat) (v : Value) : ab_E := (E.1, ab_u E.2.1 k j v, E.2.2)
variable {M : ab_M} {d : Nat} {Q : ab_Qt} {pc : Nat} {L : List (Option Value)} {st : List Value} {cz : Nat × Nat} {σ : ab_S} {E : ab_E}
theorem ab_ct_old {G : ab_G} {σ : ab_S} {E : ab_E} {kd : Nat ⊕ (Nat × Nat)} {i : Nat} (hi : i < E.2.2.1) : ab_ct G (ab_mkS σ (E.2.2.1 + 3)) (ab_mkE E kd) (i + 3) = ab_ct G σ E (i + 3) := by
  have hne : i + 3 ≠ E.2.2.1 + 3 := by omega
  unfold ab_ct ab_mkS ab_mkE
  simp only [ab_z_ne hne]
  congr 1
  unfold ab_v
  rw [if_neg hne]
theorem ab_ct_new {G : ab_G} {σ : ab_S} {E : ab_E} {kd : Nat ⊕ (Nat × Nat)} : ab_ct G (ab_mkS σ (E.2.2.1 + 3)) (ab_mkE E kd) (E.2.2.1 + 3) = ab_cc G kd (fun _ => 0) (fun _ => 0) (fun _ => .null) (fun _ => .null) := by
  unfold ab_ct ab_mkS ab_mkE
  simp only [ab_z_eq]
  congr 1
  unfold ab_v
  rw [if_pos rfl]
/-- the world with a new cell -/
theorem ab_H_new {G : ab_G} {σ : ab_S} {E : ab_E} {H H1 : Heap} {kd : Nat ⊕ (Nat × Nat)} (hH : ab_H G σ E H) (hx : σ.2.2.2 = 0) (hz : H1.size = H.size + 1) (ho : ∀ q, q < H.size → H1[q]? = H[q]?)
    (hn : va_at G.2.2.1 ab_cl (H.size, ab_cc G kd (fun _ => 0) (fun _ => 0) (fun _ => .null) (fun _ => .null)) H1) : ab_H G (ab_mkS σ (E.2.2.1 + 3)) (ab_mkE E kd) H1 := by
  have hs := hH.2.1.1 hx
  refine ⟨?_, ⟨fun _ => by rw [hz, hs]; rfl, by rw [hz, hs]; exact Nat.le_refl _⟩, fun k hk => ?_, fun k hk => ?_⟩
  · rw [← ab_w_push (σ := σ) (E := E) (e := ab_cc G kd (fun _ => 0) (fun _ => 0) (fun _ => .null) (fun _ => .null)) rfl ab_ct_new (fun j hj => ab_ct_old hj)]
    refine (hH.1.kept (fun k q hq => ho q.1 (hH.1 k q hq).lt)).app (fun k q hq => ?_)
    have hk0 : k < 1 := (List.getElem?_eq_some_iff.mp hq).1
    rw [show k = 0 by omega] at hq
    cases hq
    rw [← hs]
    exact hn
  · obtain ⟨t, n, e⟩ := hH.2.2.1 k hk
    refine ⟨t, n, ?_⟩
    show ab_v E.1 _ _ _ = _
    unfold ab_v
    rw [if_neg (by omega)]
    exact e
  · show ab_v E.1 _ _ _ = _
    have hk' : E.2.2.1 + 1 + 3 ≤ k := hk
    unfold ab_v
    rw [if_neg (by omega)]
    exact hH.2.2.2 k (by omega)
theorem ab_S_new {A : Nat → Prop} {H0 H H1 : Heap} {locs : List Loc} (hS : va_S A H0 H locs) (hz : H1.size = H.size + 1) (ho : ∀ q, q < H.size → H1[q]? = H[q]?) : va_S A H0 H1 locs :=
  ⟨Nat.le_trans hS.1 (by omega), fun x h1 h2 => (ho x (Nat.lt_of_lt_of_le h1 hS.1)).trans (hS.2.1 x h1 h2), hS.2.2⟩
theorem ab_new {idx ci N : Nat} {C9 : String} {T9 : u_T} {ty : Nat → FieldType} {E2 : ab_E} {σ2 : ab_S} (hd : decode M.2.1 pc = .ok (.new idx, 3)) (hc : ab_ck ci C9 T9 N ty) (hl : Cond.classLink M.1.cls idx C9 ∈ ab_tbl) (hi : Cond.instantiable C9 N ∈ ab_tbl) (hn : Cond.initialized C9 ∈ ab_tbl) (hx : σ.2.2.2 = 0) (hz : cz.1 + 1 ≤ M.2.2.2.2.1 ∧ cz.2 + N ≤ M.2.2.2.2.2)
    (e1 : ab_mkS σ (E.2.2.1 + 3) = σ2) (e2 : ab_mkE E (.inl ci) = E2) (h : ab_Fr M d Q (pc + 3) L (.ref (E.2.2.1 + 3) :: st) (cz.1 + 1, cz.2 + N) σ2 E2) : ab_Fr M d Q pc L st cz σ E := by
  intro p l e s mid args below meth c G H locs ls Z C hH hS hL hR
  subst e1; subst e2
  have hKn := C.2.2.2.2.2.2.1.1.1 ci _ hc.1
  refine W.newcK C.1 C.2.1 C.2.2.2.1 (C.2.2.2.2.1 _ hl) (C.2.2.2.2.1 _ hi) (C.2.2.2.2.1 _ hn) rfl hd hz.1 hz.2 hKn.2.1 rfl fun H1 kC hkC e1 z1 o1 => ?_
  have hsz := hH.2.1.1 hx
  have hal : ab_al G (E.2.2.1 + 3) = H.size := by rw [ab_al3, hsz]
  have hH1 := ab_H_new (kd := .inl ci) hH hx z1 o1 (by
    unfold ab_cc
    dsimp only
    rw [ab_nf_of hc]
    refine ⟨_, hc.1, (u_born ty C.2.2.2.2.1 hc.2.1 hKn hkC e1 hc.2.2.1).to (fun j hj => ?_)⟩
    have hcode := (hc.2.2.2.2 j hj).2
    show defaultValue (ty j) = vp_V _ j
    unfold vp_V
    simp only [List.getD_eq_getElem?_getD, List.getElem?_map, List.getElem?_range hj, Option.map_some, Option.getD_some]
    rcases hcode with ⟨h1, h2, -⟩ | ⟨h1, h2, -⟩ | ⟨h1, h2, -⟩ | ⟨h1, ⟨D, h2⟩, -⟩ | ⟨h1, ⟨D, h2⟩ | ⟨D, h2⟩, -⟩ <;> rw [h1, h2] <;> rfl)
  have h9 := h p l e s mid args below meth c G H1 locs ls Z C hH1 (ab_S_new hS z1 o1) hL hR
  have e9 : (Value.ref (E.2.2.1 + 3) :: st).map (ab_tr G) = .ref H.size :: st.map (ab_tr G) := by rw [← hal]; rfl
  rw [e9] at h9
  exact h9
theorem ab_newArr {at9 : ArrayType} {t n : Nat} {x : Int32} {ty : FieldType} {E2 : ab_E} {σ2 : ab_S} (hd : decode M.2.1 pc = .ok (.newarray at9, 2)) (hty : newarray.typeOf at9 = ty) (ht : t = 0 ∧ ty = .int ∨ t = 1 ∧ ty = .long ∨ t = 2 ∧ ty = .boolean) (hw : Cond.arrayClass ty ∈ ab_tbl) (hx0 : σ.2.2.2 = 0) (hx : ¬ x < 0) (hn : x.toNatClampNeg = n) (hb : n * 8 ≤ 536870912) (hz : cz.1 + 1 ≤ M.2.2.2.2.1 ∧ cz.2 + n ≤ M.2.2.2.2.2)
    (e1 : ab_mkS σ (E.2.2.1 + 3) = σ2) (e2 : ab_mkE E (.inr (t, n)) = E2) (h : ab_Fr M d Q (pc + 2) L (.ref (E.2.2.1 + 3) :: st) (cz.1 + 1, cz.2 + n) σ2 E2) : ab_Fr M d Q pc L (.int x :: st) cz σ E := by
  intro p l e s mid args below meth c G H locs ls Z C hH hS hL hR
  subst e1; subst e2; subst hty
  have hbytes : n * componentBytes (newarray.typeOf at9) ≤ 536870912 := by
    rcases ht with ⟨-, h9⟩ | ⟨-, h9⟩ | ⟨-, h9⟩ <;> rw [h9] <;> simp only [componentBytes] <;> omega
  refine va_newaK C.1 C.2.1 (C.2.2.2.2.1 _ hw) rfl hd rfl hx hn hbytes hz.1 hz.2 rfl fun H1 cA e1 z1 o1 hAr hNm => ?_
  have hsz := hH.2.1.1 hx0
  have hal : ab_al G (E.2.2.1 + 3) = H.size := by rw [ab_al3, hsz]
  have hH1 := ab_H_new (kd := .inr (t, n)) hH hx0 z1 o1 (by
    rcases ht with ⟨rfl, h9⟩ | ⟨rfl, h9⟩ | ⟨rfl, h9⟩
    · rw [h9] at e1 hNm
      have hcA : cA = G.2.2.2 0 := Option.some.inj (hNm.symm.trans (C.2.2.2.2.2.2.1.1.2 0 (G.2.2.2 0, .int) rfl).2)
      subst hcA
      exact e1
    · rw [h9] at e1 hNm
      have hcA : cA = G.2.2.2 1 := Option.some.inj (hNm.symm.trans (C.2.2.2.2.2.2.1.1.2 1 (G.2.2.2 1, .long) rfl).2)
      subst hcA
      exact e1
    · rw [h9] at e1 hNm
      have hcA : cA = G.2.2.2 2 := Option.some.inj (hNm.symm.trans (C.2.2.2.2.2.2.1.1.2 2 (G.2.2.2 2, .boolean) rfl).2)
      subst hcA
      exact e1)
  have h9 := h p l e s mid args below meth c G H1 locs ls Z C hH1 (ab_S_new hS z1 o1) hL hR
  have e9 : (Value.ref (E.2.2.1 + 3) :: st).map (ab_tr G) = .ref H.size :: st.map (ab_tr G) := by rw [← hal]; rfl
  rw [e9] at h9
  exact h9
theorem ab_newRef {idx t n : Nat} {D : String} {x : Int32} {E2 : ab_E} {σ2 : ab_S} (hd : decode M.2.1 pc = .ok (.anewarray idx, 3)) (ht : t = 3 ∧ D = RX9 ∨ t = 4 ∧ D = RX1) (hl : Cond.classLink M.1.cls idx D ∈ ab_tbl) (hx0 : σ.2.2.2 = 0) (hx : ¬ x < 0) (hn : x.toNatClampNeg = n) (hb : n * 4 ≤ 536870912) (hz : cz.1 + 1 ≤ M.2.2.2.2.1 ∧ cz.2 + n ≤ M.2.2.2.2.2)
    (e1 : ab_mkS σ (E.2.2.1 + 3) = σ2) (e2 : ab_mkE E (.inr (t, n)) = E2) (h : ab_Fr M d Q (pc + 3) L (.ref (E.2.2.1 + 3) :: st) (cz.1 + 1, cz.2 + n) σ2 E2) : ab_Fr M d Q pc L (.int x :: st) cz σ E := by
  intro p l e s mid args below meth c G H locs ls Z C hH hS hL hR
  subst e1; subst e2; subst hn
  have hover : va_AO D s := by rcases ht with ⟨-, rfl⟩ | ⟨-, rfl⟩; exact C.2.2.2.2.2.2.1.2.2.2.1; exact C.2.2.2.2.2.2.1.2.2.2.2
  refine W.anew C.1 C.2.1 C.2.2.2.1 (C.2.2.2.2.1 _ hl) (va_AO.use hover) rfl hd rfl hx hb hz.1 hz.2 fun cA kA comp f1 f2 f3 f4 => ?_
  have hsz := hH.2.1.1 hx0
  have hal : ab_al G (E.2.2.1 + 3) = H.size := by rw [ab_al3, hsz]
  generalize hH9 : H.push ({ cls := cA, slots := Array.replicate x.toNatClampNeg .null, vm := .none } : Cell) = H1
  have z1 : H1.size = H.size + 1 := by rw [← hH9]; simp
  have o1 : ∀ q, q < H.size → H1[q]? = H[q]? := by
    intro q hq
    rw [← hH9, Array.getElem?_push, if_neg (Nat.ne_of_lt hq)]
  have hcell : H1[H.size]? = some (arrV cA x.toNatClampNeg (fun _ => .null)) := by
    rw [← hH9, ← arrV_new]
    simp
  have hH1 := ab_H_new (kd := .inr (t, x.toNatClampNeg)) hH hx0 z1 o1 (by
    rcases ht with ⟨rfl, rfl⟩ | ⟨rfl, rfl⟩
    · obtain ⟨kA2, comp2, g1, g2, g3, g4⟩ := (C.2.2.2.2.2.2.1.1.2 3 (G.2.2.2 3, .object RX9) rfl).2
      have hcA : cA = G.2.2.2 3 := Option.some.inj (f1.symm.trans g4)
      subst hcA
      exact hcell
    · obtain ⟨kA2, comp2, g1, g2, g3, g4⟩ := (C.2.2.2.2.2.2.1.1.2 4 (G.2.2.2 4, .object RX1) rfl).2
      have hcA : cA = G.2.2.2 4 := Option.some.inj (f1.symm.trans g4)
      subst hcA
      exact hcell)
  have h9 := h p l e s mid args below meth c G H1 locs ls Z C hH1 (ab_S_new hS z1 o1) hL hR
  have e9 : (Value.ref (E.2.2.1 + 3) :: st).map (ab_tr G) = .ref H.size :: st.map (ab_tr G) := by rw [← hal]; rfl
  rw [e9] at h9
  exact h9
theorem ab_oinit {k : Nat} {idx : Nat} (hd : decode M.2.1 pc = .ok (.invokespecial idx, 3)) (hl : Cond.methodLink M.1.cls idx objectInit ∈ ab_tbl) (hi : Cond.instanceMethod objectInit ∈ ab_tbl) (hc : Cond.code objectInit ⟨#[0xb1]⟩ 1 none ∈ ab_tbl) (hr : (st.map fun v => v.category).sum ≤ 8) (h : ab_Fr M (d + 1) Q (pc + 3) L st cz σ E) : ab_Fr M (d + 1) Q pc L (.ref k :: st) cz σ E := by
  intro p l e s mid args below meth c G H locs ls Z C hH hS hL hR
  refine W.objInit C.1 C.2.1 C.2.2.2.1 (C.2.2.2.2.1 _ hl) (C.2.2.2.2.1 _ hi) (C.2.2.2.2.1 _ hc) rfl (hL.1.trans C.2.2.1.symm) rfl hd (by show 1 ≤ d + 1; omega) ?_ (h p l e s mid args below meth c G H locs ls Z C hH hS hL hR)
  show 2 * 0 + ((st.map (ab_tr G)).map fun v => v.category).sum + 12 ≤ 64 * (d + 1)
  rw [ab_sum]
  omega
theorem ab_callI {N : ab_M} {vs st0 : List Value} {k idx n : Nat} {Q2 : ab_Qs} (hd : decode M.2.1 pc = .ok (.invokespecial idx, 3)) (hok : ab_ok N n) (hy : N.1.name = "<init>") (hret : N.2.2.2.1 = none) (him : Cond.instanceMethod N.1 ∈ ab_tbl) (hlk : Cond.methodLink M.1.cls idx N.1 ∈ ab_tbl) (hn : vs.length = n) (hst : st0 = vs.reverse ++ .ref k :: st) (hr : (st.map fun v => v.category).sum ≤ 8)
    (hm : cz.1 + N.2.2.2.2.1 ≤ M.2.2.2.2.1 ∧ cz.2 + N.2.2.2.2.2 ≤ M.2.2.2.2.2) (hc : ab_Call N d (.ref k :: vs) σ E Q2)
    (h : ∀ (v : Option Value) (σ2 : ab_S) (E2 : ab_E), E2.2.2.2 = E.2.2.2 → Q2 v σ2 E2 → ab_Fr M (d + 1) Q (pc + 3) L (v.toList ++ st) (cz.1 + N.2.2.2.2.1, cz.2 + N.2.2.2.2.2) σ2 E2) : ab_Fr M (d + 1) Q pc L st0 cz σ E := by
  intro p l e s mid args below meth c G H locs ls Z C hH hS hL hR
  subst hst
  have hG : GoodIn ab_tbl (ab_ws N) := by
    intro w hw
    rcases List.mem_cons.mp hw with rfl | hw
    · exact ab_good hok.2.1
    · exact ab_good hw
  have hw : ab_ws N = Cond.code N.1 N.2.1 N.2.2.1 none :: ab_tbl := by unfold ab_ws; rw [hret]
  refine ab_run (G := G) (Q := Q2) (sc := E.2.2.2) (rest := st.map (ab_tr G)) (mc := N.2.2.2.2.1) (ms := N.2.2.2.2.2) (va_runI (own := M.1.cls) (nL := M.2.2.1) (Ts := ab_tbl) (As := vs.map (ab_tr G)) (b := ab_al G k) (n := n) (bytes := N.2.1) (maxL := N.2.2.1) ⟨C.1, C.2.1, C.2.2.1, C.2.2.2.1, C.2.2.2.2.1⟩ (hc l G C.2.2.2.2.2.2.2.2.2.2) (cwI n C.2.2.2.2.1 hG hw rfl rfl (C.2.2.2.2.1 _ hok.1) (C.2.2.2.2.1 _ hlk) (C.2.2.2.2.1 _ him) hy hok.2.2.1 (ab_room_ok hok)) ⟨ab_blind G _ σ E, ab_pre C hH hS (.ref k :: vs)⟩ rfl (by simpa using hn) hL.1 (by simp [ab_tr]) (lv_room (by rw [ab_sum]; exact hr)) hd hm) hS ?_
  intro v σ2 E2 H1 locs1 hsc hQ hH1 hS1
  rw [ab_tl]
  rw [← hsc] at C hR
  exact h v σ2 E2 hsc hQ p l e s mid args below meth c G H1 locs1 ls Z C hH1 hS1 hL hR
theorem ab_putF {k ci j idx a : Nat} {E2 : ab_E} (hd : decode M.2.1 pc = .ok (.putfield idx, 3)) (hf : ab_fl M.1.cls idx ci j) (hcn : ∀ C T N ty, ab_ck ci C T N ty → C = M.1.cls) (hin : M.1.name = "<init>") (hk : E.1 k = .inl ci) (hc0 : ab_fc ci j = 4) (e2 : ab_fin E k j (.ref a) = E2) (h : ab_Fr M d Q (pc + 3) L st cz σ E2) : ab_Fr M d Q pc L (.ref a :: .ref k :: st) cz σ E := by
  intro p l e s mid args below meth c G H locs ls Z C hH hS hL hR
  subst e2
  obtain ⟨C9, T, N, ty, hc, hj, hlink⟩ := hf
  obtain ⟨i, rfl, hw⟩ := ab_obj hH hk hc
  have hcode := (hc.2.2.2.2 j hj).2
  rw [hc0] at hcode
  obtain ⟨hty, hfin⟩ : ((∃ D, ty j = .object D) ∨ ∃ D, ty j = .array D) ∧ (T j).2.2.2 = true := by
    rcases hcode with h9 | h9 | h9 | h9 | h9 <;> first | exact h9.2 | exact absurd h9.1 (by decide)
  have hown9 : C9 = M.1.cls := hcn _ _ _ _ hc
  have hdecl := (hc.2.2.2.2 j hj).1
  have hts := C.2.2.2.2.1
  have hKall := C.2.2.2.2.2.2.1.1
  have hap := va_apart (own := M.1.cls) hts hc.2.1 ty hc.2.2.1 hc.2.2.2.1 hKall hc.1
  obtain ⟨r, h1, cell, q1, q2, q3, q4⟩ := hH.1 i _ hw
  have hr : r = (C9, T, N) := Option.some.inj (h1.symm.trans hc.1)
  subst hr
  obtain ⟨hSl, hfc, kC, hkC, hkind⟩ := hKall.1 ci _ hc.1
  obtain ⟨cf, kf, fi, f, hi, hsl⟩ := hSl j hj
  have hlay := hts _ (hc.2.1 _ (u_in_lay hj))
  unfold u_lay at hlay
  rw [if_pos hfin] at hlay
  have hst := (u_facts hfc hkC (u_lays hts hc.2.1 hj) hi).1
  have hcf : mid.cls = cf := by
    obtain ⟨_, _, c', _, _, _, -, -, hf', -, -, -, hown2, -⟩ := Cond.laysFinal_spec hlay
    have e1 : c' = cf := by have := hi.symm.trans hf'; simp at this; exact this.1.symm
    rw [hdecl, hown9] at hown2
    rw [← e1]
    exact Option.some.inj (C.2.2.2.1.symm.trans hown2)
  have hpd := hc.2.2.1 j hj
  have hnf : narrow (ty j) (Value.ref (ab_al G a)) = .ref (ab_al G a) ∧ fits (ty j) (Value.ref (ab_al G a)) = true := by
    rcases hty with ⟨D, h9⟩ | ⟨D, h9⟩ <;> rw [h9] <;> exact ⟨rfl, rfl⟩
  have h6 := u_fits hfc hkC hkind (Or.inr hlay) hi hpd hnf.1 hnf.2
  refine W.putFinK C.1 C.2.1 C.2.2.2.1 (hts _ hlink) (by rw [← hdecl]; exact hi) hst hcf (C.2.2.2.2.2.1.trans hin) (by rw [q2]; exact h6) q1 q3 (by rw [hsl]; exact k2_hasslot (q4 j hj)) rfl rfl hd fun H1 e1 e2 e3 => ?_
  rw [hsl] at e1 ⊢
  refine h p l e s mid args below meth c G H1 _ ls Z C (ab_H_put (E' := ab_fin E (i + 3) j (.ref a)) (e := .inr (ci, ((List.range N).map (fun q => ab_tr G (ab_fw (ab_fc ci q) q (σ.1 (i + 3)) (σ.2.1 (i + 3)) (σ.2.2.1 (i + 3)) (E.2.1 (i + 3))))).set j (.ref (ab_al G a)))) hH ⟨rfl, rfl⟩ rfl ?_ ?_ (hH.1.set (ab_wD G σ E) hw ⟨_, hc.1, t_OB.to (V := updV (vp_V _) j (.ref (ab_al G a))) ⟨_, e1, q2, q3, t_set q4 hap hj _⟩ (fun q _ => vp_updV_set (by simp; exact hj) _ q)⟩ e3) e2) (hS.put e2 e3 ((ab_wD G σ E).2 i _ hw)) hL hR
  · unfold ab_ct ab_cc
    show (match (ab_fin E (i + 3) j (.ref a)).1 (i + 3) with | .inl ci => _ | .inr (t, n) => _) = _
    rw [show (ab_fin E (i + 3) j (.ref a)).1 (i + 3) = .inl ci from hk]
    dsimp only
    rw [ab_nf_of hc]
    refine congrArg (fun z => Sum.inr (ci, z)) (ab_fs_set _ ?_ ?_).symm
    · rw [hc0]
      simp [ab_fw, ab_fin, ab_u, ab_tr]
    · intro q hq
      simp only [ab_fin, ab_u_eq]
      unfold ab_fw ab_v
      split <;> simp [hq]
  · intro q hq
    unfold ab_ct ab_fin
    simp only [ab_u_ne (show q + 3 ≠ i + 3 by omega)]
theorem ab_aastore {k t n a ci : Nat} {i : Int32} {E2 : ab_E} (hd : decode M.2.1 pc = .ok (.aastore, 1)) (ht : t = 3 ∧ ci = 9 ∨ t = 4 ∧ ci = 1) (hk : E.1 k = .inr (t, n)) (ha : E.1 a = .inl ci) (hi : vp_in i n) (e2 : ab_fin E k i.toNatClampNeg (.ref a) = E2) (h : ab_Fr M d Q (pc + 1) L st cz σ E2) : ab_Fr M d Q pc L (.ref a :: .int i :: .ref k :: st) cz σ E := by
  intro p l e s mid args below meth c G H locs ls Z C hH hS hL hR
  subst e2
  obtain ⟨j, rfl, hw⟩ := ab_arr hH (by omega) hk
  obtain ⟨j2, rfl, hj2⟩ := ab_ix hH (Or.inl ⟨ci, ha⟩)
  have hlt := Nat.not_le.mp fun q => hi (Or.inr q)
  have h0 : ¬ i < 0 := fun q => hi (Or.inl q)
  have hva : va_at G.2.2.1 ab_cl (ab_al G (j2 + 3), ab_ct G σ E (j2 + 3)) H := hH.1 j2 _ (ab_w_get hj2)
  unfold ab_ct ab_cc at hva
  rw [ha] at hva
  obtain ⟨r', hr', cellV, g1, g2, g3, -⟩ := hva
  have hKall := C.2.2.2.2.2.2.1.1
  have key : ∀ (r : vw_C) (t0 : Nat), ab_cl[ci]? = some r → (ab_tys G)[t0]? = some (G.2.2.2 t, .object r.1) → (∀ f9 g9 h9 k9, ∃ z, ab_cc G (.inr (t, n)) f9 g9 h9 k9 = .inl (G.2.2.2 t, n, .inr (.inr (.inr (.inr z)))) ∧ z = fun q => ab_rv G (k9 q)) → W p l e (ab_room M d) s mid args below meth c H locs cz.1 cz.2 Z (F0 mid pc ls (.ref (ab_al G (j2 + 3)) :: .int i :: .ref (ab_al G (j + 3)) :: st.map (ab_tr G))) := by
    intro r t0 hr ht0 hcc
    obtain ⟨z, hz1, hz2⟩ := hcc (σ.1 (j + 3)) (σ.2.1 (j + 3)) (σ.2.2.1 (j + 3)) (E.2.1 (j + 3))
    have hcls := (hKall.1 ci r hr).2
    obtain ⟨kA, comp, k1, k2, k3, -⟩ := (hKall.2 t0 _ ht0).2
    have hcomp : comp = G.2.2.1.1 ci := Option.some.inj (k3.symm.trans hcls.1)
    subst hcomp
    obtain ⟨kC, hkC, -⟩ := hcls.2
    have hcl : H[ab_al G (j + 3)]? = some (arrV (G.2.2.2 t) n (fun q => va_rf (z q))) := by
      have h9 := hH.1 j _ hw
      rw [hz1] at h9
      exact h9
    refine W.aast C.1 C.2.1 hcl (fun q h => by cases h) (fun h => by cases h) k1 k2 rfl hkC ⟨h0, by rw [arrV_size]; exact hlt⟩ g1 (fun q h => by rw [g3] at h; cases h) (by rw [g2]; exact hkC) (by rw [g2]; exact va_assign hcls) rfl rfl hd fun H1 e1 z1 o1 => ?_
    refine h p l e s mid args below meth c G H1 _ ls Z C (ab_H_put (E' := ab_fin E (j + 3) i.toNatClampNeg (.ref (j2 + 3))) (e := .inl (G.2.2.2 t, n, .inr (.inr (.inr (.inr (fun q => ab_rv G (ab_v (E.2.1 (j + 3)) i.toNatClampNeg (.ref (j2 + 3)) q))))))) hH ⟨rfl, rfl⟩ rfl ?_ ?_ (hH.1.set (ab_wD G σ E) hw ?_ o1) z1) (hS.put z1 o1 ((ab_wD G σ E).2 j _ hw)) hL hR
    · unfold ab_ct
      rw [show (ab_fin E (j + 3) i.toNatClampNeg (.ref (j2 + 3))).1 (j + 3) = .inr (t, n) from hk]
      obtain ⟨z3, hz3, hz4⟩ := hcc (σ.1 (j + 3)) (σ.2.1 (j + 3)) (σ.2.2.1 (j + 3)) ((ab_fin E (j + 3) i.toNatClampNeg (.ref (j2 + 3))).2.1 (j + 3))
      rw [hz3, hz4]
      simp only [ab_fin, ab_u_eq]
    · intro q hq
      unfold ab_ct ab_fin
      simp only [ab_u_ne (show q + 3 ≠ j + 3 by omega)]
    · show H1[_]? = some (arrV (G.2.2.2 t) n (fun q => va_rf (ab_rv G (ab_v (E.2.1 (j + 3)) i.toNatClampNeg (.ref (j2 + 3)) q))))
      rw [e1, arrV_store]
      refine congrArg some (congrArg (arrV _ _) ?_)
      funext q
      by_cases hq : q = i.toNatClampNeg
      · subst hq
        simp [updV, ab_v, ab_rv, va_rf]
      · simp [updV, ab_v, hq, hz2]
  rcases ht with ⟨rfl, rfl⟩ | ⟨rfl, rfl⟩
  · exact key (RX9, TX9, 8) 3 rfl rfl (fun _ _ _ _ => ⟨_, rfl, rfl⟩)
  · exact key (RX1, TX1, 12) 4 rfl rfl (fun _ _ _ _ => ⟨_, rfl, rfl⟩)
end AG
