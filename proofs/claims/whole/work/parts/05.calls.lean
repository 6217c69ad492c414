
section AD
/-! ===== calls and returns of the abstract machine ===== -/
def ab_l0 : List Value → Nat → List (Option Value)
  | [], n => List.replicate n none
  | .long x :: vs, n => some (.long x) :: none :: ab_l0 vs (n - 2)
  | .double x :: vs, n => some (.double x) :: none :: ab_l0 vs (n - 2)
  | v :: vs, n => some v :: ab_l0 vs (n - 1)
theorem ab_l0_args (G : ab_G) : ∀ (vs : List Value) (n i0 i : Nat) (v : Value), (ab_l0 vs n)[i]? = some (some v) → (i0 + i, ab_tr G v) ∈ lv_args i0 (vs.map (ab_tr G)) := by
  intro vs
  induction vs with
  | nil =>
    intro n i0 i v h
    simp [ab_l0, List.getElem?_replicate] at h
  | cons w vs ih =>
    intro n i0 i v h
    have two : ∀ z : Value, (ab_tr G z).category = 2 → (some z :: none :: ab_l0 vs (n - 2))[i]? = some (some v) → (i0 + i, ab_tr G v) ∈ lv_args i0 ((z :: vs).map (ab_tr G)) := by
      intro z hz h
      rw [List.map_cons, lv_args, if_pos hz]
      match i, h with
      | 0, h => cases h; exact List.mem_cons_self
      | 1, h => cases h
      | q + 2, h =>
        have h2 := ih (n - 2) (i0 + 2) q v h
        rw [show i0 + (q + 2) = i0 + 2 + q by omega]
        exact List.mem_cons_of_mem _ h2
    have one : ∀ z : Value, ¬ (ab_tr G z).category = 2 → (some z :: ab_l0 vs (n - 1))[i]? = some (some v) → (i0 + i, ab_tr G v) ∈ lv_args i0 ((z :: vs).map (ab_tr G)) := by
      intro z hz h
      rw [List.map_cons, lv_args, if_neg hz]
      match i, h with
      | 0, h => cases h; exact List.mem_cons_self
      | q + 1, h =>
        have h2 := ih (n - 1) (i0 + 1) q v h
        rw [show i0 + (q + 1) = i0 + 1 + q by omega]
        exact List.mem_cons_of_mem _ h2
    cases w with
    | long x => exact two _ rfl h
    | double x => exact two _ rfl h
    | int x => exact one _ (by show ¬ (1 = 2); decide) h
    | float x => exact one _ (by show ¬ (1 = 2); decide) h
    | null => exact one _ (by show ¬ (1 = 2); decide) h
    | ref x => exact one _ (by show ¬ (1 = 2); decide) h
    | retAddr x => exact one _ (by show ¬ (1 = 2); decide) h
def ab_Pc (G : ab_G) (vs : List Value) (σ : ab_S) (E : ab_E) : Array Value → State → Prop := fun a U => a = (vs.map (ab_tr G)).toArray ∧ ab_H G σ E U.heap ∧ ab_K G U ∧ ab_ro G E.2.2.2 U ∧ G.1 ≤ U.heap.size
abbrev ab_Qs : Type := Option Value → ab_S → ab_E → Prop
def ab_Qc (G : ab_G) (sc : Nat × (Nat → Int32)) (Q : ab_Qs) : Array Value → State → Outcome → State → Prop := fun _ st o t => (∃ (v : Option Value) (σ : ab_S) (E : ab_E), E.2.2.2 = sc ∧ o = .returned (v.map (ab_tr G)) ∧ Q v σ E ∧ ab_H G σ E t.heap) ∧ va_F (ab_A G) st t
/-- THE CALL: the method with these arguments, over this store, returns, and Q tells what -/
def ab_Call (M : ab_M) (d : Nat) (vs : List Value) (σ : ab_S) (E : ab_E) (Q : ab_Qs) : Prop := ∀ (l : Launch) (G : ab_G), l.stackTraces = false → Met l M.1 (ab_ws M) (ab_room M d) (ab_Pc G vs σ E) (ab_Qc G E.2.2.2 Q) M.2.2.2.2.1 M.2.2.2.2.2 (ab_A G)
theorem ab_K_moved {G : ab_G} {s U : State} (hW : s.WarmedH U.vm) (h : ab_K G s) : ab_K G U := by
  refine ⟨va_K.moved hW.alike h.1, fun w hw => ?_, fun w hw => ?_, va_AO.moved hW.alike h.2.2.2.1, va_AO.moved hW.alike h.2.2.2.2⟩
  · have h1 := h.2.1 w hw
    unfold ab_nest at hw
    simp only [List.mem_cons, List.mem_nil_iff, or_false] at hw
    rcases hw with rfl | rfl | rfl | rfl | rfl <;> exact va_Nw.warmM hW h1
  · have h1 := h.2.2.1 w hw
    unfold ab_cst at hw
    simp only [List.mem_cons, List.mem_nil_iff, or_false] at hw
    rcases hw with rfl | rfl | rfl | rfl <;> first | exact va_Nw.warmC hW h1 | exact va_Nw.warmD hW h1
theorem ab_K_same {G : ab_G} {s U : State} (hv : s.vm = U.vm) (h : ab_K G s) : ab_K G U := by
  have ha : s.vm.Alike U.vm := by rw [hv]; exact Vm.Alike.refl _
  refine ⟨va_K.moved ha h.1, fun w hw => ?_, fun w hw => ?_, va_AO.moved ha h.2.2.2.1, va_AO.moved ha h.2.2.2.2⟩
  · have h1 := h.2.1 w hw
    unfold ab_nest at hw
    simp only [List.mem_cons, List.mem_nil_iff, or_false] at hw
    rcases hw with rfl | rfl | rfl | rfl | rfl <;> exact va_Nw.same rfl hv h1
  · have h1 := h.2.2.1 w hw
    unfold ab_cst at hw
    simp only [List.mem_cons, List.mem_nil_iff, or_false] at hw
    rcases hw with rfl | rfl | rfl | rfl <;> exact va_Nw.same rfl hv h1
theorem ab_ro_moved {G : ab_G} {sc : Nat × (Nat → Int32)} {s U : State} {H : Heap} {locs : List Loc} (hv : s.vm.Alike U.vm) (hS : va_S (ab_A G) s.heap H locs) (hU : U.heap = H) (h : ab_ro G sc s) : ab_ro G sc U := by
  subst hU
  obtain ⟨h1, h2, h3, h4, h5, h6, h7⟩ := h
  exact ⟨(h1.moved hv).kept (fun a p q => hS.2.1 a p q), (h2.moved hv).kept (fun a p q => hS.2.1 a p q), (h3.moved hv).kept (fun a p q => hS.2.1 a p q), (h4.moved hv).kept (fun a p q => hS.2.1 a p q), (h5.moved hv).kept (fun a p q => hS.2.1 a p q), (h6.moved hv).kept (fun a p q => hS.2.1 a p q), (h7.moved hv).kept (fun a p q => hS.2.1 a p q)⟩
theorem ab_blind (G : ab_G) (vs : List Value) (σ : ab_S) (E : ab_E) : FrameBlind (ab_Pc G vs σ E) := by
  intro a U g mk q
  obtain ⟨q1, q2, q3, q4, q5⟩ := q
  exact ⟨q1, q2, ab_K_same (s := U) (U := U.calling g mk a) rfl q3, ab_ro_moved (s := U) (U := U.calling g mk a) (H := U.heap) (locs := []) (Vm.Alike.refl U.vm) va_S.rf rfl q4, q5⟩
theorem ab_good {w : Cond} (h : w ∈ ab_tbl) : w ∈ ab_tbl ∧ ((w.onTables && w.keeps) = true ∨ ∃ ty, w = .arrayClass ty) := ⟨h, good_of_word (List.mem_filter.mp h).2⟩
/-- a method's own words, its numbers -/
def ab_ok (N : ab_M) (n : Nat) : Prop := Cond.initialized N.1.cls ∈ ab_tbl ∧ Cond.code N.1 N.2.1 N.2.2.1 N.2.2.2.1 ∈ ab_tbl ∧ (N.1.cls ≠ "java/lang/invoke/MethodHandle" ∧ N.1.cls ≠ "java/lang/invoke/VarHandle" ∧ (parseMethodDescriptor N.1.desc).map (fun q => q.parameters.length) = some n) ∧ N.2.2.1 ≤ 45 ∧ plainName N.1.cls = true ∧ ab_tb N = []
def ab_okV (N : ab_M) (n : Nat) : Prop := ab_ok N n ∧ Cond.instanceMethod N.1 ∈ ab_tbl ∧ Cond.selects N.1.cls N.1 N.1 ∈ ab_tbl
def ab_okS (N : ab_M) (n : Nat) : Prop := ab_ok N n ∧ Cond.static N.1 ∈ ab_tbl
/-- what a return owes at a contract's end -/
theorem ab_rt_of {M : ab_M} {d : Nat} {Q : ab_Qs} {p : Program} {l : Launch} {e : Env} {s : State} {mid : MethodId} {args : Array Value} {below : List Frame} {meth : Method} {c : Code} {G : ab_G} {sc : Nat × (Nat → Int32)}
    (hx : p.tables.exec = Jvm.exec) (hb : c.code = M.2.1) (hr : meth.sig.returnType = M.2.2.2.1) (hlocks : meth.locks = false) :
    ab_rt M d (fun o σ E => ∃ v, o = some v ∧ Q v σ E) p l e s mid args below meth c G sc (MQ below (ab_Qc G sc Q) args s M.2.2.2.2.1 M.2.2.2.2.2 (ab_A G)) := by
  refine ⟨fun pc H locs ls k n v σ E hsc hQ hH hS hk hn hrd => ?_, fun pc H locs ls k n σ E hsc hQ => by obtain ⟨v, hv, -⟩ := hQ; cases hv⟩
  obtain ⟨v', hv', hQ⟩ := hQ
  cases hv'
  refine W.widen (k := M.2.2.2.2.1) (n := M.2.2.2.2.2) hk hn ?_
  have post : ∀ t : State, t.heap = H → ab_Qc G sc Q args s (.returned (v.map (ab_tr G))) t := fun t ht => ⟨⟨v, σ, E, hsc, rfl, hQ, by rw [ht]; exact hH⟩, hS.F ht⟩
  cases v with
  | none => exact W.vret hx hb (hr.trans hrd.1) (fun t ht _ => post t ht) hS.2.2 hrd.2
  | some w =>
    cases w with
    | int x =>
      rcases hrd.2 with h | ⟨h, h2⟩
      · exact W.iret hx hb (hr.trans h) (fun t ht _ => post t ht) hS.2.2 hrd.1
      · exact W.zret (ty := .boolean) hx hb (hr.trans h) (by rcases h2 with rfl | rfl <;> rfl) (fun t ht _ => post t ht) hS.2.2 hrd.1
    | long x => exact W.lret hx hb (hr.trans hrd.2) (fun t ht _ => post t ht) hS.2.2 hrd.1
    | ref a =>
      obtain ⟨C, hC⟩ := hrd.2
      exact W.aret hx hb (hr.trans hC) (Or.inl ⟨C, rfl⟩) (Or.inr ⟨_, rfl⟩) (fun t ht _ => post t ht) hS.2.2 hrd.1
    | null => exact hrd.elim
    | float x => exact hrd.elim
    | double x => exact hrd.elim
    | retAddr x => exact hrd.elim
/-- THE ENTRY: a frame that ends well gives the call -/
theorem ab_enter {M : ab_M} {d : Nat} {vs : List Value} {σ : ab_S} {E : ab_E} {Q : ab_Qs} {n : Nat} (hok : ab_ok M n) (hv : ∀ G : ab_G, (lg_sl (vs.map (ab_tr G))).length ≤ M.2.2.1)
    (h : ab_Fr M d (fun o σ E => ∃ v, o = some v ∧ Q v σ E) 0 (ab_l0 vs M.2.2.1) [] (0, 0) σ E) : ab_Call M d vs σ E Q := by
  intro l G hl9
  refine Met.ofW (cc := M.2.1) (maxL := M.2.2.1) (ret := M.2.2.2.1) (ws' := ab_tbl) hok.2.2.2.2.1 rfl ?_
  intro p e s m args below meth c s₁ B hml hv9
  have htab : c.exceptionTable.toList = tableOf (ab_tb M) := by
    obtain ⟨meth9, c9, h1, h2, -, -, -, -, h7, -⟩ := Cond.code_spec B.named (atoms_spec (ws := ab_ws M) B.pre _ List.mem_cons_self)
    cases Option.some.inj (h1.symm.trans B.method)
    cases Option.some.inj (h2.symm.trans (Stand.of_body B).code)
    rw [hok.2.2.2.2.2, Array.isEmpty_iff.mp h7]
    rfl
  obtain ⟨rfl, hH, hK, hro, hsz⟩ := hv9
  have hts0 := atoms_spec (ws := ab_ws M) B.pre
  have hts : ∀ w ∈ ab_tbl, w.before (vs.map (ab_tr G)).toArray s = true := fun w hw => hts0 w (List.mem_cons_of_mem _ hw)
  have hown : s.vm.findClass M.1.cls = some m.cls := findClass_of_methodNamed B.named
  have hl := lv_entry (vs.map (ab_tr G)) (n := M.2.2.1) (hv G)
  rw [lg_entry_eq]
  refine h p l e s m (vs.map (ab_tr G)).toArray below meth c G s.heap [] _ _ ⟨B.exec, B.bytes, hml, hown, hts, (name_of_methodNamed B.named B.method).1, hK, hro, hsz, htab, hl9⟩ hH va_S.rf ⟨hl.1, hl.2.1, fun i v hi => ?_⟩ (ab_rt_of B.exec B.bytes B.returns B.notSynchronized)
  have h1 := ab_l0_args G vs M.2.2.1 0 i v hi
  rw [Nat.zero_add] at h1
  exact hl.2.2 _ h1
theorem ab_run {p : Program} {l : Launch} {e : Env} {R : Room} {s : State} {m : MethodId} {args : Array Value} {below : List Frame} {meth : Method} {c : Code} {H H0 : Heap} {locs : List Loc} {cells slots mc ms pc : Nat} {ls : Array Slot} {st0 rest : List Value} {Z : State → Prop} {G : ab_G} {sc : Nat × (Nat → Int32)} {Q : ab_Qs} {a : Array Value}
    (hr : va_Run p l e R s m args below meth c H locs cells slots mc ms (F0 m pc ls st0) rest (ab_Qc G sc Q a) (ab_A G)) (hS : va_S (ab_A G) H0 H locs)
    (kk : ∀ (v : Option Value) (σ : ab_S) (E : ab_E) (H1 : Heap) (locs1 : List Loc), E.2.2.2 = sc → Q v σ E → ab_H G σ E H1 → va_S (ab_A G) H0 H1 locs1 → W p l e R s m args below meth c H1 locs1 (cells + mc) (slots + ms) Z (F0 m (pc + 3) ls ((v.map (ab_tr G)).toList ++ rest))) : W p l e R s m args below meth c H locs cells slots Z (F0 m pc ls st0) := by
  intro T hT X
  obtain ⟨v9, st₀, t, T', L9, h0, X', hL9, e1, e2, ⟨⟨v, σ, E, hsc, hv, hQ, hH⟩, hz, hk⟩, st⟩ := hr T hT X
  cases hv
  rw [h0] at hz hk
  obtain ⟨t2, a1, b1⟩ := kk v σ E T'.heap (locs ++ L9) hsc hQ (by rw [e1]; exact hH)
    ⟨Nat.le_trans hS.1 (by rw [e1]; exact hz), fun q h1 h2 => by rw [e1, hk q (Nat.lt_of_lt_of_le h1 hS.1) h2]; exact hS.2.1 q h1 h2, fun q hq => (List.mem_append.mp hq).elim (hS.2.2 q) (hL9 q)⟩ T' rfl X'
  exact ⟨t2, st t2 a1, b1⟩
variable {M : ab_M} {d : Nat} {Q : ab_Qt} {pc : Nat} {L : List (Option Value)} {st : List Value} {cz : Nat × Nat} {σ : ab_S} {E : ab_E}
theorem ab_pre {p : Program} {l : Launch} {s : State} {mid : MethodId} {args : Array Value} {meth : Method} {c : Code} {G : ab_G} {H : Heap} {locs : List Loc} (C : ab_cx M p l s mid args meth c G E.2.2.2) (hH : ab_H G σ E H) (hS : va_S (ab_A G) s.heap H locs) (vs : List Value) :
    ∀ U : State, U.heap = H → s.WarmedH U.vm → ab_Pc G vs σ E (vs.map (ab_tr G)).toArray U := fun U hU hW =>
  ⟨rfl, by rw [hU]; exact hH, ab_K_moved hW C.2.2.2.2.2.2.1, ab_ro_moved hW.alike hS hU C.2.2.2.2.2.2.2.1, by rw [hU]; exact Nat.le_trans C.2.2.2.2.2.2.2.2.1 hS.1⟩
theorem ab_room_ok {N : ab_M} {n : Nat} (hok : ab_ok N n) : (ab_room N d).frames + 1 ≤ (ab_room M (d + 1)).frames ∧ 8 + (N.2.2.1 + 11) + (ab_room N d).locals ≤ (ab_room M (d + 1)).locals := by
  have h := hok.2.2.2.1
  unfold ab_room
  dsimp only
  omega
theorem ab_sum (G : ab_G) (st : List Value) : ((st.map (ab_tr G)).map fun v => v.category).sum = (st.map fun v => v.category).sum := by
  rw [List.map_map]
  congr 1
  apply List.map_congr_left
  intro v _
  exact ab_cat G v
theorem ab_tl (G : ab_G) (v : Option Value) (st : List Value) : (v.map (ab_tr G)).toList ++ st.map (ab_tr G) = (v.toList ++ st).map (ab_tr G) := by cases v <;> rfl
theorem ab_callV {N : ab_M} {vs st0 : List Value} {k idx n : Nat} {Q2 : ab_Qs} (hd : decode M.2.1 pc = .ok (.invokevirtual idx, 3)) (hok : ab_okV N n) (hlk : Cond.methodLink M.1.cls idx N.1 ∈ ab_tbl) {ci : Nat} (hk : E.1 k = .inl ci) {T9 : u_T} {N9 : Nat} (hci : ab_cl[ci]? = some (N.1.cls, T9, N9)) (hn : vs.length = n) (hst : st0 = vs.reverse ++ .ref k :: st) (hr : (st.map fun v => v.category).sum ≤ 8)
    (hm : cz.1 + N.2.2.2.2.1 ≤ M.2.2.2.2.1 ∧ cz.2 + N.2.2.2.2.2 ≤ M.2.2.2.2.2) (hc : ab_Call N d (.ref k :: vs) σ E Q2)
    (h : ∀ (v : Option Value) (σ2 : ab_S) (E2 : ab_E), E2.2.2.2 = E.2.2.2 → Q2 v σ2 E2 → ab_Fr M (d + 1) Q (pc + 3) L (v.toList ++ st) (cz.1 + N.2.2.2.2.1, cz.2 + N.2.2.2.2.2) σ2 E2) : ab_Fr M (d + 1) Q pc L st0 cz σ E := by
  intro p l e s mid args below meth c G H locs ls Z C hH hS hL hR
  subst hst
  obtain ⟨i, rfl, hi⟩ := ab_ix hH (Or.inl ⟨ci, hk⟩)
  have hw : (ab_w G σ E)[i]? = some (ab_al G (i + 3), .inr (ci, (List.range (ab_nf ci)).map (fun j => ab_tr G (ab_fw (ab_fc ci j) j (σ.1 (i + 3)) (σ.2.1 (i + 3)) (σ.2.2.1 (i + 3)) (E.2.1 (i + 3)))))) := by
    rw [ab_w_get hi]
    unfold ab_ct ab_cc
    rw [hk]
  have hG : GoodIn ab_tbl (wsV M.1.cls idx N.1.cls N.1 (ab_ws N)) := by
    intro w hw
    unfold wsV at hw
    rcases List.mem_append.mp hw with hw | hw
    · simp only [List.mem_cons, List.mem_nil_iff, or_false] at hw
      rcases hw with rfl | rfl | rfl | rfl
      · exact ab_good hlk
      · exact ab_good hok.2.1
      · exact ab_good hok.2.2
      · exact ab_good hok.1.1
    · rcases List.mem_cons.mp hw with rfl | hw
      · exact ab_good hok.1.2.1
      · exact ab_good hw
  refine ab_run (G := G) (Q := Q2) (sc := E.2.2.2) (rest := st.map (ab_tr G)) (mc := N.2.2.2.2.1) (ms := N.2.2.2.2.2) (va_runV (own := M.1.cls) (nL := M.2.2.1) (Ts := ab_tbl) (As := vs.map (ab_tr G)) (b := ab_al G (i + 3)) (n := n) (C := N.1.cls) (bytes := N.2.1) (maxL := N.2.2.1) (ret := N.2.2.2.1) ⟨C.1, C.2.1, C.2.2.1, C.2.2.2.1, C.2.2.2.2.1⟩ (hc l G C.2.2.2.2.2.2.2.2.2.2) (cwV n C.2.2.2.2.1 hG rfl rfl rfl ⟨rfl, hok.1.2.2.1⟩ (ab_room_ok hok.1)) ⟨ab_blind G _ σ E, va_recv (q := (N.1.cls, T9, N9)) C.2.2.2.2.2.2.1.1 hH.1 hci hw, ab_pre C hH hS (.ref (i + 3) :: vs)⟩ rfl (by simpa using hn) hL.1 (by simp [ab_tr]) (lv_room (by rw [ab_sum]; exact hr)) hd hm) hS ?_
  intro v σ2 E2 H1 locs1 hsc hQ hH1 hS1
  rw [ab_tl]
  rw [← hsc] at C hR
  exact h v σ2 E2 hsc hQ p l e s mid args below meth c G H1 locs1 ls Z C hH1 hS1 hL hR
theorem ab_callS {N : ab_M} {vs st0 : List Value} {idx n : Nat} {Q2 : ab_Qs} (hd : decode M.2.1 pc = .ok (.invokestatic idx, 3)) (hok : ab_okS N n) (hlk : Cond.methodLink M.1.cls idx N.1 ∈ ab_tbl) (hn : vs.length = n) (hst : st0 = vs.reverse ++ st) (hr : (st.map fun v => v.category).sum ≤ 8)
    (hm : cz.1 + N.2.2.2.2.1 ≤ M.2.2.2.2.1 ∧ cz.2 + N.2.2.2.2.2 ≤ M.2.2.2.2.2) (hc : ab_Call N d vs σ E Q2)
    (h : ∀ (v : Option Value) (σ2 : ab_S) (E2 : ab_E), E2.2.2.2 = E.2.2.2 → Q2 v σ2 E2 → ab_Fr M (d + 1) Q (pc + 3) L (v.toList ++ st) (cz.1 + N.2.2.2.2.1, cz.2 + N.2.2.2.2.2) σ2 E2) : ab_Fr M (d + 1) Q pc L st0 cz σ E := by
  intro p l e s mid args below meth c G H locs ls Z C hH hS hL hR
  subst hst
  have hG : GoodIn ab_tbl (va_wsS M.1.cls idx N.1 (ab_ws N)) := by
    intro w hw
    unfold va_wsS at hw
    rcases List.mem_append.mp hw with hw | hw
    · simp only [List.mem_cons, List.mem_nil_iff, or_false] at hw
      rcases hw with rfl | rfl | rfl
      · exact ab_good hlk
      · exact ab_good hok.2
      · exact ab_good hok.1.1
    · rcases List.mem_cons.mp hw with rfl | hw
      · exact ab_good hok.1.2.1
      · exact ab_good hw
  refine ab_run (G := G) (Q := Q2) (sc := E.2.2.2) (rest := st.map (ab_tr G)) (mc := N.2.2.2.2.1) (ms := N.2.2.2.2.2) (va_runS (own := M.1.cls) (nL := M.2.2.1) (Ts := ab_tbl) (As := vs.map (ab_tr G)) (n := n) (bytes := N.2.1) (maxL := N.2.2.1) (ret := N.2.2.2.1) ⟨C.1, C.2.1, C.2.2.1, C.2.2.2.1, C.2.2.2.2.1⟩ (hc l G C.2.2.2.2.2.2.2.2.2.2) (va_cwS n C.2.2.2.2.1 hG rfl rfl rfl hok.1.2.2.1 (ab_room_ok hok.1)) ⟨ab_blind G _ σ E, ab_pre C hH hS vs⟩ rfl (by simpa using hn) hL.1 (by simp) (lv_room (by rw [ab_sum]; exact hr)) hd hm) hS ?_
  intro v σ2 E2 H1 locs1 hsc hQ hH1 hS1
  rw [ab_tl]
  rw [← hsc] at C hR
  exact h v σ2 E2 hsc hQ p l e s mid args below meth c G H1 locs1 ls Z C hH1 hS1 hL hR
theorem ab_callN {N : ab_M} {vs st0 : List Value} {idx n : Nat} {Q2 : ab_Qs} (hd : decode M.2.1 pc = .ok (.invokestatic idx, 3)) (hok : ab_okS N n) (hlk : Cond.methodLinkNest M.1.cls idx N.1 RX11 ∈ ab_nest) (hn : vs.length = n) (hst : st0 = vs.reverse ++ st) (hr : (st.map fun v => v.category).sum ≤ 8)
    (hm : cz.1 + N.2.2.2.2.1 ≤ M.2.2.2.2.1 ∧ cz.2 + N.2.2.2.2.2 ≤ M.2.2.2.2.2) (hc : ab_Call N d vs σ E Q2)
    (h : ∀ (v : Option Value) (σ2 : ab_S) (E2 : ab_E), E2.2.2.2 = E.2.2.2 → Q2 v σ2 E2 → ab_Fr M (d + 1) Q (pc + 3) L (v.toList ++ st) (cz.1 + N.2.2.2.2.1, cz.2 + N.2.2.2.2.2) σ2 E2) : ab_Fr M (d + 1) Q pc L st0 cz σ E := by
  intro p l e s mid args below meth c G H locs ls Z C hH hS hL hR
  subst hst
  have hG : GoodIn ab_tbl (ab_ws N) := by
    intro w hw
    rcases List.mem_cons.mp hw with rfl | hw
    · exact ab_good hok.1.2.1
    · exact ab_good hw
  refine ab_run (G := G) (Q := Q2) (sc := E.2.2.2) (rest := st.map (ab_tr G)) (mc := N.2.2.2.2.1) (ms := N.2.2.2.2.2) (va_runSN (own := M.1.cls) (nL := M.2.2.1) (Ts := ab_tbl) (As := vs.map (ab_tr G)) (n := n) (bytes := N.2.1) (maxL := N.2.2.1) (ret := N.2.2.2.1) ⟨C.1, C.2.1, C.2.2.1, C.2.2.2.1, C.2.2.2.2.1⟩ (hc l G C.2.2.2.2.2.2.2.2.2.2) ⟨va_cnB n C.2.2.2.2.1 hG rfl rfl rfl (C.2.2.2.2.2.2.1.2.1 _ hlk) (C.2.2.2.2.1 _ hok.1.1) hok.1.2.2.1 (ab_room_ok hok.1), C.2.2.2.2.1 _ hok.2, trivial⟩ ⟨ab_blind G _ σ E, ab_pre C hH hS vs⟩ rfl (by simpa using hn) hL.1 (by simp) (lv_room (by rw [ab_sum]; exact hr)) hd hm) hS ?_
  intro v σ2 E2 H1 locs1 hsc hQ hH1 hS1
  rw [ab_tl]
  rw [← hsc] at C hR
  exact h v σ2 E2 hsc hQ p l e s mid args below meth c G H1 locs1 ls Z C hH1 hS1 hL hR
/-! the ends -/
theorem ab_iret {x : Int32} (hd : decode M.2.1 pc = .ok (.ireturn, 1)) (hr : M.2.2.2.1 = some .int) (hz : cz.1 ≤ M.2.2.2.2.1 ∧ cz.2 ≤ M.2.2.2.2.2) (h : Q (some (some (.int x))) σ E) : ab_Fr M d Q pc L [.int x] cz σ E := by
  intro p l e s mid args below meth c G H locs ls Z C hH hS hL hR
  exact hR.1 pc H locs ls _ _ (some (.int x)) σ E rfl h hH hS hz.1 hz.2 ⟨hd, Or.inl hr⟩
theorem ab_zret {x : Int32} (hd : decode M.2.1 pc = .ok (.ireturn, 1)) (hr : M.2.2.2.1 = some .boolean) (hx : x = 0 ∨ x = 1) (hz : cz.1 ≤ M.2.2.2.2.1 ∧ cz.2 ≤ M.2.2.2.2.2) (h : Q (some (some (.int x))) σ E) : ab_Fr M d Q pc L [.int x] cz σ E := by
  intro p l e s mid args below meth c G H locs ls Z C hH hS hL hR
  exact hR.1 pc H locs ls _ _ (some (.int x)) σ E rfl h hH hS hz.1 hz.2 ⟨hd, Or.inr ⟨hr, hx⟩⟩
theorem ab_lret {x : Int64} (hd : decode M.2.1 pc = .ok (.lreturn, 1)) (hr : M.2.2.2.1 = some .long) (hz : cz.1 ≤ M.2.2.2.2.1 ∧ cz.2 ≤ M.2.2.2.2.2) (h : Q (some (some (.long x))) σ E) : ab_Fr M d Q pc L [.long x] cz σ E := by
  intro p l e s mid args below meth c G H locs ls Z C hH hS hL hR
  exact hR.1 pc H locs ls _ _ (some (.long x)) σ E rfl h hH hS hz.1 hz.2 ⟨hd, hr⟩
theorem ab_aret {x : Nat} {D : String} (hd : decode M.2.1 pc = .ok (.areturn, 1)) (hr : M.2.2.2.1 = some (.object D)) (hz : cz.1 ≤ M.2.2.2.2.1 ∧ cz.2 ≤ M.2.2.2.2.2) (h : Q (some (some (.ref x))) σ E) : ab_Fr M d Q pc L [.ref x] cz σ E := by
  intro p l e s mid args below meth c G H locs ls Z C hH hS hL hR
  exact hR.1 pc H locs ls _ _ (some (.ref x)) σ E rfl h hH hS hz.1 hz.2 ⟨hd, ⟨D, hr⟩⟩
theorem ab_vret (hd : decode M.2.1 pc = .ok (.return_, 1)) (hr : M.2.2.2.1 = none) (hz : cz.1 ≤ M.2.2.2.2.1 ∧ cz.2 ≤ M.2.2.2.2.2) (h : Q (some none) σ E) : ab_Fr M d Q pc L [] cz σ E := by
  intro p l e s mid args below meth c G H locs ls Z C hH hS hL hR
  exact hR.1 pc H locs ls _ _ none σ E rfl h hH hS hz.1 hz.2 ⟨hr, hd⟩
theorem ab_throw (hd : ab_td M pc) (hz : cz.1 + 1 ≤ M.2.2.2.2.1 ∧ cz.2 + 6 ≤ M.2.2.2.2.2) (h : Q none (σ.1, σ.2.1, σ.2.2.1, σ.2.2.2 + 1) E) : ab_Fr M d Q pc L [] cz σ E := by
  intro p l e s mid args below meth c G H locs ls Z C hH hS hL hR
  exact hR.2 pc H locs ls _ _ σ E rfl h hH hS hL.1 hz.1 hz.2 hd
theorem ab_max {x y v : Int32} {idx : Nat} (hd : decode M.2.1 pc = .ok (.invokestatic idx, 3)) (hlk : Cond.methodLink M.1.cls idx Lib.Math.max.name ∈ ab_tbl) (hw : Cond.static Lib.Math.max.name ∈ ab_tbl ∧ Cond.initialized "java/lang/Math" ∈ ab_tbl ∧ Cond.code Lib.Math.max.name Lib.Math.max.code 2 (some .int) ∈ ab_tbl) (hr : (st.map fun v => v.category).sum ≤ 8) (hz : cz.1 ≤ M.2.2.2.2.1 ∧ cz.2 ≤ M.2.2.2.2.2) (hv : (if x < y then y else x) = v) (h : ab_Fr M (d + 1) Q (pc + 3) L (.int v :: st) cz σ E) : ab_Fr M (d + 1) Q pc L (.int y :: .int x :: st) cz σ E := by
  intro p l e s mid args below meth c G H locs ls Z C hH hS hL hR
  subst hv
  exact va_mmax C.1 C.2.1 (C.2.2.1.trans hL.1.symm) C.2.2.2.1 (C.2.2.2.2.1 _ hlk) (C.2.2.2.2.1 _ hw.1) (C.2.2.2.2.1 _ hw.2.1) (C.2.2.2.2.1 _ hw.2.2) (by show 1 ≤ d + 1; omega) (by rw [ab_sum]; show _ + 13 ≤ 64 * (d + 1); omega) hz.1 hz.2 hd (h p l e s mid args below meth c G H locs ls Z C hH hS hL hR)
theorem ab_min {x y v : Int32} {idx : Nat} (hd : decode M.2.1 pc = .ok (.invokestatic idx, 3)) (hlk : Cond.methodLink M.1.cls idx Lib.Math.min.name ∈ ab_tbl) (hw : Cond.static Lib.Math.min.name ∈ ab_tbl ∧ Cond.initialized "java/lang/Math" ∈ ab_tbl ∧ Cond.code Lib.Math.min.name Lib.Math.min.code 2 (some .int) ∈ ab_tbl) (hr : (st.map fun v => v.category).sum ≤ 8) (hz : cz.1 ≤ M.2.2.2.2.1 ∧ cz.2 ≤ M.2.2.2.2.2) (hv : (if y < x then y else x) = v) (h : ab_Fr M (d + 1) Q (pc + 3) L (.int v :: st) cz σ E) : ab_Fr M (d + 1) Q pc L (.int y :: .int x :: st) cz σ E := by
  intro p l e s mid args below meth c G H locs ls Z C hH hS hL hR
  subst hv
  exact va_mmin C.1 C.2.1 (C.2.2.1.trans hL.1.symm) C.2.2.2.1 (C.2.2.2.2.1 _ hlk) (C.2.2.2.2.1 _ hw.1) (C.2.2.2.2.1 _ hw.2.1) (C.2.2.2.2.1 _ hw.2.2) (by show 1 ≤ d + 1; omega) (by rw [ab_sum]; show _ + 13 ≤ 64 * (d + 1); omega) hz.1 hz.2 hd (h p l e s mid args below meth c G H locs ls Z C hH hS hL hR)
/-- what is told of a frame may be told less sharply -/
theorem ab_call_mono {M : ab_M} {d : Nat} {vs : List Value} {σ : ab_S} {E : ab_E} {Q Q2 : ab_Qs} (h : ab_Call M d vs σ E Q) (hq : ∀ v σ2 E2, Q v σ2 E2 → Q2 v σ2 E2) : ab_Call M d vs σ E Q2 := by
  intro l G hl9
  refine MetFree.mono (h l G hl9) (fun _ _ q => q) (fun _ _ _ _ _ q => q) ?_
  intro a st o t _ ⟨⟨⟨v, σ2, E2, h1, h2, h3, h4⟩, h5⟩, h6⟩
  exact ⟨⟨⟨v, σ2, E2, h1, h2, hq _ _ _ h3, h4⟩, h5⟩, h6⟩
end AD
