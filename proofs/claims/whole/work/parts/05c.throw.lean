
section AH
/-! ===== methods that throw NoSuchElementException, and the law's callers that catch it ===== -/
def ab_xl : List Cond := vx_at0 RX11 147 ab_nse ["java/lang/RuntimeException", "java/lang/Exception"]
theorem ab_xl_good : ∀ w ∈ ab_xl.filter goodWord, w ∈ lw_tbl := by decide +kernel
theorem ab_xl_rest : ∀ w ∈ ab_xl.filter (fun w => !goodWord w), w ∈ ab_cst := by decide +kernel
theorem ab_xl_ot : ∀ w ∈ Cond.classLink RX11 145 ab_nse :: Cond.initialized ab_nse :: ab_xl, vx_ot w = true := by decide +kernel
theorem ab_xl_1 : Cond.classLink RX11 145 ab_nse ∈ lw_tbl := by decide +kernel
theorem ab_xl_2 : Cond.initialized ab_nse ∈ lw_tbl := by decide +kernel
theorem ab_xl_3 : Cond.classLink RL 13 ab_nse ∈ lw_tbl := by decide +kernel
theorem ab_xl_f : Bundle.fit ab_nse = true ∧ ∀ n ∈ (["java/lang/RuntimeException", "java/lang/Exception"] : List String), Bundle.fit n = true := by decide +kernel
def ab_XC (G : ab_G) (sc : Nat × (Nat → Int32)) (Q : ab_Qt) : String → State → State → Prop := fun En st t => En = ab_nse ∧ (∃ (σ : ab_S) (E : ab_E), E.2.2.2 = sc ∧ Q none σ E ∧ ab_H G σ E t.heap) ∧ va_F (ab_A G) st t
def ab_CallX (M : ab_M) (d : Nat) (vs : List Value) (σ : ab_S) (E : ab_E) (Q : ab_Qt) : Prop := ∀ (l : Launch) (G : ab_G), l.stackTraces = false → vx_Met l M.1 (ab_ws M) (ab_room M d) (ab_Pc G vs σ E) (ab_Qc G E.2.2.2 (fun v => Q (some v))) (ab_XC G E.2.2.2 Q) M.2.2.2.2.1 M.2.2.2.2.2 (ab_A G)
theorem ab_rt_ofX {M : ab_M} {d : Nat} {Q : ab_Qt} {p : Program} {l : Launch} {e : Env} {s : State} {mid : MethodId} {args : Array Value} {below : List Frame} {meth : Method} {c : Code} {G : ab_G} {sc : Nat × (Nat → Int32)}
    (hr : meth.sig.returnType = M.2.2.2.1) (hlocks : meth.locks = false) (C : ab_cx M p l s mid args meth c G sc) (hd : 6 ≤ d) (ht : ab_tb M = []) :
    ab_rt M d Q p l e s mid args below meth c G sc (vx_MQ below (ab_Qc G sc (fun v => Q (some v))) (ab_XC G sc Q) args s M.2.2.2.2.1 M.2.2.2.2.2 (ab_A G)) := by
  refine ⟨fun pc H locs ls k n v σ E hsc hQ hH hS hk hn hrd => vx_ret ((ab_rt_of (d := d) (p := p) (l := l) (e := e) (mid := mid) (args := args) (below := below) (G := G) (sc := sc) (Q := fun v => Q (some v)) C.1 C.2.1 hr hlocks).1 pc H locs ls k n v σ E hsc ⟨v, rfl, hQ⟩ hH hS hk hn hrd), ?_⟩
  intro pc H locs ls k n σ E hsc hQ hH hS hls hk hn htd
  obtain ⟨hcl, d0, d3, d4, d7⟩ := htd
  have hown : s.vm.findClass RX11 = some mid.cls := by rw [← hcl]; exact C.2.2.2.1
  have tb : ∀ w, w ∈ lw_tbl → goodWord w = true → w.before args s = true := fun w h1 h2 => C.2.2.2.2.1 w (List.mem_filter.mpr ⟨h1, h2⟩)
  have hat : ∀ w ∈ ab_xl, w.before args s = true := vx_hat (B := ab_cst) (fun w hw => tb w (ab_xl_good w hw) (List.mem_filter.mp hw).2) ab_xl_rest (fun w hw => by
    have h1 := C.2.2.2.2.2.2.1.2.2.1 w hw
    unfold ab_cst at hw
    simp only [List.mem_cons, List.mem_nil_iff, or_false] at hw
    rcases hw with rfl | rfl | rfl | rfl <;> exact va_Nw.use rfl h1)
  refine vx_throw0 (names := ["java/lang/RuntimeException", "java/lang/Exception"]) (cls := ab_nse) (own := RX11) (ik := 145) (ic := 147) C.1 C.2.1 C.2.2.2.2.2.2.2.2.2.2 hown ab_xl_f.1 ab_xl_f.2 (tb _ ab_xl_1 rfl) (tb _ ab_xl_2 rfl) hat ab_xl_ot C.2.2.2.2.2.2.2.1.2.2.2.2.2.1 C.2.2.2.2.2.2.2.1.2.2.2.2.2.2 hS (hls.trans C.2.2.1.symm) d0 d3 d4 d7 ?_ ?_ ?_ hk hn hlocks ?_ hS.2.2 hk hn
  · intro x hx
    rw [C.2.2.2.2.2.2.2.2.2.1, ht] at hx
    cases hx
  · show 2 + 3 < d
    omega
  · show 0 + (13 * (2 + 1) + 42) ≤ 64 * d
    omega
  · intro t ha hz ho
    refine ⟨rfl, ⟨(σ.1, σ.2.1, σ.2.2.1, σ.2.2.2 + 1), E, hsc, hQ, ?_⟩, Nat.le_trans hS.1 hz, fun q h1 h2 => (ho q (Nat.lt_of_lt_of_le h1 hS.1)).trans (hS.2.1 q h1 h2)⟩
    exact ⟨hH.1.kept (fun k q hq => ho q.1 (hH.1 k q hq).lt), ⟨fun q => absurd q (Nat.succ_ne_zero _), Nat.le_trans hH.2.1.2 hz⟩, hH.2.2⟩
theorem ab_enterX {M : ab_M} {d : Nat} {vs : List Value} {σ : ab_S} {E : ab_E} {Q : ab_Qt} {n : Nat} (hok : ab_ok M n) (hv : ∀ G : ab_G, (lg_sl (vs.map (ab_tr G))).length ≤ M.2.2.1) (hd : 6 ≤ d)
    (h : ab_Fr M d Q 0 (ab_l0 vs M.2.2.1) [] (0, 0) σ E) : ab_CallX M d vs σ E Q := by
  intro l G hl9
  refine vx_ofW (cc := M.2.1) (maxL := M.2.2.1) (ret := M.2.2.2.1) (ws' := ab_tbl) hok.2.2.2.2.1 rfl ?_
  intro p e s m args below meth c s₁ B hml htab hv9
  have htab2 : c.exceptionTable.toList = tableOf (ab_tb M) := by
    rw [hok.2.2.2.2.2]
    cases hq : c.exceptionTable.toList with
    | nil => rfl
    | cons x r => exact (htab x (by rw [hq]; exact List.mem_cons_self)).elim
  obtain ⟨rfl, hH, hK, hro, hsz⟩ := hv9
  have hts0 := atoms_spec (ws := ab_ws M) B.pre
  have hts : ∀ w ∈ ab_tbl, w.before (vs.map (ab_tr G)).toArray s = true := fun w hw => hts0 w (List.mem_cons_of_mem _ hw)
  have hown : s.vm.findClass M.1.cls = some m.cls := findClass_of_methodNamed B.named
  have hl := lv_entry (vs.map (ab_tr G)) (n := M.2.2.1) (hv G)
  rw [lg_entry_eq]
  have C : ab_cx M p l s m (vs.map (ab_tr G)).toArray meth c G E.2.2.2 := ⟨B.exec, B.bytes, hml, hown, hts, (name_of_methodNamed B.named B.method).1, hK, hro, hsz, htab2, hl9⟩
  refine h p l e s m (vs.map (ab_tr G)).toArray below meth c G s.heap [] _ _ C hH va_S.rf ⟨hl.1, hl.2.1, fun i v hi => ?_⟩ (ab_rt_ofX B.returns B.notSynchronized C hd hok.2.2.2.2.2)
  have h1 := ab_l0_args G vs M.2.2.1 0 i v hi
  rw [Nat.zero_add] at h1
  exact hl.2.2 _ h1
/-! the law's callers: a table of one row -/
def ab_wsW (M : ab_M) : List Cond := Cond.codeWith M.1 M.2.1 M.2.2.1 M.2.2.2.1 (ab_tb M) :: ab_tbl
def ab_CallW (M : ab_M) (d : Nat) (vs : List Value) (σ : ab_S) (E : ab_E) (Q : ab_Qs) : Prop := ∀ (l : Launch) (G : ab_G), l.stackTraces = false → Met l M.1 (ab_wsW M) (ab_room M d) (ab_Pc G vs σ E) (ab_Qc G E.2.2.2 Q) M.2.2.2.2.1 M.2.2.2.2.2 (ab_A G)
theorem ab_enterW {M : ab_M} {d : Nat} {vs : List Value} {σ : ab_S} {E : ab_E} {Q : ab_Qs} (hpl : plainName M.1.cls = true) (hv : ∀ G : ab_G, (lg_sl (vs.map (ab_tr G))).length ≤ M.2.2.1)
    (h : ab_Fr M d (fun o σ E => ∃ v, o = some v ∧ Q v σ E) 0 (ab_l0 vs M.2.2.1) [] (0, 0) σ E) : ab_CallW M d vs σ E Q := by
  intro l G hl9
  have hX : vx_Met l M.1 (ab_wsW M) (ab_room M d) (ab_Pc G vs σ E) (ab_Qc G E.2.2.2 Q) (fun _ _ _ => False) M.2.2.2.2.1 M.2.2.2.2.2 (ab_A G) := by
    refine vx_ofWH (cc := M.2.1) (maxL := M.2.2.1) (ret := M.2.2.2.1) (hh := ab_tb M) (ws' := ab_tbl) hpl rfl ?_
    intro p e s m args below meth c s₁ B hml hv9
    have htab2 : c.exceptionTable.toList = tableOf (ab_tb M) := vx_table (x := M.1) B (atoms_spec (ws := ab_wsW M) B.pre _ List.mem_cons_self)
    obtain ⟨rfl, hH, hK, hro, hsz⟩ := hv9
    have hts0 := atoms_spec (ws := ab_wsW M) B.pre
    have hts : ∀ w ∈ ab_tbl, w.before (vs.map (ab_tr G)).toArray s = true := fun w hw => hts0 w (List.mem_cons_of_mem _ hw)
    have hown : s.vm.findClass M.1.cls = some m.cls := findClass_of_methodNamed B.named
    have hl := lv_entry (vs.map (ab_tr G)) (n := M.2.2.1) (hv G)
    rw [lg_entry_eq]
    refine vx_ret ?_
    refine h p l e s m (vs.map (ab_tr G)).toArray below meth c G s.heap [] _ _ ⟨B.exec, B.bytes, hml, hown, hts, (name_of_methodNamed B.named B.method).1, hK, hro, hsz, htab2, hl9⟩ hH va_S.rf ⟨hl.1, hl.2.1, fun i v hi => ?_⟩ (ab_rt_of B.exec B.bytes B.returns B.notSynchronized)
    have h1 := ab_l0_args G vs M.2.2.1 0 i v hi
    rw [Nat.zero_add] at h1
    exact hl.2.2 _ h1
  refine MetFree.mono hX (fun _ _ q => q) (fun _ _ _ _ _ q => q) ?_
  intro a st o t _ h9
  rcases h9 with h9 | ⟨q, -, En, ce, L9, hx, -⟩
  · exact h9
  · exact hx.elim
variable {M : ab_M} {d : Nat} {Q : ab_Qt} {pc : Nat} {L : List (Option Value)} {st : List Value} {cz : Nat × Nat} {σ : ab_S} {E : ab_E}
theorem ab_callW {N : ab_M} {vs st0 : List Value} {idx n : Nat} {Q2 : ab_Qs} (hd : decode M.2.1 pc = .ok (.invokestatic idx, 3)) (hini : Cond.initialized N.1.cls ∈ ab_tbl) (hcd : Cond.codeWith N.1 N.2.1 N.2.2.1 N.2.2.2.1 (ab_tb N) ∈ ab_tbl) (hpd : N.1.cls ≠ "java/lang/invoke/MethodHandle" ∧ N.1.cls ≠ "java/lang/invoke/VarHandle" ∧ (parseMethodDescriptor N.1.desc).map (fun q => q.parameters.length) = some n) (hml : N.2.2.1 ≤ 45) (hst0 : Cond.static N.1 ∈ ab_tbl) (hlk : Cond.methodLink M.1.cls idx N.1 ∈ ab_tbl) (hn : vs.length = n) (hst : st0 = vs.reverse ++ st) (hr : (st.map fun v => v.category).sum ≤ 8)
    (hm : cz.1 + N.2.2.2.2.1 ≤ M.2.2.2.2.1 ∧ cz.2 + N.2.2.2.2.2 ≤ M.2.2.2.2.2) (hc : ab_CallW N d vs σ E Q2)
    (h : ∀ (v : Option Value) (σ2 : ab_S) (E2 : ab_E), E2.2.2.2 = E.2.2.2 → Q2 v σ2 E2 → ab_Fr M (d + 1) Q (pc + 3) L (v.toList ++ st) (cz.1 + N.2.2.2.2.1, cz.2 + N.2.2.2.2.2) σ2 E2) : ab_Fr M (d + 1) Q pc L st0 cz σ E := by
  intro p l e s mid args below meth c G H locs ls Z C hH hS hL hR
  subst hst
  have hG : GoodIn ab_tbl (va_wsS M.1.cls idx N.1 (ab_wsW N)) := by
    intro w hw
    unfold va_wsS at hw
    rcases List.mem_append.mp hw with hw | hw
    · simp only [List.mem_cons, List.mem_nil_iff, or_false] at hw
      rcases hw with rfl | rfl | rfl
      · exact ab_good hlk
      · exact ab_good hst0
      · exact ab_good hini
    · rcases List.mem_cons.mp hw with rfl | hw
      · exact ab_good hcd
      · exact ab_good hw
  have hroom : (ab_room N d).frames + 1 ≤ (ab_room M (d + 1)).frames ∧ 8 + (N.2.2.1 + 11) + (ab_room N d).locals ≤ (ab_room M (d + 1)).locals := by
    unfold ab_room
    dsimp only
    omega
  refine ab_run (G := G) (Q := Q2) (sc := E.2.2.2) (rest := st.map (ab_tr G)) (mc := N.2.2.2.2.1) (ms := N.2.2.2.2.2) (vx_runSW (own := M.1.cls) (nL := M.2.2.1) (Ts := ab_tbl) (As := vs.map (ab_tr G)) (n := n) (bytes := N.2.1) (maxL := N.2.2.1) (ret := N.2.2.2.1) (hh := ab_tb N) ⟨C.1, C.2.1, C.2.2.1, C.2.2.2.1, C.2.2.2.2.1⟩ (hc l G C.2.2.2.2.2.2.2.2.2.2) (vx_cwSW n C.2.2.2.2.1 hG rfl rfl rfl hpd hroom) ⟨ab_blind G _ σ E, ab_pre C hH hS vs⟩ rfl (by simpa using hn) hL.1 (by simp) (lv_room (by rw [ab_sum]; exact hr)) hd hm) hS ?_
  intro v σ2 E2 H1 locs1 hsc hQ hH1 hS1
  rw [ab_tl]
  rw [← hsc] at C hR
  exact h v σ2 E2 hsc hQ p l e s mid args below meth c G H1 locs1 ls Z C hH1 hS1 hL hR
/-- a call of a thrower by one of the law's callers: it goes on behind the call, or, the exception put away, behind the handler's first instruction -/
theorem ab_callX {N : ab_M} {vs st0 : List Value} {k idx n : Nat} {Q2 : ab_Qt} {hs he hp kx : Nat} (hd : decode M.2.1 pc = .ok (.invokevirtual idx, 3)) (hok : ab_okV N n) (hlk : Cond.methodLink M.1.cls idx N.1 ∈ ab_tbl) {ci : Nat} (hk : E.1 k = .inl ci) {T9 : u_T} {N9 : Nat} (hci : ab_cl[ci]? = some (N.1.cls, T9, N9)) (hn : vs.length = n) (hst : st0 = vs.reverse ++ .ref k :: st) (hr : (st.map fun v => v.category).sum ≤ 8)
    (hm : cz.1 + N.2.2.2.2.1 ≤ M.2.2.2.2.1 ∧ cz.2 + N.2.2.2.2.2 ≤ M.2.2.2.2.2) (hM : M.1.cls = RL) (htb : ab_tb M = [(hs, he, hp, 13)]) (hcov : hs ≤ pc ∧ pc < he) (hc : ab_CallX N d (.ref k :: vs) σ E Q2)
    (h : ∀ (v : Option Value) (σ2 : ab_S) (E2 : ab_E), E2.2.2.2 = E.2.2.2 → Q2 (some v) σ2 E2 → ab_Fr M (d + 1) Q (pc + 3) L (v.toList ++ st) (cz.1 + N.2.2.2.2.1, cz.2 + N.2.2.2.2.2) σ2 E2)
    {ins : Instr} {len : Nat} (hd2 : (ins = .astore kx ∧ len = 2) ∨ ∃ q : Fin 4, ins = .astore_n q ∧ len = 1 ∧ (q : Nat) = kx) (hd3 : decode M.2.1 hp = .ok (ins, len)) (hkx : kx < M.2.2.1) (hkl : L[kx]? = some none) (hk2 : ∀ v, L[kx - 1]? = some (some v) → v.category = 1)
    (h2 : ∀ (σ2 : ab_S) (E2 : ab_E), E2.2.2.2 = E.2.2.2 → Q2 none σ2 E2 → ab_Fr M (d + 1) Q (hp + len) L [] (cz.1 + N.2.2.2.2.1, cz.2 + N.2.2.2.2.2) σ2 E2) : ab_Fr M (d + 1) Q pc L st0 cz σ E := by
  intro p l e s mid args below meth c G H locs ls Z C hH hS hL hR
  subst hst
  obtain ⟨i, rfl, hi⟩ := ab_ix hH (Or.inl ⟨ci, hk⟩)
  have hw : (ab_w G σ E)[i]? = some (ab_al G (i + 3), .inr (ci, (List.range (ab_nf ci)).map (fun j => ab_tr G (ab_fw (ab_fc ci j) j (σ.1 (i + 3)) (σ.2.1 (i + 3)) (σ.2.2.1 (i + 3)) (E.2.1 (i + 3)))))) := by
    rw [ab_w_get hi]
    unfold ab_ct ab_cc
    rw [hk]
  have hG : GoodIn ab_tbl (wsV M.1.cls idx N.1.cls N.1 (ab_ws N)) := by
    intro w hw
    unfold wsV at hw
    rcases List.mem_append.mp hw with hw | hw
    · simp only [List.mem_cons, List.mem_nil_iff, or_false] at hw
      rcases hw with rfl | rfl | rfl | rfl
      · exact ab_good hlk
      · exact ab_good hok.2.1
      · exact ab_good hok.2.2
      · exact ab_good hok.1.1
    · rcases List.mem_cons.mp hw with rfl | hw
      · exact ab_good hok.1.2.1
      · exact ab_good hw
  have hrun := vx_runV (p := p) (l := l) (e := e) (R := ab_room M (d + 1)) (s := s) (m := mid) (args := args) (below := below) (meth := meth) (c := c) (H := H) (locs := locs) (cells := cz.1) (slots := cz.2) (g := F0 mid pc ls ((vs.reverse ++ .ref (i + 3) :: st).map (ab_tr G))) (rest := st.map (ab_tr G)) (mc := N.2.2.2.2.1) (ms := N.2.2.2.2.2) (own := M.1.cls) (nL := M.2.2.1) (Ts := ab_tbl) (As := vs.map (ab_tr G)) (b := ab_al G (i + 3)) (n := n) (C := N.1.cls) (bytes := N.2.1) (maxL := N.2.2.1) (ret := N.2.2.2.1) ⟨C.1, C.2.1, C.2.2.1, C.2.2.2.1, C.2.2.2.2.1⟩ (hc l G C.2.2.2.2.2.2.2.2.2.2) (cwV n C.2.2.2.2.1 hG rfl rfl rfl ⟨rfl, hok.1.2.2.1⟩ (ab_room_ok hok.1)) ⟨ab_blind G _ σ E, va_recv (q := (N.1.cls, T9, N9)) C.2.2.2.2.2.2.1.1 hH.1 hci hw, ab_pre C hH hS (.ref (i + 3) :: vs)⟩ rfl (by simpa using hn) hL.1 (by simp [ab_tr]) (lv_room (by rw [ab_sum]; exact hr)) hd hm
  intro T hT X
  rcases hrun T hT X with ⟨v9, st₀, t, T', L9, h0, X', hL9, e1, e2, ⟨⟨v, σ2, E2, hsc, hv, hQ, hH1⟩, hz, hkk⟩, stp⟩ | ⟨q, st₀, t, T', L9, En, ce, h0, X', hL9, e1, e2, ⟨hEn, ⟨σ2, E2, hsc, hQ, hH1⟩, hz, hkk⟩, hce, hcv, hcl, stp⟩
  · cases hv
    rw [h0] at hz hkk
    rw [← hsc] at C hR
    obtain ⟨t2, a1, b1⟩ := h v σ2 E2 hsc hQ p l e s mid args below meth c G T'.heap (locs ++ L9) ls Z C (by rw [e1]; exact hH1)
      ⟨Nat.le_trans hS.1 (by rw [e1]; exact hz), fun q h1 h2 => by rw [e1, hkk q (Nat.lt_of_lt_of_le h1 hS.1) h2]; exact hS.2.1 q h1 h2, fun q hq => (List.mem_append.mp hq).elim (hS.2.2 q) (hL9 q)⟩ hL hR T' rfl X'
    rw [← ab_tl] at a1
    exact ⟨t2, stp t2 a1, b1⟩
  · rw [h0] at hz hkk
    rw [← hsc] at C hR
    subst hEn
    have hS1 : va_S (ab_A G) s.heap T'.heap (locs ++ L9) := ⟨Nat.le_trans hS.1 (by rw [e1]; exact hz), fun q h1 h2 => by rw [e1, hkk q (Nat.lt_of_lt_of_le h1 hS.1) h2]; exact hS.2.1 q h1 h2, fun q hq => (List.mem_append.mp hq).elim (hS.2.2 q) (hL9 q)⟩
    have tb : ∀ w, w ∈ lw_tbl → goodWord w = true → w.before args s = true := fun w h1 h2 => C.2.2.2.2.1 w (List.mem_filter.mpr ⟨h1, h2⟩)
    have hown : s.vm.findClass RL = some mid.cls := by rw [← hM]; exact C.2.2.2.1
    have hWx : vx_W p l e (ab_room M (d + 1)) s mid args below meth c T'.heap (locs ++ L9) (cz.1 + N.2.2.2.2.1) (cz.2 + N.2.2.2.2.2) Z (F0 mid pc ls (st.map (ab_tr G))) q := by
      refine vx_catch (own := RL) (name := ab_nse) (E := ab_nse) (ce := ce) hown [] ⟨hs, he, hp, 13⟩ [] (by rw [C.2.2.2.2.2.2.2.2.2.1, htb]; rfl) (fun z hz => by cases hz) ?_ (Nat.succ_ne_zero 12) (tb _ ab_xl_3 rfl) (va_Nw.use rfl (C.2.2.2.2.2.2.1.2.2.1 _ List.mem_cons_self)) (by rw [e1]; exact hce) hcv hcl ?_
      · unfold covers
        simp [hcov.1, hcov.2]
      · have hstore : ∀ ls2 : Array Slot, lv_has ls2 M.2.2.1 ((kx, Value.ref q) :: (ab_lv G L).filter (fun q => !(q.1 == kx) && !(q.1 + 1 == kx && q.2.category == 2))) → W p l e (ab_room M (d + 1)) s mid args below meth c T'.heap (locs ++ L9) (cz.1 + N.2.2.2.2.1) (cz.2 + N.2.2.2.2.2) Z (F0 mid (hp + len) ls2 []) := by
          intro ls2 hls2
          refine h2 σ2 E2 hsc hQ p l e s mid args below meth c G T'.heap (locs ++ L9) ls2 Z C (by rw [e1]; exact hH1) hS1 ⟨hls2.1, hls2.2.1, fun j w hj => ?_⟩ hR
          refine hls2.2.2 (j, ab_tr G w) (List.mem_cons_of_mem _ (List.mem_filter.mpr ⟨ab_lv_mem.mpr ⟨w, hj, rfl⟩, ?_⟩))
          have hne : j ≠ kx := by intro z; rw [z, hkl] at hj; cases hj
          have e8 : (j == kx) = false := by simpa using hne
          rw [e8]
          by_cases z : j + 1 = kx
          · have h7 := hk2 w (by rw [show kx - 1 = j by omega]; exact hj)
            rw [ab_cat]
            simp [h7]
          · simp [z]
        rcases hd2 with ⟨rfl, rfl⟩ | ⟨qn, rfl, rfl, hqn⟩
        · exact lv_astore C.1 C.2.1 hd3 (ab_ls_has hL) hkx rfl hstore
        · exact lv_astore_n C.1 C.2.1 hd3 hqn (ab_ls_has hL) hkx rfl hstore
    obtain ⟨t2, a1, b1⟩ := hWx T' rfl X'
    exact ⟨t2, stp.trans a1, b1⟩
end AH
