/-! THE ABSTRACT MACHINE. The store: ints, longs, changing references, each by cell and place; how many cells stand behind the named ones. -/
abbrev ab_S : Type := (Nat → Nat → Int32) × (Nat → Nat → Int64) × (Nat → Nat → Value) × Nat
/-- what is fixed once it is made: kinds of cells, final references, how many named cells, the script -/
abbrev ab_E : Type := (Nat → Nat ⊕ (Nat × Nat)) × (Nat → Nat → Value) × Nat × (Nat × (Nat → Int32))
abbrev ab_G : Type := Nat × (Nat → Nat) × va_G × (Nat → ClassId)
/-- a method: name, bytes, locals, what it returns, how many cells and slots it may make -/
abbrev ab_M : Type := MethodName × ByteArray × Nat × Option FieldType × Nat × Nat
def ab_u {α : Type} (f : Nat → Nat → α) (k j : Nat) (v : α) : Nat → Nat → α := fun a b => if a = k ∧ b = j then v else f a b
def ab_v {α : Type} (f : Nat → α) (j : Nat) (v : α) : Nat → α := fun b => if b = j then v else f b
theorem ab_u_ne {α : Type} {f : Nat → Nat → α} {k j a : Nat} {v : α} (h : a ≠ k) : ab_u f k j v a = f a := by
  funext b
  simp [ab_u, h]
theorem ab_u_eq {α : Type} {f : Nat → Nat → α} {k j : Nat} {v : α} : ab_u f k j v k = ab_v (f k) j v := by
  funext b
  simp [ab_u, ab_v]
def ab_al (G : ab_G) (k : Nat) : Nat := if k < 3 then G.2.1 k else G.1 + (k - 3)
theorem ab_al3 {G : ab_G} (i : Nat) : ab_al G (i + 3) = G.1 + i := by
  unfold ab_al
  rw [if_neg (by omega)]
  rfl
def ab_tr (G : ab_G) (v : Value) : Value := match v with
  | .ref k => .ref (ab_al G k)
  | w => w
def ab_rv (G : ab_G) (v : Value) : Option Nat := match v with
  | .ref k => some (ab_al G k)
  | _ => none
def ab_cl : List vw_C := [(RX0, TX0, 1), (RX1, TX1, 12), (RX2, TX2, 14), (RX3, TX3, 14), (RX4, TX4, 9), (RX5, TX5, 10), (RX6, TX6, 2), (RX7, TX7, 2), (RX8, TX8, 8), (RX9, TX9, 8), (RX10, TX10, 6), (RX11, TX11, 12), (RX12, TX12, 70)]
def ab_nf (ci : Nat) : Nat := match ab_cl[ci]? with
  | some q => q.2.2
  | none => 0
/-- 0 int, 1 boolean, 2 long, 3 a reference that changes, 4 a final one -/
def ab_ft : List (List Nat) := [[4], [0, 0, 0, 0, 0, 0, 4, 4, 4, 4, 4, 4], [0, 4, 3, 1, 0, 0, 0, 2, 0, 0, 0, 0, 4, 4], [4, 3, 4, 4, 4, 4, 4, 2, 2, 4, 4, 4, 0, 4], [3, 4, 4, 4, 4, 4, 4, 4, 4], [4, 4, 4, 2, 4, 4, 4, 4, 2, 4], [0, 4], [4, 0], [3, 4, 4, 4, 4, 4, 2, 2], [0, 0, 0, 0, 4, 4, 4, 4], [3, 3, 3, 0, 4, 4], [4, 4, 4, 4, 4, 4, 4, 4, 4, 4, 4, 3], [0, 4, 0, 0, 0, 0, 0, 0, 0, 0, 2, 4, 4, 4, 4, 4, 4, 4, 4, 4, 4, 4, 4, 4, 4, 4, 4, 0, 0, 0, 0, 0, 4, 4, 4, 4, 4, 4, 4, 4, 4, 0, 2, 2, 4, 4, 4, 4, 4, 4, 0, 4, 0, 2, 2, 2, 4, 4, 4, 4, 4, 2, 4, 4, 0, 4, 4, 4, 0, 0]]
def ab_fc (ci j : Nat) : Nat := (ab_ft.getD ci []).getD j 9
def ab_fw (c : Nat) (j : Nat) (fi : Nat → Int32) (fl : Nat → Int64) (fd ff : Nat → Value) : Value := match c with
  | 0 => .int (fi j)
  | 1 => .int (fi j)
  | 2 => .long (fl j)
  | 3 => fd j
  | _ => ff j
/-- the cell itself -/
def ab_cc (G : ab_G) (kd : Nat ⊕ (Nat × Nat)) (fi : Nat → Int32) (fl : Nat → Int64) (fd ff : Nat → Value) : va_E := match kd with
  | .inl ci => .inr (ci, (List.range (ab_nf ci)).map (fun j => ab_tr G (ab_fw (ab_fc ci j) j fi fl fd ff)))
  | .inr (t, n) => .inl (G.2.2.2 t, n, match t with
    | 0 => .inl fi
    | 1 => .inr (.inl fl)
    | 2 => .inl fi
    | _ => .inr (.inr (.inr (.inr (fun j => ab_rv G (ff j))))))
def ab_ct (G : ab_G) (σ : ab_S) (E : ab_E) (k : Nat) : va_E := ab_cc G (E.1 k) (σ.1 k) (σ.2.1 k) (σ.2.2.1 k) (E.2.1 k)
def ab_w (G : ab_G) (σ : ab_S) (E : ab_E) : va_W := (List.range E.2.2.1).map (fun i => (G.1 + i, ab_ct G σ E (i + 3)))
theorem ab_w_get {G : ab_G} {σ : ab_S} {E : ab_E} {i : Nat} (hi : i < E.2.2.1) : (ab_w G σ E)[i]? = some (ab_al G (i + 3), ab_ct G σ E (i + 3)) := by
  rw [ab_al3]
  simp [ab_w, hi]
theorem ab_w_set {G : ab_G} {σ σ' : ab_S} {E E' : ab_E} {i : Nat} {e : va_E} (hn : E'.2.2.1 = E.2.2.1) (he : ab_ct G σ' E' (i + 3) = e) (ho : ∀ j, j ≠ i → ab_ct G σ' E' (j + 3) = ab_ct G σ E (j + 3)) :
    (ab_w G σ E).set i (ab_al G (i + 3), e) = ab_w G σ' E' := by
  rw [ab_al3]
  apply List.ext_getElem?
  intro j
  rw [List.getElem?_set]
  unfold ab_w
  rw [hn]
  by_cases hj : j < E.2.2.1
  · by_cases h : i = j
    · subst h
      simp [hj, he]
    · simp [hj, h, ho j (fun q => h q.symm)]
  · by_cases h : i = j
    · subst h
      simp [hj]
    · simp [hj, h]
theorem ab_w_push {G : ab_G} {σ σ' : ab_S} {E E' : ab_E} {e : va_E} (hn : E'.2.2.1 = E.2.2.1 + 1) (he : ab_ct G σ' E' (E.2.2.1 + 3) = e) (ho : ∀ j, j < E.2.2.1 → ab_ct G σ' E' (j + 3) = ab_ct G σ E (j + 3)) :
    ab_w G σ E ++ [(G.1 + E.2.2.1, e)] = ab_w G σ' E' := by
  unfold ab_w
  rw [hn, List.range_succ, List.map_append]
  congr 1
  · apply List.map_congr_left
    intro j hj
    rw [ho j (List.mem_range.mp hj)]
  · simp [he]
def ab_A (G : ab_G) : Nat → Prop := fun q => G.1 ≤ q
theorem ab_wD (G : ab_G) (σ : ab_S) (E : ab_E) : va_D (ab_A G) (ab_w G σ E) := by
  have key : ∀ (k : Nat) (q : Nat × va_E), (ab_w G σ E)[k]? = some q → k < E.2.2.1 ∧ q.1 = G.1 + k := by
    intro k q h
    by_cases hk : k < E.2.2.1
    · rw [ab_w_get hk] at h
      cases h
      exact ⟨hk, ab_al3 k⟩
    · simp [ab_w, hk] at h
  refine ⟨fun i j p q hi hj e => ?_, fun k q h => ?_⟩
  · have h1 := (key i p hi).2
    have h2 := (key j q hj).2
    omega
  · show G.1 ≤ q.1
    have := (key k q h).2
    omega
def ab_tys (G : ab_G) : List (ClassId × FieldType) := [(G.2.2.2 0, .int), (G.2.2.2 1, .long), (G.2.2.2 2, .boolean), (G.2.2.2 3, .object RX9), (G.2.2.2 4, .object RX1)]
def ab_H (G : ab_G) (σ : ab_S) (E : ab_E) (H : Heap) : Prop := va_P G.2.2.1 ab_cl (ab_w G σ E) H ∧ ((σ.2.2.2 = 0 → H.size = G.1 + E.2.2.1) ∧ G.1 + E.2.2.1 ≤ H.size) ∧ (∀ k, k < 3 → ∃ t n, E.1 k = .inr (t + 5, n)) ∧ ∀ k, E.2.2.1 + 3 ≤ k → E.1 k = .inr (9, 0)
theorem ab_ix {G : ab_G} {σ : ab_S} {E : ab_E} {H : Heap} (h : ab_H G σ E H) {k : Nat} (hk : (∃ ci, E.1 k = .inl ci) ∨ ∃ t n, t < 5 ∧ E.1 k = .inr (t, n)) : ∃ i, k = i + 3 ∧ i < E.2.2.1 := by
  have h3 : ¬ k < 3 := by
    intro q
    obtain ⟨t, n, e⟩ := h.2.2.1 k q
    rcases hk with ⟨ci, e2⟩ | ⟨t2, n2, l, e2⟩
    · rw [e] at e2; cases e2
    · rw [e] at e2; cases e2; omega
  have hn : ¬ E.2.2.1 + 3 ≤ k := by
    intro q
    have e := h.2.2.2 k q
    rcases hk with ⟨ci, e2⟩ | ⟨t2, n2, l, e2⟩
    · rw [e] at e2; cases e2
    · rw [e] at e2; cases e2; omega
  exact ⟨k - 3, by omega, by omega⟩
def ab_tbl : List Cond := lw_tbl.filter goodWord
def ab_nest : List Cond := [.methodLinkNest RX4 101 yX11_empty RX11, .methodLinkNest RX3 57 yX11_empty RX11, .methodLinkNest RX3 161 yX11_rightOf RX11, .methodLinkNest RX8 49 yX11_empty RX11, .methodLinkNest RX5 48 yX11_empty RX11]
def ab_nse : String := "java/util/NoSuchElementException"
def ab_cst : List Cond := [.castable ab_nse ab_nse, .declares ⟨"java/lang/RuntimeException", "<init>", "()V"⟩, .declares ⟨"java/lang/Exception", "<init>", "()V"⟩, .declares ⟨"java/lang/Throwable", "<init>", "()V"⟩]
def ab_K (G : ab_G) (s : State) : Prop := va_K G.2.2.1 ab_cl (ab_tys G) s ∧ (∀ w ∈ ab_nest, va_Nw w s) ∧ (∀ w ∈ ab_cst, va_Nw w s) ∧ va_AO RX9 s ∧ va_AO RX1 s
/-- the exception table of a method: the law's own callers have one row -/
def ab_tb (M : ab_M) : List (Nat × Nat × Nat × Nat) := if M.1.cls = RL ∧ M.2.2.1 ≤ 6 then [(0, ([0, 0, 0, 7, 8, 9, 11] : List Nat).getD M.2.2.1 0, ([0, 0, 0, 10, 11, 12, 14] : List Nat).getD M.2.2.1 0, 13)] else []
def ab_kw (j : Nat) : Int64 := ([500136506472, 508676040050, 1819243379, 7823737, 131277443786868, 1920298085, 1936024947, 114827802801012, 482854660462, 7563385, 7562612, 1852796517, 1836020596, 426952976754, 1852138852, 1701606245] : List Int64).getD j 0
def ab_wo (j : Nat) : Int32 := ([0, 0, 0, 0, 0, 1, 0, 1, 0, 0, 1, 1, 0, 1, 2] : List Int32).getD j 0
def ab_ro (G : ab_G) (sc : Nat × (Nat → Int32)) (s : State) : Prop :=
  va_T .int (G.2.1 0) sc.1 (fun j => .int (sc.2 j)) (ab_A G) s s.heap ∧ va_T .long (G.2.1 1) 16 (fun j => .long (ab_kw j)) (ab_A G) s s.heap ∧ va_T .int (G.2.1 2) 15 (fun j => .int (ab_wo j)) (ab_A G) s s.heap ∧
  va_Z "LongTable$Reader" "KEYWORDS" "[J" (.ref (G.2.1 1)) (ab_A G) s s.heap ∧ va_Z "LongTable$Words" "WORD_OF" "[I" (.ref (G.2.1 2)) (ab_A G) s s.heap ∧
  vx_Zq Bundle.tN "UNASSIGNED_STACK" Bundle.steD (ab_A G) s s.heap ∧ vx_Zq Bundle.tN "SUPPRESSED_SENTINEL" Bundle.listD (ab_A G) s s.heap
/-- locals: what is known of them, by place -/
def ab_ls (G : ab_G) (L : List (Option Value)) (ls : Array Slot) (n : Nat) : Prop := ls.size = n ∧ lv_wf ls ∧ ∀ (i : Nat) (v : Value), L[i]? = some (some v) → ls[i]? = some (.val (ab_tr G v))
def ab_room (M : ab_M) (d : Nat) : Room := { frames := d, cells := M.2.2.2.2.1, slots := M.2.2.2.2.2, locals := 64 * d }
def ab_ws (M : ab_M) : List Cond := Cond.code M.1 M.2.1 M.2.2.1 M.2.2.2.1 :: ab_tbl
def ab_cx (M : ab_M) (p : Program) (l : Launch) (s : State) (mid : MethodId) (args : Array Value) (meth : Method) (c : Code) (G : ab_G) (sc : Nat × (Nat → Int32)) : Prop :=
  p.tables.exec = Jvm.exec ∧ c.code = M.2.1 ∧ c.maxLocals = M.2.2.1 ∧ s.vm.findClass M.1.cls = some mid.cls ∧ (∀ w ∈ ab_tbl, w.before args s = true) ∧ meth.name = M.1.name ∧ ab_K G s ∧ ab_ro G sc s ∧ G.1 ≤ s.heap.size ∧ c.exceptionTable.toList = tableOf (ab_tb M) ∧ l.stackTraces = false
/-- the returning instruction, by what is returned -/
def ab_rd (M : ab_M) (pc : Nat) : Option Value → Prop
  | none => M.2.2.2.1 = none ∧ decode M.2.1 pc = .ok (.return_, 1)
  | some (.int x) => decode M.2.1 pc = .ok (.ireturn, 1) ∧ (M.2.2.2.1 = some .int ∨ M.2.2.2.1 = some .boolean ∧ (x = 0 ∨ x = 1))
  | some (.long _) => decode M.2.1 pc = .ok (.lreturn, 1) ∧ M.2.2.2.1 = some .long
  | some (.ref _) => decode M.2.1 pc = .ok (.areturn, 1) ∧ ∃ C, M.2.2.2.1 = some (.object C)
  | some _ => False
def ab_td (M : ab_M) (pc : Nat) : Prop := M.1.cls = RX11 ∧ decode M.2.1 pc = .ok (.new 145, 3) ∧ decode M.2.1 (pc + 3) = .ok (.dup, 1) ∧ decode M.2.1 (pc + 4) = .ok (.invokespecial 147, 3) ∧ decode M.2.1 (pc + 7) = .ok (.athrow, 1)
abbrev ab_Qt : Type := Option (Option Value) → ab_S → ab_E → Prop
def ab_rt (M : ab_M) (d : Nat) (Q : ab_Qt) (p : Program) (l : Launch) (e : Env) (s : State) (mid : MethodId) (args : Array Value) (below : List Frame) (meth : Method) (c : Code) (G : ab_G) (sc : Nat × (Nat → Int32)) (Z : State → Prop) : Prop :=
  (∀ (pc : Nat) (H : Heap) (locs : List Loc) (ls : Array Slot) (k n : Nat) (v : Option Value) (σ : ab_S) (E : ab_E), E.2.2.2 = sc → Q (some v) σ E → ab_H G σ E H → va_S (ab_A G) s.heap H locs → k ≤ M.2.2.2.2.1 → n ≤ M.2.2.2.2.2 → ab_rd M pc v →
    W p l e (ab_room M d) s mid args below meth c H locs k n Z (F0 mid pc ls (v.toList.map (ab_tr G)))) ∧
  ∀ (pc : Nat) (H : Heap) (locs : List Loc) (ls : Array Slot) (k n : Nat) (σ : ab_S) (E : ab_E), E.2.2.2 = sc → Q none (σ.1, σ.2.1, σ.2.2.1, σ.2.2.2 + 1) E → ab_H G σ E H → va_S (ab_A G) s.heap H locs → ls.size = M.2.2.1 → k + 1 ≤ M.2.2.2.2.1 → n + 6 ≤ M.2.2.2.2.2 → ab_td M pc →
    W p l e (ab_room M d) s mid args below meth c H locs k n Z (F0 mid pc ls [])
/-- THE FRAME: at pc, with these locals and this stack, over this store, the method comes to an end of which Q tells -/
def ab_Fr (M : ab_M) (d : Nat) (Q : ab_Qt) (pc : Nat) (L : List (Option Value)) (st : List Value) (cz : Nat × Nat) (σ : ab_S) (E : ab_E) : Prop :=
  ∀ (p : Program) (l : Launch) (e : Env) (s : State) (mid : MethodId) (args : Array Value) (below : List Frame) (meth : Method) (c : Code) (G : ab_G) (H : Heap) (locs : List Loc) (ls : Array Slot) (Z : State → Prop),
    ab_cx M p l s mid args meth c G E.2.2.2 → ab_H G σ E H → va_S (ab_A G) s.heap H locs → ab_ls G L ls M.2.2.1 → ab_rt M d Q p l e s mid args below meth c G E.2.2.2 Z →
    W p l e (ab_room M d) s mid args below meth c H locs cz.1 cz.2 Z (F0 mid pc ls (st.map (ab_tr G)))
