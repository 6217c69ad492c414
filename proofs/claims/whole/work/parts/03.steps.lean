section AB
variable {M : ab_M} {d : Nat} {Q : ab_Qt} {pc : Nat} {L : List (Option Value)} {st : List Value} {cz : Nat × Nat} {σ : ab_S} {E : ab_E}
def ab_c1 (L : List (Option Value)) (i : Nat) : List (Option Value) := match i with
  | 0 => L
  | j + 1 => match L[j]? with
    | some (some (.long _)) => L.set j none
    | some (some (.double _)) => L.set j none
    | _ => L
def ab_s1 (L : List (Option Value)) (i : Nat) (v : Value) : List (Option Value) := (ab_c1 L i).set i (some v)
def ab_s2 (L : List (Option Value)) (i : Nat) (v : Value) : List (Option Value) := ((ab_c1 L i).set i (some v)).set (i + 1) none
theorem ab_c1_get {L : List (Option Value)} {i k : Nat} {w : Value} (h : (ab_c1 L i)[k]? = some (some w)) : L[k]? = some (some w) ∧ (k + 1 = i → w.category = 1) := by
  unfold ab_c1 at h
  cases i with
  | zero => exact ⟨h, fun q => by omega⟩
  | succ j =>
    dsimp only at h
    split at h
    · rw [List.getElem?_set] at h
      by_cases q : j = k
      · subst q
        simp at h
      · rw [if_neg q] at h
        exact ⟨h, fun z => by omega⟩
    · rw [List.getElem?_set] at h
      by_cases q : j = k
      · subst q
        simp at h
      · rw [if_neg q] at h
        exact ⟨h, fun z => by omega⟩
    · rename_i h1 h2
      refine ⟨h, fun z => ?_⟩
      have e : j = k := by omega
      subst e
      cases w with
      | long x => exact absurd h (h1 x)
      | double x => exact absurd h (h2 x)
      | _ => rfl
def ab_lv (G : ab_G) (L : List (Option Value)) : List (Nat × Value) := L.zipIdx.filterMap (fun q => q.1.map (fun v => (q.2, ab_tr G v)))
theorem ab_lv_mem {G : ab_G} {L : List (Option Value)} {q : Nat × Value} : q ∈ ab_lv G L ↔ ∃ v, L[q.1]? = some (some v) ∧ q.2 = ab_tr G v := by
  unfold ab_lv
  rw [List.mem_filterMap]
  constructor
  · rintro ⟨⟨o, i⟩, h1, h2⟩
    rw [List.mem_zipIdx_iff_getElem?] at h1
    cases o with
    | none => cases h2
    | some v => cases h2; exact ⟨v, h1, rfl⟩
  · rintro ⟨v, h1, h2⟩
    obtain ⟨a, b⟩ := q
    refine ⟨(some v, a), ?_, ?_⟩
    · rw [List.mem_zipIdx_iff_getElem?]; exact h1
    · simp at h2 ⊢; exact h2.symm
theorem ab_ls_has {G : ab_G} {L : List (Option Value)} {ls : Array Slot} {n : Nat} (h : ab_ls G L ls n) : lv_has ls n (ab_lv G L) := by
  refine ⟨h.1, h.2.1, fun q hq => ?_⟩
  obtain ⟨v, h1, h2⟩ := ab_lv_mem.mp hq
  rw [h2]
  exact h.2.2 _ _ h1
theorem ab_cat (G : ab_G) (v : Value) : (ab_tr G v).category = v.category := by cases v <;> rfl
theorem ab_ls1 {G : ab_G} {L : List (Option Value)} {ls : Array Slot} {n i : Nat} {v : Value} (h : lv_has ls n ((i, ab_tr G v) :: (ab_lv G L).filter (fun q => !(q.1 == i) && !(q.1 + 1 == i && q.2.category == 2)))) : ab_ls G (ab_s1 L i v) ls n := by
  refine ⟨h.1, h.2.1, fun k w hk => ?_⟩
  unfold ab_s1 at hk
  rw [List.getElem?_set] at hk
  by_cases q : i = k
  · subst q
    rw [if_pos rfl] at hk
    split at hk
    · cases hk
      exact h.2.2 _ List.mem_cons_self
    · cases hk
  · rw [if_neg q] at hk
    obtain ⟨h1, h2⟩ := ab_c1_get hk
    refine h.2.2 (k, ab_tr G w) (List.mem_cons_of_mem _ (List.mem_filter.mpr ⟨ab_lv_mem.mpr ⟨w, h1, rfl⟩, ?_⟩))
    have e1 : (k == i) = false := by simpa using fun z => q z.symm
    rw [e1]
    by_cases z : k + 1 = i
    · have := h2 z
      rw [ab_cat]
      simp [this]
    · simp [z]
theorem ab_ls2 {G : ab_G} {L : List (Option Value)} {ls : Array Slot} {n i : Nat} {v : Value} (h : lv_has ls n ((i, ab_tr G v) :: (ab_lv G L).filter (fun q => !(q.1 == i) && (!(q.1 == i + 1) && !(q.1 + 1 == i && q.2.category == 2))))) : ab_ls G (ab_s2 L i v) ls n := by
  refine ⟨h.1, h.2.1, fun k w hk => ?_⟩
  unfold ab_s2 at hk
  rw [List.getElem?_set] at hk
  by_cases q2 : i + 1 = k
  · rw [if_pos q2] at hk
    split at hk <;> cases hk
  · rw [if_neg q2, List.getElem?_set] at hk
    by_cases q : i = k
    · subst q
      rw [if_pos rfl] at hk
      split at hk
      · cases hk
        exact h.2.2 _ List.mem_cons_self
      · cases hk
    · rw [if_neg q] at hk
      obtain ⟨h1, h2⟩ := ab_c1_get hk
      refine h.2.2 (k, ab_tr G w) (List.mem_cons_of_mem _ (List.mem_filter.mpr ⟨ab_lv_mem.mpr ⟨w, h1, rfl⟩, ?_⟩))
      have e1 : (k == i) = false := by simpa using fun z => q z.symm
      have e2 : (k == i + 1) = false := by simpa using fun z => q2 z.symm
      rw [e1, e2]
      by_cases z : k + 1 = i
      · have := h2 z
        rw [ab_cat]
        simp [this]
      · simp [z]
theorem ab_iconst {n : Int} {v : Int32} (hd : decode M.2.1 pc = .ok (.iconst n, 1)) (hv : Int32.ofInt n = v) (h : ab_Fr M d Q (pc + 1) L (.int v :: st) cz σ E) : ab_Fr M d Q pc L st cz σ E := by
  intro p l e s mid args below meth c G H locs ls Z C hH hS hL hR
  exact lv_iconst C.1 C.2.1 hd hv (h p l e s mid args below meth c G H locs ls Z C hH hS hL hR)
theorem ab_bipush {n : Int} {v : Int32} (hd : decode M.2.1 pc = .ok (.bipush n, 2)) (hv : (Int8.ofInt n).toInt32 = v) (h : ab_Fr M d Q (pc + 2) L (.int v :: st) cz σ E) : ab_Fr M d Q pc L st cz σ E := by
  intro p l e s mid args below meth c G H locs ls Z C hH hS hL hR
  exact lv_bipush C.1 C.2.1 hd hv (h p l e s mid args below meth c G H locs ls Z C hH hS hL hR)
theorem ab_sipush {n : Int} {v : Int32} (hd : decode M.2.1 pc = .ok (.sipush n, 3)) (hv : (Int16.ofInt n).toInt32 = v) (h : ab_Fr M d Q (pc + 3) L (.int v :: st) cz σ E) : ab_Fr M d Q pc L st cz σ E := by
  intro p l e s mid args below meth c G H locs ls Z C hH hS hL hR
  exact lv_sipush C.1 C.2.1 hd hv (h p l e s mid args below meth c G H locs ls Z C hH hS hL hR)
theorem ab_lconst {n : Fin 2} {v : Int64} (hd : decode M.2.1 pc = .ok (.lconst n, 1)) (hv : Int64.ofNat (n : Nat) = v) (h : ab_Fr M d Q (pc + 1) L (.long v :: st) cz σ E) : ab_Fr M d Q pc L st cz σ E := by
  intro p l e s mid args below meth c G H locs ls Z C hH hS hL hR
  exact lv_lconst C.1 C.2.1 hd hv (h p l e s mid args below meth c G H locs ls Z C hH hS hL hR)
theorem ab_ldc {i : Nat} {v : Int32} (hd : decode M.2.1 pc = .ok (.ldc i, 2)) (hc : Cond.constant M.1.cls i v ∈ ab_tbl) (h : ab_Fr M d Q (pc + 2) L (.int v :: st) cz σ E) : ab_Fr M d Q pc L st cz σ E := by
  intro p l e s mid args below meth c G H locs ls Z C hH hS hL hR
  exact lv_ldc C.1 C.2.1 C.2.2.2.1 (C.2.2.2.2.1 _ hc) hd (h p l e s mid args below meth c G H locs ls Z C hH hS hL hR)
theorem ab_ldcw {i : Nat} {v : Int32} (hd : decode M.2.1 pc = .ok (.ldc_w i, 3)) (hc : Cond.constant M.1.cls i v ∈ ab_tbl) (h : ab_Fr M d Q (pc + 3) L (.int v :: st) cz σ E) : ab_Fr M d Q pc L st cz σ E := by
  intro p l e s mid args below meth c G H locs ls Z C hH hS hL hR
  exact lv_ldcw C.1 C.2.1 C.2.2.2.1 (C.2.2.2.2.1 _ hc) hd (h p l e s mid args below meth c G H locs ls Z C hH hS hL hR)
theorem ab_ldc2 {i : Nat} {v : Int64} (hd : decode M.2.1 pc = .ok (.ldc2_w i, 3)) (hc : Cond.constantLong M.1.cls i v ∈ ab_tbl) (h : ab_Fr M d Q (pc + 3) L (.long v :: st) cz σ E) : ab_Fr M d Q pc L st cz σ E := by
  intro p l e s mid args below meth c G H locs ls Z C hH hS hL hR
  exact lv_ldc2 C.1 C.2.1 C.2.2.2.1 (C.2.2.2.2.1 _ hc) hd (h p l e s mid args below meth c G H locs ls Z C hH hS hL hR)
theorem ab_iloadn {k : Fin 4} {x : Int32} (hd : decode M.2.1 pc = .ok (.iload_n k, 1)) (hl : L[(k : Nat)]? = some (some (.int x))) (h : ab_Fr M d Q (pc + 1) L (.int x :: st) cz σ E) : ab_Fr M d Q pc L st cz σ E := by
  intro p l e s mid args below meth c G H locs ls Z C hH hS hL hR
  exact lv_iload_n C.1 C.2.1 hd rfl (hL.2.2 _ _ hl) (h p l e s mid args below meth c G H locs ls Z C hH hS hL hR)
theorem ab_iload {k : Nat} {x : Int32} (hd : decode M.2.1 pc = .ok (.iload k, 2)) (hl : L[k]? = some (some (.int x))) (h : ab_Fr M d Q (pc + 2) L (.int x :: st) cz σ E) : ab_Fr M d Q pc L st cz σ E := by
  intro p l e s mid args below meth c G H locs ls Z C hH hS hL hR
  exact lv_iload C.1 C.2.1 hd (hL.2.2 _ _ hl) (h p l e s mid args below meth c G H locs ls Z C hH hS hL hR)
theorem ab_istoren {k : Fin 4} {x : Int32} {L2 : List (Option Value)} (hd : decode M.2.1 pc = .ok (.istore_n k, 1)) (hn : (k : Nat) < M.2.2.1) (hl : ab_s1 L (k : Nat) (.int x) = L2) (h : ab_Fr M d Q (pc + 1) L2 st cz σ E) : ab_Fr M d Q pc L (.int x :: st) cz σ E := by
  intro p l e s mid args below meth c G H locs ls Z C hH hS hL hR
  subst hl
  exact lv_istore_n C.1 C.2.1 hd rfl (ab_ls_has hL) hn rfl (fun ls2 h2 => h p l e s mid args below meth c G H locs ls2 Z C hH hS (ab_ls1 (v := .int x) h2) hR)
theorem ab_istore {k : Nat} {x : Int32} {L2 : List (Option Value)} (hd : decode M.2.1 pc = .ok (.istore k, 2)) (hn : (k : Nat) < M.2.2.1) (hl : ab_s1 L k (.int x) = L2) (h : ab_Fr M d Q (pc + 2) L2 st cz σ E) : ab_Fr M d Q pc L (.int x :: st) cz σ E := by
  intro p l e s mid args below meth c G H locs ls Z C hH hS hL hR
  subst hl
  exact lv_istore C.1 C.2.1 hd (ab_ls_has hL) hn rfl (fun ls2 h2 => h p l e s mid args below meth c G H locs ls2 Z C hH hS (ab_ls1 (v := .int x) h2) hR)
theorem ab_lloadn {k : Fin 4} {x : Int64} (hd : decode M.2.1 pc = .ok (.lload_n k, 1)) (hl : L[(k : Nat)]? = some (some (.long x))) (h : ab_Fr M d Q (pc + 1) L (.long x :: st) cz σ E) : ab_Fr M d Q pc L st cz σ E := by
  intro p l e s mid args below meth c G H locs ls Z C hH hS hL hR
  exact lv_lload_n C.1 C.2.1 hd rfl (hL.2.2 _ _ hl) (h p l e s mid args below meth c G H locs ls Z C hH hS hL hR)
theorem ab_lload {k : Nat} {x : Int64} (hd : decode M.2.1 pc = .ok (.lload k, 2)) (hl : L[k]? = some (some (.long x))) (h : ab_Fr M d Q (pc + 2) L (.long x :: st) cz σ E) : ab_Fr M d Q pc L st cz σ E := by
  intro p l e s mid args below meth c G H locs ls Z C hH hS hL hR
  exact lv_lload C.1 C.2.1 hd (hL.2.2 _ _ hl) (h p l e s mid args below meth c G H locs ls Z C hH hS hL hR)
theorem ab_lstoren {k : Fin 4} {x : Int64} {L2 : List (Option Value)} (hd : decode M.2.1 pc = .ok (.lstore_n k, 1)) (hn : (k : Nat) + 1 < M.2.2.1) (hl : ab_s2 L (k : Nat) (.long x) = L2) (h : ab_Fr M d Q (pc + 1) L2 st cz σ E) : ab_Fr M d Q pc L (.long x :: st) cz σ E := by
  intro p l e s mid args below meth c G H locs ls Z C hH hS hL hR
  subst hl
  exact lv_lstore_n C.1 C.2.1 hd rfl (ab_ls_has hL) hn rfl (fun ls2 h2 => h p l e s mid args below meth c G H locs ls2 Z C hH hS (ab_ls2 (v := .long x) h2) hR)
theorem ab_lstore {k : Nat} {x : Int64} {L2 : List (Option Value)} (hd : decode M.2.1 pc = .ok (.lstore k, 2)) (hn : (k : Nat) + 1 < M.2.2.1) (hl : ab_s2 L k (.long x) = L2) (h : ab_Fr M d Q (pc + 2) L2 st cz σ E) : ab_Fr M d Q pc L (.long x :: st) cz σ E := by
  intro p l e s mid args below meth c G H locs ls Z C hH hS hL hR
  subst hl
  exact lv_lstore C.1 C.2.1 hd (ab_ls_has hL) hn rfl (fun ls2 h2 => h p l e s mid args below meth c G H locs ls2 Z C hH hS (ab_ls2 (v := .long x) h2) hR)
theorem ab_aloadn {k : Fin 4} {x : Nat} (hd : decode M.2.1 pc = .ok (.aload_n k, 1)) (hl : L[(k : Nat)]? = some (some (.ref x))) (h : ab_Fr M d Q (pc + 1) L (.ref x :: st) cz σ E) : ab_Fr M d Q pc L st cz σ E := by
  intro p l e s mid args below meth c G H locs ls Z C hH hS hL hR
  exact lv_aload_n C.1 C.2.1 hd rfl (hL.2.2 _ _ hl) (h p l e s mid args below meth c G H locs ls Z C hH hS hL hR)
theorem ab_aload {k : Nat} {x : Nat} (hd : decode M.2.1 pc = .ok (.aload k, 2)) (hl : L[k]? = some (some (.ref x))) (h : ab_Fr M d Q (pc + 2) L (.ref x :: st) cz σ E) : ab_Fr M d Q pc L st cz σ E := by
  intro p l e s mid args below meth c G H locs ls Z C hH hS hL hR
  exact lv_aload C.1 C.2.1 hd (hL.2.2 _ _ hl) (h p l e s mid args below meth c G H locs ls Z C hH hS hL hR)
theorem ab_astoren {k : Fin 4} {x : Nat} {L2 : List (Option Value)} (hd : decode M.2.1 pc = .ok (.astore_n k, 1)) (hn : (k : Nat) < M.2.2.1) (hl : ab_s1 L (k : Nat) (.ref x) = L2) (h : ab_Fr M d Q (pc + 1) L2 st cz σ E) : ab_Fr M d Q pc L (.ref x :: st) cz σ E := by
  intro p l e s mid args below meth c G H locs ls Z C hH hS hL hR
  subst hl
  exact lv_astore_n C.1 C.2.1 hd rfl (ab_ls_has hL) hn rfl (fun ls2 h2 => h p l e s mid args below meth c G H locs ls2 Z C hH hS (ab_ls1 (v := .ref x) h2) hR)
theorem ab_astore {k : Nat} {x : Nat} {L2 : List (Option Value)} (hd : decode M.2.1 pc = .ok (.astore k, 2)) (hn : (k : Nat) < M.2.2.1) (hl : ab_s1 L k (.ref x) = L2) (h : ab_Fr M d Q (pc + 2) L2 st cz σ E) : ab_Fr M d Q pc L (.ref x :: st) cz σ E := by
  intro p l e s mid args below meth c G H locs ls Z C hH hS hL hR
  subst hl
  exact lv_astore C.1 C.2.1 hd (ab_ls_has hL) hn rfl (fun ls2 h2 => h p l e s mid args below meth c G H locs ls2 Z C hH hS (ab_ls1 (v := .ref x) h2) hR)
theorem ab_iinc {k : Nat} {n : Int} {x v : Int32} {L2 : List (Option Value)} (hd : decode M.2.1 pc = .ok (.iinc k n, 3)) (hx : L[k]? = some (some (.int x))) (hv : x + Int32.ofInt n = v) (hn : k < M.2.2.1) (hl : ab_s1 L k (.int v) = L2) (h : ab_Fr M d Q (pc + 3) L2 st cz σ E) : ab_Fr M d Q pc L st cz σ E := by
  intro p l e s mid args below meth c G H locs ls Z C hH hS hL hR
  subst hl
  obtain ⟨i, hi⟩ := List.getElem?_of_mem ((ab_lv_mem (G := G) (L := L) (q := (k, .int x))).mpr ⟨.int x, hx, rfl⟩)
  exact lv_iinc C.1 C.2.1 hd (ab_ls_has hL) hi hv hn rfl (fun ls2 h2 => h p l e s mid args below meth c G H locs ls2 Z C hH hS (ab_ls1 (v := .int v) h2) hR)
theorem ab_iadd {x y : Int32} (hd : decode M.2.1 pc = .ok (.iadd, 1)) (h : ab_Fr M d Q (pc + 1) L (.int (x + y) :: st) cz σ E) : ab_Fr M d Q pc L (.int y :: .int x :: st) cz σ E := by
  intro p l e s mid args below meth c G H locs ls Z C hH hS hL hR
  exact lv_iadd C.1 C.2.1 hd (h p l e s mid args below meth c G H locs ls Z C hH hS hL hR)
theorem ab_isub {x y : Int32} (hd : decode M.2.1 pc = .ok (.isub, 1)) (h : ab_Fr M d Q (pc + 1) L (.int (x - y) :: st) cz σ E) : ab_Fr M d Q pc L (.int y :: .int x :: st) cz σ E := by
  intro p l e s mid args below meth c G H locs ls Z C hH hS hL hR
  exact lv_isub C.1 C.2.1 hd (h p l e s mid args below meth c G H locs ls Z C hH hS hL hR)
theorem ab_imul {x y : Int32} (hd : decode M.2.1 pc = .ok (.imul, 1)) (h : ab_Fr M d Q (pc + 1) L (.int (x * y) :: st) cz σ E) : ab_Fr M d Q pc L (.int y :: .int x :: st) cz σ E := by
  intro p l e s mid args below meth c G H locs ls Z C hH hS hL hR
  exact lv_imul C.1 C.2.1 hd (h p l e s mid args below meth c G H locs ls Z C hH hS hL hR)
theorem ab_iand {x y : Int32} (hd : decode M.2.1 pc = .ok (.iand, 1)) (h : ab_Fr M d Q (pc + 1) L (.int (x &&& y) :: st) cz σ E) : ab_Fr M d Q pc L (.int y :: .int x :: st) cz σ E := by
  intro p l e s mid args below meth c G H locs ls Z C hH hS hL hR
  exact lv_iand C.1 C.2.1 hd (h p l e s mid args below meth c G H locs ls Z C hH hS hL hR)
theorem ab_ior {x y : Int32} (hd : decode M.2.1 pc = .ok (.ior, 1)) (h : ab_Fr M d Q (pc + 1) L (.int (x ||| y) :: st) cz σ E) : ab_Fr M d Q pc L (.int y :: .int x :: st) cz σ E := by
  intro p l e s mid args below meth c G H locs ls Z C hH hS hL hR
  exact lv_ior C.1 C.2.1 hd (h p l e s mid args below meth c G H locs ls Z C hH hS hL hR)
theorem ab_ishl {x y : Int32} (hd : decode M.2.1 pc = .ok (.ishl, 1)) (h : ab_Fr M d Q (pc + 1) L (.int (x <<< (y &&& 31)) :: st) cz σ E) : ab_Fr M d Q pc L (.int y :: .int x :: st) cz σ E := by
  intro p l e s mid args below meth c G H locs ls Z C hH hS hL hR
  exact lv_ishl C.1 C.2.1 hd (h p l e s mid args below meth c G H locs ls Z C hH hS hL hR)
theorem ab_ishr {x y : Int32} (hd : decode M.2.1 pc = .ok (.ishr, 1)) (h : ab_Fr M d Q (pc + 1) L (.int (x >>> (y &&& 31)) :: st) cz σ E) : ab_Fr M d Q pc L (.int y :: .int x :: st) cz σ E := by
  intro p l e s mid args below meth c G H locs ls Z C hH hS hL hR
  exact lv_ishr C.1 C.2.1 hd (h p l e s mid args below meth c G H locs ls Z C hH hS hL hR)
theorem ab_idiv {x y : Int32} (hd : decode M.2.1 pc = .ok (.idiv, 1)) (hne : ¬ y = 0) (h : ab_Fr M d Q (pc + 1) L (.int (x / y) :: st) cz σ E) : ab_Fr M d Q pc L (.int y :: .int x :: st) cz σ E := by
  intro p l e s mid args below meth c G H locs ls Z C hH hS hL hR
  exact lv_idiv C.1 C.2.1 hd hne (h p l e s mid args below meth c G H locs ls Z C hH hS hL hR)
theorem ab_irem {x y : Int32} (hd : decode M.2.1 pc = .ok (.irem, 1)) (hne : ¬ y = 0) (h : ab_Fr M d Q (pc + 1) L (.int (x - x / y * y) :: st) cz σ E) : ab_Fr M d Q pc L (.int y :: .int x :: st) cz σ E := by
  intro p l e s mid args below meth c G H locs ls Z C hH hS hL hR
  exact lv_irem C.1 C.2.1 hd hne (h p l e s mid args below meth c G H locs ls Z C hH hS hL hR)
theorem ab_iushr {x y v : Int32} (hd : decode M.2.1 pc = .ok (.iushr, 1)) (hv : (x.toUInt32 >>> (y.toUInt32 &&& Int32.toUInt32 31)).toInt32 = v) (h : ab_Fr M d Q (pc + 1) L (.int v :: st) cz σ E) : ab_Fr M d Q pc L (.int y :: .int x :: st) cz σ E := by
  intro p l e s mid args below meth c G H locs ls Z C hH hS hL hR
  exact lv_iushr C.1 C.2.1 hd hv (h p l e s mid args below meth c G H locs ls Z C hH hS hL hR)
theorem ab_ladd {x y : Int64} (hd : decode M.2.1 pc = .ok (.ladd, 1)) (h : ab_Fr M d Q (pc + 1) L (.long (x + y) :: st) cz σ E) : ab_Fr M d Q pc L (.long y :: .long x :: st) cz σ E := by
  intro p l e s mid args below meth c G H locs ls Z C hH hS hL hR
  exact lv_ladd C.1 C.2.1 hd (h p l e s mid args below meth c G H locs ls Z C hH hS hL hR)
theorem ab_lsub {x y : Int64} (hd : decode M.2.1 pc = .ok (.lsub, 1)) (h : ab_Fr M d Q (pc + 1) L (.long (x - y) :: st) cz σ E) : ab_Fr M d Q pc L (.long y :: .long x :: st) cz σ E := by
  intro p l e s mid args below meth c G H locs ls Z C hH hS hL hR
  exact lv_lsub C.1 C.2.1 hd (h p l e s mid args below meth c G H locs ls Z C hH hS hL hR)
theorem ab_lmul {x y : Int64} (hd : decode M.2.1 pc = .ok (.lmul, 1)) (h : ab_Fr M d Q (pc + 1) L (.long (x * y) :: st) cz σ E) : ab_Fr M d Q pc L (.long y :: .long x :: st) cz σ E := by
  intro p l e s mid args below meth c G H locs ls Z C hH hS hL hR
  exact lv_lmul C.1 C.2.1 hd (h p l e s mid args below meth c G H locs ls Z C hH hS hL hR)
theorem ab_lor {x y : Int64} (hd : decode M.2.1 pc = .ok (.lor, 1)) (h : ab_Fr M d Q (pc + 1) L (.long (x ||| y) :: st) cz σ E) : ab_Fr M d Q pc L (.long y :: .long x :: st) cz σ E := by
  intro p l e s mid args below meth c G H locs ls Z C hH hS hL hR
  exact lv_lor C.1 C.2.1 hd (h p l e s mid args below meth c G H locs ls Z C hH hS hL hR)
theorem ab_ldiv {x y : Int64} (hd : decode M.2.1 pc = .ok (.ldiv, 1)) (hne : ¬ y = 0) (h : ab_Fr M d Q (pc + 1) L (.long (x / y) :: st) cz σ E) : ab_Fr M d Q pc L (.long y :: .long x :: st) cz σ E := by
  intro p l e s mid args below meth c G H locs ls Z C hH hS hL hR
  exact lv_ldiv C.1 C.2.1 hd hne (h p l e s mid args below meth c G H locs ls Z C hH hS hL hR)
theorem ab_lshl {x v : Int64} {y : Int32} (hd : decode M.2.1 pc = .ok (.lshl, 1)) (hv : x <<< (y.toInt64 &&& 63) = v) (h : ab_Fr M d Q (pc + 1) L (.long v :: st) cz σ E) : ab_Fr M d Q pc L (.int y :: .long x :: st) cz σ E := by
  intro p l e s mid args below meth c G H locs ls Z C hH hS hL hR
  exact lv_lshl C.1 C.2.1 hd hv (h p l e s mid args below meth c G H locs ls Z C hH hS hL hR)
theorem ab_i2l {x : Int32} {v : Int64} (hd : decode M.2.1 pc = .ok (.i2l, 1)) (hv : x.toInt64 = v) (h : ab_Fr M d Q (pc + 1) L (.long v :: st) cz σ E) : ab_Fr M d Q pc L (.int x :: st) cz σ E := by
  intro p l e s mid args below meth c G H locs ls Z C hH hS hL hR
  exact lv_i2l C.1 C.2.1 hd hv (h p l e s mid args below meth c G H locs ls Z C hH hS hL hR)
theorem ab_lcmp {x y : Int64} (hd : decode M.2.1 pc = .ok (.lcmp, 1)) (h : ab_Fr M d Q (pc + 1) L (.int (lg_cmp x y) :: st) cz σ E) : ab_Fr M d Q pc L (.long y :: .long x :: st) cz σ E := by
  intro p l e s mid args below meth c G H locs ls Z C hH hS hL hR
  exact W.lcmp C.1 C.2.1 hd (h p l e s mid args below meth c G H locs ls Z C hH hS hL hR)
theorem ab_dup {v : Value} (hd : decode M.2.1 pc = .ok (.dup, 1)) (hv : v.category = 1) (h : ab_Fr M d Q (pc + 1) L (v :: v :: st) cz σ E) : ab_Fr M d Q pc L (v :: st) cz σ E := by
  intro p l e s mid args below meth c G H locs ls Z C hH hS hL hR
  exact lv_dup C.1 C.2.1 hd ((ab_cat G v).trans hv) (h p l e s mid args below meth c G H locs ls Z C hH hS hL hR)
theorem ab_pop {v : Value} (hd : decode M.2.1 pc = .ok (.pop, 1)) (hv : v.category = 1) (h : ab_Fr M d Q (pc + 1) L st cz σ E) : ab_Fr M d Q pc L (v :: st) cz σ E := by
  intro p l e s mid args below meth c G H locs ls Z C hH hS hL hR
  exact lv_pop C.1 C.2.1 hd ((ab_cat G v).trans hv) (h p l e s mid args below meth c G H locs ls Z C hH hS hL hR)
theorem ab_dup2 {v w : Value} (hd : decode M.2.1 pc = .ok (.dup2, 1)) (hv : v.category = 1) (hw : w.category = 1) (h : ab_Fr M d Q (pc + 1) L (v :: w :: v :: w :: st) cz σ E) : ab_Fr M d Q pc L (v :: w :: st) cz σ E := by
  intro p l e s mid args below meth c G H locs ls Z C hH hS hL hR
  exact lv_dup2_11 C.1 C.2.1 hd ((ab_cat G v).trans hv) ((ab_cat G w).trans hw) (h p l e s mid args below meth c G H locs ls Z C hH hS hL hR)
theorem ab_if_eq {x : Int32} {off : Int} {tgt : Nat} (hd : decode M.2.1 pc = .ok (.ifCond .eq off, 3)) (ht : (pc : Int) + off = (tgt : Int)) (kt : x = 0 → ab_Fr M d Q tgt L st cz σ E) (kf : ¬ x = 0 → ab_Fr M d Q (pc + 3) L st cz σ E) : ab_Fr M d Q pc L (.int x :: st) cz σ E := by
  intro p l e s mid args below meth c G H locs ls Z C hH hS hL hR
  exact lv_if_eq C.1 C.2.1 hd ht (fun z => kt z p l e s mid args below meth c G H locs ls Z C hH hS hL hR) (fun z => kf z p l e s mid args below meth c G H locs ls Z C hH hS hL hR)
theorem ab_icmp_eq {x y : Int32} {off : Int} {tgt : Nat} (hd : decode M.2.1 pc = .ok (.if_icmp .eq off, 3)) (ht : (pc : Int) + off = (tgt : Int)) (kt : x = y → ab_Fr M d Q tgt L st cz σ E) (kf : ¬ x = y → ab_Fr M d Q (pc + 3) L st cz σ E) : ab_Fr M d Q pc L (.int y :: .int x :: st) cz σ E := by
  intro p l e s mid args below meth c G H locs ls Z C hH hS hL hR
  exact lv_icmp_eq C.1 C.2.1 hd ht (fun z => kt z p l e s mid args below meth c G H locs ls Z C hH hS hL hR) (fun z => kf z p l e s mid args below meth c G H locs ls Z C hH hS hL hR)
theorem ab_if_ne {x : Int32} {off : Int} {tgt : Nat} (hd : decode M.2.1 pc = .ok (.ifCond .ne off, 3)) (ht : (pc : Int) + off = (tgt : Int)) (kt : ¬ x = 0 → ab_Fr M d Q tgt L st cz σ E) (kf : x = 0 → ab_Fr M d Q (pc + 3) L st cz σ E) : ab_Fr M d Q pc L (.int x :: st) cz σ E := by
  intro p l e s mid args below meth c G H locs ls Z C hH hS hL hR
  exact lv_if_ne C.1 C.2.1 hd ht (fun z => kt z p l e s mid args below meth c G H locs ls Z C hH hS hL hR) (fun z => kf z p l e s mid args below meth c G H locs ls Z C hH hS hL hR)
theorem ab_icmp_ne {x y : Int32} {off : Int} {tgt : Nat} (hd : decode M.2.1 pc = .ok (.if_icmp .ne off, 3)) (ht : (pc : Int) + off = (tgt : Int)) (kt : ¬ x = y → ab_Fr M d Q tgt L st cz σ E) (kf : x = y → ab_Fr M d Q (pc + 3) L st cz σ E) : ab_Fr M d Q pc L (.int y :: .int x :: st) cz σ E := by
  intro p l e s mid args below meth c G H locs ls Z C hH hS hL hR
  exact lv_icmp_ne C.1 C.2.1 hd ht (fun z => kt z p l e s mid args below meth c G H locs ls Z C hH hS hL hR) (fun z => kf z p l e s mid args below meth c G H locs ls Z C hH hS hL hR)
theorem ab_if_lt {x : Int32} {off : Int} {tgt : Nat} (hd : decode M.2.1 pc = .ok (.ifCond .lt off, 3)) (ht : (pc : Int) + off = (tgt : Int)) (kt : x < 0 → ab_Fr M d Q tgt L st cz σ E) (kf : ¬ x < 0 → ab_Fr M d Q (pc + 3) L st cz σ E) : ab_Fr M d Q pc L (.int x :: st) cz σ E := by
  intro p l e s mid args below meth c G H locs ls Z C hH hS hL hR
  exact lv_if_lt C.1 C.2.1 hd ht (fun z => kt z p l e s mid args below meth c G H locs ls Z C hH hS hL hR) (fun z => kf z p l e s mid args below meth c G H locs ls Z C hH hS hL hR)
theorem ab_icmp_lt {x y : Int32} {off : Int} {tgt : Nat} (hd : decode M.2.1 pc = .ok (.if_icmp .lt off, 3)) (ht : (pc : Int) + off = (tgt : Int)) (kt : x < y → ab_Fr M d Q tgt L st cz σ E) (kf : ¬ x < y → ab_Fr M d Q (pc + 3) L st cz σ E) : ab_Fr M d Q pc L (.int y :: .int x :: st) cz σ E := by
  intro p l e s mid args below meth c G H locs ls Z C hH hS hL hR
  exact lv_icmp_lt C.1 C.2.1 hd ht (fun z => kt z p l e s mid args below meth c G H locs ls Z C hH hS hL hR) (fun z => kf z p l e s mid args below meth c G H locs ls Z C hH hS hL hR)
theorem ab_if_ge {x : Int32} {off : Int} {tgt : Nat} (hd : decode M.2.1 pc = .ok (.ifCond .ge off, 3)) (ht : (pc : Int) + off = (tgt : Int)) (kt : 0 ≤ x → ab_Fr M d Q tgt L st cz σ E) (kf : ¬ 0 ≤ x → ab_Fr M d Q (pc + 3) L st cz σ E) : ab_Fr M d Q pc L (.int x :: st) cz σ E := by
  intro p l e s mid args below meth c G H locs ls Z C hH hS hL hR
  exact lv_if_ge C.1 C.2.1 hd ht (fun z => kt z p l e s mid args below meth c G H locs ls Z C hH hS hL hR) (fun z => kf z p l e s mid args below meth c G H locs ls Z C hH hS hL hR)
theorem ab_icmp_ge {x y : Int32} {off : Int} {tgt : Nat} (hd : decode M.2.1 pc = .ok (.if_icmp .ge off, 3)) (ht : (pc : Int) + off = (tgt : Int)) (kt : y ≤ x → ab_Fr M d Q tgt L st cz σ E) (kf : ¬ y ≤ x → ab_Fr M d Q (pc + 3) L st cz σ E) : ab_Fr M d Q pc L (.int y :: .int x :: st) cz σ E := by
  intro p l e s mid args below meth c G H locs ls Z C hH hS hL hR
  exact lv_icmp_ge C.1 C.2.1 hd ht (fun z => kt z p l e s mid args below meth c G H locs ls Z C hH hS hL hR) (fun z => kf z p l e s mid args below meth c G H locs ls Z C hH hS hL hR)
theorem ab_if_gt {x : Int32} {off : Int} {tgt : Nat} (hd : decode M.2.1 pc = .ok (.ifCond .gt off, 3)) (ht : (pc : Int) + off = (tgt : Int)) (kt : 0 < x → ab_Fr M d Q tgt L st cz σ E) (kf : ¬ 0 < x → ab_Fr M d Q (pc + 3) L st cz σ E) : ab_Fr M d Q pc L (.int x :: st) cz σ E := by
  intro p l e s mid args below meth c G H locs ls Z C hH hS hL hR
  exact lv_if_gt C.1 C.2.1 hd ht (fun z => kt z p l e s mid args below meth c G H locs ls Z C hH hS hL hR) (fun z => kf z p l e s mid args below meth c G H locs ls Z C hH hS hL hR)
theorem ab_icmp_gt {x y : Int32} {off : Int} {tgt : Nat} (hd : decode M.2.1 pc = .ok (.if_icmp .gt off, 3)) (ht : (pc : Int) + off = (tgt : Int)) (kt : y < x → ab_Fr M d Q tgt L st cz σ E) (kf : ¬ y < x → ab_Fr M d Q (pc + 3) L st cz σ E) : ab_Fr M d Q pc L (.int y :: .int x :: st) cz σ E := by
  intro p l e s mid args below meth c G H locs ls Z C hH hS hL hR
  exact lv_icmp_gt C.1 C.2.1 hd ht (fun z => kt z p l e s mid args below meth c G H locs ls Z C hH hS hL hR) (fun z => kf z p l e s mid args below meth c G H locs ls Z C hH hS hL hR)
theorem ab_if_le {x : Int32} {off : Int} {tgt : Nat} (hd : decode M.2.1 pc = .ok (.ifCond .le off, 3)) (ht : (pc : Int) + off = (tgt : Int)) (kt : x ≤ 0 → ab_Fr M d Q tgt L st cz σ E) (kf : ¬ x ≤ 0 → ab_Fr M d Q (pc + 3) L st cz σ E) : ab_Fr M d Q pc L (.int x :: st) cz σ E := by
  intro p l e s mid args below meth c G H locs ls Z C hH hS hL hR
  exact lv_if_le C.1 C.2.1 hd ht (fun z => kt z p l e s mid args below meth c G H locs ls Z C hH hS hL hR) (fun z => kf z p l e s mid args below meth c G H locs ls Z C hH hS hL hR)
theorem ab_icmp_le {x y : Int32} {off : Int} {tgt : Nat} (hd : decode M.2.1 pc = .ok (.if_icmp .le off, 3)) (ht : (pc : Int) + off = (tgt : Int)) (kt : x ≤ y → ab_Fr M d Q tgt L st cz σ E) (kf : ¬ x ≤ y → ab_Fr M d Q (pc + 3) L st cz σ E) : ab_Fr M d Q pc L (.int y :: .int x :: st) cz σ E := by
  intro p l e s mid args below meth c G H locs ls Z C hH hS hL hR
  exact lv_icmp_le C.1 C.2.1 hd ht (fun z => kt z p l e s mid args below meth c G H locs ls Z C hH hS hL hR) (fun z => kf z p l e s mid args below meth c G H locs ls Z C hH hS hL hR)
theorem ab_goto {off : Int} {tgt : Nat} (hd : decode M.2.1 pc = .ok (.goto off, 3)) (ht : (pc : Int) + off = (tgt : Int)) (h : ab_Fr M d Q tgt L st cz σ E) : ab_Fr M d Q pc L st cz σ E := by
  intro p l e s mid args below meth c G H locs ls Z C hH hS hL hR
  exact lv_goto C.1 C.2.1 hd ht (h p l e s mid args below meth c G H locs ls Z C hH hS hL hR)
theorem ab_tabIn {dflt lo hi : Int} {offs : Array Int} {len : Nat} {x : Int32} {off : Int} {tgt : Nat} (hd : decode M.2.1 pc = .ok (.tableswitch dflt lo hi offs, len)) (h1 : ¬ x.toInt < lo) (h2 : ¬ hi < x.toInt) (ho : offs[(x.toInt - lo).toNat]? = some off) (ht : (pc : Int) + off = (tgt : Int)) (h : ab_Fr M d Q tgt L st cz σ E) : ab_Fr M d Q pc L (.int x :: st) cz σ E := by
  intro p l e s mid args below meth c G H locs ls Z C hH hS hL hR
  exact lv_tableIn C.1 C.2.1 hd h1 h2 ho ht (h p l e s mid args below meth c G H locs ls Z C hH hS hL hR)
theorem ab_tabOut {dflt lo hi : Int} {offs : Array Int} {len : Nat} {x : Int32} {tgt : Nat} (hd : decode M.2.1 pc = .ok (.tableswitch dflt lo hi offs, len)) (h1 : x.toInt < lo ∨ hi < x.toInt) (ht : (pc : Int) + dflt = (tgt : Int)) (h : ab_Fr M d Q tgt L st cz σ E) : ab_Fr M d Q pc L (.int x :: st) cz σ E := by
  intro p l e s mid args below meth c G H locs ls Z C hH hS hL hR
  exact lv_tableOut C.1 C.2.1 hd h1 ht (h p l e s mid args below meth c G H locs ls Z C hH hS hL hR)
theorem ab_lookup {dflt : Int} {ps : Array (Int × Int)} {len : Nat} {x : Int32} {off : Int} {tgt : Nat} (hd : decode M.2.1 pc = .ok (.lookupswitch dflt ps, len)) (hp : (ps.toList.zip (ps.toList.drop 1)).all (fun (a, next) => a.1 < next.1) = true) (ho : Op.lookupswitch.offset ps.toList dflt x.toInt = off) (ht : (pc : Int) + off = (tgt : Int)) (h : ab_Fr M d Q tgt L st cz σ E) : ab_Fr M d Q pc L (.int x :: st) cz σ E := by
  intro p l e s mid args below meth c G H locs ls Z C hH hS hL hR
  exact lv_lookup C.1 C.2.1 hd hp ho ht (h p l e s mid args below meth c G H locs ls Z C hH hS hL hR)
theorem ab_acmpeq {x y : Nat} {off : Int} {tgt : Nat} (hd : decode M.2.1 pc = .ok (.if_acmp .eq off, 3)) (ht : (pc : Int) + off = (tgt : Int)) (hx : 3 ≤ x) (hy : 3 ≤ y) (kt : x = y → ab_Fr M d Q tgt L st cz σ E) (kf : ¬ x = y → ab_Fr M d Q (pc + 3) L st cz σ E) : ab_Fr M d Q pc L (.ref y :: .ref x :: st) cz σ E := by
  intro p l e s mid args below meth c G H locs ls Z C hH hS hL hR
  have ex : ab_al G x = G.1 + (x - 3) := by unfold ab_al; rw [if_neg (by omega)]
  have ey : ab_al G y = G.1 + (y - 3) := by unfold ab_al; rw [if_neg (by omega)]
  have hi : some (ab_al G x) = some (ab_al G y) ↔ x = y := ⟨fun z => by have z2 := Option.some.inj z; omega, fun z => by rw [z]⟩
  exact lv_acmp_eq (rx := some (ab_al G x)) (ry := some (ab_al G y)) C.1 C.2.1 hd ht (fun z => kt (by first | exact hi.mp z | exact fun q => z (hi.mpr q)) p l e s mid args below meth c G H locs ls Z C hH hS hL hR) (fun z => kf (by first | exact hi.mp z | exact fun q => z (hi.mpr q)) p l e s mid args below meth c G H locs ls Z C hH hS hL hR)
theorem ab_acmpne {x y : Nat} {off : Int} {tgt : Nat} (hd : decode M.2.1 pc = .ok (.if_acmp .ne off, 3)) (ht : (pc : Int) + off = (tgt : Int)) (hx : 3 ≤ x) (hy : 3 ≤ y) (kt : ¬ x = y → ab_Fr M d Q tgt L st cz σ E) (kf : x = y → ab_Fr M d Q (pc + 3) L st cz σ E) : ab_Fr M d Q pc L (.ref y :: .ref x :: st) cz σ E := by
  intro p l e s mid args below meth c G H locs ls Z C hH hS hL hR
  have ex : ab_al G x = G.1 + (x - 3) := by unfold ab_al; rw [if_neg (by omega)]
  have ey : ab_al G y = G.1 + (y - 3) := by unfold ab_al; rw [if_neg (by omega)]
  have hi : some (ab_al G x) = some (ab_al G y) ↔ x = y := ⟨fun z => by have z2 := Option.some.inj z; omega, fun z => by rw [z]⟩
  exact lv_acmp_ne (rx := some (ab_al G x)) (ry := some (ab_al G y)) C.1 C.2.1 hd ht (fun z => kt (by first | exact hi.mp z | exact fun q => z (hi.mpr q)) p l e s mid args below meth c G H locs ls Z C hH hS hL hR) (fun z => kf (by first | exact hi.mp z | exact fun q => z (hi.mpr q)) p l e s mid args below meth c G H locs ls Z C hH hS hL hR)
end AB
