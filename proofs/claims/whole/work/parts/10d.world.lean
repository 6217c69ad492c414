theorem la_w1 (k : Nat) {w : Cond} (h : tables_1_1[k]? = some w) : w ∈ lw_tbl := by unfold lw_tbl tables_1; exact List.mem_append_right _ (List.mem_append_left _ (List.mem_of_getElem? h))
theorem la_w2 (k : Nat) {w : Cond} (h : tables_1_2[k]? = some w) : w ∈ lw_tbl := by unfold lw_tbl tables_1; exact List.mem_append_right _ (List.mem_append_right _ (List.mem_append_left _ (List.mem_of_getElem? h)))
theorem la_w3 (k : Nat) {w : Cond} (h : tables_1_3[k]? = some w) : w ∈ lw_tbl := by unfold lw_tbl tables_1; exact List.mem_append_right _ (List.mem_append_right _ (List.mem_append_right _ (List.mem_append_left _ (List.mem_of_getElem? h))))
theorem la_w4 (k : Nat) {w : Cond} (h : tables_1_4[k]? = some w) : w ∈ lw_tbl := by unfold lw_tbl tables_1; exact List.mem_append_right _ (List.mem_append_right _ (List.mem_append_right _ (List.mem_append_right _ (List.mem_append_left _ (List.mem_of_getElem? h)))))
theorem la_w5 (k : Nat) {w : Cond} (h : tables_1_5[k]? = some w) : w ∈ lw_tbl := by unfold lw_tbl tables_1; exact List.mem_append_right _ (List.mem_append_right _ (List.mem_append_right _ (List.mem_append_right _ (List.mem_append_right _ (List.mem_append_left _ (List.mem_of_getElem? h))))))
theorem la_w6 (k : Nat) {w : Cond} (h : tables_1_6[k]? = some w) : w ∈ lw_tbl := by unfold lw_tbl tables_1; exact List.mem_append_right _ (List.mem_append_right _ (List.mem_append_right _ (List.mem_append_right _ (List.mem_append_right _ (List.mem_append_right _ (List.mem_append_left _ (List.mem_of_getElem? h)))))))
theorem la_w7 (k : Nat) {w : Cond} (h : tables_1_7[k]? = some w) : w ∈ lw_tbl := by unfold lw_tbl tables_1; exact List.mem_append_right _ (List.mem_append_right _ (List.mem_append_right _ (List.mem_append_right _ (List.mem_append_right _ (List.mem_append_right _ (List.mem_append_right _ (List.mem_append_left _ (List.mem_of_getElem? h))))))))
theorem la_w8 (k : Nat) {w : Cond} (h : tables_1_8[k]? = some w) : w ∈ lw_tbl := by unfold lw_tbl tables_1; exact List.mem_append_right _ (List.mem_append_right _ (List.mem_append_right _ (List.mem_append_right _ (List.mem_append_right _ (List.mem_append_right _ (List.mem_append_right _ (List.mem_append_right _ (List.mem_append_left _ (List.mem_of_getElem? h)))))))))
theorem la_w9 (k : Nat) {w : Cond} (h : tables_1_9[k]? = some w) : w ∈ lw_tbl := by unfold lw_tbl tables_1; exact List.mem_append_right _ (List.mem_append_right _ (List.mem_append_right _ (List.mem_append_right _ (List.mem_append_right _ (List.mem_append_right _ (List.mem_append_right _ (List.mem_append_right _ (List.mem_append_right _ (List.mem_of_getElem? h)))))))))
theorem la_n0 : Cond.methodLinkNest RX4 101 yX11_empty RX11 ∈ lw_tbl := la_w4 21 rfl
theorem la_n1 : Cond.methodLinkNest RX3 57 yX11_empty RX11 ∈ lw_tbl := la_w4 92 rfl
theorem la_n2 : Cond.methodLinkNest RX3 161 yX11_rightOf RX11 ∈ lw_tbl := la_w4 158 rfl
theorem la_n3 : Cond.methodLinkNest RX8 49 yX11_empty RX11 ∈ lw_tbl := la_w4 188 rfl
theorem la_n4 : Cond.methodLinkNest RX5 48 yX11_empty RX11 ∈ lw_tbl := la_w5 51 rfl
theorem la_k0 : Cond.castable ab_nse ab_nse ∈ lw_tbl := la_w5 227 rfl
theorem la_k1 : Cond.declares ⟨"java/lang/RuntimeException", "<init>", "()V"⟩ ∈ lw_tbl := la_w5 228 rfl
theorem la_k2 : Cond.declares ⟨"java/lang/Exception", "<init>", "()V"⟩ ∈ lw_tbl := la_w5 230 rfl
theorem la_k3 : Cond.declares ⟨"java/lang/Throwable", "<init>", "()V"⟩ ∈ lw_tbl := la_w5 232 rfl
theorem la_oV : Cond.arrayOver (.object RX9) ∈ lw_tbl := la_w1 68 rfl
theorem la_oM : Cond.arrayOver (.object RX1) ∈ lw_tbl := la_w1 48 rfl
theorem la_s0 : Cond.laysStatic "LongTable$Reader" "KEYWORDS" "[J" ∈ lw_tbl := la_w3 72 rfl
theorem la_s1 : Cond.laysStatic "LongTable$Words" "WORD_OF" "[I" ∈ lw_tbl := la_w5 89 rfl
theorem la_s2 : Cond.laysStatic Bundle.tN "UNASSIGNED_STACK" Bundle.steD ∈ lw_tbl := la_w6 12 rfl
theorem la_s3 : Cond.laysStatic Bundle.tN "SUPPRESSED_SENTINEL" Bundle.listD ∈ lw_tbl := la_w6 14 rfl
theorem la_i0 : Cond.initialized "LongTable$Reader" ∈ lw_tbl := la_w1 6 rfl
theorem la_i1 : Cond.initialized "LongTable$Words" ∈ lw_tbl := la_w1 11 rfl
theorem la_i2 : Cond.initialized Bundle.tN ∈ lw_tbl := la_w1 15 rfl
theorem la_sub {w : Cond} (h : w ∈ ab_tbl) : w ∈ lw_tbl := (List.mem_filter.mp h).1
theorem la_ao {s : State} {args : Array Value} {C : String} (h : (Cond.arrayOver (.object C)).before args s = true) : ∃ cA, ArrOfT s cA (.object C) ∧ va_RA s cA (.object C) := by
  obtain ⟨comp, c, k, h1, h2, h3, h4, h5⟩ := Cond.arrayOver_spec h
  exact ⟨c, fun n z => ⟨fun k h => (by cases h), k, h3, comp, h4⟩, k, comp, h3, h4, h1, h5⟩
theorem la_ac {s : State} {args : Array Value} {ty : FieldType} (h : (Cond.arrayClass ty).before args s = true) : ∃ cA, ArrOfT s cA ty ∧ s.vm.findClass ("[" ++ ty.toString) = some cA := by
  obtain ⟨c, k, comp, h1, h2, h3⟩ := Cond.arrayClass_spec h
  exact ⟨c, fun n z => ⟨fun k h => (by cases h), k, h2, comp, h3⟩, h1⟩
theorem la_kn {s : State} {args : Array Value} (hts : ∀ w ∈ lw_tbl, w.before args s = true) : ∃ (D : va_G) (ac : Nat → ClassId), va_K D ab_cl [(ac 0, .int), (ac 1, .long), (ac 2, .boolean), (ac 3, .object RX9), (ac 4, .object RX1)] s := by
  have htb : ∀ w ∈ ab_tbl, w.before args s = true := fun w hw => hts w (la_sub hw)
  obtain ⟨c0, i0, h0⟩ := u_known htb cu_0 (htb _ wd_188)
  obtain ⟨c1, i1, h1⟩ := u_known htb cu_1 (htb _ wd_182)
  obtain ⟨c2, i2, h2⟩ := u_known htb cu_2 (htb _ wd_317)
  obtain ⟨c3, i3, h3⟩ := u_known htb cu_3 (htb _ wd_376)
  obtain ⟨c4, i4, h4⟩ := u_known htb cu_4 (htb _ wd_352)
  obtain ⟨c5, i5, h5⟩ := u_known htb cu_5 (htb _ wd_442)
  obtain ⟨c6, i6, h6⟩ := u_known htb cu_6 (htb _ wd_489)
  obtain ⟨c7, i7, h7⟩ := u_known htb cu_7 (htb _ wd_165)
  obtain ⟨c8, i8, h8⟩ := u_known htb cu_8 (htb _ wd_416)
  obtain ⟨c9, i9, h9⟩ := u_known htb cu_9 (htb _ wd_199)
  obtain ⟨c10, i10, h10⟩ := u_known htb cu_10 (htb _ wd_471)
  obtain ⟨c11, i11, h11⟩ := u_known htb cu_11 (htb _ wd_157)
  obtain ⟨c12, i12, h12⟩ := u_known htb cu_12 (htb _ wd_1250)
  obtain ⟨a0, p0, q0⟩ := la_ac (htb _ wd_180)
  obtain ⟨a1, p1, q1⟩ := la_ac (htb _ wd_315)
  obtain ⟨a2, p2, q2⟩ := la_ac (htb _ wd_1398)
  obtain ⟨a3, p3, q3⟩ := la_ao (hts _ la_oV)
  obtain ⟨a4, p4, q4⟩ := la_ao (hts _ la_oM)
  refine ⟨(fun c => match c with | 0 => c0 | 1 => c1 | 2 => c2 | 3 => c3 | 4 => c4 | 5 => c5 | 6 => c6 | 7 => c7 | 8 => c8 | 9 => c9 | 10 => c10 | 11 => c11 | _ => c12, fun c => match c with | 0 => i0 | 1 => i1 | 2 => i2 | 3 => i3 | 4 => i4 | 5 => i5 | 6 => i6 | 7 => i7 | 8 => i8 | 9 => i9 | 10 => i10 | 11 => i11 | _ => i12), fun c => match c with | 0 => a0 | 1 => a1 | 2 => a2 | 3 => a3 | _ => a4, fun c q hq => ?_, fun k q hq => ?_⟩
  · match c, hq with
    | 0, hq => cases Option.some.inj hq; exact h0
    | 1, hq => cases Option.some.inj hq; exact h1
    | 2, hq => cases Option.some.inj hq; exact h2
    | 3, hq => cases Option.some.inj hq; exact h3
    | 4, hq => cases Option.some.inj hq; exact h4
    | 5, hq => cases Option.some.inj hq; exact h5
    | 6, hq => cases Option.some.inj hq; exact h6
    | 7, hq => cases Option.some.inj hq; exact h7
    | 8, hq => cases Option.some.inj hq; exact h8
    | 9, hq => cases Option.some.inj hq; exact h9
    | 10, hq => cases Option.some.inj hq; exact h10
    | 11, hq => cases Option.some.inj hq; exact h11
    | 12, hq => cases Option.some.inj hq; exact h12
    | n + 13, hq => cases hq
  · match k, hq with
    | 0, hq => cases Option.some.inj hq; exact ⟨p0, q0⟩
    | 1, hq => cases Option.some.inj hq; exact ⟨p1, q1⟩
    | 2, hq => cases Option.some.inj hq; exact ⟨p2, q2⟩
    | 3, hq => cases Option.some.inj hq; exact ⟨p3, q3⟩
    | 4, hq => cases Option.some.inj hq; exact ⟨p4, q4⟩
    | n + 5, hq => cases hq
theorem la_ro {s : State} {b L : Nat} {xs : Nat → Int32} (hts : ∀ w ∈ lw_tbl, w.before #[Value.ref b] s = true) (hX : va_X b L xs s s.heap) (hb : b < s.heap.size) (hgv : (Jvm.Cond.and given_1 narrow_1).before #[Value.ref b] s = true) : ∃ t1 t2 : Nat, ∀ G : ab_G, G.1 = s.heap.size → G.2.1 0 = b → G.2.1 1 = t1 → G.2.1 2 = t2 → ab_ro G (L, xs) s := by
  have hs := flat_of_before _ hgv
  have hA : ∀ a : Nat, a < s.heap.size → ¬ s.heap.size ≤ a := fun a h => by omega
  obtain ⟨t1, e1, T1⟩ := va_Tof (A := fun q => s.heap.size ≤ q) (N := 16) (f := fun j => .long (ab_kw j)) (by decide) (hs (Cond.arrayOf (.static "LongTable$Reader" "KEYWORDS" "[J") .long) (by decide +kernel)) (va_eqt (z := 16) (hs (Cond.eq (.length (.static "LongTable$Reader" "KEYWORDS" "[J")) (.int 16)) (by decide +kernel))) (fun j hj => match j, hj with
    | 0, _ => va_eqtl (z := 500136506472) (hs (Cond.eq (.elem (.static "LongTable$Reader" "KEYWORDS" "[J") (.int 0)) (.long 500136506472)) (by decide +kernel))
    | 1, _ => va_eqtl (z := 508676040050) (hs (Cond.eq (.elem (.static "LongTable$Reader" "KEYWORDS" "[J") (.int 1)) (.long 508676040050)) (by decide +kernel))
    | 2, _ => va_eqtl (z := 1819243379) (hs (Cond.eq (.elem (.static "LongTable$Reader" "KEYWORDS" "[J") (.int 2)) (.long 1819243379)) (by decide +kernel))
    | 3, _ => va_eqtl (z := 7823737) (hs (Cond.eq (.elem (.static "LongTable$Reader" "KEYWORDS" "[J") (.int 3)) (.long 7823737)) (by decide +kernel))
    | 4, _ => va_eqtl (z := 131277443786868) (hs (Cond.eq (.elem (.static "LongTable$Reader" "KEYWORDS" "[J") (.int 4)) (.long 131277443786868)) (by decide +kernel))
    | 5, _ => va_eqtl (z := 1920298085) (hs (Cond.eq (.elem (.static "LongTable$Reader" "KEYWORDS" "[J") (.int 5)) (.long 1920298085)) (by decide +kernel))
    | 6, _ => va_eqtl (z := 1936024947) (hs (Cond.eq (.elem (.static "LongTable$Reader" "KEYWORDS" "[J") (.int 6)) (.long 1936024947)) (by decide +kernel))
    | 7, _ => va_eqtl (z := 114827802801012) (hs (Cond.eq (.elem (.static "LongTable$Reader" "KEYWORDS" "[J") (.int 7)) (.long 114827802801012)) (by decide +kernel))
    | 8, _ => va_eqtl (z := 482854660462) (hs (Cond.eq (.elem (.static "LongTable$Reader" "KEYWORDS" "[J") (.int 8)) (.long 482854660462)) (by decide +kernel))
    | 9, _ => va_eqtl (z := 7563385) (hs (Cond.eq (.elem (.static "LongTable$Reader" "KEYWORDS" "[J") (.int 9)) (.long 7563385)) (by decide +kernel))
    | 10, _ => va_eqtl (z := 7562612) (hs (Cond.eq (.elem (.static "LongTable$Reader" "KEYWORDS" "[J") (.int 10)) (.long 7562612)) (by decide +kernel))
    | 11, _ => va_eqtl (z := 1852796517) (hs (Cond.eq (.elem (.static "LongTable$Reader" "KEYWORDS" "[J") (.int 11)) (.long 1852796517)) (by decide +kernel))
    | 12, _ => va_eqtl (z := 1836020596) (hs (Cond.eq (.elem (.static "LongTable$Reader" "KEYWORDS" "[J") (.int 12)) (.long 1836020596)) (by decide +kernel))
    | 13, _ => va_eqtl (z := 426952976754) (hs (Cond.eq (.elem (.static "LongTable$Reader" "KEYWORDS" "[J") (.int 13)) (.long 426952976754)) (by decide +kernel))
    | 14, _ => va_eqtl (z := 1852138852) (hs (Cond.eq (.elem (.static "LongTable$Reader" "KEYWORDS" "[J") (.int 14)) (.long 1852138852)) (by decide +kernel))
    | 15, _ => va_eqtl (z := 1701606245) (hs (Cond.eq (.elem (.static "LongTable$Reader" "KEYWORDS" "[J") (.int 15)) (.long 1701606245)) (by decide +kernel))
    | n + 16, h => absurd h (by omega)) hA
  obtain ⟨t2, e2, T2⟩ := va_Tof (A := fun q => s.heap.size ≤ q) (N := 15) (f := fun j => .int (ab_wo j)) (by decide) (hs (Cond.arrayOf (.static "LongTable$Words" "WORD_OF" "[I") .int) (by decide +kernel)) (va_eqt (z := 15) (hs (Cond.eq (.length (.static "LongTable$Words" "WORD_OF" "[I")) (.int 15)) (by decide +kernel))) (fun j hj => match j, hj with
    | 0, _ => va_eqt (z := 0) (hs (Cond.eq (.elem (.static "LongTable$Words" "WORD_OF" "[I") (.int 0)) (.int 0)) (by decide +kernel))
    | 1, _ => va_eqt (z := 0) (hs (Cond.eq (.elem (.static "LongTable$Words" "WORD_OF" "[I") (.int 1)) (.int 0)) (by decide +kernel))
    | 2, _ => va_eqt (z := 0) (hs (Cond.eq (.elem (.static "LongTable$Words" "WORD_OF" "[I") (.int 2)) (.int 0)) (by decide +kernel))
    | 3, _ => va_eqt (z := 0) (hs (Cond.eq (.elem (.static "LongTable$Words" "WORD_OF" "[I") (.int 3)) (.int 0)) (by decide +kernel))
    | 4, _ => va_eqt (z := 0) (hs (Cond.eq (.elem (.static "LongTable$Words" "WORD_OF" "[I") (.int 4)) (.int 0)) (by decide +kernel))
    | 5, _ => va_eqt (z := 1) (hs (Cond.eq (.elem (.static "LongTable$Words" "WORD_OF" "[I") (.int 5)) (.int 1)) (by decide +kernel))
    | 6, _ => va_eqt (z := 0) (hs (Cond.eq (.elem (.static "LongTable$Words" "WORD_OF" "[I") (.int 6)) (.int 0)) (by decide +kernel))
    | 7, _ => va_eqt (z := 1) (hs (Cond.eq (.elem (.static "LongTable$Words" "WORD_OF" "[I") (.int 7)) (.int 1)) (by decide +kernel))
    | 8, _ => va_eqt (z := 0) (hs (Cond.eq (.elem (.static "LongTable$Words" "WORD_OF" "[I") (.int 8)) (.int 0)) (by decide +kernel))
    | 9, _ => va_eqt (z := 0) (hs (Cond.eq (.elem (.static "LongTable$Words" "WORD_OF" "[I") (.int 9)) (.int 0)) (by decide +kernel))
    | 10, _ => va_eqt (z := 1) (hs (Cond.eq (.elem (.static "LongTable$Words" "WORD_OF" "[I") (.int 10)) (.int 1)) (by decide +kernel))
    | 11, _ => va_eqt (z := 1) (hs (Cond.eq (.elem (.static "LongTable$Words" "WORD_OF" "[I") (.int 11)) (.int 1)) (by decide +kernel))
    | 12, _ => va_eqt (z := 0) (hs (Cond.eq (.elem (.static "LongTable$Words" "WORD_OF" "[I") (.int 12)) (.int 0)) (by decide +kernel))
    | 13, _ => va_eqt (z := 1) (hs (Cond.eq (.elem (.static "LongTable$Words" "WORD_OF" "[I") (.int 13)) (.int 1)) (by decide +kernel))
    | 14, _ => va_eqt (z := 2) (hs (Cond.eq (.elem (.static "LongTable$Words" "WORD_OF" "[I") (.int 14)) (.int 2)) (by decide +kernel))
    | n + 15, h => absurd h (by omega)) hA
  have hZ1 := va_Zof (hts _ la_s0) (hts _ la_i0) e1 hA
  have hZ2 := va_Zof (hts _ la_s1) (hts _ la_i1) e2 hA
  have hZ3 := vx_Zqof (hts _ la_s2) (hts _ la_i2) (hs (Cond.isRef (.static Bundle.tN "UNASSIGNED_STACK" Bundle.steD)) (by decide +kernel)) hA
  have hZ4 := vx_Zqof (hts _ la_s3) (hts _ la_i2) (hs (Cond.isRef (.static Bundle.tN "SUPPRESSED_SENTINEL" Bundle.listD)) (by decide +kernel)) hA
  refine ⟨t1, t2, fun G g1 g2 g3 g4 => ?_⟩
  unfold ab_ro ab_A
  rw [g1, g2, g3, g4]
  obtain ⟨scr, x1, x2, x3, x4, x5⟩ := hX
  exact ⟨⟨scr, x1, x2, x3, by omega, by rw [x4], fun j hj => x5 j hj, by omega⟩, T1, T2, hZ1, hZ2, hZ3, hZ4⟩
theorem la_K {s : State} {args : Array Value} (hts : ∀ w ∈ lw_tbl, w.before args s = true) : ∃ (D : va_G) (ac : Nat → ClassId), ∀ G : ab_G, G.2.2 = (D, ac) → ab_K G s := by
  obtain ⟨D, ac, h⟩ := la_kn hts
  have tt : ∀ w : Cond, w ∈ lw_tbl → w.onTables = true → va_Nw w s := fun w hw ho => va_tabs ho rfl (hts w hw)
  refine ⟨D, ac, fun G g => ⟨?_, ?_, ?_, va_AO.of (hts _ la_oV), va_AO.of (hts _ la_oM)⟩⟩
  · unfold ab_tys
    rw [g]
    exact h
  · intro w hw
    simp only [ab_nest, List.mem_cons, List.mem_nil_iff, or_false] at hw
    rcases hw with rfl | rfl | rfl | rfl | rfl
    · exact tt _ la_n0 rfl
    · exact tt _ la_n1 rfl
    · exact tt _ la_n2 rfl
    · exact tt _ la_n3 rfl
    · exact tt _ la_n4 rfl
  · intro w hw
    simp only [ab_cst, List.mem_cons, List.mem_nil_iff, or_false] at hw
    rcases hw with rfl | rfl | rfl | rfl
    · exact tt _ la_k0 rfl
    · exact tt _ la_k1 rfl
    · exact tt _ la_k2 rfl
    · exact tt _ la_k3 rfl
