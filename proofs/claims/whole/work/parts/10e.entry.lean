def R_law : String := "LongTableLaw"
def lw_P (b : Addr) (xs : List Int32) (args : Array Value) (s : State) : Prop := args = #[.ref b] ∧ s.IntsAt b xs ∧ xs.length ≤ 3072 ∧ (Jvm.Cond.and given_1 narrow_1).before args s = true
def lw_Q (_ : Array Value) (s : State) (o : Outcome) (t : State) : Prop := o = .returned (some (.int 1)) ∧ Framed s o t [] 601024 7293034
def lw_Z (below : List Frame) (a : Array Value) (s : State) : State → Prop := fun t => ∃ o, t.status = .running ∧ Ended t below o ∧ lw_Q a s o t
/-- the law's own end, with 1 on the stack, nothing written that was there before, its room as the claim has it -/
theorem lw_ret {p : Program} {l : Launch} {e : Env} {s : State} {m : MethodId} {below : List Frame} {meth : Method} {c : Code} {b : Nat} (hx : p.tables.exec = Jvm.exec) (hb : c.code = code) (hr : meth.sig.returnType = ret) (hlocks : meth.locks = false) {pc : Nat} {H : Heap} {ls : Array Slot} (hdg : decode code pc = .ok (.ireturn, 1)) : W p l e room_1 s m #[Value.ref b] below meth c H [] 601024 7293034 (lw_Z below #[Value.ref b] s) (F0 m pc ls [.int 1]) := by
  intro T hT X
  obtain ⟨fs, hret, hrun, hended, hW, hframe⟩ := X.leave (v := some (.int 1)) (hlocks := hlocks) (fun h => by rw [hr] at h; cases h)
  have hmeth' : T.vm.method? m = some meth := X.method'
  refine ⟨T.setFrames fs, ?_, .returned (some (.int 1)), hrun, hended, rfl, ⟨_, rfl⟩, hW, hframe⟩
  jvm_step X.here [X.here.top, hx, hb, hdg, hmeth', hr, ret, narrow_b1]
  (try refine ⟨rfl, ?_⟩); (try refine ⟨rfl, ?_⟩)
  first | (intro acts; rw [hret _ acts rfl rfl rfl]) | rw [hret _ _ rfl rfl rfl]
  exact Steps.refl _
/-- what holds at the law's entry: the machine, the code, the tables' words (any of lw_tbl by 'hts w (by decide +kernel)'), the script of L ints xs at the cell b, what the Statement gives of the start (any of its parts by flat_of_before) -/
def lw_At (p : Program) (s : State) (m : MethodId) (meth : Method) (c : Code) (b L : Nat) (xs : Nat → Int32) : Prop :=
  p.tables.exec = Jvm.exec ∧ c.code = code ∧ meth.sig.returnType = ret ∧ c.maxLocals = 8 ∧ s.vm.findClass R_law = some m.cls ∧ (∀ w ∈ lw_tbl, w.before #[Value.ref b] s = true) ∧ va_X b L xs s s.heap ∧ b < s.heap.size ∧ meth.locks = false ∧ (Jvm.Cond.and given_1 narrow_1).before #[Value.ref b] s = true ∧ meth.name = yL_law.name ∧ c.exceptionTable.toList = []
theorem tb_law : ab_tb ML_law = [] := by decide +kernel
theorem la_stand {p : Program} {l : Launch} {e : Env} {R R2 : Room} {s : State} {m : MethodId} {args : Array Value} {below : List Frame} {meth : Method} {c : Code} {T : State} {locs : List Loc} {k n : Nat} (X : Stand p l e R s m args below meth c T locs k n) (h : s.hasRoom e.platform R2 = true) : Stand p l e R2 s m args below meth c T locs k n :=
  ⟨X.admits, X.cas, X.clock, X.frames, h, X.hears, X.method, X.code, X.here, X.tail, X.warmed, X.limits, X.bytes, X.same⟩
theorem la_entry {p : Program} {e : Env} {s : State} {m : MethodId} {below : List Frame} {meth : Method} {c : Code} (l : Launch) (hflags : l.flags = flags0) {b L : Nat} {xs : Nat → Int32} (C0 : lw_At p s m meth c b L xs)
    (h : ab_Fr ML_law 1312 (fun o _ _ => o = some (some (.int 1))) 0 [some (.ref 0), none, none, none, none, none, none, none] [] (0, 0) cS_0 (cE_0 (L, xs))) : W p l e room_1 s m #[Value.ref b] below meth c s.heap [] 0 0 (lw_Z below #[Value.ref b] s) (entryFrame m ([Value.ref b] : List Value).toArray 8) := by
  obtain ⟨hx, hb, hr, hml, hown, hts, hX, hbl, hlocks, hgv, hnm, htab⟩ := C0
  obtain ⟨D, ac, hK⟩ := la_K hts
  obtain ⟨t1, t2, hro⟩ := la_ro hts hX hbl hgv
  have hst : l.stackTraces = false := by
    unfold Launch.stackTraces
    rw [hflags]
    decide +kernel
  obtain ⟨G, g1, g2, g3, g4, g5⟩ : ∃ G : ab_G, G.1 = s.heap.size ∧ G.2.1 0 = b ∧ G.2.1 1 = t1 ∧ G.2.1 2 = t2 ∧ G.2.2 = (D, ac) := ⟨(s.heap.size, (fun k => match k with | 0 => b | 1 => t1 | _ => t2), D, ac), rfl, rfl, rfl, rfl, rfl⟩
  have C : ab_cx ML_law p l s m #[Value.ref b] meth c G (cE_0 (L, xs)).2.2.2 := ⟨hx, hb, hml, hown, fun w hw => hts w (la_sub hw), hnm, hK G g5, hro G g1 g2 g3 g4, Nat.le_of_eq g1, by rw [htab, tb_law]; rfl, hst⟩
  have hH : ab_H G cS_0 (cE_0 (L, xs)) s.heap := by
    refine ⟨fun k q hk => ?_, ⟨fun _ => by rw [g1]; rfl, by rw [g1]; exact Nat.le_refl _⟩, fun k hk => ?_, fun k hk => ?_⟩
    · simp [ab_w, cE_0] at hk
    · match k, hk with
      | 0, _ => exact ⟨0, 0, rfl⟩
      | 1, _ => exact ⟨1, 16, rfl⟩
      | 2, _ => exact ⟨2, 15, rfl⟩
      | n + 3, hk => exact absurd hk (by omega)
    · match k, hk with
      | 0, hk => exact absurd hk (by simp [cE_0])
      | 1, hk => exact absurd hk (by simp [cE_0])
      | 2, hk => exact absurd hk (by simp [cE_0])
      | n + 3, _ => rfl
  have hl := lv_entry [Value.ref b] (n := 8) (Nat.le_of_ble_eq_true rfl)
  rw [lg_entry_eq]
  intro T hT X
  have hroom : s.hasRoom e.platform (ab_room ML_law 1312) = true := by
    have h9 := X.room
    simp only [State.hasRoom, Bool.and_eq_true, decide_eq_true_eq] at h9 ⊢
    simp only [room_1, ab_room] at h9 ⊢
    obtain ⟨⟨⟨⟨r1, r2, r3, r4, r5, r6⟩, r7⟩, r8⟩, r9⟩ := h9
    exact ⟨⟨⟨⟨by omega, by omega, by omega, by omega, by omega, r6⟩, r7⟩, r8⟩, r9⟩
  refine h p l e s m #[Value.ref b] below meth c G s.heap [] _ (lw_Z below #[Value.ref b] s) C hH va_S.rf ⟨hl.1, hl.2.1, fun i v hi => ?_⟩ ⟨?_, ?_⟩ T hT (la_stand X hroom)
  · match i, hi with
    | 0, hi =>
      cases hi
      have h1 := hl.2.2 (0, .ref b) (by simp [lv_args])
      rw [show ab_tr G (.ref 0) = .ref b from by rw [← g2]; rfl]
      exact h1
    | 1, hi => cases hi
    | 2, hi => cases hi
    | 3, hi => cases hi
    | 4, hi => cases hi
    | 5, hi => cases hi
    | 6, hi => cases hi
    | 7, hi => cases hi
    | n + 8, hi => cases hi
  · intro pc H locs ls k n v σ E _ hq _ hS hk hn hd
    have h9 : some v = some (some (.int 1)) := hq
    cases h9
    intro T2 hT2 X2
    exact (va_forget (fun q hq => by rw [← g1]; exact hS.2.2 q hq) (W.widen hk hn (lw_ret hx hb hr hlocks hd.1))) T2 hT2 (la_stand X2 X.room)
  · intro pc H locs ls k n σ E _ hq
    exact absurd hq (by simp)
