/-! calls that only read, under the invariant with any rest R that tells what they read -/
section TPD
variable {sc : Nat × (Nat → Int32)} {R : ab_S → Prop}
theorem la_x {i : Nat → Nat → Int32} {l : Nat → Nat → Int64} {dd : Nat → Nat → Value} {x x2 : Nat} (h : la_I R (i, l, dd, x)) : la_I R (i, l, dd, x2) := ⟨h.1, h.2.1, h.2.2⟩
theorem la_out {σ : ab_S} {w : Int64} (h : la_I R σ) : la_I R (la_o σ w) := by
  refine ⟨h.1, h.2.1, ?_⟩
  have e : la_mask (la_o σ w) = la_mask σ := by
    unfold la_mask la_o
    dsimp only
    congr 2
    funext k j
    cases e : la_ws k j with
    | true => rfl
    | false =>
      have h9 : ¬ (k = 249 ∧ j = 0) := by
        rintro ⟨rfl, rfl⟩
        cases e
      simp [ab_u, h9]
  rw [e]
  exact h.2.2
theorem la_uv {α : Type} {i : Nat → Nat → α} {k j : Nat} {v : α} : ab_u i k j v k j = v := by
  unfold ab_u
  exact if_pos ⟨rfl, rfl⟩
theorem op_many : la_c40 1310 sc (la_I R) := by
  rintro ⟨i, l, dd, x⟩ a1 a2 hI
  obtain ⟨o, b, hb, hc, hm⟩ := mn_both (d := 1304) (d2 := 1309) (sc := sc) (a1 := a1) (a2 := a2)
  refine ⟨o, b, la_I R, fun σ => la_I R σ ∧ σ.1 205 0 = (if o = none then 1 else 0), ?_, fun σ1 w h => la_out h, ?_, ?_, fun w hw => hb w hw⟩
  · exact hc i l dd x _ ⟨rfl, rfl, la_x hI⟩
  · rintro ⟨i, l, dd, x⟩ h
    refine ab_call_mono (hm i l dd x) ?_
    rintro v σ2 E2 ⟨rfl, rfl, rfl⟩
    exact ⟨rfl, rfl, rfl, la_thr h, show ab_u i 205 0 (if o = none then (1 : Int32) else 0) 205 0 = (if o = none then (1 : Int32) else 0) from la_uv⟩
  · rintro ⟨i, l, dd, x⟩ ⟨h, e⟩
    refine ⟨h, ?_⟩
    rw [← e]
    exact mn_thrown (d := 1310)
theorem op_fault (hR : ∀ τ, R τ → τ.1 157 0 = τ.1 205 8) : la_c3 1310 sc (la_I R) := by
  rintro ⟨i, l, dd, x⟩ hI
  have e : i 157 0 = i 205 8 := hR _ hI.2.2
  refine ⟨i 205 8, fun σ => σ = (i, l, dd, x), ?_, ?_⟩
  · refine ab_enter (n := 0) okMX11_fault.1 (fun G => Nat.le_of_ble_eq_true rfl) ?_
    refine tMX11_fault_0 ?_
    rw [e]
    exact ⟨_, rfl, rfl, rfl, rfl⟩
  · rintro _ rfl
    refine ab_enter (n := 0) okMX12_fault.1 (fun G => Nat.le_of_ble_eq_true rfl) ?_
    refine tMX12_fault_0 ?_
    rintro i1 rfl
    rw [show ab_u i 205 0 0 205 8 = i 205 8 from if_neg (by omega)]
    exact ⟨_, rfl, rfl, rfl, la_thr hI⟩
theorem op_barLost (hR : ∀ τ, R τ → τ.2.1 191 3 = τ.2.1 205 61) : la_c29 1310 sc (la_I R) := by
  rintro ⟨i, l, dd, x⟩ hI
  have e : l 191 3 = l 205 61 := hR _ hI.2.2
  refine ⟨l 205 61, fun σ => σ = (i, l, dd, x), ?_, ?_⟩
  · refine ab_enter (n := 0) okMX11_barLost.1 (fun G => Nat.le_of_ble_eq_true rfl) ?_
    refine tMX11_barLost_0 ?_
    rw [e]
    exact ⟨_, rfl, rfl, rfl, rfl⟩
  · rintro _ rfl
    refine ab_enter (n := 0) okMX12_barLost.1 (fun G => Nat.le_of_ble_eq_true rfl) ?_
    refine tMX12_barLost_0 ?_
    rintro i1 rfl
    exact ⟨_, rfl, rfl, rfl, la_thr hI⟩
theorem la_t0 {a : Int32} (h : a.toInt = 0) : a = 0 := Int32.toInt.inj (h.trans rfl)
theorem la_t1 {a : Int32} (h : a.toInt = 1) : a = 1 := Int32.toInt.inj (h.trans rfl)
theorem la_t2 {a : Int32} (h : a.toInt = 2) : a = 2 := Int32.toInt.inj (h.trans rfl)
theorem op_count (hR : ∀ τ, R τ → ∃ m, τ.2.2.1 3 11 = .ref m ∧ ab_isM m ∧ la_ws m 0 = false ∧ la_ws m 1 = false ∧ τ.1 m 0 = τ.1 205 29 ∧ τ.1 m 1 = τ.1 205 30) : la_c4 1310 sc (la_I R) := by
  rintro ⟨i, l, dd, x⟩ a hI
  obtain ⟨m, e0, hm, w0, w1, e1, e2⟩ := hR _ hI.2.2
  have e0 : dd 3 11 = .ref m := e0
  have e1 : i m 0 = i 205 29 := by
    have h9 : (if la_ws m 0 then 0 else i m 0) = i 205 29 := e1
    rw [w0] at h9
    exact h9
  have e2 : i m 1 = i 205 30 := by
    have h9 : (if la_ws m 1 then 0 else i m 1) = i 205 30 := e2
    rw [w1] at h9
    exact h9
  have e3 : i 205 2 = i 4 1 := hI.1.2.1
  refine ⟨if a = 0 then i 205 29 else if a = 1 then i 205 30 else if a = 2 then i 205 2 else -1, fun σ => σ = (i, l, dd, x), ?_, ?_⟩
  · refine ab_enter (n := 1) okMX11_count.1 (fun G => Nat.le_of_ble_eq_true rfl) ?_
    refine tMX11_count_0 ⟨fun h => ?_, fun h => ?_, fun h => ?_, fun h => ?_⟩
    · rw [if_neg (fun z => by rw [z, show (0 : Int32).toInt = 0 from rfl] at h; omega), if_neg (fun z => by rw [z, show (1 : Int32).toInt = 1 from rfl] at h; omega), if_neg (fun z => by rw [z, show (2 : Int32).toInt = 2 from rfl] at h; omega)]
      exact ⟨_, rfl, rfl, rfl, rfl⟩
    · cases la_t0 h
      exact ⟨m, e0, hm, _, rfl, by rw [e1]; rfl, rfl, rfl⟩
    · cases la_t1 h
      exact ⟨m, e0, hm, _, rfl, by rw [e2]; rfl, rfl, rfl⟩
    · cases la_t2 h
      exact ⟨_, rfl, by rw [← e3]; rfl, rfl, rfl⟩
  · rintro _ rfl
    refine ab_enter (n := 1) okMX12_count.1 (fun G => Nat.le_of_ble_eq_true rfl) ?_
    refine tMX12_count_0 ?_
    rintro i1 rfl
    rw [show ab_u i 205 0 0 205 29 = i 205 29 from if_neg (by omega), show ab_u i 205 0 0 205 30 = i 205 30 from if_neg (by omega), tp_u0]
    refine ⟨fun h0 => ⟨fun h1 => ⟨fun h2 => ?_, fun h2 => ?_⟩, fun h1 => ?_⟩, fun h0 => ?_⟩
    · rw [if_neg h0, if_neg h1, if_neg h2]
      exact ⟨_, rfl, rfl, rfl, la_thr hI⟩
    · rw [if_neg h0, if_neg h1, if_pos h2]
      exact ⟨_, rfl, rfl, rfl, la_thr hI⟩
    · rw [if_neg h0, if_pos h1]
      exact ⟨_, rfl, rfl, rfl, la_thr hI⟩
    · rw [if_pos h0]
      exact ⟨_, rfl, rfl, rfl, la_thr hI⟩
theorem op_settles (hR : ∀ τ, R τ → τ.2.1 169 7 = (if τ.1 205 41 = 0 then -1 else τ.2.1 205 42) ∧ τ.2.1 169 8 = (if τ.1 205 41 = 0 then -1 else τ.2.1 205 43)) : la_c21 1310 sc (la_I R) := by
  rintro ⟨i, l, dd, x⟩ a hI
  obtain ⟨e1, e2⟩ := hR _ hI.2.2
  have e1 : l 169 7 = (if i 205 41 = 0 then -1 else l 205 42) := e1
  have e2 : l 169 8 = (if i 205 41 = 0 then -1 else l 205 43) := e2
  refine ⟨if a = 0 then l 169 7 else if a = 1 then l 169 8 else -1, fun σ => σ = (i, l, dd, x), ?_, ?_⟩
  · refine ab_enter (n := 1) okMX11_settles.1 (fun G => Nat.le_of_ble_eq_true rfl) ?_
    refine tMX11_settles_0 ⟨fun h => ?_, fun h => ⟨fun h1 => ?_, fun h1 => ?_⟩⟩
    · cases la_t0 h
      exact ⟨_, rfl, rfl, rfl, rfl⟩
    · cases la_t1 h1
      exact ⟨_, rfl, rfl, rfl, rfl⟩
    · rw [if_neg (fun z => h (by rw [z]; rfl)), if_neg (fun z => h1 (by rw [z]; rfl))]
      exact ⟨_, rfl, rfl, rfl, rfl⟩
  · rintro _ rfl
    refine ab_enter (n := 1) okMX12_settles.1 (fun G => Nat.le_of_ble_eq_true rfl) ?_
    refine tMX12_settles_0 (d := 1310) ?_
    rintro i1 rfl
    rw [show ab_u i 205 0 0 205 41 = i 205 41 from if_neg (by omega)]
    refine ⟨fun h => ?_, fun h => ⟨_, _, mn_isIn (d := 1309), ?_⟩⟩
    · rw [if_pos h] at e1 e2
      rw [e1, e2, ite_self, ite_self]
      exact ⟨_, rfl, rfl, rfl, la_thr hI⟩
    · rintro i8 l9 dd10 x11 ⟨⟩
      rw [if_neg h] at e1 e2
      rw [e1, e2]
      refine ⟨fun h1 => ⟨fun h2 => ?_, fun h2 => ?_⟩, fun h1 => ?_⟩
      · have k : ¬ a < 0 ∧ ¬ 1 < a := by
          rcases Classical.em (¬ a < 0 ∧ ¬ 1 < a) with q | q
          · exact q
          · rw [if_neg q] at h1
            exact absurd rfl h1
        have h3 : a = 1 := by
          obtain ⟨k1, k2⟩ := k
          rw [Int32.lt_iff_toInt_lt] at k1 k2
          refine la_t1 ?_
          have k3 : ¬ a.toInt = 0 := fun z => h2 (la_t0 z)
          rw [show (0 : Int32).toInt = 0 from rfl] at k1
          rw [show (1 : Int32).toInt = 1 from rfl] at k2
          omega
        rw [if_neg h2, if_pos h3]
        exact ⟨_, rfl, rfl, rfl, la_thr hI⟩
      · rw [if_pos h2]
        exact ⟨_, rfl, rfl, rfl, la_thr hI⟩
      · have k : ¬ (¬ a < 0 ∧ ¬ 1 < a) := fun q => by
          rw [if_pos q] at h1
          cases h1
        rw [if_neg (fun z => k (by rw [z]; decide)), if_neg (fun z => k (by rw [z]; decide))]
        exact ⟨_, rfl, rfl, rfl, la_thr hI⟩
end TPD
