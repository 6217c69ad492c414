/-! calls that look a place of a table up -/
theorem la_rep {a : Int32} {m : Nat} (h0 : 0 ≤ a.toInt) (h1 : a.toInt < (m : Int)) : ∃ n : Nat, n < m ∧ a = Int32.ofNat n := by
  refine ⟨a.toInt.toNat, by omega, ?_⟩
  have h9 : (a.toInt.toNat : Int) = a.toInt := by omega
  have h8 : Int32.ofInt (a.toInt.toNat : Int) = a := by rw [h9, Int32.ofInt_toInt]
  exact h8.symm.trans Int32.ofInt_eq_ofNat
theorem la_lt0 {a : Int32} : a < 0 ↔ a.toInt < 0 := by
  rw [Int32.lt_iff_toInt_lt]
  rfl
theorem la_3 {v s : Nat} : Int32.ofNat v * 3 + Int32.ofNat s = Int32.ofNat (3 * v + s) := by
  rw [Int32.ofNat_add, Int32.ofNat_mul, Int32.mul_comm]
  rfl
theorem la_3' {v s : Nat} : 3 * Int32.ofNat v + Int32.ofNat s = Int32.ofNat (3 * v + s) := by
  rw [Int32.ofNat_add, Int32.ofNat_mul]
  rfl
section TPE
variable {d : Nat} {sc : Nat × (Nat → Int32)} {R : ab_S → Prop} {i : Nat → Nat → Int32} {l : Nat → Nat → Int64} {dd : Nat → Nat → Value} {x : Nat}
/-- a table of votes kept with its own voters and signs: what the model finds at a place -/
def la_at (i : Nat → Nat → Int32) (jn ks kv : Nat) (v s : Nat) : Int32 := if (v : Int) < (i 205 jn).toInt ∧ (s : Int) < (i ks v).toInt then i kv (3 * v + s) else -1
/-- the class's table kc says the same at each of its 21 places -/
def la_tab (i : Nat → Nat → Int32) (jn ks kv kc : Nat) : Prop := (i 205 jn).toInt ≤ 7 ∧ (∀ v : Nat, v < 7 → (v : Int) < (i 205 jn).toInt → (i ks v).toInt ≤ 3) ∧ ∀ v s : Nat, v < 7 → s < 3 → i kc (3 * v + s) = la_at i jn ks kv v s
/-- the answer at any numbers -/
def la_look (i : Nat → Nat → Int32) (kc : Nat) (a b : Int32) : Int32 := if (0 ≤ a.toInt ∧ a.toInt < 7) ∧ 0 ≤ b.toInt ∧ b.toInt < 3 then i kc (3 * a.toInt.toNat + b.toInt.toNat) else -1
theorem la_tn {n : Nat} (h : n < 2 ^ 31) : (Int32.ofNat n).toInt.toNat = n := by
  rw [la_nat h]
  rfl
/-- the model's look-up, branch by branch -/
theorem la_find {jn ks kv kc : Nat} {a b : Int32} (ht : la_tab i jn ks kv kc) :
    (a < 0 → la_look i kc a b = -1) ∧ (¬ a < 0 → (i 205 jn) ≤ a → la_look i kc a b = -1) ∧ (¬ a < 0 → ¬ (i 205 jn) ≤ a → (b < 0 → la_look i kc a b = -1) ∧ (¬ b < 0 → vp_in a 7 ∧ ((i ks a.toNatClampNeg) ≤ b → la_look i kc a b = -1) ∧ (¬ (i ks a.toNatClampNeg) ≤ b → vp_in ((3 * a) + b) 21 ∧ la_look i kc a b = i kv ((3 * a) + b).toNatClampNeg))) := by
  obtain ⟨t1, t2, t3⟩ := ht
  refine ⟨fun h => ?_, fun h0 h => ?_, fun h0 h1 => ⟨fun h => ?_, fun h2 => ?_⟩⟩
  · rw [la_lt0] at h
    exact if_neg (fun q => by omega)
  · rw [la_lt0] at h0
    rw [Int32.le_iff_toInt_le] at h
    unfold la_look
    split
    · rename_i q
      rw [t3 _ _ (by omega) (by omega)]
      exact if_neg (fun z => by omega)
    · rfl
  · rw [la_lt0] at h
    exact if_neg (fun q => by omega)
  · rw [la_lt0] at h0 h2
    rw [Int32.le_iff_toInt_le] at h1
    obtain ⟨v, hv, rfl⟩ := la_rep (a := a) (m := 7) (by omega) (by omega)
    have e1 := la_nn (n := v) (by omega)
    have e2 := la_nat (n := v) (by omega)
    rw [e1.2]
    refine ⟨la_vp hv (by omega), fun h => ?_, fun h => ?_⟩
    · rw [Int32.le_iff_toInt_le] at h
      unfold la_look
      split
      · rename_i q
        rw [t3 _ _ (by omega) (by omega), la_tn (by omega)]
        exact if_neg (fun z => by omega)
      · rfl
    · rw [Int32.le_iff_toInt_le] at h
      have h9 := t2 v hv (by omega)
      obtain ⟨s, hs, rfl⟩ := la_rep (a := b) (m := 3) (by omega) (by omega)
      have e3 := la_nat (n := s) (by omega)
      rw [la_3', (la_nn (n := 3 * v + s) (by omega)).2]
      refine ⟨la_vp (by omega) (by omega), ?_⟩
      unfold la_look
      rw [if_pos ⟨⟨by omega, by omega⟩, by omega, by omega⟩, la_tn (by omega), la_tn (by omega), t3 v s hv hs]
      exact if_pos ⟨by omega, by omega⟩
theorem la_inT {a b : Int32} : ab_Sp MX11_inTable (d + 1) [.int a, .int b] (i, l, dd, x) (ab_E0 sc) (some (.int (if (0 ≤ a.toInt ∧ a.toInt < 7) ∧ 0 ≤ b.toInt ∧ b.toInt < 3 then 1 else 0))) (fun σ => σ = (i, l, dd, x)) := by
  refine ab_enter (n := 2) okMX11_inTable.1 (fun G => Nat.le_of_ble_eq_true rfl) ?_
  have e7 : (7 : Int32).toInt = 7 := rfl
  have e3 : (3 : Int32).toInt = 3 := rfl
  refine tMX11_inTable_0 ⟨fun h => ?_, fun h0 => ⟨fun h => ?_, fun h1 => ⟨fun h => ?_, fun h2 => ⟨fun h => ?_, fun h3 => ?_⟩⟩⟩⟩
  · rw [la_lt0] at h
    rw [if_neg (fun q => by omega)]
    exact ⟨_, rfl, rfl, rfl, rfl⟩
  · rw [Int32.le_iff_toInt_le, e7] at h
    rw [if_neg (fun q => by omega)]
    exact ⟨_, rfl, rfl, rfl, rfl⟩
  · rw [la_lt0] at h
    rw [if_neg (fun q => by omega)]
    exact ⟨_, rfl, rfl, rfl, rfl⟩
  · rw [Int32.le_iff_toInt_le, e3] at h
    rw [if_neg (fun q => by omega)]
    exact ⟨_, rfl, rfl, rfl, rfl⟩
  · rw [la_lt0] at h0 h2
    rw [Int32.le_iff_toInt_le, e7] at h1
    rw [Int32.le_iff_toInt_le, e3] at h3
    rw [if_pos ⟨⟨by omega, by omega⟩, by omega, by omega⟩]
    exact ⟨_, rfl, rfl, rfl, rfl⟩
theorem la_place {a b : Int32} (h : (0 ≤ a.toInt ∧ a.toInt < 7) ∧ 0 ≤ b.toInt ∧ b.toInt < 3) : vp_in (a * 3 + b) 21 ∧ (a * 3 + b).toNatClampNeg = 3 * a.toInt.toNat + b.toInt.toNat := by
  obtain ⟨v, hv, rfl⟩ := la_rep (a := a) (m := 7) h.1.1 h.1.2
  obtain ⟨s, hs, rfl⟩ := la_rep (a := b) (m := 3) h.2.1 h.2.2
  rw [la_3, la_tn (by omega), la_tn (by omega)]
  exact ⟨la_vp (by omega) (by omega), (la_nn (by omega)).2⟩
theorem op_settled (hR : ∀ τ, R τ → la_tab τ.1 41 230 229 174) : la_c20 1310 sc (la_I R) := by
  rintro ⟨i, l, dd, x⟩ a b hI
  have ht : la_tab i 41 230 229 174 := hR _ hI.2.2
  refine ⟨la_look i 174 a b, fun σ => σ = (i, l, dd, x), ?_, ?_⟩
  · refine ab_enter (n := 2) okMX11_settled.1 (fun G => Nat.le_of_ble_eq_true rfl) ?_
    refine tMX11_settled_0 (d := 1310) ⟨_, _, la_inT (d := 1309), ?_⟩
    rintro i5 l6 dd7 x8 ⟨⟩
    unfold la_look
    by_cases c : (0 ≤ a.toInt ∧ a.toInt < 7) ∧ 0 ≤ b.toInt ∧ b.toInt < 3
    · rw [if_pos c, if_pos c]
      refine ⟨fun z => absurd z (by decide), fun _ => ⟨(la_place c).1, ?_⟩⟩
      rw [(la_place c).2]
      exact ⟨_, rfl, rfl, rfl, rfl⟩
    · rw [if_neg c, if_neg c]
      exact ⟨fun _ => ⟨_, rfl, rfl, rfl, rfl⟩, fun z => absurd rfl z⟩
  · rintro _ rfl
    obtain ⟨f1, f2, f3⟩ := la_find (a := a) (b := b) ht
    refine ab_enter (n := 2) okMX12_settled.1 (fun G => Nat.le_of_ble_eq_true rfl) ?_
    refine tMX12_settled_0 ?_
    rintro i1 rfl
    rw [show ab_u i 205 0 0 205 41 = i 205 41 from if_neg (by omega), ab_u_ne (a := 230) (by omega), ab_u_ne (a := 229) (by omega)]
    refine ⟨fun h => ?_, fun h0 => ⟨fun h => ?_, fun h1 => ⟨fun h => ?_, fun h2 => ⟨((f3 h0 h1).2 h2).1, fun h => ?_, fun h3 => ⟨(((f3 h0 h1).2 h2).2.2 h3).1, ?_⟩⟩⟩⟩⟩
    · rw [f1 h]
      exact ⟨_, rfl, rfl, rfl, la_thr hI⟩
    · rw [f2 h0 h]
      exact ⟨_, rfl, rfl, rfl, la_thr hI⟩
    · rw [(f3 h0 h1).1 h]
      exact ⟨_, rfl, rfl, rfl, la_thr hI⟩
    · rw [((f3 h0 h1).2 h2).2.1 h]
      exact ⟨_, rfl, rfl, rfl, la_thr hI⟩
    · rw [(((f3 h0 h1).2 h2).2.2 h3).2]
      exact ⟨_, rfl, rfl, rfl, la_thr hI⟩
theorem op_fitAt (hR : ∀ τ, R τ → la_tab τ.1 68 248 247 175) : la_c36 1310 sc (la_I R) := by
  rintro ⟨i, l, dd, x⟩ a b hI
  have ht : la_tab i 68 248 247 175 := hR _ hI.2.2
  refine ⟨la_look i 175 a b, fun σ => σ = (i, l, dd, x), ?_, ?_⟩
  · refine ab_enter (n := 2) okMX11_fitAt.1 (fun G => Nat.le_of_ble_eq_true rfl) ?_
    refine tMX11_fitAt_0 (d := 1310) ⟨_, _, la_inT (d := 1309), ?_⟩
    rintro i5 l6 dd7 x8 ⟨⟩
    unfold la_look
    by_cases c : (0 ≤ a.toInt ∧ a.toInt < 7) ∧ 0 ≤ b.toInt ∧ b.toInt < 3
    · rw [if_pos c, if_pos c]
      refine ⟨fun z => absurd z (by decide), fun _ => ⟨(la_place c).1, ?_⟩⟩
      rw [(la_place c).2]
      exact ⟨_, rfl, rfl, rfl, rfl⟩
    · rw [if_neg c, if_neg c]
      exact ⟨fun _ => ⟨_, rfl, rfl, rfl, rfl⟩, fun z => absurd rfl z⟩
  · rintro _ rfl
    obtain ⟨f1, f2, f3⟩ := la_find (a := a) (b := b) ht
    refine ab_enter (n := 2) okMX12_fitAt.1 (fun G => Nat.le_of_ble_eq_true rfl) ?_
    refine tMX12_fitAt_0 ?_
    rintro i1 rfl
    rw [show ab_u i 205 0 0 205 68 = i 205 68 from if_neg (by omega), ab_u_ne (a := 248) (by omega), ab_u_ne (a := 247) (by omega)]
    refine ⟨fun h => ?_, fun h0 => ⟨fun h => ?_, fun h1 => ⟨fun h => ?_, fun h2 => ⟨((f3 h0 h1).2 h2).1, fun h => ?_, fun h3 => ⟨(((f3 h0 h1).2 h2).2.2 h3).1, ?_⟩⟩⟩⟩⟩
    · rw [f1 h]
      exact ⟨_, rfl, rfl, rfl, la_thr hI⟩
    · rw [f2 h0 h]
      exact ⟨_, rfl, rfl, rfl, la_thr hI⟩
    · rw [(f3 h0 h1).1 h]
      exact ⟨_, rfl, rfl, rfl, la_thr hI⟩
    · rw [((f3 h0 h1).2 h2).2.1 h]
      exact ⟨_, rfl, rfl, rfl, la_thr hI⟩
    · rw [(((f3 h0 h1).2 h2).2.2 h3).2]
      exact ⟨_, rfl, rfl, rfl, la_thr hI⟩
end TPE
