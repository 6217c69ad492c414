section TPF
variable {d : Nat} {sc : Nat × (Nat → Int32)} {R : ab_S → Prop} {i : Nat → Nat → Int32} {l : Nat → Nat → Int64} {dd : Nat → Nat → Value} {x : Nat}
theorem op_weighedAt (hR : ∀ τ, R τ → (τ.1 205 64).toInt ≤ 5 ∧ ∀ v : Nat, v < 8 → τ.1 198 v = if 0 < (τ.1 205 64).toInt ∧ ((v : Int) < (τ.1 205 64).toInt ∨ 5 ≤ v) then τ.1 245 v else -1) : la_c38 1310 sc (la_I R) := by
  rintro ⟨i, l, dd, x⟩ a hI
  obtain ⟨t1, t2⟩ := hR _ hI.2.2
  have t1 : (i 205 64).toInt ≤ 5 := t1
  have t2 : ∀ v : Nat, v < 8 → i 198 v = if 0 < (i 205 64).toInt ∧ ((v : Int) < (i 205 64).toInt ∨ 5 ≤ v) then i 245 v else -1 := t2
  have e8 : (8 : Int32).toInt = 8 := rfl
  have e5 : (5 : Int32).toInt = 5 := rfl
  have e7 : (7 : Int32).toInt = 7 := rfl
  have e0 : (0 : Int32).toInt = 0 := rfl
  refine ⟨if 0 ≤ a.toInt ∧ a.toInt < 8 then i 198 a.toInt.toNat else -1, fun σ => σ = (i, l, dd, x), ?_, ?_⟩
  · refine ab_enter (n := 1) okMX11_weighedAt.1 (fun G => Nat.le_of_ble_eq_true rfl) ?_
    refine tMX11_weighedAt_0 ⟨fun h => ?_, fun h0 => ⟨fun h => ?_, fun h1 => ?_⟩⟩
    · rw [la_lt0] at h
      rw [if_neg (fun q => by omega)]
      exact ⟨_, rfl, rfl, rfl, rfl⟩
    · rw [Int32.le_iff_toInt_le, e8] at h
      rw [if_neg (fun q => by omega)]
      exact ⟨_, rfl, rfl, rfl, rfl⟩
    · rw [la_lt0] at h0
      rw [Int32.le_iff_toInt_le, e8] at h1
      obtain ⟨v, hv, rfl⟩ := la_rep (a := a) (m := 8) (by omega) (by omega)
      rw [if_pos ⟨by omega, by omega⟩, la_tn (by omega), (la_nn (n := v) (by omega)).2]
      exact ⟨la_vp hv (by omega), _, rfl, rfl, rfl, rfl⟩
  · rintro _ rfl
    refine ab_enter (n := 1) okMX12_weighedAt.1 (fun G => Nat.le_of_ble_eq_true rfl) ?_
    refine tMX12_weighedAt_0 (d := 1310) ?_
    rintro i1 rfl
    rw [show ab_u i 205 0 0 205 64 = i 205 64 from if_neg (by omega)]
    have key : ∀ b : Int32, ¬ (0 ≤ b.toInt ∧ b.toInt < (i 205 64).toInt) → 0 < (i 205 64).toInt → ab_Fr MX12_weighedAt (1310 + 1) (fun o σ E => ∃ v, o = some v ∧ v = some (.int (if 0 ≤ b.toInt ∧ b.toInt < 8 then i 198 b.toInt.toNat else -1)) ∧ E = ab_E0 sc ∧ la_I R σ) 24 [some (.ref 205), some (.int b)] [] (0, 0) (ab_u i 205 0 0, l, dd, x) (ab_E0 sc) := by
      intro b hb hp
      refine tMX12_weighedAt_24 ⟨_, _, mn_isIn (d := 1309), ?_⟩
      rintro i5 l6 dd7 x8 ⟨⟩
      by_cases c : ¬ b < 5 ∧ ¬ 7 < b
      · rw [if_pos c]
        obtain ⟨c1, c2⟩ := c
        rw [Int32.lt_iff_toInt_lt] at c1 c2
        obtain ⟨v, hv, rfl⟩ := la_rep (a := b) (m := 8) (by omega) (by omega)
        have e2 := la_nat (n := v) (by omega)
        refine ⟨fun z => absurd z (by decide), fun _ => ⟨la_vp hv (by omega), ?_⟩⟩
        rw [(la_nn (n := v) (by omega)).2, ab_u_ne (a := 245) (by omega), if_pos ⟨by omega, by omega⟩, la_tn (by omega), t2 v hv, if_pos ⟨hp, Or.inr (by omega)⟩]
        exact ⟨_, rfl, rfl, rfl, la_thr hI⟩
      · rw [if_neg c]
        refine ⟨fun _ => ?_, fun z => absurd rfl z⟩
        have e : (if 0 ≤ b.toInt ∧ b.toInt < 8 then i 198 b.toInt.toNat else -1) = -1 := by
          split
          · rename_i q
            rw [t2 _ (by omega)]
            refine if_neg (fun z => c ⟨?_, ?_⟩)
            · rw [Int32.lt_iff_toInt_lt, e5]
              omega
            · rw [Int32.lt_iff_toInt_lt, e7]
              omega
          · rfl
        rw [e]
        exact ⟨_, rfl, rfl, rfl, la_thr hI⟩
    refine ⟨fun h => ?_, fun h0 => ⟨fun h => ?_, fun h1 => ⟨fun h => ?_, fun h => ?_⟩⟩⟩
    · rw [Int32.le_iff_toInt_le, e0] at h
      have e : (if 0 ≤ a.toInt ∧ a.toInt < 8 then i 198 a.toInt.toNat else -1) = -1 := by
        split
        · rw [t2 _ (by omega)]
          exact if_neg (fun z => by omega)
        · rfl
      rw [e]
      exact ⟨_, rfl, rfl, rfl, la_thr hI⟩
    · rw [Int32.le_iff_toInt_le, e0] at h0
      rw [la_lt0] at h
      exact key a (by omega) (by omega)
    · rw [Int32.le_iff_toInt_le, e0] at h0
      rw [la_lt0] at h1
      rw [Int32.lt_iff_toInt_lt] at h
      obtain ⟨v, hv, rfl⟩ := la_rep (a := a) (m := 8) (by omega) (by omega)
      have e2 := la_nat (n := v) (by omega)
      rw [(la_nn (n := v) (by omega)).2, ab_u_ne (a := 245) (by omega), if_pos ⟨by omega, by omega⟩, la_tn (by omega), t2 v hv, if_pos ⟨by omega, Or.inl (by omega)⟩]
      exact ⟨la_vp hv (by omega), _, rfl, rfl, rfl, la_thr hI⟩
    · rw [Int32.le_iff_toInt_le, e0] at h0
      rw [Int32.lt_iff_toInt_lt] at h
      exact key a (by omega) (by omega)
theorem mt_empty {m : Nat} (hm : ab_isM m) : ab_Sp MX1_isEmpty (d + 1) [.ref m] (i, l, dd, x) (ab_E0 sc) (some (.int (if i m 1 = 0 then 1 else 0))) (fun σ => σ = (i, l, dd, x)) := by
  refine ab_enter (n := 0) okMX1_isEmpty.1 (fun G => Nat.le_of_ble_eq_true rfl) ?_
  refine tMX1_isEmpty_0 hm ⟨fun h => ?_, fun h => ?_⟩
  · rw [if_neg h]
    exact ⟨_, rfl, rfl, rfl, rfl⟩
  · rw [if_pos h]
    exact ⟨_, rfl, rfl, rfl, rfl⟩
theorem mt_right {a n : Nat} (hk : (ab_E0 sc).1 a = .inr (1, n)) (hn : n = 9) : ab_Sp MX11_rightOf (d + 1) [.ref a] (i, l, dd, x) (ab_E0 sc) (some (.long (l a 0 + l a 4 + l a 8))) (fun σ => σ = (i, l, dd, x)) := by
  subst hn
  refine ab_enter (n := 1) okMX11_rightOf.1 (fun G => Nat.le_of_ble_eq_true rfl) ?_
  exact tMX11_rightOf_0 hk ⟨ab_vp (by decide), ab_vp (by decide), ab_vp (by decide), _, rfl, rfl, rfl, rfl⟩
theorem mt_ws {m j : Nat} (hm : ab_isM m) : la_ws m j = false := by
  rcases hm with rfl | rfl | rfl <;> simp [la_ws]
theorem op_herd (hR : ∀ τ, R τ → ∃ m, τ.2.2.1 179 0 = .ref m ∧ ab_isM m ∧ τ.1 m 1 = τ.1 205 52 ∧ (¬ τ.1 205 52 = 0 → τ.2.1 179 6 = τ.2.1 205 53 ∧ τ.2.1 179 7 = τ.2.1 205 54 ∧ τ.2.1 184 0 + τ.2.1 184 4 + τ.2.1 184 8 = τ.2.1 205 55)) : la_c23 1310 sc (la_I R) := by
  rintro ⟨i, l, dd, x⟩ a hI
  obtain ⟨m, e0, hm, e1, e2⟩ := hR _ hI.2.2
  have e0 : dd 179 0 = .ref m := e0
  have e1 : i m 1 = i 205 52 := by
    have h9 : (if la_ws m 1 then 0 else i m 1) = i 205 52 := e1
    rw [mt_ws hm] at h9
    exact h9
  have e2 : ¬ i 205 52 = 0 → l 179 6 = l 205 53 ∧ l 179 7 = l 205 54 ∧ l 184 0 + l 184 4 + l 184 8 = l 205 55 := e2
  refine ⟨if i 205 52 = 0 then -1 else if a = 0 then l 205 53 else if a = 1 then l 205 54 else if a = 2 then l 205 55 else -1, fun σ => σ = (i, l, dd, x), ?_, ?_⟩
  · refine ab_enter (n := 1) okMX11_herd.1 (fun G => Nat.le_of_ble_eq_true rfl) ?_
    have hs : ab_Sp MX8_isSilent 1310 [.ref 179] (i, l, dd, x) (ab_E0 sc) (some (.int (if i m 1 = 0 then 1 else 0))) (fun σ => σ = (i, l, dd, x)) := by
      refine ab_enter (n := 0) okMX8_isSilent.1 (fun G => Nat.le_of_ble_eq_true rfl) ?_
      refine tMX8_isSilent_0 (d := 1309) (Or.inl rfl) ⟨m, e0, hm, _, _, mt_empty (d := 1308) hm, ?_⟩
      rintro i5 l6 dd7 x8 ⟨⟩
      refine ⟨?_, _, rfl, rfl, rfl, rfl⟩
      split
      · exact Or.inr rfl
      · exact Or.inl rfl
    refine tMX11_herd_0 (d := 1310) ⟨_, _, hs, ?_⟩
    rintro i5 l6 dd7 x8 ⟨⟩
    rw [e1]
    by_cases c : i 205 52 = 0
    · rw [if_pos c, if_pos c]
      exact ⟨fun z => absurd z (by decide), fun _ => ⟨_, rfl, rfl, rfl, rfl⟩⟩
    · rw [if_neg c, if_neg c]
      obtain ⟨k1, k2, k3⟩ := e2 c
      refine ⟨fun _ => ⟨fun h => ?_, fun h => ?_, fun h => ?_, fun h => ?_⟩, fun z => absurd rfl z⟩
      · rw [if_neg (fun z => by rw [z, show (0 : Int32).toInt = 0 from rfl] at h; omega), if_neg (fun z => by rw [z, show (1 : Int32).toInt = 1 from rfl] at h; omega), if_neg (fun z => by rw [z, show (2 : Int32).toInt = 2 from rfl] at h; omega)]
        exact ⟨_, rfl, rfl, rfl, rfl⟩
      · cases la_t0 h
        exact ⟨_, rfl, by rw [k1]; rfl, rfl, rfl⟩
      · cases la_t1 h
        exact ⟨_, rfl, by rw [k2]; rfl, rfl, rfl⟩
      · cases la_t2 h
        refine ⟨_, _, mt_right (d := 1309) (a := 184) (n := 9) (show (ab_E0 sc).1 184 = .inr (1, 9) from rfl) rfl, ?_⟩
        rintro i5 l6 dd7 x8 ⟨⟩
        exact ⟨_, rfl, by rw [k3]; rfl, rfl, rfl⟩
  · rintro _ rfl
    refine ab_enter (n := 1) okMX12_herd.1 (fun G => Nat.le_of_ble_eq_true rfl) ?_
    refine tMX12_herd_0 ?_
    rintro i1 rfl
    rw [show ab_u i 205 0 0 205 52 = i 205 52 from if_neg (by omega)]
    refine ⟨fun c => ?_, fun c => ?_⟩
    · rw [if_neg c]
      refine ⟨fun h0 => ⟨fun h1 => ⟨fun h2 => ?_, fun h2 => ?_⟩, fun h1 => ?_⟩, fun h0 => ?_⟩
      · rw [if_neg h0, if_neg h1, if_neg h2]
        exact ⟨_, rfl, rfl, rfl, la_thr hI⟩
      · rw [if_neg h0, if_neg h1, if_pos h2]
        exact ⟨_, rfl, rfl, rfl, la_thr hI⟩
      · rw [if_neg h0, if_pos h1]
        exact ⟨_, rfl, rfl, rfl, la_thr hI⟩
      · rw [if_pos h0]
        exact ⟨_, rfl, rfl, rfl, la_thr hI⟩
    · rw [if_pos c]
      exact ⟨_, rfl, rfl, rfl, la_thr hI⟩
end TPF
