section TPO
variable {sc : Nat × (Nat → Int32)} {R : ab_S → Prop}
theorem la_u41 {i : Nat → Nat → Int32} {k : Nat} {v : Int32} (h : k ≠ 4) : ab_u i 4 1 v k = i k := ab_u_ne h
theorem mt_C4 {i : Nat → Nat → Int32} {m : Nat} {v : Int32} (hm : ab_isM m) (hC : mt_C i m) : mt_C (ab_u i 4 1 v) m := by
  have h1 : m ≠ 4 := by rcases hm with rfl | rfl | rfl <;> decide
  have h2 : ∀ u : Nat, m + 5 + 6 * u ≠ 4 := fun u => by omega
  have h3 : m + 47 ≠ 4 := by omega
  obtain ⟨c1, c2, c3, c4⟩ := hC
  unfold mt_C
  rw [la_u41 h1, la_u41 (k := 205) (by decide), la_u41 (k := 212) (by decide), la_u41 (k := 225) (by decide), la_u41 h3]
  exact ⟨c1, c2, fun u hu hu2 => by rw [la_u41 (h2 u)]; exact c3 u hu hu2, c4⟩
theorem mt_Sg4 {i : Nat → Nat → Int32} {v : Int32} : mt_Sg (ab_u i 4 1 v) = mt_Sg i := by
  funext u
  unfold mt_Sg
  rw [la_u41 (by decide)]
theorem mt_bt4 {i : Nat → Nat → Int32} {v : Int32} : mt_bt (ab_u i 4 1 v) = mt_bt i := by
  funext u
  unfold mt_bt
  rw [la_u41 (by decide)]
theorem mt_X4 {i : Nat → Nat → Int32} {v : Int32} (hX : mt_X i) : mt_X (ab_u i 4 1 v) := by
  unfold mt_X
  rw [mt_Sg4, la_u41 (by decide), la_u41 (by decide)]
  exact hX
theorem mt_toldM4 {i : Nat → Nat → Int32} {v : Int32} : mt_toldM (ab_u i 4 1 v) ↔ mt_toldM i := by
  unfold mt_toldM
  rw [la_u41 (by decide), la_u41 (by decide), la_u41 (by decide)]
theorem op_parts (hR : mt_RP R) : la_c6 1310 sc (la_I R) := by
  rintro ⟨i, l, dd, x⟩ a hI
  obtain ⟨m, e0, hm, hC, hL, hX, hP⟩ := hR _ _ _ _ hI
  have h7 := hC.2.1
  have hT := hL.2.1
  have h5 : ∀ j, j < 740 → la_byte (i 5 j) := fun j hj => (hI.1.2.2 j hj).2
  have h65 : ∀ j, j < 740 → i 206 j = i 5 j := fun j hj => (hI.1.2.2 j hj).1
  have h6 : ∀ j, j < 740 → la_byte (i 206 j) := fun j hj => by rw [h65 j hj]; exact h5 j hj
  obtain ⟨r, hr, hs⟩ := mt_hasSigns (sc := sc) (l := l) (dd := dd) (x := x) hm hC h5
  have hiff := mt_told_iff hI.1 hC
  by_cases c : (0 ≤ a.toInt ∧ a.toInt < (i 205 29).toInt) ∧ mt_told i
  · obtain ⟨c1, c2⟩ := c
    obtain ⟨t, ht, rfl⟩ := la_rep (a := a) (m := 3) c1.1 (by omega)
    have et := la_nat (n := t) (by omega)
    have hr1 : r = 1 := by
      rcases hr with h | h
      · exact h.1
      · exact absurd c2 h.2
    have hb3 : ∀ v : Nat, (v : Int) < (i 205 30).toInt → 0 ≤ (i 5 v).toInt ∧ (i 5 v).toInt < 3 := fun v hv => by
      have h1 := c2.2.2 v hv
      have h2 := (hC.2.2.1 v (by omega) hv).2.2
      have h3 := (h5 v (by omega)).1
      omega
    have hbS : ∀ v : Nat, (v : Int) < (i 205 30).toInt → mt_bt i v < mt_Sg i v := fun v hv => by
      have h1 := c2.2.2 v hv
      have h3 := (h5 v (by omega)).1
      unfold mt_bt mt_Sg
      rw [h65 v (by omega)]
      omega
    have hrow := mt_row_lt (S := mt_Sg i) (b := mt_bt i) (i 205 30).toInt.toNat (fun v hv => hbS v (by omega))
    have hle := mt_rad_le (S := mt_Sg i) (i 205 30).toInt.toNat (fun v hv => by have := (hC.2.2.1 v (by omega) (by omega)).2.2; unfold mt_Sg; omega)
    have h37 : (3 : Nat) ^ (i 205 30).toInt.toNat ≤ 3 ^ 7 := Nat.pow_le_pow_right (by omega) (by omega)
    have h2187 : (3 : Nat) ^ 7 = 2187 := rfl
    have hq := mt_parts_eq (b := mt_bt i) hC hL hP (t := t) (by omega) hbS
    have hq2 : mt_pr (i (m + 1) t).toInt64 (fun v => i (m + 5 + 6 * v + 1) (3 * t + (i 5 v).toInt.toNat)) (i 205 30).toInt.toNat = l 224 (3 * mt_row (mt_Sg i) (mt_bt i) (i 205 30).toInt.toNat + t) := by
      rw [← hq]
      refine mt_pr_eq _ (fun v hv => ?_)
      unfold mt_bt
      rw [h65 v (by omega)]
    have pOf := mt_partsOf (d := 1308) (sc := sc) (l := l) (dd := dd) (x := x) (n := 740) (a := 5) hm (show (ab_E0 sc).1 5 = .inr (0, 740) from rfl) (by omega) hC ht hb3
    rw [hq2] at pOf
    generalize hv9 : l 224 (3 * mt_row (mt_Sg i) (mt_bt i) (i 205 30).toInt.toNat + t) = v9 at pOf
    refine ⟨some v9, v9, fun σ1 => ∃ l2 x2, σ1 = (ab_u i 4 1 0, l2, dd, x2) ∧ ∀ k, k ≠ 249 → l2 k = l k, fun σ => la_I R σ ∧ σ.1 205 0 = 0, ?_, ?_, ?_, ?_, fun w hw => by cases hw; rfl⟩
    · refine ab_enterX (n := 1) okMX11_parts.1 (fun G => Nat.le_of_ble_eq_true rfl) (by omega) ?_
      refine tMX11_parts_0 (d := 1309) ⟨m, e0, hm, _, _, mt_hasT (d := 1308) hm, ?_⟩
      rintro i5 l6 dd7 x8 ⟨⟩
      rw [hL.1, if_pos c1]
      refine ⟨fun z => absurd z (by decide), fun _ => ⟨m, e0, hm, _, _, hs 1306, ?_⟩⟩
      rintro i5 l6 dd7 x8 ⟨⟩
      rw [hr1]
      refine ⟨fun _ => ⟨m, e0, hm, _, _, pOf, ?_⟩, fun z => absurd z (by decide)⟩
      rintro i5 l6 dd7 x8 ⟨⟩
      refine ⟨_, mt_clear (d := 1308), ?_⟩
      rintro i5 l6 dd7 x8 ⟨⟩
      exact ⟨rfl, rfl, l, x, rfl, fun _ _ => rfl⟩
    · rintro σ1 w ⟨l2, x2, rfl, h2⟩
      refine ⟨_, _, rfl, fun k hk => ?_⟩
      dsimp only
      rw [ab_u_ne hk]
      exact h2 k hk
    · rintro σ1 ⟨l2, x2, rfl, h2⟩
      obtain ⟨r2, hr2, hs2⟩ := mt_rowTold (sc := sc) (l := l2) (dd := dd) (x := x2) (mt_C4 (v := 0) hm hC) (mt_X4 (v := 0) hX) (by rw [la_u41 (by decide)]; exact h6)
      rw [mt_toldM4, mt_Sg4, mt_bt4, la_u41 (k := 205) (by decide)] at hr2
      have hr3 : r2 = Int32.ofNat (mt_row (mt_Sg i) (mt_bt i) (i 205 30).toInt.toNat) := by
        rcases hr2 with h | h
        · exact h.1
        · exact absurd (hiff.mp c2) h.2
      generalize hN : mt_row (mt_Sg i) (mt_bt i) (i 205 30).toInt.toNat = N at hr3 hrow hv9
      refine ab_enter (n := 1) okMX12_parts.1 (fun G => Nat.le_of_ble_eq_true rfl) ?_
      refine tMX12_parts_0 (d := 1310) ⟨_, _, hs2 1309, ?_⟩
      rintro i5 l6 dd7 x8 ⟨⟩
      refine ⟨_, _, mt_isT (d := 1309), ?_⟩
      rintro i5 l6 dd7 x8 ⟨⟩
      rw [show ab_u i 4 1 0 205 29 = i 205 29 from if_neg (by omega), if_pos c1]
      refine ⟨fun z => absurd z (by decide), fun _ => ⟨fun _ => ?_, fun z => ?_⟩⟩
      · rintro i1 rfl i2 rfl
        rw [hr3, la_3']
        refine ⟨la_vp (by omega) (by omega), ?_⟩
        rw [(la_nn (n := 3 * N + t) (by omega)).2, h2 224 (by decide), hv9]
        refine ⟨_, rfl, rfl, rfl, rfl, la_cut0 hI h2, ?_⟩
        show ab_u (ab_u (ab_u i 4 1 0) 205 0 0) 205 2 0 205 0 = 0
        rw [show ab_u (ab_u (ab_u i 4 1 0) 205 0 0) 205 2 0 205 0 = ab_u (ab_u i 4 1 0) 205 0 0 205 0 from if_neg (by omega)]
        exact la_uv
      · exfalso
        rw [hr3] at z
        have h9 := la_nat (n := N) (by omega)
        rw [z] at h9
        have h8 : ((-1 : Int32).toInt) = -1 := rfl
        omega
    · rintro ⟨i3, l3, dd3, x3⟩ ⟨h, e⟩
      refine ⟨h, ?_⟩
      rw [if_neg (fun z => by cases z), ← e]
      exact mn_thrown (d := 1310)
  · refine ⟨none, 0, fun σ1 => la_I R σ1 ∧ ∃ l2 x2, σ1 = (i, l2, dd, x2), fun σ => la_I R σ ∧ σ.1 205 0 = 1, ?_, ?_, ?_, ?_, fun w hw => by cases hw⟩
    · refine ab_enterX (n := 1) okMX11_parts.1 (fun G => Nat.le_of_ble_eq_true rfl) (by omega) ?_
      have thr : ∀ (Q : ab_Qt), Q none (i, l, dd, x + 1) (ab_E0 sc) → ab_Fr MX11_parts (1309 + 1) Q 25 [none, none, none, none] [] (0, 0) (i, l, dd, x) (ab_E0 sc) := fun Q h => tMX11_parts_25 h
      refine tMX11_parts_0 (d := 1309) ⟨m, e0, hm, _, _, mt_hasT (d := 1308) hm, ?_⟩
      rintro i5 l6 dd7 x8 ⟨⟩
      rw [hL.1]
      refine ⟨fun _ => thr _ ⟨rfl, rfl, la_x hI, l, x + 1, rfl⟩, fun g => ⟨m, e0, hm, _, _, hs 1306, ?_⟩⟩
      rintro i5 l6 dd7 x8 ⟨⟩
      have c1 : 0 ≤ a.toInt ∧ a.toInt < (i 205 29).toInt := by
        rcases Classical.em (0 ≤ a.toInt ∧ a.toInt < (i 205 29).toInt) with q | q
        · exact q
        · rw [if_neg q] at g
          exact absurd rfl g
      have hr0 : r = 0 := by
        rcases hr with h | h
        · exact absurd ⟨c1, h.2⟩ c
        · exact h.1
      exact ⟨fun z => absurd hr0 z, fun _ => thr _ ⟨rfl, rfl, la_x hI, l, x + 1, rfl⟩⟩
    · rintro σ1 w ⟨h, l2, x2, rfl⟩
      exact ⟨la_out h, _, _, rfl⟩
    · rintro σ1 ⟨h, l2, x2, rfl⟩
      obtain ⟨r2, hr2, hs2⟩ := mt_rowTold (sc := sc) (l := l2) (dd := dd) (x := x2) hC hX h6
      refine ab_enter (n := 1) okMX12_parts.1 (fun G => Nat.le_of_ble_eq_true rfl) ?_
      have ref : ab_Fr MX12_parts (1310 + 1) (fun o σ E => ∃ v, o = some v ∧ v = some (.long 0) ∧ E = ab_E0 sc ∧ σ.2.1 249 0 = l2 249 0 ∧ la_I R σ ∧ σ.1 205 0 = 1) 18 [some (.ref 205), none, none] [] (0, 0) (i, l2, dd, x2) (ab_E0 sc) := by
        refine tMX12_parts_18 (d := 1310) ⟨_, _, mn_refuse (d := 1309), ?_⟩
        rintro i5 l6 dd7 x8 ⟨⟩
        exact ⟨_, rfl, rfl, rfl, rfl, la_thr h, show ab_u i 205 0 (1 : Int32) 205 0 = 1 from la_uv⟩
      refine tMX12_parts_0 (d := 1310) ⟨_, _, hs2 1309, ?_⟩
      rintro i5 l6 dd7 x8 ⟨⟩
      refine ⟨_, _, mt_isT (d := 1309), ?_⟩
      rintro i5 l6 dd7 x8 ⟨⟩
      refine ⟨fun _ => ref, fun g => ⟨fun z => ?_, fun _ => ref⟩⟩
      exfalso
      have c1 : 0 ≤ a.toInt ∧ a.toInt < (i 205 29).toInt := by
        rcases Classical.em (0 ≤ a.toInt ∧ a.toInt < (i 205 29).toInt) with q | q
        · exact q
        · rw [if_neg q] at g
          exact absurd rfl g
      rcases hr2 with q | q
      · exact c ⟨c1, hiff.mpr q.2⟩
      · exact z q.1
    · rintro ⟨i3, l3, dd3, x3⟩ ⟨h, e⟩
      refine ⟨h, ?_⟩
      rw [if_pos rfl, ← e]
      exact mn_thrown (d := 1310)
end TPO
