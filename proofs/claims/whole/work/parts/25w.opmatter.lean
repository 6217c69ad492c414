/-! THE OPERATION matter -/
section TKW
variable {d : Nat} {sc : Nat × (Nat → Int32)} {i : Nat → Nat → Int32} {l : Nat → Nat → Int64} {dd : Nat → Nat → Value} {x : Nat}
theorem ct_spare {m1 m2 : Nat} (h1 : dd 3 11 = .ref m1) (hm1 : ab_isM m1) (h2 : dd 179 0 = .ref m2) (hm2 : ab_isM m2) : ∃ m, ab_isM m ∧ m ≠ m1 ∧ m ≠ m2 ∧ ab_Sp MX11_spareMatter (d + 1) [.ref 3] (i, l, dd, x) (ab_E0 sc) (some (.ref m)) (fun σ => σ = (i, l, dd, x)) := by
  have two : ∀ {Q : ab_Qt}, Q (some (some (.ref 107))) (i, l, dd, x) (ab_E0 sc) → ab_Fr MX11_spareMatter (d + 1) Q 2 [some (.ref 3), some (.int (Int32.ofNat 2))] [] (0, 0) (i, l, dd, x) (ab_E0 sc) := fun hQ => by
    refine tMX11_spareMatter_2 (d := d) ⟨fun _ => hQ, fun y => absurd (show (2 : Int32) ≤ Int32.ofNat 2 by decide) y⟩
  have one : ∀ {Q : ab_Qt} (k : Nat), k < 2 → (7 + 50 * k = m1 ∨ 7 + 50 * k = m2) → ab_Fr MX11_spareMatter (d + 1) Q 2 [some (.ref 3), some (.int (Int32.ofNat (k + 1)))] [] (0, 0) (i, l, dd, x) (ab_E0 sc) → ab_Fr MX11_spareMatter (d + 1) Q 2 [some (.ref 3), some (.int (Int32.ofNat k))] [] (0, 0) (i, l, dd, x) (ab_E0 sc) := fun k hk hc hY => by
    refine tMX11_spareMatter_2 (d := d) ⟨fun y => ?_, fun _ => ?_⟩
    · rw [nn_p2, nn_le (by omega) (by omega)] at y
      omega
    · rw [nn_cl (by omega), la_nx]
      refine ⟨la_vp (by omega) (by omega), m1, h1, hm1, fun _ => hY, fun y => ⟨la_vp (by omega) (by omega), m2, h2, hm2, fun _ => hY, fun y2 => ?_⟩⟩
      rcases hc with c | c
      · exact absurd c y
      · exact absurd c y2
  have hit : ∀ {Q : ab_Qt} (k : Nat), k < 2 → ¬ 7 + 50 * k = m1 → ¬ 7 + 50 * k = m2 → Q (some (some (.ref (7 + 50 * k)))) (i, l, dd, x) (ab_E0 sc) → ab_Fr MX11_spareMatter (d + 1) Q 2 [some (.ref 3), some (.int (Int32.ofNat k))] [] (0, 0) (i, l, dd, x) (ab_E0 sc) := fun k hk c1 c2 hQ => by
    refine tMX11_spareMatter_2 (d := d) ⟨fun y => ?_, fun _ => ?_⟩
    · rw [nn_p2, nn_le (by omega) (by omega)] at y
      omega
    · rw [nn_cl (by omega), la_nx]
      exact ⟨la_vp (by omega) (by omega), m1, h1, hm1, fun y => absurd y c1, fun _ => ⟨la_vp (by omega) (by omega), m2, h2, hm2, fun y => absurd y c2, fun _ => ⟨la_vp (by omega) (by omega), hQ⟩⟩⟩
  by_cases c0 : 7 + 50 * 0 = m1 ∨ 7 + 50 * 0 = m2
  · by_cases c1 : 7 + 50 * 1 = m1 ∨ 7 + 50 * 1 = m2
    · refine ⟨107, Or.inr (Or.inr rfl), by omega, by omega, ?_⟩
      refine ab_ent (n := 0) okMX11_spareMatter.1 (fun G => Nat.le_of_ble_eq_true rfl) (fun Q hQ => ?_)
      exact tMX11_spareMatter_0 (d := d) (one 0 (by omega) c0 (one 1 (by omega) c1 (two (hQ _ rfl))))
    · refine ⟨57, Or.inr (Or.inl rfl), by omega, by omega, ?_⟩
      refine ab_ent (n := 0) okMX11_spareMatter.1 (fun G => Nat.le_of_ble_eq_true rfl) (fun Q hQ => ?_)
      exact tMX11_spareMatter_0 (d := d) (one 0 (by omega) c0 (hit 1 (by omega) (by omega) (by omega) (hQ _ rfl)))
  · refine ⟨7, Or.inl rfl, by omega, by omega, ?_⟩
    refine ab_ent (n := 0) okMX11_spareMatter.1 (fun G => Nat.le_of_ble_eq_true rfl) (fun Q hQ => ?_)
    exact tMX11_spareMatter_0 (d := d) (hit 0 (by omega) (by omega) (by omega) (hQ _ rfl))
theorem kp_157 {m : Nat} (hm : ab_isM m) (h : la_Iv dd) : la_Iv (ab_u dd 157 2 (.ref m)) := by
  obtain ⟨a, b, c, e, f, g⟩ := h
  refine ⟨?_, ⟨m, uu_e, hm⟩, ?_, ?_, ?_, ?_⟩
  · rw [uu_k (by decide)]; exact a
  · rw [uu_k (by decide)]; exact c
  · rw [uu_k (by decide)]; exact e
  · rw [uu_k (by decide)]; exact f
  · rw [uu_k (by decide)]; exact g
theorem kp_311 {m : Nat} (hm : ab_isM m) (h : la_Iv dd) : la_Iv (ab_u dd 3 11 (.ref m)) := by
  obtain ⟨a, b, c, e, f, g⟩ := h
  refine ⟨⟨m, uu_e, hm⟩, ?_, ?_, ?_, ?_, ?_⟩
  · rw [uu_k (by decide)]; exact b
  · rw [uu_k (by decide)]; exact c
  · rw [uu_k (by decide)]; exact e
  · rw [uu_k (by decide)]; exact f
  · rw [uu_k (by decide)]; exact g
/-- between the class and the model -/
def op_mid (m : Nat) (R : rs_) (i : Nat → Nat → Int32) (l : Nat → Nat → Int64) (dd : Nat → Nat → Value) (σ : ab_S) : Prop := ∃ i1 l1 d1 x1, σ = (i1, l1, d1, x1) ∧ (∀ k j, (k < m ∨ m + 47 < k) → k ≠ 157 → k ≠ 4 → i1 k j = i k j) ∧ (∀ k j, k ≠ 157 → k ≠ 158 → k ≠ 159 → k ≠ m + 49 → l1 k j = l k j) ∧ i1 4 1 = 0 ∧ i1 157 0 = Int32.ofNat R.1 ∧ (d1 179 0 = dd 179 0 ∧ la_Iv d1) ∧ (R.1 = 0 → mt_K (A_of R.2.2) m i1 ∧ d1 3 11 = .ref m) ∧ (R.1 ≠ 0 → d1 3 11 = dd 3 11)
theorem op_matter : la_c2 1310 sc (la_I RF) := by
  rintro ⟨i, l, dd, x⟩ hI
  obtain ⟨n, h2, hn⟩ := tq_it hI
  have h4 : i 4 1 = Int32.ofNat n := by rw [← h2]; exact hI.1.2.1.symm
  obtain ⟨A, B, o, ⟨hWA, ⟨mA0, eA0, hmA0, hKA0⟩, hMA⟩, ⟨hWB, hTB⟩, hKK, hF0⟩ := RF_of hI
  have hTB2 := hTB
  obtain ⟨⟨mB0, eB0, hmB0, hKB0⟩, -⟩ := hTB2
  obtain ⟨mA, eA, hmA, hKA⟩ : ∃ m : Nat, dd 3 11 = .ref m ∧ ab_isM m ∧ mt_K A m i := ⟨mA0, eA0, hmA0, hKA0⟩
  obtain ⟨mB, eB, hmB, hKB⟩ : ∃ m : Nat, dd 179 0 = .ref m ∧ ab_isM m ∧ mt_K B m i := ⟨mB0, eB0, hmB0, hKB0⟩
  obtain ⟨m, hm, hmA2, hmB2, hS⟩ := ct_spare (d := 1309) (sc := sc) (i := i) (l := l) (x := x) eA hmA eB hmB
  have hTz : ct_z (tp_p i, n) i := ⟨hn, h4, fun j hj => ⟨(tp_pe hI (show j < 740 by have : j < n := hj; omega)).1, (tp_pe hI (show j < 740 by have : j < n := hj; omega)).2.1⟩⟩
  have hokR := ok_all (z := (tp_p i, n)) hn 741 ps0 0
  have hPI := p_all_I (z := (tp_p i, n)) hn 741 ps0 0 (by omega) (Nat.zero_le _) PI_0 (by decide)
  have hm157 : m + 49 < 157 := by rcases hm with rfl | rfl | rfl <;> omega
  have hm7 : 7 ≤ m := by rcases hm with rfl | rfl | rfl <;> omega
  have hdisA : ∀ k, mA ≤ k → k ≤ mA + 47 → k < m ∨ m + 47 < k := fun k h1 h2 => by
    rcases hm with rfl | rfl | rfl <;> rcases hmA with rfl | rfl | rfl <;> omega
  have hdisB : ∀ k, mB ≤ k → k ≤ mB + 47 → k < m ∨ m + 47 < k := fun k h1 h2 => by
    rcases hm with rfl | rfl | rfl <;> rcases hmB with rfl | rfl | rfl <;> omega
  have hmAl : mA + 47 < 157 := by rcases hmA with rfl | rfl | rfl <;> omega
  have hmBl : mB + 47 < 157 := by rcases hmB with rfl | rfl | rfl <;> omega
  have hmA7 : 7 ≤ mA := by rcases hmA with rfl | rfl | rfl <;> omega
  have hmB7 : 7 ≤ mB := by rcases hmB with rfl | rfl | rfl <;> omega
  refine ⟨rd_a (p_all (tp_p i, n) 741 ps0 0), op_mid m (p_all (tp_p i, n) 741 ps0 0) i l dd, ?_, ?_⟩
  · refine ab_ent (n := 0) okMX11_matter.1 (fun G => Nat.le_of_ble_eq_true rfl) (fun Q hQ => ?_)
    refine tMX11_matter_0 (d := 1310) ⟨m, _, hm, hS, ?_⟩
    rintro i5 l6 dd7 x8 ⟨⟩
    refine ⟨_, _, ct_read (d := 1303) hTz hm, ?_⟩
    rintro i14 l15 dd16 x17 ⟨i2, l2, ⟨⟩, F2, c0, cR⟩
    by_cases hc : (p_all (tp_p i, n) 741 ps0 0).1 = 0
    · obtain ⟨hPI1, hPI2, hPI3⟩ := hPI hc
      rw [show rd_a (p_all (tp_p i, n) 741 ps0 0) = Int32.ofNat ((p_all (tp_p i, n) 741 ps0 0).2.2 0 7) from if_pos hc] at hQ ⊢
      refine ⟨fun y => absurd y (by rw [nn_l0 (by omega)]; exact id), fun _ => ⟨_, ct_finish (d := 1304) hm hPI1 hPI2 (cR hc), ?_⟩⟩
      rintro i24 l25 dd26 x27 ⟨i3, l3, ⟨⟩, F3, g3, K3⟩
      rintro dd29 rfl
      refine tMX11_matter_27 (d := 1310) ⟨_, mt_clear (d := 1309), ?_⟩
      rintro i5 l6 dd7 x8 ⟨⟩
      refine hQ _ ⟨_, _, _, _, rfl, fun k j h1 h3 h5 => ?_, fun k j h1 h3 h5 h6 => ?_, uu_e, ?_, ⟨?_, kp_311 hm (kp_157 hm hI.2.1)⟩, fun _ => ⟨mt_Kp hm (A_W hPI1 hPI2) (fun k j h1 h3 => uu_k (by omega)) K3, uu_e⟩, fun y => absurd hc y⟩
      · rw [uu_k h5, F3 k (by omega), F2.1 k j (by omega) (by omega)]
      · rw [g3 k (by omega), F2.2 k h1 h3 h5]
      · rw [uu_k (by omega), F3 157 (by omega)]
        exact c0
      · rw [uu_k (by omega), uu_k (by omega)]
    · have hpl := hokR.2 hc
      rw [show rd_a (p_all (tp_p i, n) 741 ps0 0) = -1 - Int32.ofNat (p_all (tp_p i, n) 741 ps0 0).2.1 from if_neg hc] at hQ ⊢
      refine ⟨fun _ => ?_, fun y => absurd (rd_n hpl) y⟩
      refine tMX11_matter_27 (d := 1310) ⟨_, mt_clear (d := 1309), ?_⟩
      rintro i5 l6 dd7 x8 ⟨⟩
      refine hQ _ ⟨_, _, _, _, rfl, fun k j h1 h3 h5 => ?_, fun k j h1 h3 h5 h6 => ?_, uu_e, ?_, ⟨uu_k (by omega), kp_157 hm hI.2.1⟩, fun y => absurd y hc, fun _ => uu_k (by omega)⟩
      · rw [uu_k h5, F2.1 k j (by omega) (by omega)]
      · rw [F2.2 k h1 h3 h5]
      · rw [uu_k (by omega)]
        exact c0
  · rintro σ1 ⟨i1, l1, d1, x1, rfl, F1, G1, t4, t157, ⟨d179, hIv⟩, hY, hN⟩
    have hM := md_matter (d := 1303) (sc := sc) (z := (tp_p i, n)) (i := i1) (l := l1) (dd := d1) (x := x1) hn (by rw [F1 205 2 (by omega) (by omega) (by omega)]; exact h2) (fun j hj => ⟨by rw [F1 206 j (by omega) (by omega) (by omega)]; exact (tp_pe hI (show j < 740 by have : j < n := hj; omega)).2.2, (tp_pe hI (show j < 740 by have : j < n := hj; omega)).2.1⟩)
    refine ab_call_mono hM ?_
    rintro v2 σ2 E2 ⟨rfl, rfl, i2, l2, rfl, ⟨b1, b2⟩, t2, t8, y2, n2⟩
    refine ⟨rfl, rfl, ?_⟩
    have bb : ∀ k j, (k < m ∨ m + 47 < k) → k ≠ 157 → k ≠ 4 → ¬ (k = 205 ∧ (j ≤ 10 ∨ 27 ≤ j ∧ j ≤ 31)) → ¬ (209 ≤ k ∧ k ≤ 223) → k ≠ 225 → i2 k j = i k j := fun k j h1 h2 h3 h4 h5 h6 => (b1 k j h4 h5 h6).trans (F1 k j h1 h2 h3)
    have bl : ∀ k j, k ≠ 157 → k ≠ 158 → k ≠ 159 → k ≠ m + 49 → k ≠ 207 → k ≠ 208 → k ≠ 224 → ¬ (k = 205 ∧ j = 10) → l2 k j = l k j := fun k j h1 h2 h3 h4 h5 h6 h7 h8 => (b2 k j h5 h6 h7 h8).trans (G1 k j h1 h2 h3 h4)
    refine ⟨?_, hIv, RF_to ?_⟩
    · have e4 : i2 4 1 = 0 := (b1 4 1 (by omega) (by omega) (by omega)).trans t4
      refine ⟨?_, ?_, fun j hj => ?_⟩
      · dsimp only
        rw [e4]
        exact ⟨by decide, by decide⟩
      · dsimp only
        rw [e4, t2]
      · dsimp only
        rw [bb 5 j (by omega) (by omega) (by omega) (by omega) (by omega) (by omega), bb 206 j (by omega) (by omega) (by omega) (by omega) (by omega) (by omega)]
        exact hI.1.2.2 j hj
    · have hT2 : tn_K B o (i2, l2, d1, x1) := tn_Kp (τ := (i, l, dd, x)) hWB d179 (fun mm e hmm k j h1 h3 => by
        have e : dd 179 0 = .ref mm := e
        rw [eB] at e
        cases e
        exact bb k j (hdisB k h1 h3) (by omega) (by omega) (by omega) (by omega) (by omega)) (fun k j hk => by
        unfold pT_ at hk
        exact bb k j (by omega) (by omega) (by omega) (by omega) (by omega) (by omega)) (fun k j hk => by
        unfold qT_ at hk
        exact bl k j (by omega) (by omega) (by omega) (by omega) (by omega) (by omega) (by omega) (by omega)) hTB
      have hK2 : rK_ (i2, l2, d1, x1) := rK_f (τ := (i, l, dd, x)) (fun k j hk => by
        unfold pK_ at hk
        exact bb k j (by omega) (by omega) (by omega) (by omega) (by omega) (by omega)) (fun k j hk => by
        unfold qK_ at hk
        exact bl k j (by omega) (by omega) (by omega) (by omega) (by omega) (by omega) (by omega) (by omega)) hKK
      have hF2 : i2 157 0 = i2 205 8 := by
        rw [t8, b1 157 0 (by omega) (by omega) (by omega)]
        exact t157
      by_cases hc : (p_all (tp_p i, n) 741 ps0 0).1 = 0
      · obtain ⟨hPI1, hPI2, hPI3⟩ := hPI hc
        obtain ⟨y3, y4⟩ := hY hc
        have hWn := A_W hPI1 hPI2
        exact ⟨_, B, o, ⟨hWn, ⟨m, y4, hm, mt_Kp hm hWn (fun k j h1 h3 => b1 k j (by omega) (by omega) (by omega)) y3⟩, y2 hc⟩, ⟨hWB, hT2⟩, hK2, hF2⟩
      · obtain ⟨n3, n4⟩ := n2 hc
        refine ⟨A, B, o, ⟨hWA, ⟨mA, (hN hc).trans eA, hmA, mt_Kp hmA hWA (fun k j h1 h3 => bb k j (hdisA k h1 h3) (by omega) (by omega) (by omega) (by omega) (by omega)) hKA⟩, mt_Mp hWA (fun k j hk => ?_) (fun j => ?_) hMA⟩, ⟨hWB, hT2⟩, hK2, hF2⟩
        · show i2 k j = i k j
          rw [n3 k j hk]
          unfold pM_ at hk
          exact F1 k j (by omega) (by omega) (by omega)
        · show l2 224 j = l 224 j
          rw [n4 j]
          exact G1 _ j (by omega) (by omega) (by omega) (by omega)
end TKW
