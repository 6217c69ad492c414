/-! the call settle -/
section TQJ2
variable {d : Nat} {sc : Nat × (Nat → Int32)} {i : Nat → Nat → Int32} {l : Nat → Nat → Int64} {dd : Nat → Nat → Value} {x : Nat}
theorem mt_settleV {A : mA_} {m : Nat} (hW : mt_W A) (hp : 0 < aV_ A) (hm : ab_isM m) (hK : mt_K A m i) : (st_f A 50 0 = none → ab_Sp MX3_settleVotes (d + 6) [.ref 169, .ref m] (i, l, dd, x) (ab_E0 sc) (some (.int (-1))) (fun σ => ∃ i2 l2 d2, σ = (i2, l2, d2, x) ∧ st_P m i l dd i2 l2 d2)) ∧ ∀ r, st_f A 50 0 = some r → ab_Sp MX3_settleVotes (d + 6) [.ref 169, .ref m] (i, l, dd, x) (ab_E0 sc) (some (.int (Int32.ofNat r))) (fun σ => ∃ i2 l2 d2, σ = (i2, l2, d2, x) ∧ st_Q A i l dd i2 l2 d2 (st_n A r)) := by
  refine ⟨fun hF => ?_, fun r hF => ?_⟩
  · refine ab_ent (n := 1) okMX3_settleVotes.1 (fun G => Nat.le_of_ble_eq_true rfl) (fun Q hQ => ?_)
    refine tMX3_settleVotes_0 (d := d + 5) hm (st_2 (d := d) (i0 := i) hW hm hK ?_ 21 0 i (by omega) fr_r (fun j hj => absurd hj (Nat.not_lt_zero j)))
    intro i2 f2 V2
    refine st_28 (d := d) (F := st_f A 50 0) (i0 := i) (l0 := l) (d0 := dd) hW hp hm hK (fun i3 l3 d3 _ P3 => hQ _ ⟨i3, l3, d3, rfl, P3⟩) (fun r i3 l3 d3 h _ => by rw [hF] at h; cases h) 50 0 i2 l dd rfl rfl ⟨st_o3 f2, fun _ _ _ => rfl, kp_dr, id⟩ V2
  · refine ab_ent (n := 1) okMX3_settleVotes.1 (fun G => Nat.le_of_ble_eq_true rfl) (fun Q hQ => ?_)
    refine tMX3_settleVotes_0 (d := d + 5) hm (st_2 (d := d) (i0 := i) hW hm hK ?_ 21 0 i (by omega) fr_r (fun j hj => absurd hj (Nat.not_lt_zero j)))
    intro i2 f2 V2
    refine st_28 (d := d) (F := st_f A 50 0) (i0 := i) (l0 := l) (d0 := dd) hW hp hm hK (fun i3 l3 d3 h _ => by rw [hF] at h; cases h) (fun r2 i3 l3 d3 h Q3 => ?_) 50 0 i2 l dd rfl rfl ⟨st_o3 f2, fun _ _ _ => rfl, kp_dr, id⟩ V2
    rw [hF] at h
    cases h
    exact hQ _ ⟨i3, l3, d3, rfl, Q3⟩
/-- stores that differ where settle keeps its answers alone -/
def st_E (τ τ2 : ab_S) : Prop := (∀ k j, k ≠ 174 → k ≠ 229 → k ≠ 230 → ¬ (k = 205 ∧ j = 41) → τ2.1 k j = τ.1 k j) ∧ (∀ k j, ¬ (k = 169 ∧ (j = 7 ∨ j = 8)) → ¬ (k = 205 ∧ (j = 42 ∨ j = 43)) → τ2.2.1 k j = τ.2.1 k j) ∧ τ2.2.2.1 = τ.2.2.1
def st_K (τ : ab_S) : Prop := la_tab τ.1 41 230 229 174 ∧ (τ.2.1 169 7 = (if τ.1 205 41 = 0 then -1 else τ.2.1 205 42) ∧ τ.2.1 169 8 = (if τ.1 205 41 = 0 then -1 else τ.2.1 205 43))
theorem kp_P {m : Nat} {i2 : Nat → Nat → Int32} {l2 : Nat → Nat → Int64} {d2 : Nat → Nat → Value} (h : st_P m i l dd i2 l2 d2) : kp_i i i2 ∧ kp_l l l2 ∧ kp_d dd d2 :=
  ⟨kp_ic (fun k hk => h.1 k (fun q => by
    have := kp_c18 k q.1 q.2
    rw [hk] at this
    cases this) (kp_ne hk 173 rfl)), kp_ho h.2.1, h.2.2.1⟩
theorem kp_ms {i2 : Nat → Nat → Int32} {l2 : Nat → Nat → Int64} (h : ms_P i l i2 l2) : kp_i i i2 ∧ kp_l l l2 := by
  refine ⟨⟨fun k j hk => ?_, h.1 5 (by decide) (by decide) (by decide) (by decide), h.1 206 (by decide) (by decide) (by decide) (by decide), by rw [h.1 4 (by decide) (by decide) (by decide) (by decide)], by rw [h.1 205 (by decide) (by decide) (by decide) (by decide)]⟩, kp_lo h.2.2 kp_c8⟩
  by_cases c5 : k = 225
  · subst c5
    refine h.2.1 j ?_
    rcases Nat.lt_or_ge j 21 with c | c
    · exact c
    · exfalso
      simp [la_ws, c] at hk
  · have nq : ∀ q, kp_s q = true → k ≠ q := fun q hq z => by
      rw [z, kp_sw hq] at hk
      cases hk
    rw [h.1 k c5 (nq 226 rfl) (nq 227 rfl) (nq 231 rfl)]
theorem op_settle {R : ab_S → Prop} {A : mA_} (hA : op_A R A) (hC : ∀ τ τ2, R τ → st_E τ τ2 → st_K τ2 → R τ2) : la_c19 1310 sc (la_I R) := by
  rintro ⟨i, l, dd, x⟩ hI
  obtain ⟨hW, hA2⟩ := hA
  have w2 := hW.2.1
  have w7 := hW.2.2.2.2.2.2.1
  obtain ⟨m, e0, hm, hK, hM⟩ := hA2 _ _ _ _ hI
  have hz := mt_z30 hW hK
  by_cases c : aV_ A = 0
  · refine ⟨-1, la_I R, ?_, ?_⟩
    · refine ab_ent (n := 0) okMX11_settle.1 (fun G => Nat.le_of_ble_eq_true rfl) (fun Q hQ => ?_)
      refine tMX11_settle_0 (d := 1310) ⟨m, e0, hm, _, _, mt_empty (d := 1309) hm, ?_⟩
      rintro i5 l6 dd7 x8 ⟨⟩
      rw [if_pos (hz.mpr c)]
      exact ⟨fun z => absurd z (by decide), fun _ => hQ _ hI⟩
    · rintro ⟨i, l, dd, x⟩ hI
      obtain ⟨m, e0, hm, hK, hM⟩ := hA2 _ _ _ _ hI
      refine ab_ent (n := 0) okMX12_settle.1 (fun G => Nat.le_of_ble_eq_true rfl) (fun Q hQ => ?_)
      refine tMX12_settle_0 (d := 1310) ?_
      rintro i1 rfl
      rw [uu_j (by decide), mt_z31 hW hM]
      exact ⟨fun z => absurd c z, fun _ => hQ _ (la_thr hI)⟩
  · have hp : 0 < aV_ A := by omega
    have hSV := mt_settleV (d := 1304) (sc := sc) (l := l) (dd := dd) (x := x) hW hp hm hK
    cases hF : st_f A 50 0 with
    | none =>
      refine ⟨-1, la_I R, ?_, ?_⟩
      · refine ab_ent (n := 0) okMX11_settle.1 (fun G => Nat.le_of_ble_eq_true rfl) (fun Q hQ => ?_)
        refine tMX11_settle_0 (d := 1310) ⟨m, e0, hm, _, _, mt_empty (d := 1309) hm, ?_⟩
        rintro i5 l6 dd7 x8 ⟨⟩
        rw [if_neg (fun z => c (hz.mp z))]
        refine ⟨fun _ => ⟨m, e0, hm, _, _, hSV.1 hF, ?_⟩, fun z => absurd rfl z⟩
        rintro i5 l6 dd7 x8 ⟨i2, l2, d2, ⟨⟩, P2⟩
        obtain ⟨k1, k2, k3⟩ := kp_P P2
        exact hQ _ (kp_I hI k1 k2 k3)
      · rintro ⟨i, l, dd, x⟩ hI
        refine ab_ent (n := 0) okMX12_settle.1 (fun G => Nat.le_of_ble_eq_true rfl) (fun Q hQ => ?_)
        refine tMX12_settle_0 (d := 1310) ?_
        rintro i1 rfl
        have hI2 := la_thr (v := 0) (x2 := x) hI
        obtain ⟨m, e0, hm, hK, hM2⟩ := hA2 _ _ _ _ hI2
        rw [mt_z31 hW hM2]
        refine ⟨fun _ => ⟨_, md_tryTold (d := 1309) hW hM2, ?_⟩, fun z => absurd z c⟩
        rintro i8 l9 dd10 x11 ⟨i2, ⟨⟩, f2, V2⟩
        refine ms_20 (d := 1307) (F := none) (i0 := i8) (l0 := l) hW hp (md_fM hM2 f2 hW) (fun i3 l3 _ P3 => ?_) (fun r i3 l3 h _ => by cases h) 50 0 i8 l rfl hF.symm ms_r V2
        obtain ⟨k1, k2⟩ := kp_ms P3
        exact hQ _ (kp_I hI2 (kp_it (md_kp f2) k1) k2 kp_dr)
    | some r =>
      refine ⟨Int32.ofNat r, fun σ => ∃ i2 l2 d2 x2, σ = (i2, l2, d2, x2) ∧ st_Q A i l dd i2 l2 d2 (st_n A r), ?_, ?_⟩
      · refine ab_ent (n := 0) okMX11_settle.1 (fun G => Nat.le_of_ble_eq_true rfl) (fun Q hQ => ?_)
        refine tMX11_settle_0 (d := 1310) ⟨m, e0, hm, _, _, mt_empty (d := 1309) hm, ?_⟩
        rintro i5 l6 dd7 x8 ⟨⟩
        rw [if_neg (fun z => c (hz.mp z))]
        refine ⟨fun _ => ⟨m, e0, hm, _, _, hSV.2 r hF, ?_⟩, fun z => absurd rfl z⟩
        rintro i5 l6 dd7 x8 ⟨i2, l2, d2, ⟨⟩, Q2⟩
        exact hQ _ ⟨_, _, _, _, rfl, Q2⟩
      · rintro σ1 ⟨i1, l1, d1, x1, rfl, c1, c2, c3, c4, c5⟩
        have hM1 : mt_M A (ab_u i1 205 0 0) l1 := mt_M_fr hM (fun j h1 h2 => by rw [uu_j (by omega), c1 205 (by omega) (by omega) (by omega)]) (fun k h1 h2 => by rw [uu_f (by omega), c1 k (by omega) (by omega) (by omega)]) (fun j hj => by rw [uu_k (by omega), c1 225 (by omega) (by omega) (by omega)]) (funext fun j => c3 224 j (by omega) (by omega) (by omega) (by omega)) hW
        refine ab_ent (n := 0) okMX12_settle.1 (fun G => Nat.le_of_ble_eq_true rfl) (fun Q hQ => ?_)
        refine tMX12_settle_0 (d := 1310) ?_
        rintro i3 rfl
        rw [mt_z31 hW hM1]
        refine ⟨fun _ => ⟨_, md_tryTold (d := 1309) hW hM1, ?_⟩, fun z => absurd z c⟩
        rintro i8 l9 dd10 x11 ⟨i2, ⟨⟩, f2, V2⟩
        refine ms_20 (d := 1307) (F := some r) (i0 := i8) (l0 := l1) hW hp (md_fM hM1 f2 hW) (fun i3 l3 h _ => by cases h) (fun r2 i3 l3 h P3 => ?_) 50 0 i8 l1 rfl hF.symm ms_r V2
        cases h
        obtain ⟨g1, g2, g3, g4, g5, g6, g7, g8⟩ := P3
        have hi : ∀ k j, ¬ (161 ≤ k ∧ k ≤ 168) → k ≠ 173 → k ≠ 174 → k ≠ 225 → k ≠ 226 → k ≠ 227 → k ≠ 229 → k ≠ 230 → k ≠ 231 → ¬ (k = 205 ∧ j = 41) → ¬ (k = 205 ∧ j = 0) → i3 k j = i k j := fun k j a1 a2 a3 a4 a5 a6 a7 a8 a9 a10 a11 => by
          rw [g1 k j a4 a5 a6 a7 a8 a9 a10, f2.1 k a4 a5 a6]
          unfold ab_u
          rw [if_neg a11, c1 k a1 a2 a3]
        have h225 : ∀ j, j < 21 → i3 225 j = i 225 j := fun j hj => by
          rw [g2 j hj, f2.2 j hj, uu_k (by omega), c1 225 (by omega) (by omega) (by omega)]
        have h174 : ∀ u w, u < 7 → w < 3 → i3 174 (3 * u + w) = kv_t A (st_n A r) u w := fun u w hu hw => by
          rw [g1 174 _ (by omega) (by omega) (by omega) (by omega) (by omega) (by omega) (by omega), f2.1 174 (by omega) (by omega) (by omega), uu_k (by omega)]
          exact c2 u w hu hw
        have hl : ∀ k j, k ≠ 165 → k ≠ 170 → k ≠ 172 → k ≠ 228 → ¬ (k = 169 ∧ (j = 7 ∨ j = 8)) → ¬ (k = 205 ∧ (j = 42 ∨ j = 43)) → l3 k j = l k j := fun k j a1 a2 a3 a4 a5 a6 => by
          rw [g6 k j a4 a6, c3 k j a1 a2 a3 a5]
        have h7 : l3 169 7 = Int64.ofNat (cs_right A (st_n A r)) ∧ l3 169 8 = Int64.ofNat (cs_lost A (st_n A r)) := by
          rw [g6 169 7 (by omega) (by omega), g6 169 8 (by omega) (by omega)]
          exact c4
        refine hQ _ ⟨?_, c5.2 hI.2.1, hC _ _ hI.2.2 ⟨fun k j a1 a2 a3 a4 => ?_, fun k j a1 a2 => ?_, ?_⟩ ⟨⟨?_, fun v hv hv2 => ?_, fun v s hv hs => ?_⟩, ?_⟩⟩
        · have ht := hI.1
          unfold la_It at ht ⊢
          dsimp only at ht ⊢
          rw [show i3 5 = i 5 from funext fun j => hi 5 j (by omega) (by omega) (by omega) (by omega) (by omega) (by omega) (by omega) (by omega) (by omega) (by omega) (by omega), show i3 206 = i 206 from funext fun j => hi 206 j (by omega) (by omega) (by omega) (by omega) (by omega) (by omega) (by omega) (by omega) (by omega) (by omega) (by omega), hi 4 1 (by omega) (by omega) (by omega) (by omega) (by omega) (by omega) (by omega) (by omega) (by omega) (by omega) (by omega), hi 205 2 (by omega) (by omega) (by omega) (by omega) (by omega) (by omega) (by omega) (by omega) (by omega) (by omega) (by omega)]
          exact ht
        · show (if la_ws k j then 0 else i3 k j) = (if la_ws k j then 0 else i k j)
          cases e : la_ws k j with
          | true => rfl
          | false =>
            have nq : ∀ q, kp_s q = true → k ≠ q := fun q hq z => by
              rw [z, kp_sw hq] at e
              cases e
            rw [if_neg (by decide), if_neg (by decide)]
            by_cases c225 : k = 225
            · subst c225
              refine h225 j ?_
              rcases Nat.lt_or_ge j 21 with c | c
              · exact c
              · exfalso
                simp [la_ws, c] at e
            · refine hi k j (fun q => ?_) (nq 173 rfl) a1 c225 (nq 226 rfl) (nq 227 rfl) a2 a3 (nq 231 rfl) a4 (fun q => ?_)
              · exact nq k (kp_c18 k q.1 q.2) rfl
              · rw [q.1, q.2] at e
                cases e
        · show (if la_ws k j then 0 else l3 k j) = (if la_ws k j then 0 else l k j)
          cases e : la_ws k j with
          | true => rfl
          | false =>
            have nq : ∀ q, kp_s q = true → k ≠ q := fun q hq z => by
              rw [z, kp_sw hq] at e
              cases e
            rw [if_neg (by decide), if_neg (by decide)]
            exact hl k j (nq 165 rfl) (nq 170 rfl) (nq 172 rfl) (nq 228 rfl) a1 a2
        · show (fun k j => if la_ws k j then Value.null else d1 k j) = fun k j => if la_ws k j then Value.null else dd k j
          funext k j
          cases e : la_ws k j with
          | true => rfl
          | false => rw [if_neg (by decide), if_neg (by decide), c5.1 k j e]
        · show (i3 205 41).toInt ≤ 7
          rw [g5, la_nat (by omega)]
          omega
        · show (i3 230 v).toInt ≤ 3
          have hv2 : (v : Int) < (i3 205 41).toInt := hv2
          rw [g5, la_nat (by omega)] at hv2
          have := w7 v (by omega)
          rw [g4 v (by omega), la_nat (by omega)]
          omega
        · show i3 174 (3 * v + s) = if (v : Int) < (i3 205 41).toInt ∧ (s : Int) < (i3 230 v).toInt then i3 229 (3 * v + s) else -1
          rw [h174 v s hv hs, g5, la_nat (by omega)]
          unfold kv_t
          by_cases cv : v < aV_ A
          · have := w7 v cv
            rw [g4 v cv, la_nat (by omega)]
            by_cases cs : s < aS_ A v
            · rw [if_pos ⟨cv, cs⟩, if_pos ⟨by omega, by omega⟩, g3 v s cv cs]
            · rw [if_neg (fun q => cs q.2), if_neg (fun q => cs (by omega))]
          · rw [if_neg (fun q => cv q.1), if_neg (fun q => cv (by omega))]
        · show l3 169 7 = (if i3 205 41 = 0 then -1 else l3 205 42) ∧ l3 169 8 = (if i3 205 41 = 0 then -1 else l3 205 43)
          have hne : ¬ i3 205 41 = 0 := by
            rw [g5, nn_p0, nn_eq (by omega) (by omega)]
            exact c
          rw [if_neg hne, if_neg hne, h7.1, h7.2, g7, g8]
          exact ⟨rfl, rfl⟩
end TQJ2
