/-! believed: the words; the class's answer -/
def bl_rr (A : mA_) (v w q : Nat) : Nat := if (∀ s, s < aS_ A v → bl_lie A v w q s (bl_n (aS_ A v) q (aS_ A v)) = 0) then 1 else 0
theorem bl_lie01 {A : mA_} {v w q s n : Nat} : bl_lie A v w q s n = 0 ∨ bl_lie A v w q s n = 1 := by
  unfold bl_lie
  split
  · exact Or.inl rfl
  · exact Or.inr rfl
section TQR2
variable {d : Nat} {sc : Nat × (Nat → Int32)} {i : Nat → Nat → Int32} {l : Nat → Nat → Int64} {dd : Nat → Nat → Value} {x : Nat}
theorem ba_128 {A : mA_} {m v w q : Nat} (hW : mt_W A) (hp : 0 < aV_ A) (hm : ab_isM m) (hD : bl_D m v w dd) (hK : mt_K A m i) (hv : v < aV_ A) (hw : w < aV_ A) (hq : bl_q (aS_ A v) q) (h3 : i 199 3 = Int32.ofNat (bl_p (aS_ A v) q)) (h201 : ∀ k own, k < bl_n (aS_ A v) q (aS_ A v) → own < aS_ A w → i 201 (3 * k + own) = Int32.ofNat (bl_d A v w q k own)) {l0 : Nat → Nat → Int64} {Q : ab_Qt} (hQ : ∀ l2, fr_o 200 200 l0 l2 → Q (some (some (.int (Int32.ofNat (bl_rr A v w q))))) (i, l2, dd, x) (ab_E0 sc)) :
    ∀ (r s : Nat) (l2 : Nat → Nat → Int64), aS_ A v = s + r → fr_o 200 200 l0 l2 → (∀ u, u < s → bl_lie A v w q u (bl_n (aS_ A v) q (aS_ A v)) = 0) → ab_Fr MX10_areBelieved (d + 4) Q 128 [some (.ref 199), none, none, none, none, some (.int (Int32.ofNat (bl_n (aS_ A v) q (aS_ A v)))), some (.int (Int32.ofNat s))] [] (0, 0) (i, l2, dd, x) (ab_E0 sc) := by
  intro r
  have w2 := hW.2.1
  have hS := hW.2.2.2.2.2.2.1 v hv
  have e0 := (hK.2.2.2.2.1 v hv).1
  induction r with
  | zero =>
    intro s l2 hs g2 h
    refine tMX10_areBelieved_128 (d := d + 3) ⟨_, hD.2.1, ⟨m, v, hm, by omega, rfl⟩, fun _ => ?_, fun c => ?_⟩
    · have hq2 := hQ l2 g2
      unfold bl_rr at hq2
      rw [if_pos (fun u hu => h u (by omega))] at hq2
      exact hq2
    · simp (disch := omega) only [e0, ↓nn_m3, nn_p0, nn_p1, nn_p2, nn_p3, nn_p4, nn_p5, nn_p6, nn_p7, nn_p8, nn_p9, nn_p10, nn_p20, nn_p21, nn_le, nn_lt, nn_eq, nn_cl, nn_in, nn_add, nn_mul, nn_en, nn_ne, nn_mn, nn_64] at c
      omega
  | succ r ih =>
    intro s l2 hs g2 h
    refine tMX10_areBelieved_128 (d := d + 3) ⟨_, hD.2.1, ⟨m, v, hm, by omega, rfl⟩, fun c => ?_, fun _ => ⟨_, _, bl_lies (d := d) (s := s) hW hp hm hD hK hv hw (by omega) hq h3 h201, ?_⟩⟩
    · simp (disch := omega) only [e0, ↓nn_m3, nn_p0, nn_p1, nn_p2, nn_p3, nn_p4, nn_p5, nn_p6, nn_p7, nn_p8, nn_p9, nn_p10, nn_p20, nn_p21, nn_le, nn_lt, nn_eq, nn_cl, nn_in, nn_add, nn_mul, nn_en, nn_ne, nn_mn, nn_64] at c
      omega
    · rintro i6 l7 dd8 x9 ⟨l3, ⟨⟩, g3⟩
      have h01 := bl_lie01 (A := A) (v := v) (w := w) (q := q) (s := s) (n := bl_n (aS_ A v) q (aS_ A v))
      rw [nn_p0, nn_eq (by omega) (by omega), la_nx]
      refine ⟨fun c => ih (s + 1) _ (by omega) (fr_t g2 g3) (fun u hu => ?_), fun c => ?_⟩
      · by_cases e : u = s
        · rw [e]
          exact c
        · exact h u (by omega)
      · have hq2 := hQ _ (fr_t g2 g3)
        unfold bl_rr at hq2
        rw [if_neg (fun y => c (y s (by omega)))] at hq2
        exact hq2
def ba_f (i i2 : Nat → Nat → Int32) : Prop := ∀ k, k ≠ 199 → k ≠ 201 → i2 k = i k
theorem ba_106 {A : mA_} {m v w q : Nat} (hW : mt_W A) (hp : 0 < aV_ A) (hm : ab_isM m) (hD : bl_D m v w dd) {i0 : Nat → Nat → Int32} {l0 : Nat → Nat → Int64} (hK : mt_K A m i0) (hv : v < aV_ A) (hw : w < aV_ A) (hq : bl_q (aS_ A v) q) (h3 : i0 199 3 = Int32.ofNat (bl_p (aS_ A v) q)) {Q : ab_Qt} (hQ : ∀ i2 l2, fr_o 201 201 i0 i2 → fr_o 200 200 l0 l2 → Q (some (some (.int (Int32.ofNat (bl_rr A v w q))))) (i2, l2, dd, x) (ab_E0 sc)) :
    ∀ (r k : Nat) (i2 : Nat → Nat → Int32) (l2 : Nat → Nat → Int64), bl_n (aS_ A v) q (aS_ A v) = k + r → fr_o 201 201 i0 i2 → fr_o 200 200 l0 l2 → (∀ y own, y < k → own < aS_ A w → i2 201 (3 * y + own) = Int32.ofNat (bl_d A v w q y own)) → ab_Fr MX10_areBelieved (d + 4) Q 106 [some (.ref 199), none, none, none, none, some (.int (Int32.ofNat (bl_n (aS_ A v) q (aS_ A v)))), some (.int (Int32.ofNat k))] [] (0, 0) (i2, l2, dd, x) (ab_E0 sc) := by
  intro r
  have w2 := hW.2.1
  have hS := hW.2.2.2.2.2.2.1 v hv
  have hSw := hW.2.2.2.2.2.2.1 w hw
  have hnl := bl_nl (S := aS_ A v) (q := q) (aS_ A v) (by omega)
  induction r with
  | zero =>
    intro k i2 l2 hk f2 g2 z2
    refine tMX10_areBelieved_106 (d := d + 3) ⟨fun _ => ?_, fun c => ?_⟩
    · exact ba_128 (d := d) (l0 := l0) hW hp hm hD (mt_K_o hm hK f2 (by omega) hW) hv hw hq (by rw [f2 199 (by omega)]; exact h3) (fun y own hy ho => z2 y own (by omega) ho) (fun l3 g3 => hQ _ _ f2 g3) _ 0 _ (Nat.zero_add _).symm g2 (fun u hu => absurd hu (Nat.not_lt_zero u))
    · simp (disch := omega) only [↓nn_m3, nn_p0, nn_p1, nn_p2, nn_p3, nn_p4, nn_p5, nn_p6, nn_p7, nn_p8, nn_p9, nn_p10, nn_p20, nn_p21, nn_le, nn_lt, nn_eq, nn_cl, nn_in, nn_add, nn_mul, nn_en, nn_ne, nn_mn, nn_64] at c
      omega
  | succ r ih =>
    intro k i2 l2 hk f2 g2 z2
    refine tMX10_areBelieved_106 (d := d + 3) ⟨fun c => ?_, fun _ => ⟨_, bl_hear (d := d) (k := k) hW hp hm hD (mt_K_o hm hK f2 (by omega) hW) hv hw hq (by rw [f2 199 (by omega)]; exact h3) (by omega), ?_⟩⟩
    · simp (disch := omega) only [↓nn_m3, nn_p0, nn_p1, nn_p2, nn_p3, nn_p4, nn_p5, nn_p6, nn_p7, nn_p8, nn_p9, nn_p10, nn_p20, nn_p21, nn_le, nn_lt, nn_eq, nn_cl, nn_in, nn_add, nn_mul, nn_en, nn_ne, nn_mn, nn_64] at c
      omega
    · rintro i6 l7 dd8 x9 ⟨i3, l3, ⟨⟩, f3, g3, z3, y3⟩
      rw [la_nx]
      refine ih (k + 1) _ _ (by omega) (fr_t f2 f3) (fr_t g2 g3) (fun y own hy ho => ?_)
      by_cases e : y = k
      · rw [e]
        exact z3 own ho
      · rw [y3 _ (by omega)]
        exact z2 y own (by omega) ho
theorem ba_65 {A : mA_} {m v w q : Nat} (hW : mt_W A) (hp : 0 < aV_ A) (hm : ab_isM m) (hD : bl_D m v w dd) (hK : mt_K A m i) (hv : v < aV_ A) (hw : w < aV_ A) (hq : bl_q (aS_ A v) q) (h3 : i 199 3 = Int32.ofNat (bl_p (aS_ A v) q)) {Q : ab_Qt} (hQ : ∀ i2 l2, fr_o 201 201 i i2 → fr_o 200 200 l l2 → Q (some (some (.int (Int32.ofNat (bl_rr A v w q))))) (i2, l2, dd, x) (ab_E0 sc)) :
    ∀ r s : Nat, aS_ A v = s + r → ab_Fr MX10_areBelieved (d + 4) Q 65 [some (.ref 199), none, none, none, none, some (.int (Int32.ofNat (bl_n (aS_ A v) q s))), some (.int (Int32.ofNat s))] [] (0, 0) (i, l, dd, x) (ab_E0 sc) := by
  intro r
  have w2 := hW.2.1
  have hS := hW.2.2.2.2.2.2.1 v hv
  have e0 := (hK.2.2.2.2.1 v hv).1
  have hpl := bl_pl hq
  induction r with
  | zero =>
    intro s hs
    refine tMX10_areBelieved_65 (d := d + 3) ⟨_, hD.2.1, ⟨m, v, hm, by omega, rfl⟩, fun _ => ?_, fun c => ?_⟩
    · rw [show s = aS_ A v by omega]
      exact ba_106 (d := d) (i0 := i) (l0 := l) hW hp hm hD hK hv hw hq h3 hQ _ 0 i l (Nat.zero_add _).symm fr_r fr_r (fun y _ hy _ => absurd hy (Nat.not_lt_zero y))
    · simp (disch := omega) only [e0, ↓nn_m3, nn_p0, nn_p1, nn_p2, nn_p3, nn_p4, nn_p5, nn_p6, nn_p7, nn_p8, nn_p9, nn_p10, nn_p20, nn_p21, nn_le, nn_lt, nn_eq, nn_cl, nn_in, nn_add, nn_mul, nn_en, nn_ne, nn_mn, nn_64] at c
      omega
  | succ r ih =>
    intro s hs
    have ih2 := ih (s + 1) (by omega)
    have en : bl_n (aS_ A v) q (s + 1) = if bl_n (aS_ A v) q s < bl_w (aS_ A v) q s + 1 then bl_w (aS_ A v) q s + 1 else bl_n (aS_ A v) q s := rfl
    have hwl := bl_wl (S := aS_ A v) (q := q) (s := s) (by omega)
    have hnl := bl_nl (S := aS_ A v) (q := q) s (by omega)
    refine tMX10_areBelieved_65 (d := d + 3) ⟨_, hD.2.1, ⟨m, v, hm, by omega, rfl⟩, fun c => ?_, fun _ => ?_⟩
    · simp (disch := omega) only [e0, ↓nn_m3, nn_p0, nn_p1, nn_p2, nn_p3, nn_p4, nn_p5, nn_p6, nn_p7, nn_p8, nn_p9, nn_p10, nn_p20, nn_p21, nn_le, nn_lt, nn_eq, nn_cl, nn_in, nn_add, nn_mul, nn_en, nn_ne, nn_mn, nn_64] at c
      omega
    · rw [h3, nn_add, nn_cl (by omega), bl_wo hq (show s < aS_ A v by omega), la_nx, la_nx]
      have hlt := nn_lt (a := bl_n (aS_ A v) q s) (b := bl_w (aS_ A v) q s + 1) (by omega) (by omega)
      refine ⟨la_vp (by omega) (by omega), ?_⟩
      rw [en] at ih2
      by_cases c : bl_n (aS_ A v) q s < bl_w (aS_ A v) q s + 1
      · rw [if_pos c] at ih2
        rw [if_pos (hlt.mpr c)]
        exact ih2
      · rw [if_neg c] at ih2
        rw [if_neg (fun z => c (hlt.mp z))]
        exact ih2
theorem bl_are {A : mA_} {m v w q : Nat} (hW : mt_W A) (hp : 0 < aV_ A) (hm : ab_isM m) (hK : mt_K A m i) (hv : v < aV_ A) (hw : w < aV_ A) (hq : bl_q (aS_ A v) q) : ab_Sp MX10_areBelieved (d + 4) [.ref 199, .ref m, .int (Int32.ofNat v), .int (Int32.ofNat w), .int (Int32.ofNat q)] (i, l, dd, x) (ab_E0 sc) (some (.int (Int32.ofNat (bl_rr A v w q)))) (fun σ => ∃ i2 l2, σ = (i2, l2, ab_u (ab_u (ab_u dd 199 0 (.ref m)) 199 1 (.ref (m + 5 + 6 * v))) 199 2 (.ref (m + 5 + 6 * w)), x) ∧ ba_f i i2 ∧ fr_o 200 200 l l2) := by
  have w2 := hW.2.1
  have hS := hW.2.2.2.2.2.2.1 v hv
  have e0 := (hK.2.2.2.2.1 v hv).1
  have hpl := bl_pl hq
  have hql : q ≤ 4 := by
    rcases hq with ⟨-, h⟩ | ⟨-, h⟩ <;> omega
  refine ab_ent (n := 4) okMX10_areBelieved.1 (fun G => Nat.le_of_ble_eq_true rfl) (fun Q hQ => ?_)
  have D2 : bl_D m v w (ab_u (ab_u (ab_u dd 199 0 (.ref m)) 199 1 (.ref (m + 5 + 6 * v))) 199 2 (.ref (m + 5 + 6 * w))) := ⟨by rw [uu_j (by decide), uu_j (by decide)]; exact uu_e, by rw [uu_j (by decide)]; exact uu_e, uu_e⟩
  have go : ab_Fr MX10_areBelieved (d + 4) Q 56 [some (.ref 199), none, none, none, none, none, none] [.int (Int32.ofNat (bl_p (aS_ A v) q)), .ref 199] (0, 0) (i, l, ab_u (ab_u (ab_u dd 199 0 (.ref m)) 199 1 (.ref (m + 5 + 6 * v))) 199 2 (.ref (m + 5 + 6 * w)), x) (ab_E0 sc) := by
    refine tMX10_areBelieved_56 (d := d + 3) ?_
    rintro i1 rfl
    have f1 : ba_f i (ab_u i 199 3 (Int32.ofNat (bl_p (aS_ A v) q))) := fun k h1 _ => uu_f h1
    refine ba_65 (d := d) (q := q) hW hp hm D2 (mt_K_o hm hK (fr_u fr_r (show 199 ≤ 199 ∧ 199 ≤ 199 by omega)) (by omega) hW) hv hw hq uu_e (fun i2 l2 f2 g2 => hQ _ ⟨i2, l2, rfl, fun k h1 h2 => (f2 k (by omega)).trans (f1 k h1 h2), g2⟩) (aS_ A v) 0 (Nat.zero_add _).symm
  refine tMX10_areBelieved_0 (d := d + 3) hm ?_
  rintro dd1 rfl
  rw [nn_cl (by omega), nn_cl (by omega)]
  refine ⟨m, uu_e, hm, la_vp (by omega) (by omega), ?_⟩
  rintro dd5 rfl
  refine ⟨m, by rw [uu_j (by decide)]; exact uu_e, hm, la_vp (by omega) (by omega), ?_⟩
  rintro dd9 rfl
  refine ⟨_, D2.2.1, ⟨m, v, hm, by omega, rfl⟩, ?_⟩
  rw [e0, nn_p2, nn_eq (by omega) (by omega)]
  refine ⟨fun c => ?_, fun c => ?_⟩
  · rw [nn_m3, nn_mul, show 3 * q = bl_p (aS_ A v) q by unfold bl_p; rw [if_neg c]]
    exact go
  · rw [nn_m3, nn_p4, nn_mul, nn_mul, show 3 * (q * 4) = bl_p (aS_ A v) q by unfold bl_p; rw [if_pos c]; omega]
    exact go
end TQR2
