/-! bar: the model's layByWeight -/
def bw_u (A : mA_) (t w e u : Nat) : Nat := pu_s (fun u => if cw_ A t u = w then bv_ A u e else 0) u
theorem cw_B {A : mA_} {t u : Nat} (hW : mt_W A) : cw_ A t u ≤ 63 := by
  have w2 := hW.2.1
  have h : ∀ k, k ≤ 7 → pu_s (fun v => if u / 4 ^ v % 4 = t then aW_ A v else 0) k ≤ 9 * k := by
    intro k
    induction k with
    | zero => intro _; exact Nat.le_refl 0
    | succ k ih =>
      intro hk
      have h1 := ih (by omega)
      have h2 := hW.2.2.2.2.2.2.2.2.2.2.2.1 k
      show _ + (if _ then aW_ A k else 0) ≤ 9 * (k + 1)
      split <;> omega
  have h2 := h (aV_ A) w2
  unfold cw_
  omega
section TQH3
variable {d : Nat} {sc : Nat × (Nat → Int32)} {i : Nat → Nat → Int32} {l : Nat → Nat → Int64} {dd : Nat → Nat → Value} {x : Nat}
theorem lw_102 {A : mA_} {t u : Nat} {Z : Nat → Nat → Nat} (hW : mt_W A) {l0 : Nat → Nat → Int64} (hM : mt_M A i l0) (hu : u < 4 ^ aV_ A) (h241 : ∀ e, e < aT_ A → l0 241 (3 * u + e) = Int64.ofNat (bv_ A u e)) (hZ : ∀ w e, w < 82 → e < aT_ A → l0 243 (3 * w + e) = Int64.ofNat (Z w e)) {Q : ab_Qt} (hQ : ∀ l2, fr_o 243 243 l0 l2 → (∀ w e, w < 82 → e < aT_ A → l2 243 (3 * w + e) = Int64.ofNat (Z w e + (if cw_ A t u = w then bv_ A u e else 0))) → ab_Fr MX12_layByWeight (d + 1) Q 30 [some (.ref 205), some (.int (Int32.ofNat t)), some (.ref 218), none, some (.int (Int32.ofNat (u + 1))), none, none] [] (0, 0) (i, l2, dd, x) (ab_E0 sc)) :
    ∀ (n e : Nat) (l2 : Nat → Nat → Int64), aT_ A = e + n → fr_o 243 243 l0 l2 → (∀ w y, w < 82 → y < aT_ A → l2 243 (3 * w + y) = Int64.ofNat (Z w y + (if cw_ A t u = w ∧ y < e then bv_ A u y else 0))) → ab_Fr MX12_layByWeight (d + 1) Q 102 [some (.ref 205), some (.int (Int32.ofNat t)), some (.ref 218), none, some (.int (Int32.ofNat u)), some (.int (Int32.ofNat (cw_ A t u))), some (.int (Int32.ofNat e))] [] (0, 0) (i, l2, dd, x) (ab_E0 sc) := by
  intro n
  have w1 := hW.1
  have w2 := hW.2.1
  have h7 := cd_7 w2
  have r1 := hM.1.1
  have hwB := cw_B (t := t) (u := u) hW
  induction n with
  | zero =>
    intro e l2 he g2 z2
    refine tMX12_layByWeight_102 (n_a2 := 14) kd_218 ⟨fun _ => ?_, fun g => ?_⟩
    · rw [la_nx]
      refine hQ l2 g2 (fun w y hw hy => ?_)
      rw [z2 w y hw hy]
      by_cases q : cw_ A t u = w
      · rw [if_pos ⟨q, by omega⟩, if_pos q]
      · rw [if_neg (fun h => q h.1), if_neg q]
    · simp (disch := omega) only [r1, ↓nn_m3, nn_p0, nn_p1, nn_p2, nn_p3, nn_p4, nn_p5, nn_p6, nn_p7, nn_p8, nn_p9, nn_p10, nn_p20, nn_p21, nn_le, nn_lt, nn_eq, nn_cl, nn_in, nn_add, nn_mul, nn_en, nn_ne, nn_mn, nn_64] at g
      omega
  | succ n ih =>
    intro e l2 he g2 z2
    refine tMX12_layByWeight_102 (n_a2 := 14) kd_218 ⟨fun g => ?_, fun _ => ?_⟩
    · simp (disch := omega) only [r1, ↓nn_m3, nn_p0, nn_p1, nn_p2, nn_p3, nn_p4, nn_p5, nn_p6, nn_p7, nn_p8, nn_p9, nn_p10, nn_p20, nn_p21, nn_le, nn_lt, nn_eq, nn_cl, nn_in, nn_add, nn_mul, nn_en, nn_ne, nn_mn, nn_64] at g
      omega
    · rw [nn_p3, nn_mul, nn_mul, nn_add, nn_add, nn_cl (by omega), nn_cl (by omega), g2 241 (by omega), h241 e (by omega), z2 (cw_ A t u) e (by omega) (by omega), if_neg (fun h => Nat.lt_irrefl e h.2), Nat.add_zero, nl_add, la_nx]
      refine ⟨la_vp (by omega) (by omega), la_vp (by omega) (by omega), la_vp (by omega) (by omega), ?_⟩
      rintro l3 rfl
      refine ih (e + 1) _ (by omega) (fr_u g2 (by omega)) (fun w y hw hy => ?_)
      by_cases q : cw_ A t u = w ∧ y = e
      · obtain ⟨q1, rfl⟩ := q
        rw [q1, uu_e, if_pos ⟨rfl, by omega⟩]
      · rw [uu_j (by omega), z2 w y hw hy]
        by_cases q2 : cw_ A t u = w ∧ y < e
        · rw [if_pos q2, if_pos ⟨q2.1, by omega⟩]
        · rw [if_neg q2, if_neg (by omega)]
theorem lw_62 {A : mA_} {t u : Nat} (hW : mt_W A) (hM : mt_M A i l) (hu : u < 4 ^ aV_ A) (ht : t < aT_ A) {Q : ab_Qt} (hQ : ab_Fr MX12_layByWeight (d + 1) Q 102 [some (.ref 205), some (.int (Int32.ofNat t)), some (.ref 218), none, some (.int (Int32.ofNat u)), some (.int (Int32.ofNat (cw_ A t u))), some (.int (Int32.ofNat 0))] [] (0, 0) (i, l, dd, x) (ab_E0 sc)) :
    ∀ n v : Nat, aV_ A = v + n → ab_Fr MX12_layByWeight (d + 1) Q 62 [some (.ref 205), some (.int (Int32.ofNat t)), some (.ref 218), none, some (.int (Int32.ofNat u)), some (.int (Int32.ofNat (pu_s (fun v => if u / 4 ^ v % 4 = t then aW_ A v else 0) v))), some (.int (Int32.ofNat v))] [] (0, 0) (i, l, dd, x) (ab_E0 sc) := by
  intro n
  have w1 := hW.1
  have w2 := hW.2.1
  have h7 := cd_7 w2
  have r2 := hM.1.2.1
  induction n with
  | zero =>
    intro v hv
    refine tMX12_layByWeight_62 (n_a2 := 14) kd_218 ⟨fun _ => ?_, fun g => ?_⟩
    · rw [show v = aV_ A by omega]
      exact hQ
    · simp (disch := omega) only [r2, ↓nn_m3, nn_p0, nn_p1, nn_p2, nn_p3, nn_p4, nn_p5, nn_p6, nn_p7, nn_p8, nn_p9, nn_p10, nn_p20, nn_p21, nn_le, nn_lt, nn_eq, nn_cl, nn_in, nn_add, nn_mul, nn_en, nn_ne, nn_mn, nn_64] at g
      omega
  | succ n ih =>
    intro v hv
    have ih2 := ih (v + 1) (by omega)
    have es : pu_s (fun v => if u / 4 ^ v % 4 = t then aW_ A v else 0) (v + 1) = pu_s (fun v => if u / 4 ^ v % 4 = t then aW_ A v else 0) v + (if u / 4 ^ v % 4 = t then aW_ A v else 0) := rfl
    have hm4 := Nat.mod_lt (u / 4 ^ v) (show 0 < 4 by omega)
    refine tMX12_layByWeight_62 (n_a2 := 14) kd_218 ⟨fun g => ?_, fun _ => ?_⟩
    · simp (disch := omega) only [r2, ↓nn_m3, nn_p0, nn_p1, nn_p2, nn_p3, nn_p4, nn_p5, nn_p6, nn_p7, nn_p8, nn_p9, nn_p10, nn_p20, nn_p21, nn_le, nn_lt, nn_eq, nn_cl, nn_in, nn_add, nn_mul, nn_en, nn_ne, nn_mn, nn_64] at g
      omega
    · rw [cd_dg (by omega) (by omega), nn_eq (by omega) (by omega)]
      refine ⟨fun c => ?_, fun c => ⟨la_vp (by omega) (by omega), ?_⟩⟩
      · rw [es, if_neg c, Nat.add_zero] at ih2
        rw [la_nx]
        exact ih2
      · rw [es, if_pos c] at ih2
        rw [nn_cl (by omega), (hM.2.2.2.1 v (by omega)).2.1, nn_add, la_nx]
        exact ih2
end TQH3
