/-! IN TURNS: the class's steps -/
def tu_C (A : mA_) (o : Nat → Nat) (i h : Nat) : Int32 := if tu_z A o i h = i then -1 else Int32.ofNat (tu_z A o i h)
def tu_D (A : mA_) (o : Nat → Nat) (i h : Nat) : Int32 := if tu_f A o i h = 1 then Int32.ofNat (tu_z A o i h) else -1
theorem tu_CD {A : mA_} {o : Nat → Nat} {i h e : Nat} (he : e < 3) : tu_C A o (i + 1) (3 * h + e) = tu_D A o i h := by
  have h3 : (3 * h + e) / 3 = h := by omega
  have hz := tu_zl (A := A) (o := o) i h
  have ez : tu_z A o (i + 1) (3 * h + e) = if tu_f A o ((3 * h + e) / 3 * 0 + i) ((3 * h + e) / 3) = 1 then tu_z A o i ((3 * h + e) / 3) else i + 1 := by
    rw [Nat.mul_zero, Nat.zero_add]
    rfl
  rw [Nat.mul_zero, Nat.zero_add, h3] at ez
  unfold tu_C tu_D
  rw [ez]
  by_cases c : tu_f A o i h = 1
  · rw [if_pos c, if_pos c, if_neg (by omega)]
  · rw [if_neg c, if_neg c, if_pos rfl]
/-- what is heard so far, as an int -/
def tu_n (y : Nat) : Int32 := if y = 9 then -1 else Int32.ofNat y
theorem tu_gl {A : mA_} {o : Nat → Nat} {i h : Nat} (hW : mt_W A) (hp : 0 < aV_ A) : ∀ s, (tu_g A o i h s).1 < 3 ∨ (tu_g A o i h s).1 = 9 := by
  intro s
  have w1 := hW.1
  induction s with
  | zero => exact Or.inr rfl
  | succ s ih =>
    have hs := tu_sl (A := A) (v := o i) (L := tu_L A o i h) (s := s) hW hp
    unfold tu_g
    split
    · exact Or.inl (by dsimp only; omega)
    · exact ih
theorem tu_g0 {A : mA_} {o : Nat → Nat} {i h s : Nat} (hz : (tu_g A o i h s).2 = 0) : ∀ n, (tu_g A o i h (s + n)).2 = 0 := by
  intro n
  induction n with
  | zero => exact hz
  | succ n ih =>
    show (tu_g A o i h (s + n + 1)).2 = 0
    unfold tu_g
    split
    · dsimp only
      split
      · exact ih
      · rfl
    · exact ih
theorem tu_g1 {A : mA_} {o : Nat → Nat} {i h : Nat} : ∀ s, (tu_g A o i h s).2 = 0 ∨ (tu_g A o i h s).2 = 1 := by
  intro s
  induction s with
  | zero => exact Or.inr rfl
  | succ s ih =>
    unfold tu_g
    split
    · dsimp only
      split
      · exact ih
      · exact Or.inl rfl
    · exact ih
section TQB4
variable {d : Nat} {sc : Nat × (Nat → Int32)} {i : Nat → Nat → Int32} {l : Nat → Nat → Int64} {dd : Nat → Nat → Value} {x : Nat}
theorem ct_lo {A : mA_} {m v : Nat} (hW : mt_W A) (hK : mt_K A m i) (hv : v < aV_ A) : mt_Lo i (m + 5 + 6 * v + 3) (aK_ A v) := fun t e ht he => ⟨hK.2.2.2.2.2.2.1 v t e hv ht he, hW.2.2.2.2.2.2.2.2.2.1 v t e⟩
theorem tu_li {A : mA_} {v s : Nat} {L : Nat → Nat} (hW : mt_W A) (hB : ∀ t, L t ≤ 25600000000) : mt_li (mt_f (fun t => L t * aL_ A v s t) (aK_ A v)) (aT_ A - 1) = tu_s A v L s := by
  refine mt_li_n (f := fun e => pu_s (fun t => L t * aL_ A v s t * aK_ A v t e) 3) _ (fun e _ => ?_)
  have h : ∀ t, L t * aL_ A v s t * aK_ A v t e ≤ 25600000000 * 20 * 50 := fun t => Nat.mul_le_mul (Nat.mul_le_mul (hB t) (hW.2.2.2.2.2.2.2.1 v s t).1) (hW.2.2.2.2.2.2.2.2.2.1 v t e)
  have h0 := h 0
  have h1 := h 1
  have h2 := h 2
  show 0 + L 0 * aL_ A v s 0 * aK_ A v 0 e + L 1 * aL_ A v s 1 * aK_ A v 1 e + L 2 * aL_ A v s 2 * aK_ A v 2 e < 2 ^ 63
  omega
theorem ct_ponder {A : mA_} {m a0 j v : Nat} {L : Nat → Nat} (hW : mt_W A) (hp : 0 < aV_ A) (ha : ab_isT a0) (hm : ab_isM m) (hd : dd a0 0 = .ref m) (hK : mt_K A m i) (hj : j < aV_ A) (hv : v < aV_ A) (ho : i (a0 + 1) j = Int32.ofNat v) (hL : ∀ t, t < 3 → l (a0 + 3) (3 * j + t) = Int64.ofNat (L t)) (hB : ∀ t, L t ≤ 25600000000) : ab_Sp MX8_ponder (d + 3) [.ref a0, .int (Int32.ofNat j)] (i, l, dd, x) (ab_E0 sc) none (fun σ => ∃ i2 l2, σ = (i2, l2, dd, x) ∧ fr_o (a0 + 2) (a0 + 2) i i2 ∧ (∀ k, k < 3 * j ∨ 3 * j + 3 ≤ k → i2 (a0 + 2) k = i (a0 + 2) k) ∧ fr_o (a0 + 4) (a0 + 4) l l2 ∧ ∀ s, s < aS_ A v → i2 (a0 + 2) (3 * j + s) = Int32.ofNat (tu_s A v L s)) := by
  have w1 := hW.1
  have w2 := hW.2.1
  have w4 := hW.2.2.2.1 hp
  have w7 := hW.2.2.2.2.2.2.1 v hv
  have hla : 179 ≤ a0 := by rcases ha with rfl | rfl <;> omega
  have hV : ab_isV (m + 5 + 6 * v) := ⟨m, v, hm, by omega, rfl⟩
  refine ab_ent (n := 1) okMX8_ponder.1 (fun G => Nat.le_of_ble_eq_true rfl) (fun Q hQ => ?_)
  refine tMX8_ponder_0 (d := d + 2) ha ⟨m, hd, hm, ?_⟩
  rw [nn_cl (by omega), ho, nn_cl (by omega)]
  refine ⟨la_vp (by omega) (by omega), la_vp (by omega) (by omega), ?_⟩
  have go : ∀ (n s : Nat) (i2 : Nat → Nat → Int32) (l2 : Nat → Nat → Int64), aS_ A v = s + n → fr_o (a0 + 2) (a0 + 2) i i2 → (∀ k, k < 3 * j ∨ 3 * j + 3 ≤ k → i2 (a0 + 2) k = i (a0 + 2) k) → fr_o (a0 + 4) (a0 + 4) l l2 → (∀ u, u < s → i2 (a0 + 2) (3 * j + u) = Int32.ofNat (tu_s A v L u)) → ab_Fr MX8_ponder (d + 3) Q 17 [some (.ref a0), some (.int (Int32.ofNat j)), some (.ref (m + 5 + 6 * v)), some (.int (Int32.ofNat s)), none] [] (0, 0) (i2, l2, dd, x) (ab_E0 sc) := by
    intro n
    induction n with
    | zero =>
      intro s i2 l2 hs f2 k2 g2 z2
      have hK2 : mt_K A m i2 := mt_K_o hm hK f2 (by omega) hW
      refine tMX8_ponder_17 (d := d + 2) ha hV ⟨fun _ => hQ _ ⟨i2, l2, rfl, f2, k2, g2, fun u hu => z2 u (by omega)⟩, fun c => ?_⟩
      rw [(hK2.2.2.2.2.1 v hv).1, nn_le (by omega) (by omega)] at c
      omega
    | succ n ih =>
      intro s i2 l2 hs f2 k2 g2 z2
      have hK2 : mt_K A m i2 := mt_K_o hm hK f2 (by omega) hW
      refine tMX8_ponder_17 (d := d + 2) ha hV ⟨fun c => ?_, fun _ => ?_⟩
      · rw [(hK2.2.2.2.2.1 v hv).1, nn_le (by omega) (by omega)] at c
        omega
      · have go2 : ∀ (r t : Nat) (l3 : Nat → Nat → Int64), 3 = t + r → fr_o (a0 + 4) (a0 + 4) l l3 → (∀ u, u < t → l3 (a0 + 4) u = Int64.ofNat (L u * aL_ A v s u)) → ab_Fr MX8_ponder (d + 3) Q 28 [some (.ref a0), some (.int (Int32.ofNat j)), some (.ref (m + 5 + 6 * v)), some (.int (Int32.ofNat s)), some (.int (Int32.ofNat t))] [] (0, 0) (i2, l3, dd, x) (ab_E0 sc) := by
          intro r
          induction r with
          | zero =>
            intro t l3 ht g3 z3
            refine tMX8_ponder_28 (d := d + 2) ha hV ⟨fun _ => ⟨m, hd, hm, ?_⟩, fun c => ?_⟩
            · rw [hK2.1.1]
              refine ⟨_, _, mt_leastOf (d := d) (fr := 0) (T := aT_ A) (P := fun t => L t * aL_ A v s t) (K := aK_ A v) (isV_3 hV) (kT_4 ha) (ct_lo hW hK2 hv) (fun u hu => by rw [Nat.zero_add]; exact z3 u (by omega)) (by omega) (by omega), ?_⟩
              rintro i8 l9 dd10 x11 ⟨⟩
              rw [nn_m3, nn_mul, nn_add, nn_cl (by omega), tu_li hW hB, la_nx]
              refine ⟨la_vp (by omega) (by omega), ?_⟩
              rintro i13 rfl
              refine ih (s + 1) _ l3 (by omega) (fr_u f2 (by omega)) (fun k hk => ?_) g3 (fun u hu => ?_)
              · rw [uu_j (by omega)]
                exact k2 k hk
              · by_cases e : u = s
                · rw [e, uu_e]
                · rw [uu_j (by omega)]
                  exact z2 u (by omega)
            · rw [nn_p3, nn_le (by omega) (by omega)] at c
              omega
          | succ r ihr =>
            intro t l3 ht g3 z3
            refine tMX8_ponder_28 (d := d + 2) ha hV ⟨fun c => ?_, fun _ => ?_⟩
            · rw [nn_p3, nn_le (by omega) (by omega)] at c
              omega
            · have hlk := hK2.2.2.2.2.2.1 v s t hv (by omega) (by omega)
              have hl20 := (hW.2.2.2.2.2.2.2.1 v s t).1
              rw [nn_m3, nn_m3, nn_mul, nn_mul, nn_add, nn_add, nn_cl (by omega), nn_cl (by omega), nn_cl (by omega), g3 (a0 + 3) (by omega), hL t (by omega), hlk, nn_64 (by omega), nl_mul, la_nx]
              refine ⟨la_vp (by omega) (by omega), la_vp (by omega) (by omega), la_vp (by omega) (by omega), ?_⟩
              rintro l4 rfl
              refine ihr (t + 1) _ (by omega) (fr_u g3 (by omega)) (fun u hu => ?_)
              by_cases e : u = t
              · rw [e, uu_e]
              · rw [uu_j e]
                exact z3 u (by omega)
        exact go2 3 0 l2 rfl g2 (fun u hu => absurd hu (Nat.not_lt_zero u))
  exact go _ 0 i l (Nat.zero_add _).symm fr_r (fun _ _ => rfl) fr_r (fun u hu => absurd hu (Nat.not_lt_zero u))
/-- what is left behind a verdict -/
def ct_l (A : mA_) (v : Nat) (L y : Nat → Nat) (e t : Nat) : Nat := L t * pu_s (fun s => if y s = e then aL_ A v s t else 0) (aS_ A v)
def ct_r (f : Nat → Nat) (n : Nat) : Int32 := if 0 < pu_s f n then 1 else 0
theorem ct_hear {A : mA_} {m a0 j v e : Nat} {L y : Nat → Nat} (hW : mt_W A) (ha : ab_isT a0) (hm : ab_isM m) (hd : dd a0 0 = .ref m) (hK : mt_K A m i) (hj : j < aV_ A) (hv : v < aV_ A) (ho : i (a0 + 1) j = Int32.ofNat v) (hL : ∀ t, t < 3 → l (a0 + 3) (3 * j + t) = Int64.ofNat (L t)) (hy : ∀ s, s < aS_ A v → i (a0 + 2) (3 * j + s) = Int32.ofNat (y s) ∧ y s < 3) (he : e < 3) (hB : ∀ t, ct_l A v L y e t ≤ 25600000000) : ab_Sp MX8_hear (d + 1) [.ref a0, .int (Int32.ofNat j), .int (Int32.ofNat e)] (i, l, dd, x) (ab_E0 sc) (some (.int (ct_r (ct_l A v L y e) 3))) (fun σ => ∃ l2, σ = (i, l2, dd, x) ∧ fr_o (a0 + 3) (a0 + 3) l l2 ∧ (∀ k, k < 3 * (j + 1) ∨ 3 * (j + 1) + 3 ≤ k → l2 (a0 + 3) k = l (a0 + 3) k) ∧ ∀ t, t < 3 → l2 (a0 + 3) (3 * (j + 1) + t) = Int64.ofNat (ct_l A v L y e t)) := by
  have w2 := hW.2.1
  have w7 := hW.2.2.2.2.2.2.1 v hv
  have hV : ab_isV (m + 5 + 6 * v) := ⟨m, v, hm, by omega, rfl⟩
  refine ab_ent (n := 2) okMX8_hear.1 (fun G => Nat.le_of_ble_eq_true rfl) (fun Q hQ => ?_)
  refine tMX8_hear_0 (d := d) ha ⟨m, hd, hm, ?_⟩
  rw [nn_cl (by omega), ho, nn_cl (by omega)]
  refine ⟨la_vp (by omega) (by omega), la_vp (by omega) (by omega), ?_⟩
  have go : ∀ (n t : Nat) (l2 : Nat → Nat → Int64), 3 = t + n → fr_o (a0 + 3) (a0 + 3) l l2 → (∀ k, k < 3 * (j + 1) ∨ 3 * (j + 1) + 3 ≤ k → l2 (a0 + 3) k = l (a0 + 3) k) → (∀ u, u < t → l2 (a0 + 3) (3 * (j + 1) + u) = Int64.ofNat (ct_l A v L y e u)) → ab_Fr MX8_hear (d + 1) Q 21 [some (.ref a0), some (.int (Int32.ofNat j)), some (.int (Int32.ofNat e)), some (.ref (m + 5 + 6 * v)), some (.int (ct_r (ct_l A v L y e) t)), some (.int (Int32.ofNat t)), none, none, none] [] (0, 0) (i, l2, dd, x) (ab_E0 sc) := by
    intro n
    induction n with
    | zero =>
      intro t l2 ht f2 k2 z2
      refine tMX8_hear_21 (d := d) ha hV ⟨fun _ => ⟨?_, ?_⟩, fun c => ?_⟩
      · unfold ct_r
        split
        · exact Or.inr rfl
        · exact Or.inl rfl
      · rw [show t = 3 by omega]
        exact hQ _ ⟨l2, rfl, f2, k2, fun u hu => z2 u (by omega)⟩
      · rw [nn_p3, nn_le (by omega) (by omega)] at c
        omega
    | succ n ih =>
      intro t l2 ht f2 k2 z2
      refine tMX8_hear_21 (d := d) ha hV ⟨fun c => ?_, fun _ => ?_⟩
      · rw [nn_p3, nn_le (by omega) (by omega)] at c
        omega
      · have hBt := hB t
        have go2 : ∀ (r s : Nat), aS_ A v = s + r → ab_Fr MX8_hear (d + 1) Q 33 [some (.ref a0), some (.int (Int32.ofNat j)), some (.int (Int32.ofNat e)), some (.ref (m + 5 + 6 * v)), some (.int (ct_r (ct_l A v L y e) t)), some (.int (Int32.ofNat t)), some (.long (Int64.ofNat (pu_s (fun s => if y s = e then aL_ A v s t else 0) s))), none, some (.int (Int32.ofNat s))] [] (0, 0) (i, l2, dd, x) (ab_E0 sc) := by
          intro r
          induction r with
          | zero =>
            intro s hs
            refine tMX8_hear_33 (d := d) ha hV ⟨fun _ => ?_, fun c => ?_⟩
            · have es : pu_s (ct_l A v L y e) (t + 1) = pu_s (ct_l A v L y e) t + ct_l A v L y e t := rfl
              rw [nn_m3, nn_m3, la_nx, la_nx, nn_mul, nn_mul, nn_add, nn_add, nn_cl (by omega), nn_cl (by omega), k2 (3 * j + t) (by omega), hL t (by omega), nl_mul, show s = aS_ A v by omega]
              refine ⟨la_vp (by omega) (by omega), la_vp (by omega) (by omega), ?_⟩
              rintro l3 rfl
              have e3 : L t * pu_s (fun s => if y s = e then aL_ A v s t else 0) (aS_ A v) = ct_l A v L y e t := rfl
              rw [uu_e, e3, nl_p0, nl_lt (by omega) (by omega)]
              have nx := ih (t + 1) (ab_u l2 (a0 + 3) (3 * (j + 1) + t) (Int64.ofNat (ct_l A v L y e t))) (by omega) (fr_u f2 (by omega)) (fun k hk => by rw [uu_j (by omega)]; exact k2 k hk) (fun u hu => by
                by_cases q : u = t
                · rw [q, uu_e]
                · rw [uu_j (by omega)]
                  exact z2 u (by omega))
              refine ⟨la_vp (by omega) (by omega), fun c => ?_, fun c => ?_⟩
              · rw [show ct_r (ct_l A v L y e) t ||| 0 = ct_r (ct_l A v L y e) (t + 1) from by
                  unfold ct_r
                  rw [es]
                  by_cases q : 0 < pu_s (ct_l A v L y e) t
                  · rw [if_pos q, if_pos (by omega)]
                    rfl
                  · rw [if_neg q, if_neg (by omega)]
                    rfl]
                exact nx
              · rw [show ct_r (ct_l A v L y e) t ||| 1 = ct_r (ct_l A v L y e) (t + 1) from by
                  unfold ct_r
                  rw [es, if_pos (show 0 < pu_s (ct_l A v L y e) t + ct_l A v L y e t by omega)]
                  split <;> rfl]
                exact nx
            · rw [(hK.2.2.2.2.1 v hv).1, nn_le (by omega) (by omega)] at c
              omega
          | succ r ihr =>
            intro s hs
            have hlk := hK.2.2.2.2.2.1 v s t hv (by omega) (by omega)
            have hl20 := (hW.2.2.2.2.2.2.2.1 v s t).1
            have ih2 := ihr (s + 1) (by omega)
            have es : pu_s (fun s => if y s = e then aL_ A v s t else 0) (s + 1) = pu_s (fun s => if y s = e then aL_ A v s t else 0) s + (if y s = e then aL_ A v s t else 0) := rfl
            have hys := hy s (by omega)
            refine tMX8_hear_33 (d := d) ha hV ⟨fun c => ?_, fun _ => ?_⟩
            · rw [(hK.2.2.2.2.1 v hv).1, nn_le (by omega) (by omega)] at c
              omega
            · rw [nn_m3, nn_m3, nn_mul, nn_mul, nn_add, nn_add, nn_cl (by omega), nn_cl (by omega), hys.1, nn_eq (by omega) (by omega), hlk, nn_64 (by omega), nl_p0, nl_add, nl_add, la_nx]
              refine ⟨la_vp (by omega) (by omega), fun c => ?_, fun c => ⟨la_vp (by omega) (by omega), ?_⟩⟩
              · rw [es, if_neg c] at ih2
                exact ih2
              · rw [es, if_pos c] at ih2
                exact ih2
        exact go2 _ 0 (Nat.zero_add _).symm
  exact go 3 0 l rfl fr_r (fun _ _ => rfl) (fun u hu => absurd hu (Nat.not_lt_zero u))
theorem ct_hasCase {A : mA_} {m a0 j v s : Nat} {L : Nat → Nat} (hW : mt_W A) (ha : ab_isT a0) (hm : ab_isM m) (hK : mt_K A m i) (hj : j < aV_ A) (hv : v < aV_ A) (hs : s < aS_ A v) (hL : ∀ t, t < 3 → l (a0 + 3) (3 * j + t) = Int64.ofNat (L t)) (hB : ∀ t, L t ≤ 25600000000) : ab_Sp MX8_hasCase (d + 1) [.ref a0, .int (Int32.ofNat j), .ref (m + 5 + 6 * v), .int (Int32.ofNat s)] (i, l, dd, x) (ab_E0 sc) (some (.int (ct_r (fun t => L t * aL_ A v s t) 3))) (fun σ => σ = (i, l, dd, x)) := by
  have w2 := hW.2.1
  have w7 := hW.2.2.2.2.2.2.1 v hv
  have hV : ab_isV (m + 5 + 6 * v) := ⟨m, v, hm, by omega, rfl⟩
  refine ab_ent (n := 3) okMX8_hasCase.1 (fun G => Nat.le_of_ble_eq_true rfl) (fun Q hQ => ?_)
  refine tMX8_hasCase_0 (d := d) ha hV ?_
  have go : ∀ n t : Nat, 3 = t + n → pu_s (fun t => L t * aL_ A v s t) t = 0 → ab_Fr MX8_hasCase (d + 1) Q 3 [some (.ref a0), some (.int (Int32.ofNat j)), some (.ref (m + 5 + 6 * v)), some (.int (Int32.ofNat s)), some (.int (Int32.ofNat t))] [] (0, 0) (i, l, dd, x) (ab_E0 sc) := by
    intro n
    induction n with
    | zero =>
      intro t ht hz
      refine tMX8_hasCase_3 (d := d) ha hV ⟨fun _ => ?_, fun c => ?_⟩
      · rw [show t = 3 by omega] at hz
        unfold ct_r at hQ
        rw [hz, if_neg (Nat.lt_irrefl 0)] at hQ
        exact hQ _ rfl
      · rw [nn_p3, nn_le (by omega) (by omega)] at c
        omega
    | succ n ih =>
      intro t ht hz
      have hlk := hK.2.2.2.2.2.1 v s t hv hs (by omega)
      have hl20 := (hW.2.2.2.2.2.2.2.1 v s t).1
      have hBt := hB t
      have es : pu_s (fun t => L t * aL_ A v s t) (t + 1) = pu_s (fun t => L t * aL_ A v s t) t + L t * aL_ A v s t := rfl
      refine tMX8_hasCase_3 (d := d) ha hV ⟨fun c => ?_, fun _ => ?_⟩
      · rw [nn_p3, nn_le (by omega) (by omega)] at c
        omega
      · rw [nn_m3, nn_m3, nn_mul, nn_mul, nn_add, nn_add, nn_cl (by omega), nn_cl (by omega), hL t (by omega), hlk, nl_p0, nl_lt (by omega) (by omega), nn_p0, nn_le (by omega) (by omega), la_nx]
        refine ⟨la_vp (by omega) (by omega), fun c => ih (t + 1) (by omega) ?_, fun c => ⟨la_vp (by omega) (by omega), fun c2 => ih (t + 1) (by omega) ?_, fun c2 => ?_⟩⟩
        · rw [es, hz, show L t = 0 by omega, Nat.zero_mul]
        · rw [es, hz, show aL_ A v s t = 0 by omega, Nat.mul_zero]
        · have hpos : 0 < L t * aL_ A v s t := Nat.mul_pos c (by omega)
          have hle : pu_s (fun t => L t * aL_ A v s t) (t + 1) ≤ pu_s (fun t => L t * aL_ A v s t) 3 := by
            have hsp := pu_sp (f := fun t => L t * aL_ A v s t) (n := t + 1) (m := n)
            rw [show t + 1 + n = 3 by omega] at hsp
            omega
          unfold ct_r at hQ
          rw [if_pos (by omega)] at hQ
          exact hQ _ rfl
  exact go 3 0 rfl rfl
theorem ct_follows {A : mA_} {o : Nat → Nat} {m a0 j h : Nat} (hW : mt_W A) (hp : 0 < aV_ A) (hO : tu_O A o) (ha : ab_isT a0) (hm : ab_isM m) (hd : dd a0 0 = .ref m) (hK : mt_K A m i) (hj : j < aV_ A) (ho : i (a0 + 1) j = Int32.ofNat (o j)) (hL : ∀ t, t < 3 → l (a0 + 3) (3 * j + t) = Int64.ofNat (tu_L A o j h t)) (hy : ∀ s, s < aS_ A (o j) → i (a0 + 2) (3 * j + s) = Int32.ofNat (tu_s A (o j) (tu_L A o j h) s)) : ab_Sp MX8_follows (d + 2) [.ref a0, .int (Int32.ofNat j)] (i, l, dd, x) (ab_E0 sc) (some (.int (Int32.ofNat (tu_f A o j h)))) (fun σ => σ = (i, l, dd, x)) := by
  have w1 := hW.1
  have w2 := hW.2.1
  have hv := hO.1 j hj
  have w7 := hW.2.2.2.2.2.2.1 (o j) hv
  have hV : ab_isV (m + 5 + 6 * o j) := ⟨m, o j, hm, by omega, rfl⟩
  refine ab_ent (n := 1) okMX8_follows.1 (fun G => Nat.le_of_ble_eq_true rfl) (fun Q hQ => ?_)
  refine tMX8_follows_0 (d := d + 1) ha ⟨m, hd, hm, ?_⟩
  rw [nn_cl (by omega), ho, nn_cl (by omega)]
  refine ⟨la_vp (by omega) (by omega), la_vp (by omega) (by omega), ?_⟩
  have go : ∀ n s : Nat, aS_ A (o j) = s + n → (tu_g A o j h s).2 = 1 → ab_Fr MX8_follows (d + 2) Q 20 [some (.ref a0), some (.int (Int32.ofNat j)), some (.ref (m + 5 + 6 * o j)), some (.int (tu_n (tu_g A o j h s).1)), some (.int (Int32.ofNat s)), none] [] (0, 0) (i, l, dd, x) (ab_E0 sc) := by
    intro n
    induction n with
    | zero =>
      intro s hs h1
      refine tMX8_follows_20 (d := d + 1) ha hV ⟨fun _ => ?_, fun c => ?_⟩
      · unfold tu_f at hQ
        rw [show aS_ A (o j) = s by omega, h1] at hQ
        exact hQ _ rfl
      · rw [(hK.2.2.2.2.1 (o j) hv).1, nn_le (by omega) (by omega)] at c
        omega
    | succ n ih =>
      intro s hs h1
      have hsl := tu_sl (A := A) (v := o j) (L := tu_L A o j h) (s := s) hW hp
      have hgl := tu_gl (A := A) (o := o) (i := j) (h := h) hW hp s
      have eg : tu_g A o j h (s + 1) = if 0 < pu_s (fun t => tu_L A o j h t * aL_ A (o j) s t) 3 then (tu_s A (o j) (tu_L A o j h) s, if (tu_g A o j h s).1 = 9 ∨ (tu_g A o j h s).1 = tu_s A (o j) (tu_L A o j h) s then (tu_g A o j h s).2 else 0) else tu_g A o j h s := rfl
      refine tMX8_follows_20 (d := d + 1) ha hV ⟨fun c => ?_, fun _ => ⟨_, _, ct_hasCase (d := d) (L := tu_L A o j h) hW ha hm hK hj hv (show s < aS_ A (o j) by omega) hL (fun t => tu_L8 hW hO (by omega)), ?_⟩⟩
      · rw [(hK.2.2.2.2.1 (o j) hv).1, nn_le (by omega) (by omega)] at c
        omega
      · rintro i6 l7 dd8 x9 ⟨⟩
        have ih2 := ih (s + 1) (by omega)
        rw [nn_m3, nn_mul, nn_add, nn_cl (by omega), hy s (by omega), la_nx]
        by_cases c : 0 < pu_s (fun t => tu_L A o j h t * aL_ A (o j) s t) 3
        · rw [show ct_r (fun t => tu_L A o j h t * aL_ A (o j) s t) 3 = 1 from if_pos c]
          refine ⟨fun z => absurd z (by decide), fun _ => ⟨la_vp (by omega) (by omega), ?_⟩⟩
          rw [if_pos c] at eg
          rw [eg] at ih2
          dsimp only at ih2
          rw [show tu_n (tu_s A (o j) (tu_L A o j h) s) = Int32.ofNat (tu_s A (o j) (tu_L A o j h) s) from if_neg (by omega)] at ih2
          by_cases c9 : (tu_g A o j h s).1 = 9
          · rw [show tu_n (tu_g A o j h s).1 = -1 from if_pos c9]
            rw [if_pos (Or.inl c9)] at ih2
            exact ⟨fun _ => ih2 h1, fun z => absurd rfl z⟩
          · rw [show tu_n (tu_g A o j h s).1 = Int32.ofNat (tu_g A o j h s).1 from if_neg c9, nn_em (by omega), nn_eq (by omega) (by omega)]
            refine ⟨fun z => z.elim, fun _ => ⟨fun q => ?_, fun q => ?_⟩⟩
            · rw [if_pos (Or.inr q)] at ih2
              exact ih2 h1
            · rw [if_neg (fun z => z.elim c9 q)] at eg
              have e0 := tu_g0 (A := A) (o := o) (i := j) (h := h) (s := s + 1) (by rw [eg]) n
              unfold tu_f at hQ
              rw [show aS_ A (o j) = s + 1 + n by omega, e0] at hQ
              exact hQ _ rfl
        · rw [show ct_r (fun t => tu_L A o j h t * aL_ A (o j) s t) 3 = 0 from if_neg c]
          refine ⟨fun _ => ?_, fun z => absurd rfl z⟩
          rw [if_neg c] at eg
          rw [eg] at ih2
          exact ih2 h1
  exact go _ 0 (Nat.zero_add _).symm rfl
theorem ct_cliffAt {A : mA_} {o : Nat → Nat} {m a0 j h : Nat} (hW : mt_W A) (hp : 0 < aV_ A) (hO : tu_O A o) (ha : ab_isT a0) (hm : ab_isM m) (hd : dd a0 0 = .ref m) (hK : mt_K A m i) (hj : j < aV_ A) (ho : i (a0 + 1) j = Int32.ofNat (o j)) (hL : ∀ t, t < 3 → l (a0 + 3) (3 * j + t) = Int64.ofNat (tu_L A o j h t)) (hy : ∀ s, s < aS_ A (o j) → i (a0 + 2) (3 * j + s) = Int32.ofNat (tu_s A (o j) (tu_L A o j h) s)) : ab_Sp MX8_cliffAt (d + 3) [.ref a0, .int (Int32.ofNat j), .int (tu_C A o j h)] (i, l, dd, x) (ab_E0 sc) (some (.int (tu_D A o j h))) (fun σ => σ = (i, l, dd, x)) := by
  have w2 := hW.2.1
  have hz := tu_zl (A := A) (o := o) j h
  refine ab_ent (n := 2) okMX8_cliffAt.1 (fun G => Nat.le_of_ble_eq_true rfl) (fun Q hQ => ?_)
  refine tMX8_cliffAt_0 (d := d + 2) ha ⟨_, _, ct_follows (d := d) hW hp hO ha hm hd hK hj ho hL hy, ?_⟩
  rintro i6 l7 dd8 x9 ⟨⟩
  have hf : tu_f A o j h = 0 ∨ tu_f A o j h = 1 := tu_g1 _
  unfold tu_D at hQ
  rcases hf with c | c
  · rw [c] at hQ ⊢
    rw [if_neg (by omega)] at hQ
    exact ⟨fun z => absurd rfl z, fun _ => hQ _ rfl⟩
  · rw [c] at hQ ⊢
    rw [if_pos rfl] at hQ
    refine ⟨fun _ => ⟨fun z => ?_, fun z => ?_⟩, fun z => absurd z (by decide)⟩
    · unfold tu_C at z ⊢
      by_cases q : tu_z A o j h = j
      · rw [if_pos q] at z
        exact absurd rfl z
      · rw [if_neg q]
        exact hQ _ rfl
    · unfold tu_C at z
      by_cases q : tu_z A o j h = j
      · rw [q] at hQ
        exact hQ _ rfl
      · rw [if_neg q, nn_em (by omega)] at z
        exact z.elim
theorem ct_open {A : mA_} {m a0 : Nat} (hW : mt_W A) (ha : ab_isT a0) (hm : ab_isM m) (hd : dd a0 0 = .ref m) (hK : mt_K A m i) : ab_Sp MX8_openTalk (d + 1) [.ref a0] (i, l, dd, x) (ab_E0 sc) none (fun σ => ∃ l2, σ = (i, l2, dd, x) ∧ fr_o (a0 + 3) (a0 + 3) l l2 ∧ ∀ t, t < 3 → l2 (a0 + 3) t = Int64.ofNat (aC_ A t)) := by
  refine ab_ent (n := 0) okMX8_openTalk.1 (fun G => Nat.le_of_ble_eq_true rfl) (fun Q hQ => ?_)
  refine tMX8_openTalk_0 (d := d) ha ?_
  have go : ∀ (n t : Nat) (l2 : Nat → Nat → Int64), 3 = t + n → fr_o (a0 + 3) (a0 + 3) l l2 → (∀ u, u < t → l2 (a0 + 3) u = Int64.ofNat (aC_ A u)) → ab_Fr MX8_openTalk (d + 1) Q 2 [some (.ref a0), some (.int (Int32.ofNat t))] [] (0, 0) (i, l2, dd, x) (ab_E0 sc) := by
    intro n
    induction n with
    | zero =>
      intro t l2 ht f2 z2
      refine tMX8_openTalk_2 (d := d) ha ⟨fun _ => hQ _ ⟨l2, rfl, f2, fun u hu => z2 u (by omega)⟩, fun c => ?_⟩
      rw [nn_p3, nn_le (by omega) (by omega)] at c
      omega
    | succ n ih =>
      intro t l2 ht f2 z2
      refine tMX8_openTalk_2 (d := d) ha ⟨fun c => ?_, fun _ => ⟨m, hd, hm, ?_⟩⟩
      · rw [nn_p3, nn_le (by omega) (by omega)] at c
        omega
      · have hc := (hW.2.2.2.2.1 t).1
        rw [nn_cl (by omega), hK.2.2.1 t (by omega), nn_64 (by omega), la_nx]
        refine ⟨la_vp (by omega) (by omega), la_vp (by omega) (by omega), ?_⟩
        rintro l3 rfl
        refine ih (t + 1) _ (by omega) (fr_u f2 (by omega)) (fun u hu => ?_)
        by_cases q : u = t
        · rw [q, uu_e]
        · rw [uu_j q]
          exact z2 u (by omega)
  exact go 3 0 l rfl fr_r (fun u hu => absurd hu (Nat.not_lt_zero u))
end TQB4
