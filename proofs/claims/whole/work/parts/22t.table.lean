/-! fits: tables of votes by their number; the class's layPlaces, nextTable -/
theorem fb_n1 {c M : Nat} (hM : 0 < M) (h : (c + 1) % M = 0) : (c + 1) / M = c / M + 1 := by
  have e := Nat.div_add_mod (c + 1) M
  rw [h, Nat.add_zero] at e
  generalize (c + 1) / M = k at e ⊢
  cases k with
  | zero =>
    rw [Nat.mul_zero] at e
    omega
  | succ k =>
    rw [Nat.mul_succ] at e
    have e2 : c = M - 1 + M * k := by omega
    rw [e2, Nat.add_mul_div_left _ _ hM, Nat.div_eq_of_lt (by omega), Nat.zero_add]
theorem fb_n2 {c M : Nat} (hM : 0 < M) (h : ¬ (c + 1) % M = 0) : (c + 1) / M = c / M := by
  have e := Nat.div_add_mod (c + 1) M
  have hl := Nat.mod_lt (c + 1) hM
  generalize hr : (c + 1) % M = r at *
  generalize (c + 1) / M = k at e ⊢
  have e2 : c = r - 1 + M * k := by omega
  rw [e2, Nat.add_mul_div_left _ _ hM, Nat.div_eq_of_lt (by omega), Nat.zero_add]
theorem fb_n3 {c M X : Nat} (hM : 0 < M) (h : ¬ (c + 1) % M = 0) : (c + 1) / (M * X) = c / (M * X) := by
  rw [← Nat.div_div_eq_div_mul, fb_n2 hM h, Nat.div_div_eq_div_mul]
theorem fb_m1 {k B : Nat} (hB : 0 < B) (h : k % B + 1 < B) : (k + 1) % B = k % B + 1 := by
  have e := Nat.div_add_mod k B
  have e2 : k + 1 = k % B + 1 + B * (k / B) := by omega
  rw [e2, Nat.add_mul_mod_self_left, Nat.mod_eq_of_lt (by omega)]
theorem fb_m0 {k B : Nat} (hB : 0 < B) (h : k % B + 1 = B) : (k + 1) % B = 0 := by
  have e := Nat.div_add_mod k B
  have e2 : k + 1 = B + B * (k / B) := by omega
  rw [e2, Nat.add_mul_mod_self_left, Nat.mod_self]
/-- places before a voter -/
def fb_P (A : mA_) (v : Nat) : Nat := pu_s (aS_ A) v
def fb_N (A : mA_) : Nat := fb_P A (aV_ A)
theorem fb_mono {A : mA_} {u v : Nat} (h : u ≤ v) : fb_P A u ≤ fb_P A v := by
  obtain ⟨k, rfl⟩ := Nat.le.dest h
  unfold fb_P
  rw [pu_sp]
  omega
theorem fb_lt {A : mA_} {u w v : Nat} (hw : w < aS_ A u) (h : u < v) : fb_P A u + w < fb_P A v := by
  have h1 := fb_mono (A := A) (u := u + 1) (v := v) (by omega)
  have h2 : fb_P A (u + 1) = fb_P A u + aS_ A u := rfl
  omega
theorem fb_ex {A : mA_} : ∀ {V p : Nat}, p < fb_P A V → ∃ v s, v < V ∧ s < aS_ A v ∧ p = fb_P A v + s := by
  intro V
  induction V with
  | zero => intro p hp; exact absurd hp (Nat.not_lt_zero p)
  | succ V ih =>
    intro p hp
    have h2 : fb_P A (V + 1) = fb_P A V + aS_ A V := rfl
    by_cases c : p < fb_P A V
    · obtain ⟨v, s, h3, h4, h5⟩ := ih c
      exact ⟨v, s, by omega, h4, h5⟩
    · exact ⟨V, p - fb_P A V, by omega, by omega, by omega⟩
theorem fb_inj {A : mA_} {u w v s : Nat} (hw : w < aS_ A u) (hs : s < aS_ A v) (h : fb_P A u + w = fb_P A v + s) : u = v ∧ w = s := by
  rcases Nat.lt_trichotomy u v with c | c | c
  · have := fb_lt hw c
    omega
  · subst c
    omega
  · have := fb_lt hs c
    omega
/-- digit of a table's number -/
def fb_d (A : mA_) (c p : Nat) : Nat := c / (aT_ A + 1) ^ (fb_N A - 1 - p) % (aT_ A + 1)
/-- its votes -/
def fb_v (A : mA_) (c v s : Nat) : Nat := mt_wx A (fb_d A c (fb_P A v + s))
theorem fb_dl {A : mA_} {c p : Nat} : fb_d A c p ≤ aT_ A := Nat.le_of_lt_succ (Nat.mod_lt _ (Nat.succ_pos _))
theorem fb_vt {A : mA_} {c : Nat} : mt_vt A (fb_v A c) := fun v s _ _ => by
  unfold fb_v mt_wx
  split
  · exact Or.inl (by assumption)
  · exact Or.inr rfl
/-- the digits by carry -/
theorem fb_c0 {A : mA_} {c q : Nat} (hq : 0 < q) (hN : q ≤ fb_N A) (h : (c + 1) % (aT_ A + 1) ^ (fb_N A - q) = 0) : (fb_d A c (q - 1) < aT_ A → fb_d A (c + 1) (q - 1) = fb_d A c (q - 1) + 1 ∧ ¬ (c + 1) % (aT_ A + 1) ^ (fb_N A - (q - 1)) = 0) ∧ (¬ fb_d A c (q - 1) < aT_ A → fb_d A (c + 1) (q - 1) = 0 ∧ (c + 1) % (aT_ A + 1) ^ (fb_N A - (q - 1)) = 0) := by
  have hM : 0 < (aT_ A + 1) ^ (fb_N A - q) := Nat.pow_pos (Nat.succ_pos _)
  have e1 : fb_N A - 1 - (q - 1) = fb_N A - q := by omega
  have e2 : fb_N A - (q - 1) = fb_N A - q + 1 := by omega
  have hd := fb_dl (A := A) (c := c) (p := q - 1)
  unfold fb_d at *
  rw [e1] at *
  rw [e2, Nat.pow_succ, Nat.mod_mul, h, Nat.zero_add, fb_n1 hM h]
  refine ⟨fun g => ?_, fun g => ?_⟩
  · rw [fb_m1 (show 0 < aT_ A + 1 by omega) (by omega)]
    refine ⟨rfl, fun z => ?_⟩
    rcases Nat.mul_eq_zero.mp z with z | z <;> omega
  · rw [fb_m0 (show 0 < aT_ A + 1 by omega) (by omega)]
    exact ⟨rfl, rfl⟩
theorem fb_c1 {A : mA_} {c q p : Nat} (hN : q ≤ fb_N A) (hp : p < q) (h : ¬ (c + 1) % (aT_ A + 1) ^ (fb_N A - q) = 0) : fb_d A (c + 1) p = fb_d A c p := by
  have hM : 0 < (aT_ A + 1) ^ (fb_N A - q) := Nat.pow_pos (Nat.succ_pos _)
  have e1 : fb_N A - 1 - p = (fb_N A - q) + (q - 1 - p) := by omega
  unfold fb_d
  rw [e1, Nat.pow_add, fb_n3 hM h]
section TQT2
variable {d : Nat} {sc : Nat × (Nat → Int32)} {i : Nat → Nat → Int32} {l : Nat → Nat → Int64} {dd : Nat → Nat → Value} {x : Nat}
/-- the class's places -/
def fb_Pl (A : mA_) (i : Nat → Nat → Int32) : Prop := i 169 12 = Int32.ofNat (fb_N A) ∧ ∀ v s, v < aV_ A → s < aS_ A v → i 176 (fb_P A v + s) = Int32.ofNat (3 * v + s)
def fb_Di (A : mA_) (i : Nat → Nat → Int32) (f : Nat → Nat) : Prop := ∀ v s, v < aV_ A → s < aS_ A v → i 177 (fb_P A v + s) = Int32.ofNat (f (fb_P A v + s)) ∧ i 173 (3 * v + s) = Int32.ofNat (mt_wx A (f (fb_P A v + s)))
/-- cells that it writes -/
def fb_o (i i2 : Nat → Nat → Int32) : Prop := (∀ k, k ≠ 169 → k ≠ 173 → k ≠ 176 → k ≠ 177 → i2 k = i k) ∧ ∀ j, j ≠ 12 → i2 169 j = i 169 j
theorem fb_ot {i2 i3 : Nat → Nat → Int32} (h1 : fb_o i i2) (h2 : fb_o i2 i3) : fb_o i i3 := ⟨fun k a b c e => (h2.1 k a b c e).trans (h1.1 k a b c e), fun j h => (h2.2 j h).trans (h1.2 j h)⟩
theorem fb_ou {k j : Nat} {z : Int32} (h : k = 173 ∨ k = 176 ∨ k = 177 ∨ (k = 169 ∧ j = 12)) : fb_o i (ab_u i k j z) := ⟨fun a _ _ _ _ => uu_f (by omega), fun b hb => by
  unfold ab_u
  rw [if_neg (by omega)]⟩
theorem fb_or : fb_o i i := ⟨fun _ _ _ _ _ => rfl, fun _ _ => rfl⟩
theorem fb_K {A : mA_} {m : Nat} {i2 : Nat → Nat → Int32} (hW : mt_W A) (hm : ab_isM m) (hK : mt_K A m i) (h : fb_o i i2) : mt_K A m i2 :=
  mt_K_o (lo := 155) (hi := 177) hm hK (fun k hk => h.1 k (by omega) (by omega) (by omega) (by omega)) (by omega) hW
/-- one place -/
theorem nt_62 {A : mA_} {m c v s a1 z : Nat} {f : Nat → Nat} (hW : mt_W A) (hm : ab_isM m) (hd2 : dd 169 1 = .ref m) (hK : mt_K A m i) (hN : fb_N A ≤ 6) (hP : fb_Pl A i) (hv : v < aV_ A) (hs : s < aS_ A v) (hf : fb_Di A i f) (hz : z ≤ aT_ A) {Q : ab_Qt} (hQ : ∀ i2, fb_o i i2 → fb_Pl A i2 → fb_Di A i2 (pu_u f (fb_P A v + s) z) → ab_Fr MX3_nextTable (d + 2) Q 11 [some (.ref 169), some (.int (Int32.ofNat a1)), some (.int (if v + 1 < aV_ A then 1 else 0)), some (.int (Int32.ofNat (fb_P A v + s) + (-1)))] [] (0, 0) (i2, l, dd, x) (ab_E0 sc)) :
    ab_Fr MX3_nextTable (d + 2) Q 62 [some (.ref 169), some (.int (Int32.ofNat a1)), none, some (.int (Int32.ofNat (fb_P A v + s)))] [.int (Int32.ofNat z), .int (Int32.ofNat (fb_P A v + s)), .ref 177] (0, 0) (i, l, dd, x) (ab_E0 sc) := by
  have w2 := hW.2.1
  have hS := hW.2.2.2.2.2.2.1 v hv
  have hp : fb_P A v + s < fb_N A := fb_lt hs hv
  refine tMX3_nextTable_62 (d := d + 1) (show (ab_E0 sc).1 177 = .inr (0, 6) from rfl) ⟨la_vp (by omega) (by omega), ?_⟩
  rintro i1 rfl
  rw [nn_cl (by omega)]
  have o1 : fb_o i (ab_u i 177 (fb_P A v + s) (Int32.ofNat z)) := fb_ou (by omega)
  have e7 : ab_u i 177 (fb_P A v + s) (Int32.ofNat z) 177 (fb_P A v + s) = Int32.ofNat z := uu_e
  rw [e7]
  refine ⟨la_vp (by omega) (by omega), la_vp (by omega) (by omega), _, _, mt_voteAt (d := d) hW hm hd2 (fb_K hW hm hK o1) hz, ?_⟩
  rintro i6 l7 dd8 x9 ⟨⟩
  have e6 : ab_u i 177 (fb_P A v + s) (Int32.ofNat z) 176 (fb_P A v + s) = Int32.ofNat (3 * v + s) := by rw [uu_k (by decide)]; exact hP.2 v s hv hs
  rw [e6, nn_cl (by omega)]
  refine ⟨la_vp (by omega) (by omega), ?_⟩
  rintro i12 rfl
  have o2 : fb_o i (ab_u (ab_u i 177 (fb_P A v + s) (Int32.ofNat z)) 173 (3 * v + s) (Int32.ofNat (mt_wx A z))) := fb_ot o1 (fb_ou (by omega))
  have q2 := (fb_K hW hm hK o2).1.2
  have e62 : ab_u (ab_u i 177 (fb_P A v + s) (Int32.ofNat z)) 173 (3 * v + s) (Int32.ofNat (mt_wx A z)) 176 (fb_P A v + s) = Int32.ofNat (3 * v + s) := by rw [uu_k (by decide)]; exact e6
  have h2 := hQ _ o2 ⟨by rw [uu_k (by decide), uu_k (by decide)]; exact hP.1, fun u w hu hw => by rw [uu_k (by decide), uu_k (by decide)]; exact hP.2 u w hu hw⟩ (fun u w hu hw => by
    have hSu := hW.2.2.2.2.2.2.1 u hu
    unfold pu_u
    by_cases c : fb_P A u + w = fb_P A v + s
    · obtain ⟨rfl, rfl⟩ := fb_inj hw hs c
      rw [if_pos rfl]
      exact ⟨by rw [uu_k (by decide)]; exact uu_e, uu_e⟩
    · rw [if_neg c]
      have c2 : 3 * u + w ≠ 3 * v + s := fun z => c (by rw [show u = v by omega, show w = s by omega])
      rw [uu_k (by decide), uu_j c, uu_j c2, uu_k (by decide)]
      exact hf u w hu hw)
  rw [e62]
  refine ⟨la_vp (by omega) (by omega), m, hd2, hm, ?_⟩
  rw [q2, nn_p1, nn_sub (by omega), nn_m3, nn_mul, nn_le (by omega) (by omega)]
  refine ⟨fun g => ?_, fun g => ?_⟩
  · rw [if_neg (by omega)] at h2
    exact h2
  · rw [if_pos (by omega)] at h2
    exact h2
theorem nt_40 {A : mA_} {m v s : Nat} {f : Nat → Nat} (hW : mt_W A) (hm : ab_isM m) (hd2 : dd 169 1 = .ref m) (hK : mt_K A m i) (hN : fb_N A ≤ 6) (hP : fb_Pl A i) (hv : v < aV_ A) (hs : s < aS_ A v) (hf : fb_Di A i f) (hf3 : f (fb_P A v + s) ≤ aT_ A) (a2 : Int32) {Q : ab_Qt} (h0 : f (fb_P A v + s) < aT_ A → ∀ i2, fb_o i i2 → fb_Pl A i2 → fb_Di A i2 (pu_u f (fb_P A v + s) (f (fb_P A v + s) + 1)) → ab_Fr MX3_nextTable (d + 2) Q 11 [some (.ref 169), some (.int (Int32.ofNat 0)), some (.int (if v + 1 < aV_ A then 1 else 0)), some (.int (Int32.ofNat (fb_P A v + s) + (-1)))] [] (0, 0) (i2, l, dd, x) (ab_E0 sc)) (h1 : ¬ f (fb_P A v + s) < aT_ A → ∀ i2, fb_o i i2 → fb_Pl A i2 → fb_Di A i2 (pu_u f (fb_P A v + s) 0) → ab_Fr MX3_nextTable (d + 2) Q 11 [some (.ref 169), some (.int (Int32.ofNat 1)), some (.int (if v + 1 < aV_ A then 1 else 0)), some (.int (Int32.ofNat (fb_P A v + s) + (-1)))] [] (0, 0) (i2, l, dd, x) (ab_E0 sc)) :
    ab_Fr MX3_nextTable (d + 2) Q 11 [some (.ref 169), some (.int 1), some (.int a2), some (.int (Int32.ofNat (fb_P A v + s)))] [] (0, 0) (i, l, dd, x) (ab_E0 sc) := by
  have w1 := hW.1
  have hp : fb_P A v + s < fb_N A := fb_lt hs hv
  refine tMX3_nextTable_11 (d := d + 1) ⟨fun c => absurd c (la_nn (by omega)).1, fun _ => ⟨fun c => absurd c (by decide), fun _ => ⟨la_vp (by omega) (by omega), m, hd2, hm, ?_⟩⟩⟩
  rw [nn_cl (by omega), (hf v s hv hs).1, hK.1.1, nn_lt (by omega) (by omega)]
  refine ⟨fun c => ?_, fun c => ?_⟩
  · refine tMX3_nextTable_40 (d := d + 1) ⟨fun _ => ⟨la_vp (by omega) (by omega), ?_⟩, fun z => absurd rfl z⟩
    rw [nn_cl (by omega), (hf v s hv hs).1, la_nx]
    exact nt_62 (d := d) (a1 := 0) (c := 0) hW hm hd2 hK hN hP hv hs hf (by omega) (h0 c)
  · refine tMX3_nextTable_40 (d := d + 1) ⟨fun z => absurd z (by decide), fun _ => ?_⟩
    exact nt_62 (d := d) (a1 := 1) (c := 0) (z := 0) hW hm hd2 hK hN hP hv hs hf (by omega) (h1 c)
theorem fb_De {A : mA_} {f g : Nat → Nat} (h : fb_Di A i f) (hg : ∀ p, p < fb_N A → f p = g p) : fb_Di A i g := fun v s hv hs => by
  rw [← hg _ (fb_lt hs hv)]
  exact h v s hv hs
/-- digits with those from q on those of the next table -/
def fb_x (A : mA_) (c q p : Nat) : Nat := if p < q then fb_d A c p else fb_d A (c + 1) p
def nt_r (A : mA_) (c : Nat) : Nat → Int32 → Int32
  | 0, a => a
  | q + 1, _ => if fb_d A c q < aT_ A then (if q < fb_P A (aV_ A - 1) then 1 else 0) else nt_r A c q (if q < fb_P A (aV_ A - 1) then 1 else 0)
theorem nt_11 {A : mA_} {m c : Nat} (hW : mt_W A) (hp : 0 < aV_ A) (hm : ab_isM m) (hd2 : dd 169 1 = .ref m) {i0 : Nat → Nat → Int32} (hK : mt_K A m i0) (hN : fb_N A ≤ 6) {R : Int32} {Q : ab_Qt} (hQ : ∀ i2, fb_o i0 i2 → fb_Pl A i2 → fb_Di A i2 (fb_d A (c + 1)) → (R = 0 ∨ R = 1) → (R = 0 → ∀ p, p < fb_P A (aV_ A - 1) → fb_d A (c + 1) p = fb_d A c p) → Q (some (some (.int R))) (i2, l, dd, x) (ab_E0 sc)) :
    ∀ (q : Nat) (i2 : Nat → Nat → Int32) (a2 : Int32), q ≤ fb_N A → fb_o i0 i2 → fb_Pl A i2 → fb_Di A i2 (fb_x A c q) → (a2 = 0 ∨ a2 = 1) → (a2 = 0 → fb_P A (aV_ A - 1) ≤ q) → (c + 1) % (aT_ A + 1) ^ (fb_N A - q) = 0 → nt_r A c q a2 = R → ab_Fr MX3_nextTable (d + 2) Q 11 [some (.ref 169), some (.int 1), some (.int a2), some (.int (Int32.ofNat q + (-1)))] [] (0, 0) (i2, l, dd, x) (ab_E0 sc) := by
  intro q
  induction q with
  | zero =>
    intro i2 a2 hq o2 P2 D2 h2 h3 hc hR
    have hR2 : a2 = R := hR
    subst hR2
    refine tMX3_nextTable_11 (d := d + 1) ⟨fun _ => ⟨h2, hQ i2 o2 P2 (fb_De D2 (fun p _ => if_neg (Nat.not_lt_zero p))) h2 (fun z p hz => ?_)⟩, fun c => absurd c (by decide)⟩
    have := h3 z
    omega
  | succ q ih =>
    intro i2 a2 hq o2 P2 D2 h2 h3 hc hR
    obtain ⟨v, s, hv, hs, e⟩ := fb_ex (A := A) (V := aV_ A) (p := q) (by unfold fb_N at hq; omega)
    have hx := fb_c0 (A := A) (c := c) (q := q + 1) (by omega) hq hc
    have hdl := fb_dl (A := A) (c := c) (p := q)
    rw [show q + 1 - 1 = q by omega] at hx
    rw [nn_m1 (by omega), show q + 1 - 1 = q by omega]
    have hlast : ∀ b : Int32, b = (if v + 1 < aV_ A then 1 else 0) → (b = 0 ∨ b = 1) ∧ (b = 0 → fb_P A (aV_ A - 1) ≤ q) := by
      rintro b rfl
      by_cases g : v + 1 < aV_ A
      · rw [if_pos g]
        exact ⟨Or.inr rfl, fun z => absurd z (by decide)⟩
      · rw [if_neg g]
        refine ⟨Or.inl rfl, fun _ => ?_⟩
        rw [show aV_ A - 1 = v by omega]
        omega
    have hb : (if q < fb_P A (aV_ A - 1) then (1 : Int32) else 0) = (if v + 1 < aV_ A then 1 else 0) := by
      by_cases g : v + 1 < aV_ A
      · have := fb_lt (A := A) (v := aV_ A - 1) hs (by omega)
        rw [if_pos g, if_pos (by omega)]
      · rw [if_neg g, show aV_ A - 1 = v by omega, if_neg (by omega)]
    have hR2 : (if fb_d A c q < aT_ A then (if v + 1 < aV_ A then (1 : Int32) else 0) else nt_r A c q (if v + 1 < aV_ A then 1 else 0)) = R := by
      rw [← hb]
      exact hR
    rw [e] at hx hdl ⊢
    rw [e] at hR2
    have ef : fb_x A c (q + 1) (fb_P A v + s) = fb_d A c (fb_P A v + s) := if_pos (by omega)
    obtain ⟨b1, b2⟩ := hlast _ rfl
    refine nt_40 (d := d) (f := fb_x A c (q + 1)) hW hm hd2 (fb_K hW hm hK o2) hN P2 hv hs D2 (by rw [ef]; exact hdl) a2 (fun g i3 o3 P3 D3 => ?_) (fun g i3 o3 P3 D3 => ?_)
    · rw [ef] at g D3
      rw [if_pos g] at hR2
      rw [hR2] at b1 b2 ⊢
      obtain ⟨x1, x2⟩ := hx.1 g
      have eall : ∀ p, p < fb_N A → pu_u (fb_x A c (q + 1)) (fb_P A v + s) (fb_d A c (fb_P A v + s) + 1) p = fb_d A (c + 1) p := fun p hpN => by
        unfold pu_u fb_x
        by_cases y : p = fb_P A v + s
        · rw [if_pos y, y, x1]
        · rw [if_neg y]
          by_cases y2 : p < q + 1
          · rw [if_pos y2, fb_c1 (q := fb_P A v + s) (by omega) (by omega) x2]
          · rw [if_neg y2]
      refine tMX3_nextTable_11 (d := d + 1) ⟨fun _ => ⟨b1, hQ i3 (fb_ot o2 o3) P3 (fb_De D3 eall) b1 (fun z p hz => fb_c1 (q := fb_P A v + s) (by omega) (by have := b2 z; omega) x2)⟩, fun _ => ⟨fun _ => ⟨b1, hQ i3 (fb_ot o2 o3) P3 (fb_De D3 eall) b1 (fun z p hz => fb_c1 (q := fb_P A v + s) (by omega) (by have := b2 z; omega) x2)⟩, fun z => absurd rfl z⟩⟩
    · rw [ef] at g
      rw [if_neg g] at hR2
      obtain ⟨x1, x2⟩ := hx.2 g
      have h5 := ih i3 _ (by omega) (fb_ot o2 o3) P3 (fb_De D3 (fun p hpN => by
        unfold pu_u fb_x
        by_cases y : p = fb_P A v + s
        · rw [if_pos y, if_neg (by omega), y, x1]
        · rw [if_neg y]
          by_cases y2 : p < q + 1
          · rw [if_pos y2, if_pos (by omega)]
          · rw [if_neg y2, if_neg (by omega)])) b1 b2 (by rw [e]; exact x2) (by rw [e]; exact hR2)
      rw [e] at h5
      exact h5
theorem mt_next {A : mA_} {m c : Nat} (hW : mt_W A) (hp : 0 < aV_ A) (hm : ab_isM m) (hd2 : dd 169 1 = .ref m) (hK : mt_K A m i) (hN : fb_N A ≤ 6) (hP : fb_Pl A i) (hD : fb_Di A i (fb_d A c)) : ab_Sp MX3_nextTable (d + 2) [.ref 169] (i, l, dd, x) (ab_E0 sc) (some (.int (nt_r A c (fb_N A) 0))) (fun σ => ∃ i2, σ = (i2, l, dd, x) ∧ fb_o i i2 ∧ fb_Pl A i2 ∧ fb_Di A i2 (fb_d A (c + 1)) ∧ (nt_r A c (fb_N A) 0 = 0 ∨ nt_r A c (fb_N A) 0 = 1) ∧ (nt_r A c (fb_N A) 0 = 0 → ∀ p, p < fb_P A (aV_ A - 1) → fb_d A (c + 1) p = fb_d A c p)) := by
  refine ab_ent (n := 0) okMX3_nextTable.1 (fun G => Nat.le_of_ble_eq_true rfl) (fun Q hQ => ?_)
  refine tMX3_nextTable_0 (d := d + 1) ?_
  rw [hP.1, Int32.sub_eq_add_neg]
  refine nt_11 (d := d) (c := c) (i0 := i) hW hp hm hd2 hK hN (fun i2 o2 P2 D2 h1 h2 => hQ _ ⟨i2, rfl, o2, P2, D2, h1, h2⟩) (fb_N A) i 0 (Nat.le_refl _) fb_or hP (fb_De hD (fun p hp => (if_pos hp).symm)) (Or.inl rfl) (fun _ => fb_mono (by omega)) ?_ rfl
  rw [Nat.sub_self, Nat.pow_zero, Nat.mod_one]
end TQT2
