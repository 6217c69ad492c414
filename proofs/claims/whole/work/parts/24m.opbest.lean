/-! BEST ORDER: the call -/
section TQM5
variable {d : Nat} {sc : Nat × (Nat → Int32)} {i : Nat → Nat → Int32} {l : Nat → Nat → Int64} {dd : Nat → Nat → Value} {x : Nat}
def bo_F (A : mA_) (k : Nat) : Nat := pu_n (aS_ A) (aV_ A) (fun b => cs_l A 7 b (tu_H A (bo_o (aV_ A) k) b (aV_ A) % 3) (aT_ A))
theorem bo_FB {A : mA_} {k : Nat} (hW : mt_W A) : bo_F A k < 1000000000000000000 := by
  have w1 := hW.1
  have h1 : bo_F A k ≤ pu_n (aS_ A) (aV_ A) (fun b => pu_s (fun t => mt_pa A b t * 50) (aT_ A)) := pu_nle (fun b _ => pu_sle (fun t _ => Nat.mul_le_mul (Nat.le_refl _) (hW.2.2.2.2.2.2.2.2.2.1 7 t _)))
  rw [pu_ns (G := fun b t => mt_pa A b t * 50)] at h1
  have h2 : pu_s (fun a => pu_n (aS_ A) (aV_ A) (fun b => mt_pa A b a * 50)) (aT_ A) ≤ pu_s (fun _ => 25600000000 * 50) (aT_ A) := pu_sle (fun t _ => by
    rw [pu_nr (c := 50) (G := fun b => mt_pa A b t)]
    exact Nat.mul_le_mul (cs_paB hW) (Nat.le_refl _))
  have h3 : ∀ n, n ≤ 3 → pu_s (fun _ => 25600000000 * 50) n ≤ 25600000000 * 50 * 3 := fun n hn => by
    rcases (show n = 0 ∨ n = 1 ∨ n = 2 ∨ n = 3 by omega) with rfl | rfl | rfl | rfl <;> decide
  have := h3 _ w1
  omega
def bo_n (o : Nat → Nat) : Nat → Nat
  | 0 => 0
  | k + 1 => bo_n o k * 10 + o k
def bo_b (A : mA_) (z : Int32) : Nat → Int32
  | 0 => z
  | k + 1 => Int32.ofNat (bo_n (bo_o (aV_ A) (mt_ln (bo_F A) k)) (aV_ A))
def bo_l (A : mA_) (z : Int64) : Nat → Int64
  | 0 => z
  | k + 1 => Int64.ofNat (bo_F A (mt_ln (bo_F A) k))
theorem bo_up {A : mA_} {z : Int32} {y : Int64} {k : Nat} (hW : mt_W A) (hy : ∀ n, n < 1000000000000000000 → Int64.ofNat n < y) : (Int64.ofNat (bo_F A k) < bo_l A y k → bo_b A z (k + 1) = Int32.ofNat (bo_n (bo_o (aV_ A) k) (aV_ A)) ∧ bo_l A y (k + 1) = Int64.ofNat (bo_F A k)) ∧ (¬ Int64.ofNat (bo_F A k) < bo_l A y k → bo_b A z (k + 1) = bo_b A z k ∧ bo_l A y (k + 1) = bo_l A y k) := by
  cases k with
  | zero =>
    refine ⟨fun _ => ⟨rfl, rfl⟩, fun c => absurd (hy _ (bo_FB hW)) c⟩
  | succ k =>
    have h1 := bo_FB (k := k + 1) hW
    have h2 := bo_FB (k := mt_ln (bo_F A) k) hW
    have e : mt_ln (bo_F A) (k + 1) = if bo_F A (k + 1) < bo_F A (mt_ln (bo_F A) k) then k + 1 else mt_ln (bo_F A) k := rfl
    show (Int64.ofNat (bo_F A (k + 1)) < Int64.ofNat (bo_F A (mt_ln (bo_F A) k)) → Int32.ofNat (bo_n (bo_o (aV_ A) (mt_ln (bo_F A) (k + 1))) (aV_ A)) = _ ∧ Int64.ofNat (bo_F A (mt_ln (bo_F A) (k + 1))) = _) ∧ (¬ Int64.ofNat (bo_F A (k + 1)) < Int64.ofNat (bo_F A (mt_ln (bo_F A) k)) → Int32.ofNat (bo_n (bo_o (aV_ A) (mt_ln (bo_F A) (k + 1))) (aV_ A)) = Int32.ofNat (bo_n (bo_o (aV_ A) (mt_ln (bo_F A) k)) (aV_ A)) ∧ Int64.ofNat (bo_F A (mt_ln (bo_F A) (k + 1))) = Int64.ofNat (bo_F A (mt_ln (bo_F A) k)))
    rw [nl_lt (by omega) (by omega), e]
    refine ⟨fun c => ?_, fun c => ?_⟩
    · rw [if_pos c]
      exact ⟨rfl, rfl⟩
    · rw [if_neg c]
      exact ⟨rfl, rfl⟩
theorem bo_V {A : mA_} {k : Nat} (hp : 0 < aV_ A) (hV : aV_ A ≤ 5) (hk : k < bo_f (aV_ A)) : tu_O A (bo_o (aV_ A) k) ∧ k < 120 ∧ ∀ j, j < aV_ A → bo_o (aV_ A) k j < 8 := by
  have h1 := (bo_1 ⟨aV_ A, by omega⟩ hp).2.1
  dsimp only at h1
  obtain ⟨h2, h3⟩ := bo_2 ⟨aV_ A, by omega⟩ hp ⟨k, by omega⟩ hk
  refine ⟨⟨fun j hj => h2 ⟨j, by omega⟩ hj, fun j u hj hu e => h3 ⟨j, by omega⟩ ⟨u, by omega⟩ hj hu e⟩, by omega, fun j hj => ?_⟩
  have := h2 ⟨j, by omega⟩ hj
  dsimp only at this
  omega
theorem bo_N {V k : Nat} (hp : 0 < V) (hV : V ≤ 5) (hk : k < bo_f V) : (k + 1 < bo_f V → ¬ nx_t (bo_o V k) (V - 1) = 0 ∧ ∀ j, j < V → nx_o V (bo_o V k) j = bo_o V (k + 1) j) ∧ (k + 1 = bo_f V → nx_t (bo_o V k) (V - 1) = 0) := by
  have h1 := (bo_1 ⟨V, by omega⟩ hp).2.1
  dsimp only at h1
  obtain ⟨h2, h3⟩ := bo_3 ⟨V, by omega⟩ hp ⟨k, by omega⟩ hk
  exact ⟨fun h => ⟨(h2 h).1, fun j hj => (h2 h).2 ⟨j, by omega⟩ hj⟩, h3⟩
theorem ct_ten {A : mA_} {m : Nat} {o : Nat → Nat} (hV : aV_ A ≤ 7) (hm : ab_isM m) (hd : dd 185 0 = .ref m) (h1 : i m 1 = Int32.ofNat (aV_ A)) (hS : bo_S 186 (aV_ A) o i) : ab_Sp MX8_orderByTen (d + 1) [.ref 185] (i, l, dd, x) (ab_E0 sc) (some (.int (Int32.ofNat (bo_n o (aV_ A))))) (fun σ => σ = (i, l, dd, x)) := by
  refine ab_ent (n := 0) okMX8_orderByTen.1 (fun G => Nat.le_of_ble_eq_true rfl) (fun Q hQ => ?_)
  refine tMX8_orderByTen_0 (d := d) (a0 := 185) (Or.inr rfl) ?_
  have go : ∀ n k : Nat, aV_ A = k + n → ab_Fr MX8_orderByTen (d + 1) Q 4 [some (.ref 185), some (.int (Int32.ofNat (bo_n o k))), some (.int (Int32.ofNat k))] [] (0, 0) (i, l, dd, x) (ab_E0 sc) := by
    intro n
    induction n with
    | zero =>
      intro k hk
      refine tMX8_orderByTen_4 (d := d) (a0 := 185) (Or.inr rfl) ⟨m, hd, hm, fun _ => ?_, fun c => ?_⟩
      · rw [show k = aV_ A by omega]
        exact hQ _ rfl
      · rw [h1, nn_le (by omega) (by omega)] at c
        omega
    | succ n ih =>
      intro k hk
      refine tMX8_orderByTen_4 (d := d) (a0 := 185) (Or.inr rfl) ⟨m, hd, hm, fun c => ?_, fun _ => ⟨la_vp (by omega) (by omega), ?_⟩⟩
      · rw [h1, nn_le (by omega) (by omega)] at c
        omega
      · rw [nn_cl (by omega), (hS k (by omega)).1, nn_p10, nn_mul, nn_add, la_nx]
        exact ih (k + 1) (by omega)
  exact go (aV_ A) 0 (Nat.zero_add _).symm
/-- the class's trial leaves these alone -/
def bo_c (i i2 : Nat → Nat → Int32) (l l2 : Nat → Nat → Int64) : Prop := fr_o 186 187 i i2 ∧ ∀ k, k ≠ 185 → k ≠ 188 → k ≠ 189 → k ≠ 190 → l2 k = l k
theorem bo_cls {A : mA_} {m : Nat} (hW : mt_W A) (hp : 0 < aV_ A) (hV : aV_ A ≤ 5) (hm : ab_isM m) (hK : mt_K A m i) : ab_Sp MX8_tryOrders (d + 14) [.ref 185, .ref m] (i, l, dd, x) (ab_E0 sc) (some (.int (bo_b A 0 (bo_f (aV_ A))))) (fun σ => ∃ i2 l2, σ = (i2, l2, ab_u dd 185 0 (.ref m), x) ∧ bo_c i i2 l l2) := by
  have w2 := hW.2.1
  have hm6 : m + 47 < 186 := by rcases hm with rfl | rfl | rfl <;> omega
  have hf := bo_1 ⟨aV_ A, by omega⟩ hp
  dsimp only at hf
  obtain ⟨hf0, hf1, hid⟩ := hf
  refine ab_ent (n := 1) okMX8_tryOrders.1 (fun G => Nat.le_of_ble_eq_true rfl) (fun Q hQ => ?_)
  refine tMX8_tryOrders_0 (d := d + 13) (a0 := 185) (Or.inr rfl) hm ?_
  rintro dd1 rfl
  have eK : ∀ i2 : Nat → Nat → Int32, fr_o 186 187 i i2 → mt_K A m i2 := fun i2 f2 => mt_K_f hm hK (fun q h1 h2 => f2 q (by omega)) hW
  have go2 : ∀ (n k : Nat) (i2 : Nat → Nat → Int32) (l2 : Nat → Nat → Int64), bo_f (aV_ A) = k + n → bo_c i i2 l l2 → (k < bo_f (aV_ A) → bo_S 186 (aV_ A) (bo_o (aV_ A) k) i2) → ab_Fr MX8_tryOrders (d + 14) Q 43 [some (.ref 185), none, some (.int (bo_b A 0 k)), some (.long (bo_l A 1152921504606846976 k)), none, some (.int (if k < bo_f (aV_ A) then 1 else 0)), some (.int (Int32.ofNat k)), none, none] [] (0, 0) (i2, l2, ab_u dd 185 0 (.ref m), x) (ab_E0 sc) := by
    intro n
    induction n with
    | zero =>
      intro k i2 l2 hk c2 S2
      rw [show k = bo_f (aV_ A) by omega, if_neg (Nat.lt_irrefl _)]
      exact tMX8_tryOrders_43 (d := d + 13) (a0 := 185) (Or.inr rfl) ⟨fun _ => hQ _ ⟨i2, l2, rfl, c2⟩, fun _ => ⟨fun _ => hQ _ ⟨i2, l2, rfl, c2⟩, fun z => absurd rfl z⟩⟩
    | succ n ih =>
      intro k i2 l2 hk c2 S2
      have hkf : k < bo_f (aV_ A) := by omega
      obtain ⟨hO, hk120, h8⟩ := bo_V hp hV hkf
      have hS2 := S2 hkf
      have hK2 := eK i2 c2.1
      have hB := bo_FB (A := A) (k := k) hW
      have hup := bo_up (A := A) (z := 0) (y := 1152921504606846976) (k := k) hW (fun n hn => by
        rw [show (1152921504606846976 : Int64) = Int64.ofNat 1152921504606846976 from rfl, nl_lt (by omega) (by omega)]
        omega)
      rw [if_pos hkf]
      refine tMX8_tryOrders_43 (d := d + 13) (a0 := 185) (Or.inr rfl) ⟨fun c => ?_, fun _ => ⟨fun z => absurd z (by decide), fun _ => ⟨_, ct_inOrder (d := d + 1) (a0 := 185) hW hp hO (Or.inr rfl) hm uu_e hK2 (fun j hj => (hS2 j hj).1), ?_⟩⟩⟩
      · rw [show (120 : Int32) = Int32.ofNat 120 from rfl, nn_le (by omega) (by omega)] at c
        omega
      · rintro i7 l8 dd9 x10 ⟨i3, l3, ⟨⟩, f3, g3, k3, A3⟩
        have c3 : bo_c i i7 l l8 := ⟨fr_t c2.1 (fr_w f3 (by omega)), fun q a b c e => by rw [g3 q a b c e, c2.2 q a b c e]⟩
        have hK3 := eK i7 c3.1
        have hS3 : bo_S 186 (aV_ A) (bo_o (aV_ A) k) i7 := fun j hj => by
          rw [f3 186 (by omega)]
          exact hS2 j hj
        refine ⟨m, uu_e, hm, _, _, mt_lostBy (d := d + 12) (a := 185 + 5) (n := 9) (K := aK_ A 7) (F := fun t e => pu_s (tu_wc A (bo_o (aV_ A) k) t e) (3 ^ aV_ A)) (isM_2 hm) rfl (mt_KLo hW hK3) A3.1 (by omega), ?_⟩
        rintro i18 l19 dd20 x21 ⟨⟩
        rw [mi_le hW hp hO]
        have hend : ∀ (b : Int32) (y : Int64), b = bo_b A 0 (k + 1) → y = bo_l A 1152921504606846976 (k + 1) → ab_Fr MX8_tryOrders (d + 14) Q 90 [some (.ref 185), none, some (.int b), some (.long y), none, none, some (.int (Int32.ofNat k)), none, none] [] (0, 0) (i7, l8, ab_u dd 185 0 (.ref m), x) (ab_E0 sc) := by
          rintro b y rfl rfl
          refine tMX8_tryOrders_90 (d := d + 13) (a0 := 185) (Or.inr rfl) ⟨_, _, ct_next (d := d + 11) (V := aV_ A) (by omega) hm uu_e hK3.1.2 hS3, ?_⟩
          rintro i5 l6 dd7 x8 ⟨i4, ⟨⟩, f4, S4⟩
          obtain ⟨n1, n2⟩ := bo_N hp hV hkf
          have c4 : bo_c i i5 l l8 := ⟨fr_t c3.1 (fr_w f4 (by omega)), c3.2⟩
          have e1 : (if nx_t (bo_o (aV_ A) k) (aV_ A - 1) = 0 then (0 : Int32) else 1) = if k + 1 < bo_f (aV_ A) then 1 else 0 := by
            by_cases c : k + 1 < bo_f (aV_ A)
            · rw [if_pos c, if_neg (n1 c).1]
            · rw [if_neg c, if_pos (n2 (by omega))]
          rw [e1, la_nx]
          exact ih (k + 1) i5 l8 (by omega) c4 (fun c => bo_8 S4 (n1 c).2)
        refine ⟨fun c => ?_, fun c => ⟨_, _, ct_ten (d := d + 12) (A := A) (by omega) hm uu_e hK3.1.2 hS3, ?_⟩⟩
        · have := hup.2 c
          exact hend _ _ this.1.symm this.2.symm
        · rintro i28 l29 dd30 x31 ⟨⟩
          have := hup.1 c
          exact hend _ _ this.1.symm this.2.symm
  have go1 : ∀ (n k : Nat) (i2 : Nat → Nat → Int32), aV_ A = k + n → fr_o 186 186 i i2 → (∀ j, j < k → i2 186 j = Int32.ofNat j) → ab_Fr MX8_tryOrders (d + 14) Q 7 [some (.ref 185), none, some (.int (Int32.ofNat k)), none, none, none, none, none, none] [] (0, 0) (i2, l, ab_u dd 185 0 (.ref m), x) (ab_E0 sc) := by
    intro n
    induction n with
    | zero =>
      intro k i2 hk f2 z2
      have hK2 := eK i2 (fr_w f2 (by omega))
      refine tMX8_tryOrders_7 (d := d + 13) (a0 := 185) (Or.inr rfl) ⟨m, uu_e, hm, fun _ => ?_, fun c => ?_⟩
      · have h := go2 (bo_f (aV_ A)) 0 i2 l (Nat.zero_add _).symm ⟨fr_w f2 (by omega), fun _ _ _ _ _ => rfl⟩ (fun _ j hj => by
          have := hid ⟨j, by omega⟩ hj
          dsimp only at this
          rw [this]
          exact ⟨z2 j (by omega), by omega⟩)
        rw [if_pos hf0] at h
        exact h
      · rw [hK2.1.2, nn_le (by omega) (by omega)] at c
        omega
    | succ n ih =>
      intro k i2 hk f2 z2
      have hK2 := eK i2 (fr_w f2 (by omega))
      refine tMX8_tryOrders_7 (d := d + 13) (a0 := 185) (Or.inr rfl) ⟨m, uu_e, hm, fun c => ?_, fun _ => ⟨la_vp (by omega) (by omega), ?_⟩⟩
      · rw [hK2.1.2, nn_le (by omega) (by omega)] at c
        omega
      · rintro i4 rfl
        rw [nn_cl (by omega), la_nx]
        refine ih (k + 1) _ (by omega) (fr_u f2 (by omega)) (fun j hj => ?_)
        by_cases e : j = k
        · rw [e, uu_e]
        · rw [uu_j e]
          exact z2 j (by omega)
  exact go1 (aV_ A) 0 i (Nat.zero_add _).symm fr_r (fun j hj => absurd hj (Nat.not_lt_zero j))
/-- the model leaves these alone -/
def bo_m (i i2 : Nat → Nat → Int32) (l l2 : Nat → Nat → Int64) : Prop := fr_o 232 237 i i2 ∧ fr_o 236 236 l l2
theorem bo_mM {A : mA_} {i2 : Nat → Nat → Int32} {l2 : Nat → Nat → Int64} (hW : mt_W A) (hM : mt_M A i l) (h : bo_m i i2 l l2) : mt_M A i2 l2 :=
  mt_M_fr hM (fun j _ _ => by rw [h.1 205 (by omega)]) (fun k _ _ => h.1 k (by omega)) (fun j _ => by rw [h.1 225 (by omega)]) (h.2 224 (by omega)) hW
theorem bo_mod {A : mA_} (hW : mt_W A) (hp : 0 < aV_ A) (hV : aV_ A ≤ 5) (hM : mt_M A i l) (h50 : i 205 50 = Int32.ofNat (aV_ A)) {Q : ab_Qt} (hQ : ∀ i2 l2, bo_m i i2 l l2 → Q (some (some (.int (bo_b A (-1) (bo_f (aV_ A)))))) (i2, l2, dd, x) (ab_E0 sc)) : ab_Fr MX12_bestOrder (d + 5) Q 32 [some (.ref 205), some (.int 0), none, none, none, none, none, none] [] (0, 0) (i, l, dd, x) (ab_E0 sc) := by
  have w2 := hW.2.1
  have hf := bo_1 ⟨aV_ A, by omega⟩ hp
  dsimp only at hf
  obtain ⟨hf0, hf1, hid⟩ := hf
  have go2 : ∀ (n k : Nat) (i2 : Nat → Nat → Int32) (l2 : Nat → Nat → Int64), bo_f (aV_ A) = k + n → bo_m i i2 l l2 → (k < bo_f (aV_ A) → bo_S 232 (aV_ A) (bo_o (aV_ A) k) i2) → ab_Fr MX12_bestOrder (d + 5) Q 62 [some (.ref 205), some (.long (bo_l A 1000000000000000000 k)), none, some (.int (bo_b A (-1) k)), some (.int (if k < bo_f (aV_ A) then 1 else 0)), none, none, none] [] (0, 0) (i2, l2, dd, x) (ab_E0 sc) := by
    intro n
    induction n with
    | zero =>
      intro k i2 l2 hk c2 S2
      rw [show k = bo_f (aV_ A) by omega, if_neg (Nat.lt_irrefl _)]
      exact tMX12_bestOrder_62 (d := d + 4) ⟨fun _ => hQ i2 l2 c2, fun z => absurd rfl z⟩
    | succ n ih =>
      intro k i2 l2 hk c2 S2
      have hkf : k < bo_f (aV_ A) := by omega
      obtain ⟨hO, hk120, h8⟩ := bo_V hp hV hkf
      have hS2 := S2 hkf
      have hM2 := bo_mM hW hM c2
      have hB := bo_FB (A := A) (k := k) hW
      have hup := bo_up (A := A) (z := -1) (y := 1000000000000000000) (k := k) hW (fun n hn => by
        rw [show (1000000000000000000 : Int64) = Int64.ofNat 1000000000000000000 from rfl, nl_lt (by omega) (by omega)]
        omega)
      rw [if_pos hkf]
      refine tMX12_bestOrder_62 (d := d + 4) ⟨fun z => absurd z (by decide), fun _ => ⟨_, md_speak (d := d + 2) hW hp hO hM2 (fun j hj => (hS2 j hj).1), ?_⟩⟩
      rintro i6 l7 dd8 x9 ⟨i3, l3, ⟨⟩, ⟨f3, g3⟩, hA3⟩
      have c3 : bo_m i i6 l l7 := ⟨fr_t c2.1 (fr_w f3 (by omega)), fr_t c2.2 g3⟩
      have hM3 := bo_mM hW hM c3
      refine ⟨_, _, md_lostT (d := d + 1) hW hp hO hM3 (fun j hj => by rw [f3 232 (by omega)]; exact (hS2 j hj).1) (by rw [c3.1 205 (by omega)]; exact h50) hA3, ?_⟩
      rintro i15 l16 dd17 x18 ⟨i4, ⟨⟩, f4⟩
      have c4 : bo_m i i15 l l7 := ⟨fr_t c3.1 (fr_w f4 (by omega)), c3.2⟩
      have hM4 := bo_mM hW hM c4
      have hS4 : bo_S 232 (aV_ A) (bo_o (aV_ A) k) i15 := fun j hj => by
        rw [f4 232 (by omega), f3 232 (by omega)]
        exact hS2 j hj
      have hend : ∀ (b : Int32) (y : Int64), b = bo_b A (-1) (k + 1) → y = bo_l A 1000000000000000000 (k + 1) → ab_Fr MX12_bestOrder (d + 5) Q 120 [some (.ref 205), some (.long y), none, some (.int b), none, none, none, none] [] (0, 0) (i15, l7, dd, x) (ab_E0 sc) := by
        rintro b y rfl rfl
        refine tMX12_bestOrder_120 (d := d + 4) ⟨_, _, md_next (d := d + 2) (V := aV_ A) (by omega) hM4.1.2.1 hS4, ?_⟩
        rintro i5 l6 dd7 x8 ⟨i7, ⟨⟩, f5, S5⟩
        obtain ⟨n1, n2⟩ := bo_N hp hV hkf
        have c5 : bo_m i i5 l l7 := ⟨fr_t c4.1 (fr_w f5 (by omega)), c4.2⟩
        have e1 : (if nx_t (bo_o (aV_ A) k) (aV_ A - 1) = 0 then (0 : Int32) else 1) = if k + 1 < bo_f (aV_ A) then 1 else 0 := by
          by_cases c : k + 1 < bo_f (aV_ A)
          · rw [if_pos c, if_neg (n1 c).1]
          · rw [if_neg c, if_pos (n2 (by omega))]
        rw [e1]
        exact ih (k + 1) i5 l7 (by omega) c5 (fun c => bo_8 S5 (n1 c).2)
      refine ⟨fun c => ?_, fun c => ?_⟩
      · have := hup.2 c
        exact hend _ _ this.1.symm this.2.symm
      · have hu := hup.1 c
        have go3 : ∀ n q : Nat, aV_ A = q + n → ab_Fr MX12_bestOrder (d + 5) Q 92 [some (.ref 205), some (.long (Int64.ofNat (bo_F A k))), none, some (.int (Int32.ofNat (bo_n (bo_o (aV_ A) k) q))), none, none, none, some (.int (Int32.ofNat q))] [] (0, 0) (i15, l7, dd, x) (ab_E0 sc) := by
          intro n
          induction n with
          | zero =>
            intro q hq
            refine tMX12_bestOrder_92 (d := d + 4) ⟨fun _ => ?_, fun c => ?_⟩
            · rw [show q = aV_ A by omega]
              exact hend _ _ hu.1.symm hu.2.symm
            · rw [hM4.1.2.1, nn_le (by omega) (by omega)] at c
              omega
          | succ n ih2 =>
            intro q hq
            refine tMX12_bestOrder_92 (d := d + 4) ⟨fun c => ?_, fun _ => ⟨la_vp (by omega) (by omega), ?_⟩⟩
            · rw [hM4.1.2.1, nn_le (by omega) (by omega)] at c
              omega
            · rw [nn_cl (by omega), (hS4 q (by omega)).1, nn_p10, nn_mul, nn_add, la_nx, Nat.mul_comm]
              exact ih2 (q + 1) (by omega)
        exact go3 (aV_ A) 0 (Nat.zero_add _).symm
  have go1 : ∀ (n k : Nat) (i2 : Nat → Nat → Int32), aV_ A = k + n → fr_o 232 232 i i2 → (∀ j, j < k → i2 232 j = Int32.ofNat j) → ab_Fr MX12_bestOrder (d + 5) Q 32 [some (.ref 205), some (.int (Int32.ofNat k)), none, none, none, none, none, none] [] (0, 0) (i2, l, dd, x) (ab_E0 sc) := by
    intro n
    induction n with
    | zero =>
      intro k i2 hk f2 z2
      have c2 : bo_m i i2 l l := ⟨fr_w f2 (by omega), fr_r⟩
      have hM2 := bo_mM hW hM c2
      refine tMX12_bestOrder_32 (d := d + 4) ⟨fun _ => ?_, fun c => ?_⟩
      · have h := go2 (bo_f (aV_ A)) 0 i2 l (Nat.zero_add _).symm c2 (fun _ j hj => by
          have := hid ⟨j, by omega⟩ hj
          dsimp only at this
          rw [this]
          exact ⟨z2 j (by omega), by omega⟩)
        rw [if_pos hf0] at h
        exact h
      · rw [hM2.1.2.1, nn_le (by omega) (by omega)] at c
        omega
    | succ n ih =>
      intro k i2 hk f2 z2
      have hM2 := bo_mM hW hM (l2 := l) ⟨fr_w f2 (by omega), fr_r⟩
      refine tMX12_bestOrder_32 (d := d + 4) ⟨fun c => ?_, fun _ => ⟨la_vp (by omega) (by omega), ?_⟩⟩
      · rw [hM2.1.2.1, nn_le (by omega) (by omega)] at c
        omega
      · rintro i4 rfl
        rw [nn_cl (by omega), la_nx]
        refine ih (k + 1) _ (by omega) (fr_u f2 (by omega)) (fun j hj => ?_)
        by_cases e : j = k
        · rw [e, uu_e]
        · rw [uu_j e]
          exact z2 j (by omega)
  exact go1 (aV_ A) 0 i (Nat.zero_add _).symm fr_r (fun j hj => absurd hj (Nat.not_lt_zero j))
theorem kp_185 {m : Nat} (hm : ab_isM m) : kp_d dd (ab_u dd 185 0 (.ref m)) := by
  refine ⟨fun k j hk => ?_, fun ⟨a, b, c, e, f, g⟩ => ⟨?_, ?_, ?_, ?_, ?_, ⟨m, uu_e, hm⟩⟩⟩
  · unfold ab_u
    rw [if_neg]
    rintro ⟨rfl, rfl⟩
    cases hk
  · rw [uu_k (by decide)]
    exact a
  · rw [uu_k (by decide)]
    exact b
  · rw [uu_k (by decide)]
    exact c
  · rw [uu_k (by decide)]
    exact e
  · rw [uu_k (by decide)]
    exact f
theorem kp_bc {i2 : Nat → Nat → Int32} {l2 : Nat → Nat → Int64} (h : bo_c i i2 l l2) : kp_i i i2 ∧ kp_l l l2 := by
  refine ⟨kp_fo h.1 (fun k h1 h2 => ?_), fun k j q => ?_⟩
  · rcases (show k = 186 ∨ k = 187 by omega) with rfl | rfl <;> rfl
  · have n1 : k ≠ 185 := fun z => by
      rw [z] at q
      simp [la_ws] at q
    have nq : ∀ y, kp_s y = true → k ≠ y := fun y hy z => by
      rw [z, kp_sw hy] at q
      cases q
    rw [h.2 k n1 (nq 188 rfl) (nq 189 rfl) (nq 190 rfl)]
theorem kp_bm {i2 : Nat → Nat → Int32} {l2 : Nat → Nat → Int64} (h : bo_m i i2 l l2) : kp_i i i2 ∧ kp_l l l2 := by
  refine ⟨kp_fo h.1 (fun k h1 h2 => ?_), kp_lc (fun k hk => h.2 k (by have := kp_ne hk 236 rfl; omega))⟩
  rcases (show k = 232 ∨ k = 233 ∨ k = 234 ∨ k = 235 ∨ k = 236 ∨ k = 237 by omega) with rfl | rfl | rfl | rfl | rfl | rfl <;> rfl
theorem bo_0m {A : mA_} {n : Nat} (hn : 0 < n) : bo_b A 0 n = bo_b A (-1) n := by
  cases n with
  | zero => exact absurd hn (Nat.lt_irrefl 0)
  | succ n => rfl
theorem op_bestOrder {R : ab_S → Prop} {A : mA_} (hA : op_A R A) : la_c26 1310 sc (la_I R) := by
  rintro ⟨i, l, dd, x⟩ hI
  obtain ⟨hW, hA2⟩ := hA
  obtain ⟨m, e0, hm, hK, hM⟩ := hA2 _ _ _ _ hI
  have w2 := hW.2.1
  have hz := mt_z30 hW hK
  by_cases c : 0 < aV_ A ∧ aV_ A ≤ 5
  · obtain ⟨hp, hV⟩ := c
    have hf0 := (bo_1 ⟨aV_ A, by omega⟩ hp).1
    dsimp only at hf0
    refine ⟨bo_b A 0 (bo_f (aV_ A)), la_I R, ?_, ?_⟩
    · refine ab_ent (n := 0) okMX11_bestOrder.1 (fun G => Nat.le_of_ble_eq_true rfl) (fun Q hQ => ?_)
      refine tMX11_bestOrder_0 (d := 1310) ⟨m, e0, hm, _, _, mt_empty (d := 1309) hm, ?_⟩
      rintro i5 l6 dd7 x8 ⟨⟩
      rw [if_neg (fun z => by rw [hz] at z; omega)]
      refine ⟨fun z => absurd rfl z, fun _ => ⟨m, e0, hm, fun _ => ⟨_, _, bo_cls (d := 1296) hW hp hV hm hK, ?_⟩, fun c => ?_⟩⟩
      · rintro i5 l6 dd7 x8 ⟨i2, l2, ⟨⟩, c2⟩
        exact hQ _ (kp_I hI (kp_bc c2).1 (kp_bc c2).2 (kp_185 hm))
      · rw [hK.1.2, nn_p5, nn_le (by omega) (by omega)] at c
        omega
    · rintro ⟨i, l, dd, x⟩ hI
      have hI2 := la_thr (v := 0) (x2 := x) hI
      obtain ⟨m, e0, hm, hK, hM⟩ := hA2 _ _ _ _ hI2
      refine ab_ent (n := 0) okMX12_bestOrder.1 (fun G => Nat.le_of_ble_eq_true rfl) (fun Q hQ => ?_)
      refine tMX12_bestOrder_0 (d := 1310) ?_
      rintro i1 rfl
      rw [hM.1.2.1]
      refine ⟨fun z => ?_, fun _ => ⟨fun _ => ?_, fun z => ?_⟩⟩
      · rw [nn_p0, nn_eq (by omega) (by omega)] at z
        omega
      · rintro i5 rfl
        have k5 : kp_i (ab_u i 205 0 0) (ab_u (ab_u i 205 0 0) 205 50 (Int32.ofNat (aV_ A))) := by
          refine ⟨fun k j h => la_ui_ws rfl k j h, by rw [uu_f (by omega)], by rw [uu_f (by omega)], by rw [uu_k (by omega)], by rw [uu_j (by omega)]⟩
        have hJ := kp_I hI2 k5 kp_lr kp_dr (x2 := x)
        obtain ⟨m, e0, hm, hK, hM5⟩ := hA2 _ _ _ _ hJ
        refine bo_mod (d := 1306) hW hp hV hM5 uu_e (fun i2 l2 h2 => ?_)
        rw [← bo_0m hf0]
        exact hQ _ (kp_I hJ (kp_bm h2).1 (kp_bm h2).2 kp_dr)
      · rw [nn_p5, nn_le (by omega) (by omega)] at z
        omega
  · refine ⟨-1, la_I R, ?_, ?_⟩
    · refine ab_ent (n := 0) okMX11_bestOrder.1 (fun G => Nat.le_of_ble_eq_true rfl) (fun Q hQ => ?_)
      refine tMX11_bestOrder_0 (d := 1310) ⟨m, e0, hm, _, _, mt_empty (d := 1309) hm, ?_⟩
      rintro i5 l6 dd7 x8 ⟨⟩
      by_cases c2 : i m 1 = 0
      · rw [if_pos c2]
        exact ⟨fun _ => hQ _ hI, fun z => absurd z (by decide)⟩
      · rw [if_neg c2]
        rw [hz] at c2
        refine ⟨fun z => absurd rfl z, fun _ => ⟨m, e0, hm, fun z => ?_, fun _ => hQ _ hI⟩⟩
        rw [hK.1.2, nn_p5, nn_le (by omega) (by omega)] at z
        omega
    · rintro ⟨i, l, dd, x⟩ hI
      have hI2 := la_thr (v := 0) (x2 := x) hI
      obtain ⟨m, e0, hm, hK, hM⟩ := hA2 _ _ _ _ hI2
      refine ab_ent (n := 0) okMX12_bestOrder.1 (fun G => Nat.le_of_ble_eq_true rfl) (fun Q hQ => ?_)
      refine tMX12_bestOrder_0 (d := 1310) ?_
      rintro i1 rfl
      rw [hM.1.2.1]
      refine ⟨fun _ => hQ _ hI2, fun z => ⟨fun z2 => ?_, fun _ => hQ _ hI2⟩⟩
      rw [nn_p0, nn_eq (by omega) (by omega)] at z
      rw [nn_p5, nn_le (by omega) (by omega)] at z2
      omega
end TQM5
