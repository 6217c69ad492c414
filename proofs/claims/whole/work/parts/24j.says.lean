/-! says and cliff: of the latest order's matter B -/
section TQJ4
variable {d : Nat} {sc : Nat × (Nat → Int32)} {i : Nat → Nat → Int32} {l : Nat → Nat → Int64} {dd : Nat → Nat → Value} {x : Nat}
def tq_P (B : mA_) (i : Nat → Nat → Int32) : Prop := 0 < aV_ B ∧ i 4 1 = Int32.ofNat (aV_ B) ∧ ∀ v, v < aV_ B → tp_p i v < aS_ B v
/-- what all say, by ten each -/
def tq_n (B : mA_) (o b : Nat → Nat) : Nat → Nat
  | 0 => 0
  | k + 1 => tq_n B o b k * 10 + tu_s B (o k) (tu_L B o k (tu_H B o b k)) (b (o k))
theorem tq_22 {B : mA_} {m : Nat} (hW : mt_W B) (hm : ab_isM m) (hK : mt_K B m i) {b : Nat → Nat} (hb : ∀ v, v < aV_ B → i 5 v = Int32.ofNat (b v) ∧ b v ≤ 255) {Q : ab_Qt} (h1 : (∀ v, v < aV_ B → b v < aS_ B v) → Q (some (some (.int 1))) (i, l, dd, x) (ab_E0 sc)) (h0 : ¬ (∀ v, v < aV_ B → b v < aS_ B v) → Q (some (some (.int 0))) (i, l, dd, x) (ab_E0 sc)) :
    ∀ n k : Nat, aV_ B = k + n → (∀ v, v < k → b v < aS_ B v) → ab_Fr MX1_hasSigns (d + 3) Q 22 [some (.ref m), some (.ref 4), some (.int (Int32.ofNat k))] [] (0, 0) (i, l, dd, x) (ab_E0 sc) := by
  intro n
  have w2 := hW.2.1
  induction n with
  | zero =>
    intro k hk hl
    refine tMX1_hasSigns_22 (d := d + 2) hm ⟨fun _ => h1 (fun v hv => hl v (by omega)), fun c => ?_⟩
    rw [hK.1.2, nn_le (by omega) (by omega)] at c
    omega
  | succ n ih =>
    intro k hk hl
    obtain ⟨e1, e2⟩ := hb k (by omega)
    by_cases c : b k < aS_ B k
    · refine tMX1_hasSigns_22 (d := d + 2) hm ⟨fun c => ?_, fun _ => ⟨la_vp (by omega) (by omega), ?_⟩⟩
      · rw [hK.1.2, nn_le (by omega) (by omega)] at c
        omega
      · rw [nn_cl (by omega), e1]
        refine ⟨_, _, mt_hasSy (d := d) hW hm hK (by omega) c, ?_⟩
        rintro i6 l7 dd8 x9 ⟨⟩
        rw [la_nx]
        refine ⟨fun _ => ih (k + 1) (by omega) (fun v hv => ?_), fun z => absurd z (by decide)⟩
        by_cases e : v = k
        · rw [e]
          exact c
        · exact hl v (by omega)
    · refine tMX1_hasSigns_22 (d := d + 2) hm ⟨fun c => ?_, fun _ => ⟨la_vp (by omega) (by omega), ?_⟩⟩
      · rw [hK.1.2, nn_le (by omega) (by omega)] at c
        omega
      · rw [nn_cl (by omega), e1]
        refine ⟨_, _, mt_hasSn (d := d) hW hm hK (fun ⟨v, s, hv, hs, ev, es⟩ => ?_), ?_⟩
        · have w7 := hW.2.2.2.2.2.2.1 v hv
          rw [nn_eq (by omega) (by omega)] at ev es
          rw [← es, ← ev] at hs
          exact c hs
        · rintro i6 l7 dd8 x9 ⟨⟩
          exact ⟨fun z => absurd rfl z, fun _ => h0 (fun z => c (z k (by omega)))⟩
theorem tq_cls {R : ab_S → Prop} {B : mA_} {m : Nat} (hW : mt_W B) (hI : la_I R (i, l, dd, x)) (hd : dd 179 0 = .ref m) (hm : ab_isM m) (hK : mt_K B m i) : ∃ r : Int32, ((r = 1 ∧ tq_P B i) ∨ (r = 0 ∧ ¬ tq_P B i)) ∧ ∀ d, ab_Sp MX8_hasSigns (d + 4) [.ref 179, .ref 4] (i, l, dd, x) (ab_E0 sc) (some (.int r)) (fun σ => σ = (i, l, dd, x)) := by
  have w2 := hW.2.1
  have hz := mt_z30 hW hK
  have hb : ∀ v, v < aV_ B → i 5 v = Int32.ofNat (tp_p i v) ∧ tp_p i v ≤ 255 := fun v hv => ⟨(tp_pe hI (by omega)).1, (tp_pe hI (by omega)).2.1⟩
  rcases Classical.em (tq_P B i) with h | h
  · refine ⟨1, Or.inl ⟨rfl, h⟩, fun d => ?_⟩
    have h2 : ab_Sp MX1_hasSigns (d + 3) [.ref m, .ref 4] (i, l, dd, x) (ab_E0 sc) (some (.int 1)) (fun σ => σ = (i, l, dd, x)) := by
      refine ab_ent (n := 1) okMX1_hasSigns.1 (fun G => Nat.le_of_ble_eq_true rfl) (fun Q hQ => ?_)
      refine tMX1_hasSigns_0 (d := d + 2) hm ⟨_, _, mt_empty (d := d + 1) hm, ?_⟩
      rintro i5 l6 dd7 x8 ⟨⟩
      rw [if_neg (fun z => by rw [hz] at z; have := h.1; omega), hK.1.2]
      exact ⟨fun z => absurd rfl z, fun _ => ⟨fun _ => tq_22 (d := d) hW hm hK hb (fun _ => hQ _ rfl) (fun q => absurd h.2.2 q) (aV_ B) 0 (by omega) (fun v hv => absurd hv (Nat.not_lt_zero v)), fun z => absurd h.2.1 z⟩⟩
    refine ab_ent (n := 1) okMX8_hasSigns.1 (fun G => Nat.le_of_ble_eq_true rfl) (fun Q hQ => ?_)
    refine tMX8_hasSigns_0 (d := d + 3) (Or.inl rfl) ⟨m, hd, hm, _, _, h2, ?_⟩
    rintro i5 l6 dd7 x8 ⟨⟩
    exact ⟨Or.inr rfl, hQ _ rfl⟩
  · refine ⟨0, Or.inr ⟨rfl, h⟩, fun d => ?_⟩
    have h2 : ab_Sp MX1_hasSigns (d + 3) [.ref m, .ref 4] (i, l, dd, x) (ab_E0 sc) (some (.int 0)) (fun σ => σ = (i, l, dd, x)) := by
      refine ab_ent (n := 1) okMX1_hasSigns.1 (fun G => Nat.le_of_ble_eq_true rfl) (fun Q hQ => ?_)
      refine tMX1_hasSigns_0 (d := d + 2) hm ⟨_, _, mt_empty (d := d + 1) hm, ?_⟩
      rintro i5 l6 dd7 x8 ⟨⟩
      by_cases c : i m 1 = 0
      · rw [if_pos c]
        exact ⟨fun _ => hQ _ rfl, fun z => absurd z (by decide)⟩
      · rw [if_neg c, hK.1.2]
        rw [hz] at c
        exact ⟨fun z => absurd rfl z, fun _ => ⟨fun c2 => tq_22 (d := d) hW hm hK hb (fun q => absurd ⟨by omega, c2, q⟩ h) (fun _ => hQ _ rfl) (aV_ B) 0 (by omega) (fun v hv => absurd hv (Nat.not_lt_zero v)), fun _ => hQ _ rfl⟩⟩
    refine ab_ent (n := 1) okMX8_hasSigns.1 (fun G => Nat.le_of_ble_eq_true rfl) (fun Q hQ => ?_)
    refine tMX8_hasSigns_0 (d := d + 3) (Or.inl rfl) ⟨m, hd, hm, _, _, h2, ?_⟩
    rintro i5 l6 dd7 x8 ⟨⟩
    exact ⟨Or.inl rfl, hQ _ rfl⟩
/-- the class's turn -/
theorem tq_with {B : mA_} {o b : Nat → Nat} {m k h : Nat} (hW : mt_W B) (hp : 0 < aV_ B) (hO : tu_O B o) (hm : ab_isM m) (hd : dd 179 0 = .ref m) (hK : mt_K B m i) (hk : k < aV_ B) (ho : i 180 k = Int32.ofNat (o k)) (hb : ∀ v, v < aV_ B → i 5 v = Int32.ofNat (b v) ∧ b v < aS_ B v) (hL : ∀ t, t < 3 → l 182 (3 * k + t) = Int64.ofNat (tu_L B o k h t)) : ab_Sp MX8_sayWith (d + 4) [.ref 179, .int (Int32.ofNat k), .ref 5] (i, l, dd, x) (ab_E0 sc) (some (.int (Int32.ofNat (tu_s B (o k) (tu_L B o k h) (b (o k)))))) (fun σ => ∃ i2 l2, σ = (i2, l2, dd, x) ∧ fr_o 181 181 i i2 ∧ fr_o 182 183 l l2 ∧ (∀ s, s < aS_ B (o k) → i2 181 (3 * k + s) = Int32.ofNat (tu_s B (o k) (tu_L B o k h) s)) ∧ (∀ t, t < 3 → l2 182 (3 * k + t) = Int64.ofNat (tu_L B o k h t)) ∧ ∀ t, t < 3 → l2 182 (3 * (k + 1) + t) = Int64.ofNat (tu_L B o (k + 1) (3 * h + tu_s B (o k) (tu_L B o k h) (b (o k))) t)) := by
  have w1 := hW.1
  have w2 := hW.2.1
  have hv := hO.1 k hk
  have w7 := hW.2.2.2.2.2.2.1 (o k) hv
  have hB : ∀ t, tu_L B o k h t ≤ 25600000000 := fun t => tu_L8 hW hO (by omega)
  obtain ⟨e5, hs⟩ := hb (o k) hv
  have hsl := fun s => tu_sl (A := B) (v := o k) (L := tu_L B o k h) (s := s) hW hp
  refine ab_ent (n := 2) okMX8_sayWith.1 (fun G => Nat.le_of_ble_eq_true rfl) (fun Q hQ => ?_)
  refine tMX8_sayWith_0 (d := d + 3) (a0 := 179) (n_a2 := 740) (Or.inl rfl) rfl ⟨_, ct_ponder (d := d) (L := tu_L B o k h) hW hp (Or.inl rfl) hm hd hK hk hv ho hL hB, ?_⟩
  rintro i5 l6 dd7 x8 ⟨i2, l2, ⟨⟩, f2, g2, k2, z2⟩
  have hK2 : mt_K B m i5 := mt_K_f hm hK (fun q h1 h2 => f2 q (by rcases hm with rfl | rfl | rfl <;> omega)) hW
  have e1 : i5 (179 + 1) k = Int32.ofNat (o k) := by rw [f2 180 (by omega)]; exact ho
  have e2 : i5 5 (o k) = Int32.ofNat (b (o k)) := by rw [f2 5 (by omega)]; exact e5
  rw [nn_cl (by omega), e1, nn_cl (by omega), e2, nn_p3, nn_mul, nn_add, nn_cl (by omega), Nat.mul_comm k 3, z2 _ hs]
  refine ⟨la_vp (by omega) (by omega), la_vp (by omega) (by omega), la_vp (by omega) (by omega), _, _, ct_hear (d := d + 2) (a0 := 179) (L := tu_L B o k h) (y := fun s => tu_s B (o k) (tu_L B o k h) s) (e := tu_s B (o k) (tu_L B o k h) (b (o k))) hW (Or.inl rfl) hm hd hK2 hk hv e1 (fun t ht => ?_) (fun s hs => ⟨z2 s hs, ?_⟩) ?_ (fun t => ?_), ?_⟩
  · rw [k2 182 (by omega)]
    exact hL t ht
  · have := hsl s
    omega
  · have := hsl (b (o k))
    omega
  · rw [ct_lL (by have := hsl (b (o k)); omega)]
    exact tu_L8 hW hO (by omega)
  · rintro i14 l15 dd16 x17 ⟨l3, ⟨⟩, g3, k3, z3⟩
    refine hQ _ ⟨_, _, rfl, f2, fr_t (fr_w k2 (by omega)) (fr_w g3 (by omega)), fun s hs => z2 s hs, fun t ht => ?_, fun t ht => ?_⟩
    · rw [k3 _ (by omega), k2 182 (by omega)]
      exact hL t ht
    · rw [z3 t ht, ct_lL (by have := hsl (b (o k)); omega)]
theorem tq_said {B : mA_} {o b : Nat → Nat} {m : Nat} (hW : mt_W B) (hp : 0 < aV_ B) (hO : tu_O B o) (hm : ab_isM m) (hd : dd 179 0 = .ref m) (hK : mt_K B m i) (ho : ∀ k, k < aV_ B → i 180 k = Int32.ofNat (o k)) (hb : ∀ v, v < aV_ B → i 5 v = Int32.ofNat (b v) ∧ b v < aS_ B v) : ab_Sp MX8_said (d + 5) [.ref 179, .ref 5] (i, l, dd, x) (ab_E0 sc) (some (.int (Int32.ofNat (tq_n B o b (aV_ B))))) (fun σ => ∃ i2 l2, σ = (i2, l2, dd, x) ∧ fr_o 181 181 i i2 ∧ fr_o 182 183 l l2) := by
  have w2 := hW.2.1
  refine ab_ent (n := 1) okMX8_said.1 (fun G => Nat.le_of_ble_eq_true rfl) (fun Q hQ => ?_)
  refine tMX8_said_0 (d := d + 4) (a0 := 179) (n_a1 := 740) (Or.inl rfl) rfl ⟨_, ct_open (d := d + 3) hW (Or.inl rfl) hm hd hK, ?_⟩
  rintro i5 l6 dd7 x8 ⟨l2, ⟨⟩, f2, z2⟩
  have go : ∀ (n k : Nat) (i2 : Nat → Nat → Int32) (l2 : Nat → Nat → Int64), aV_ B = k + n → fr_o 181 181 i i2 → fr_o 182 183 l l2 → (∀ t, t < 3 → l2 182 (3 * k + t) = Int64.ofNat (tu_L B o k (tu_H B o b k) t)) → ab_Fr MX8_said (d + 5) Q 8 [some (.ref 179), some (.ref 5), some (.int (Int32.ofNat (tq_n B o b k))), some (.int (Int32.ofNat k))] [] (0, 0) (i2, l2, dd, x) (ab_E0 sc) := by
    intro n
    induction n with
    | zero =>
      intro k i2 l2 hk f2 g2 z2
      have hK2 : mt_K B m i2 := mt_K_f hm hK (fun q h1 h2 => f2 q (by rcases hm with rfl | rfl | rfl <;> omega)) hW
      refine tMX8_said_8 (d := d + 4) (a0 := 179) (n_a1 := 740) (Or.inl rfl) rfl ⟨m, hd, hm, fun _ => ?_, fun c => ?_⟩
      · rw [show k = aV_ B by omega]
        exact hQ _ ⟨_, _, rfl, f2, g2⟩
      · rw [hK2.1.2, nn_le (by omega) (by omega)] at c
        omega
    | succ n ih =>
      intro k i2 l2 hk f2 g2 z2
      have hK2 : mt_K B m i2 := mt_K_f hm hK (fun q h1 h2 => f2 q (by rcases hm with rfl | rfl | rfl <;> omega)) hW
      refine tMX8_said_8 (d := d + 4) (a0 := 179) (n_a1 := 740) (Or.inl rfl) rfl ⟨m, hd, hm, fun c => ?_, fun _ => ⟨_, _, tq_with (d := d) (b := b) hW hp hO hm hd hK2 (by omega) (by rw [f2 180 (by omega)]; exact ho k (by omega)) (fun v hv => by rw [f2 5 (by omega)]; exact hb v hv) z2, ?_⟩⟩
      · rw [hK2.1.2, nn_le (by omega) (by omega)] at c
        omega
      · rintro i8 l9 dd10 x11 ⟨i3, l3, ⟨⟩, f3, g3, -, -, z3⟩
        rw [nn_p10, nn_mul, nn_add, la_nx]
        exact ih (k + 1) _ _ (by omega) (fr_t f2 f3) (fr_t g2 g3) z3
  exact go (aV_ B) 0 i l6 (Nat.zero_add _).symm fr_r (fr_w f2 (by omega)) (fun t ht => by rw [Nat.mul_zero, Nat.zero_add]; exact z2 t ht)
theorem tq_cliff {B : mA_} {o b : Nat → Nat} {m : Nat} (hW : mt_W B) (hp : 0 < aV_ B) (hO : tu_O B o) (hm : ab_isM m) (hd : dd 179 0 = .ref m) (hK : mt_K B m i) (ho : ∀ k, k < aV_ B → i 180 k = Int32.ofNat (o k)) (hb : ∀ v, v < aV_ B → i 5 v = Int32.ofNat (b v) ∧ b v < aS_ B v) : ab_Sp MX8_cliffWith (d + 5) [.ref 179, .ref 5] (i, l, dd, x) (ab_E0 sc) (some (.int (tu_C B o (aV_ B) (tu_H B o b (aV_ B))))) (fun σ => ∃ i2 l2, σ = (i2, l2, dd, x) ∧ fr_o 181 181 i i2 ∧ fr_o 182 183 l l2) := by
  have w2 := hW.2.1
  refine ab_ent (n := 1) okMX8_cliffWith.1 (fun G => Nat.le_of_ble_eq_true rfl) (fun Q hQ => ?_)
  refine tMX8_cliffWith_0 (d := d + 4) (a0 := 179) (n_a1 := 740) (Or.inl rfl) rfl ⟨_, ct_open (d := d + 3) hW (Or.inl rfl) hm hd hK, ?_⟩
  rintro i5 l6 dd7 x8 ⟨l2, ⟨⟩, f2, z2⟩
  have go : ∀ (n k : Nat) (i2 : Nat → Nat → Int32) (l2 : Nat → Nat → Int64), aV_ B = k + n → fr_o 181 181 i i2 → fr_o 182 183 l l2 → (∀ t, t < 3 → l2 182 (3 * k + t) = Int64.ofNat (tu_L B o k (tu_H B o b k) t)) → ab_Fr MX8_cliffWith (d + 5) Q 8 [some (.ref 179), some (.ref 5), some (.int (tu_C B o k (tu_H B o b k))), some (.int (Int32.ofNat k))] [] (0, 0) (i2, l2, dd, x) (ab_E0 sc) := by
    intro n
    induction n with
    | zero =>
      intro k i2 l2 hk f2 g2 z2
      have hK2 : mt_K B m i2 := mt_K_f hm hK (fun q h1 h2 => f2 q (by rcases hm with rfl | rfl | rfl <;> omega)) hW
      refine tMX8_cliffWith_8 (d := d + 4) (a0 := 179) (n_a1 := 740) (Or.inl rfl) rfl ⟨m, hd, hm, fun _ => ?_, fun c => ?_⟩
      · rw [show k = aV_ B by omega]
        exact hQ _ ⟨_, _, rfl, f2, g2⟩
      · rw [hK2.1.2, nn_le (by omega) (by omega)] at c
        omega
    | succ n ih =>
      intro k i2 l2 hk f2 g2 z2
      have hK2 : mt_K B m i2 := mt_K_f hm hK (fun q h1 h2 => f2 q (by rcases hm with rfl | rfl | rfl <;> omega)) hW
      have hsl := tu_sl (A := B) (v := o k) (L := tu_L B o k (tu_H B o b k)) (s := b (o k)) hW hp
      have w1 := hW.1
      refine tMX8_cliffWith_8 (d := d + 4) (a0 := 179) (n_a1 := 740) (Or.inl rfl) rfl ⟨m, hd, hm, fun c => ?_, fun _ => ⟨_, _, tq_with (d := d) (b := b) hW hp hO hm hd hK2 (by omega) (by rw [f2 180 (by omega)]; exact ho k (by omega)) (fun v hv => by rw [f2 5 (by omega)]; exact hb v hv) z2, ?_⟩⟩
      · rw [hK2.1.2, nn_le (by omega) (by omega)] at c
        omega
      · rintro i8 l9 dd10 x11 ⟨i3, l3, ⟨⟩, f3, g3, y3, u3, z3⟩
        have hK3 : mt_K B m i8 := mt_K_f hm hK2 (fun q h1 h2 => f3 q (by rcases hm with rfl | rfl | rfl <;> omega)) hW
        refine ⟨_, _, ct_cliffAt (d := d + 1) (a0 := 179) (o := o) (h := tu_H B o b k) hW hp hO (Or.inl rfl) hm hd hK3 (show k < aV_ B by omega) (by rw [f3 180 (by omega), f2 180 (by omega)]; exact ho k (by omega)) u3 y3, ?_⟩
        rintro i8 l9 dd10 x11 ⟨⟩
        rw [← tu_CD (A := B) (o := o) (i := k) (h := tu_H B o b k) (e := tu_s B (o k) (tu_L B o k (tu_H B o b k)) (b (o k))) (by omega), la_nx]
        exact ih (k + 1) _ _ (by omega) (fr_t f2 f3) (fr_t g2 g3) z3
  exact go (aV_ B) 0 i l6 (Nat.zero_add _).symm fr_r (fr_w f2 (by omega)) (fun t ht => by rw [Nat.mul_zero, Nat.zero_add]; exact z2 t ht)
/-- the model: what is said of the order told -/
def tq_M (B : mA_) (o : Nat → Nat) (i : Nat → Nat → Int32) : Prop := i 205 52 = Int32.ofNat (aV_ B) ∧ (0 < aV_ B → tu_O B o ∧ (∀ k, k < aV_ B → i 238 k = Int32.ofNat (o k) ∧ i 240 k = Int32.ofNat (aS_ B k)) ∧ ∀ k h s, k < aV_ B → h < 3 ^ k → s < aS_ B (o k) → i 239 (6561 * k + (3 * h + s)) = Int32.ofNat (tu_y B o k h s))
theorem tq_told {B : mA_} {o b : Nat → Nat} (hW : mt_W B) (hM : tq_M B o i) (hb : ∀ v, v < aV_ B → i 206 v = Int32.ofNat (b v) ∧ b v ≤ 255) (hn : ∃ n, i 205 2 = Int32.ofNat n ∧ n ≤ 740) : ∃ r : Int32, ((r = 1 ∧ 0 < aV_ B ∧ i 205 2 = Int32.ofNat (aV_ B) ∧ ∀ v, v < aV_ B → b v < aS_ B v) ∨ (r = 0 ∧ ¬ (0 < aV_ B ∧ i 205 2 = Int32.ofNat (aV_ B) ∧ ∀ v, v < aV_ B → b v < aS_ B v))) ∧ ∀ d, ab_Sp MX12_speakTold (d + 2) [.ref 205] (i, l, dd, x) (ab_E0 sc) (some (.int r)) (fun σ => ∃ i2, σ = (i2, l, dd, x) ∧ fr_o 234 234 (ab_u i 205 2 0) i2 ∧ (r = 1 → ∀ k, k < aV_ B → i2 234 k = Int32.ofNat (tu_y B o k (tu_H B o b k) (b (o k))))) := by
  have w1 := hW.1
  have w2 := hW.2.1
  have w7 := hW.2.2.2.2.2.2.1
  obtain ⟨h52, hM2⟩ := hM
  obtain ⟨n0, hn0, hn7⟩ := hn
  have e52 : ab_u i 205 2 0 205 52 = Int32.ofNat (aV_ B) := by rw [uu_j (by omega), h52]
  -- the second loop
  have go2 : ∀ {d : Nat} {Q : ab_Qt}, (∀ i2, fr_o 234 234 (ab_u i 205 2 0) i2 → (∀ k, k < aV_ B → i2 234 k = Int32.ofNat (tu_y B o k (tu_H B o b k) (b (o k)))) → Q (some (some (.int 1))) (i2, l, dd, x) (ab_E0 sc)) → 0 < aV_ B → (∀ v, v < aV_ B → b v < aS_ B v) → ∀ (n k : Nat) (i2 : Nat → Nat → Int32), aV_ B = k + n → fr_o 234 234 (ab_u i 205 2 0) i2 → (∀ j, j < k → i2 234 j = Int32.ofNat (tu_y B o j (tu_H B o b j) (b (o j)))) → ab_Fr MX12_speakTold (d + 2) Q 56 [some (.ref 205), some (.int (Int32.ofNat (aV_ B))), some (.int (Int32.ofNat (tu_H B o b k))), some (.int (Int32.ofNat k))] [] (0, 0) (i2, l, dd, x) (ab_E0 sc) := by
    intro d Q hQ hp hs n
    obtain ⟨hO, h38, h39⟩ := hM2 hp
    induction n with
    | zero =>
      intro k i2 hk f2 z2
      refine tMX12_speakTold_56 (d := d + 1) ⟨fun _ => hQ i2 f2 (fun j hj => z2 j (by omega)), fun c => ?_⟩
      rw [nn_le (by omega) (by omega)] at c
      omega
    | succ n ih =>
      intro k i2 hk f2 z2
      have hHl := tu_Hl (A := B) (o := o) (b := b) hW hp k
      have hp3 := p3_6 (show k < aV_ B by omega) w2
      have hok := hO.1 k (by omega)
      have hs3 := w7 (o k) hok
      have hbs := hs (o k) hok
      refine tMX12_speakTold_56 (d := d + 1) ⟨fun c => ?_, fun _ => ?_⟩
      · rw [nn_le (by omega) (by omega)] at c
        omega
      · have e1 : i2 238 k = Int32.ofNat (o k) := by rw [f2 238 (by omega), uu_k (by omega)]; exact (h38 k (by omega)).1
        have e2 : i2 206 (o k) = Int32.ofNat (b (o k)) := by rw [f2 206 (by omega), uu_k (by omega)]; exact (hb _ hok).1
        have e3 : i2 239 (6561 * k + 3 * tu_H B o b k + b (o k)) = Int32.ofNat (tu_y B o k (tu_H B o b k) (b (o k))) := by
          rw [f2 239 (by omega), uu_k (by omega), Nat.add_assoc]
          exact h39 k _ _ (by omega) hHl hbs
        rw [nn_cl (by omega), e1, nn_cl (by omega), e2, show (6561 : Int32) = Int32.ofNat 6561 from rfl, nn_p3, nn_mul, nn_mul, nn_add, nn_add, nn_cl (by omega), e3]
        refine ⟨la_vp (by omega) (by omega), la_vp (by omega) (by omega), la_vp (by omega) (by omega), la_vp (by omega) (by omega), ?_⟩
        rintro i3 rfl
        rw [uu_e, tu_y7 hW hp, nn_add, la_nx]
        refine ⟨la_vp (by omega) (by omega), ih (k + 1) _ (by omega) (fr_u f2 (by omega)) (fun j hj => ?_)⟩
        by_cases e : j = k
        · rw [e, uu_e]
        · rw [uu_j e]
          exact z2 j (by omega)
  rcases Classical.em (0 < aV_ B ∧ i 205 2 = Int32.ofNat (aV_ B) ∧ ∀ v, v < aV_ B → b v < aS_ B v) with h | h
  · refine ⟨1, Or.inl ⟨rfl, h⟩, fun d => ?_⟩
    obtain ⟨hp, hn, hs⟩ := h
    obtain ⟨hO, h38, h39⟩ := hM2 hp
    refine ab_ent (n := 0) okMX12_speakTold.1 (fun G => Nat.le_of_ble_eq_true rfl) (fun Q hQ => ?_)
    refine tMX12_speakTold_0 (d := d + 1) ⟨_, _, md_take (d := d), ?_⟩
    rintro i5 l6 dd7 x8 ⟨⟩
    rw [e52, hn]
    refine ⟨fun z => ?_, fun _ => ⟨fun _ => ?_, fun z => absurd rfl z⟩⟩
    · rw [nn_p0, nn_eq (by omega) (by omega)] at z
      omega
    · have go1 : ∀ n k : Nat, aV_ B = k + n → ab_Fr MX12_speakTold (d + 2) Q 24 [some (.ref 205), some (.int (Int32.ofNat (aV_ B))), some (.int (Int32.ofNat k)), none] [] (0, 0) (ab_u i 205 2 0, l, dd, x) (ab_E0 sc) := by
        intro n
        induction n with
        | zero =>
          intro k hk
          refine tMX12_speakTold_24 (d := d + 1) ⟨fun _ => go2 (fun i2 f2 z2 => hQ _ ⟨i2, rfl, f2, fun _ => z2⟩) hp hs (aV_ B) 0 _ (Nat.zero_add _).symm fr_r (fun j hj => absurd hj (Nat.not_lt_zero j)), fun c => ?_⟩
          rw [nn_le (by omega) (by omega)] at c
          omega
        | succ n ih =>
          intro k hk
          have w := w7 k (by omega)
          have hbk := hb k (by omega)
          have hsk := hs k (by omega)
          refine tMX12_speakTold_24 (d := d + 1) ⟨fun c => ?_, fun _ => ⟨la_vp (by omega) (by omega), la_vp (by omega) (by omega), ?_⟩⟩
          · rw [nn_le (by omega) (by omega)] at c
            omega
          · rw [nn_cl (by omega), uu_k (by omega), uu_k (by omega), hbk.1, (h38 k (by omega)).2, nn_lt (by omega) (by omega), la_nx]
            exact ⟨fun _ => ih (k + 1) (by omega), fun z => absurd hsk z⟩
      exact go1 (aV_ B) 0 (Nat.zero_add _).symm
  · refine ⟨0, Or.inr ⟨rfl, h⟩, fun d => ?_⟩
    refine ab_ent (n := 0) okMX12_speakTold.1 (fun G => Nat.le_of_ble_eq_true rfl) (fun Q hQ => ?_)
    refine tMX12_speakTold_0 (d := d + 1) ⟨_, _, md_take (d := d), ?_⟩
    rintro i5 l6 dd7 x8 ⟨⟩
    have hz : Q (some (some (.int 0))) (ab_u i 205 2 0, l, dd, x) (ab_E0 sc) := hQ _ ⟨_, rfl, fr_r, fun z => absurd z (by decide)⟩
    rw [e52]
    refine ⟨fun _ => hz, fun c1 => ⟨fun c2 => ?_, fun _ => hz⟩⟩
    rw [nn_p0, nn_eq (by omega) (by omega)] at c1
    have hp : 0 < aV_ B := by omega
    obtain ⟨hO, h38, h39⟩ := hM2 hp
    rw [c2]
    have go1 : ∀ n k : Nat, aV_ B = k + n → (∀ v, v < k → b v < aS_ B v) → ab_Fr MX12_speakTold (d + 2) Q 24 [some (.ref 205), some (.int (Int32.ofNat (aV_ B))), some (.int (Int32.ofNat k)), none] [] (0, 0) (ab_u i 205 2 0, l, dd, x) (ab_E0 sc) := by
      intro n
      induction n with
      | zero =>
        intro k hk hl
        exact absurd ⟨hp, c2, fun v hv => hl v (by omega)⟩ h
      | succ n ih =>
        intro k hk hl
        have w := w7 k (by omega)
        have hbk := hb k (by omega)
        refine tMX12_speakTold_24 (d := d + 1) ⟨fun c => ?_, fun _ => ⟨la_vp (by omega) (by omega), la_vp (by omega) (by omega), ?_⟩⟩
        · rw [nn_le (by omega) (by omega)] at c
          omega
        · rw [nn_cl (by omega), uu_k (by omega), uu_k (by omega), hbk.1, (h38 k (by omega)).2, nn_lt (by omega) (by omega), la_nx]
          refine ⟨fun c3 => ih (k + 1) (by omega) (fun v hv => ?_), fun _ => hz⟩
          by_cases e : v = k
          · rw [e]
            exact c3
          · exact hl v (by omega)
    exact go1 (aV_ B) 0 (Nat.zero_add _).symm (fun v hv => absurd hv (Nat.not_lt_zero v))
def op_T (R : ab_S → Prop) (B : mA_) (o : Nat → Nat) : Prop := mt_W B ∧ ∀ σ, la_I R σ → tn_K B o σ
theorem tq_Mof {B : mA_} {o : Nat → Nat} {i2 : Nat → Nat → Int32} (h : tn_K B o (i, l, dd, x)) (h1 : i2 205 52 = i 205 52) (h2 : ∀ k, 238 ≤ k → k ≤ 240 → i2 k = i k) : tq_M B o i2 := by
  obtain ⟨-, h52, h3⟩ := h
  refine ⟨h1.trans h52, fun hp => ?_⟩
  obtain ⟨hO, z, y, -⟩ := h3 hp
  refine ⟨hO, fun k hk => ?_, fun k h s hk hh hs => ?_⟩
  · rw [h2 238 (by omega) (by omega), h2 240 (by omega) (by omega)]
    exact (z k hk).2
  · rw [h2 239 (by omega) (by omega)]
    exact y k h s hk hh hs
theorem tq_it {R : ab_S → Prop} (hI : la_I R (i, l, dd, x)) : ∃ n, i 205 2 = Int32.ofNat n ∧ n ≤ 740 := by
  obtain ⟨⟨h1, h2⟩, h3, -⟩ := hI.1
  dsimp only at h1 h2 h3
  obtain ⟨n, hn, e⟩ := la_rep (a := i 4 1) (m := 741) h1 (by omega)
  exact ⟨n, by rw [h3, e], by omega⟩
theorem kp_234 {i2 : Nat → Nat → Int32} (f : fr_o 234 234 i i2) : kp_i i i2 := kp_fo f (fun k h1 h2 => by
  rw [show k = 234 by omega]
  rfl)
theorem kp_181 {i2 : Nat → Nat → Int32} (f : fr_o 181 181 i i2) : kp_i i i2 := kp_fo f (fun k h1 h2 => by
  rw [show k = 181 by omega]
  rfl)
theorem kp_182 {l2 : Nat → Nat → Int64} (f : fr_o 182 183 l l2) : kp_l l l2 := kp_lc (fun k hk => f k (by
  have h1 := kp_ne hk 182 rfl
  have h2 := kp_ne hk 183 rfl
  omega))
theorem op_says {R : ab_S → Prop} {B : mA_} {o : Nat → Nat} (hT : op_T R B o) : la_c24 1310 sc (la_I R) := by
  rintro ⟨i, l, dd, x⟩ hI
  obtain ⟨hW, hT2⟩ := hT
  have hK0 := hT2 _ hI
  obtain ⟨⟨m, e0, hm, hK⟩, -, h3⟩ := hK0
  have w2 := hW.2.1
  have w7 := hW.2.2.2.2.2.2.1
  obtain ⟨r, hr, hS⟩ := tq_cls (sc := sc) hW hI e0 hm hK
  have key : ∀ (v : Int32), (∀ i0 l0 d0 x0, la_I R (i0, l0, d0, x0) → i0 5 = i 5 → i0 4 1 = i 4 1 → ∀ {Q : ab_Qt}, (∀ σ, la_I R σ → Q (some (some (.int v))) σ (ab_E0 sc)) → ∀ i5, (tq_P B i → ∀ k, k < aV_ B → i5 234 k = Int32.ofNat (tu_y B o k (tu_H B o (tp_p i) k) (tp_p i (o k)))) → la_I R (i5, l0, d0, x0) → (tq_P B i → ab_Fr MX12_says 1311 Q 18 [some (.ref 205), some (.int 0), some (.int 0)] [] (0, 0) (i5, l0, d0, x0) (ab_E0 sc)) ∧ (¬ tq_P B i → v = -1)) → ∀ σ1, tp_mid R i σ1 → ab_Sp MX12_says (1310 + 1) [.ref 205] σ1 (ab_E0 sc) (some (.int v)) (la_I R) := by
    rintro v hv σ1 ⟨i0, l0, d0, x0, rfl, hI0, h5, h4⟩
    refine ab_ent (n := 0) okMX12_says.1 (fun G => Nat.le_of_ble_eq_true rfl) (fun Q hQ => ?_)
    refine tMX12_says_0 (d := 1310) ?_
    rintro i1 rfl
    have hb : ∀ v, v < aV_ B → (ab_u (ab_u i0 4 1 0) 205 0 0) 206 v = Int32.ofNat (tp_p i v) ∧ tp_p i v ≤ 255 := fun v hv => by
      rw [uu_k (by omega), uu_k (by omega), show tp_p i v = tp_p i0 v by unfold tp_p; rw [h5]]
      exact ⟨(tp_pe hI0 (by omega)).2.2, (tp_pe hI0 (by omega)).2.1⟩
    have hM2 : tq_M B o (ab_u (ab_u i0 4 1 0) 205 0 0) := tq_Mof (hT2 _ hI0) (by rw [uu_j (by omega), uu_k (by omega)]) (fun k h1 h2 => by rw [uu_f (by omega), uu_f (by omega)])
    have e2 : (ab_u (ab_u i0 4 1 0) 205 0 0) 205 2 = i 4 1 := by
      have := hI0.1.2.1
      dsimp only at this
      rw [uu_j (by omega), uu_k (by omega), this, h4]
    obtain ⟨r, hr, hs⟩ := tq_told (sc := sc) (l := l0) (dd := d0) (x := x0) hW hM2 hb (by rw [e2, ← h4, ← show i0 205 2 = i0 4 1 from hI0.1.2.1]; exact tq_it hI0)
    rw [e2] at hr
    refine ⟨_, _, hs 1308, ?_⟩
    rintro i5 l6 dd7 x8 ⟨i2, ⟨⟩, f2, z2⟩
    have hJ := kp_I (la_cut0 (v0 := 0) (l2 := l0) (x2 := x0) hI0 (fun _ _ => rfl)) (kp_234 f2) kp_lr kp_dr (x2 := x0)
    rcases hr with ⟨rfl, hp⟩ | ⟨rfl, hp⟩
    · have := hv i0 l0 d0 x0 hI0 h5 h4 hQ i5 (fun _ => z2 rfl) hJ
      exact ⟨fun _ => this.1 hp, fun z => absurd z (by decide)⟩
    · have := hv i0 l0 d0 x0 hI0 h5 h4 hQ i5 (fun z => absurd z hp) hJ
      rw [this.2 hp] at hQ
      exact ⟨fun z => absurd rfl z, fun _ => hQ _ hJ⟩
  rcases hr with ⟨rfl, hP⟩ | ⟨rfl, hP⟩
  · obtain ⟨hp, hn, hs⟩ := hP
    obtain ⟨hO, z3, -⟩ := h3 hp
    refine ⟨Int32.ofNat (tq_n B o (tp_p i) (aV_ B)), tp_mid R i, ?_, key _ (fun i0 l0 d0 x0 hI0 h5 h4 {Q} hQ i5 z5 hJ => ⟨fun _ => ?_, fun z => absurd ⟨hp, hn, hs⟩ z⟩)⟩
    · refine ab_ent (n := 0) okMX11_says.1 (fun G => Nat.le_of_ble_eq_true rfl) (fun Q hQ => ?_)
      refine tMX11_says_0 (d := 1310) ⟨_, _, hS 1306, ?_⟩
      rintro i5 l6 dd7 x8 ⟨⟩
      refine ⟨fun z => absurd z (by decide), fun _ => ⟨_, _, tq_said (d := 1305) (b := tp_p i) hW hp hO hm e0 hK (fun k hk => (z3 k hk).1) (fun v hv => ⟨(tp_pe hI (by omega)).1, hs v hv⟩), ?_⟩⟩
      rintro i5 l6 dd7 x8 ⟨i2, l2, ⟨⟩, f2, g2⟩
      refine tMX11_says_32 (d := 1310) ⟨_, mt_clear (d := 1309), ?_⟩
      rintro i6 l7 dd8 x9 ⟨⟩
      exact hQ _ ⟨i5, l6, _, _, rfl, kp_I hI (kp_181 f2) (kp_182 g2) kp_dr, f2 5 (by omega), by rw [f2 4 (by omega)]⟩
    · have h52 := (hT2 _ hJ).2.1
      have hz := z5 ⟨hp, hn, hs⟩
      have w1 := hW.1
      have go : ∀ n k : Nat, aV_ B = k + n → ab_Fr MX12_says 1311 Q 18 [some (.ref 205), some (.int (Int32.ofNat (tq_n B o (tp_p i) k))), some (.int (Int32.ofNat k))] [] (0, 0) (i5, l0, d0, x0) (ab_E0 sc) := by
        intro n
        induction n with
        | zero =>
          intro k hk
          refine tMX12_says_18 (d := 1310) ⟨fun _ => ?_, fun c => ?_⟩
          · rw [show k = aV_ B by omega]
            exact hQ _ hJ
          · rw [show i5 205 52 = _ from h52, nn_le (by omega) (by omega)] at c
            omega
        | succ n ih =>
          intro k hk
          refine tMX12_says_18 (d := 1310) ⟨fun c => ?_, fun _ => ⟨la_vp (by omega) (by omega), ?_⟩⟩
          · rw [show i5 205 52 = _ from h52, nn_le (by omega) (by omega)] at c
            omega
          · rw [nn_cl (by omega), hz k (by omega), tu_y7 hW hp, nn_p10, nn_mul, nn_add, la_nx, Nat.mul_comm]
            exact ih (k + 1) (by omega)
      exact go (aV_ B) 0 (Nat.zero_add _).symm
  · refine ⟨-1, tp_mid R i, ?_, key _ (fun i0 l0 d0 x0 hI0 h5 h4 {Q} hQ i5 z5 hJ => ⟨fun z => absurd z hP, fun _ => rfl⟩)⟩
    refine ab_ent (n := 0) okMX11_says.1 (fun G => Nat.le_of_ble_eq_true rfl) (fun Q hQ => ?_)
    refine tMX11_says_0 (d := 1310) ⟨_, _, hS 1306, ?_⟩
    rintro i5 l6 dd7 x8 ⟨⟩
    refine ⟨fun _ => tMX11_says_32 (d := 1310) ⟨_, mt_clear (d := 1309), ?_⟩, fun z => absurd rfl z⟩
    rintro i6 l7 dd8 x9 ⟨⟩
    exact hQ _ ⟨i, l, dd, x, rfl, hI, rfl, rfl⟩
theorem op_cliff {R : ab_S → Prop} {B : mA_} {o : Nat → Nat} (hT : op_T R B o) : la_c25 1310 sc (la_I R) := by
  rintro ⟨i, l, dd, x⟩ hI
  obtain ⟨hW, hT2⟩ := hT
  have hK0 := hT2 _ hI
  obtain ⟨⟨m, e0, hm, hK⟩, -, h3⟩ := hK0
  have w2 := hW.2.1
  obtain ⟨r, hr, hS⟩ := tq_cls (sc := sc) hW hI e0 hm hK
  have key : ∀ (v : Int32), (∀ i5 l0 d0 x0, (tq_P B i → ∀ k, k < aV_ B → i5 234 k = Int32.ofNat (tu_y B o k (tu_H B o (tp_p i) k) (tp_p i (o k)))) → la_I R (i5, l0, d0, x0) → (tq_P B i → ab_Sp MX12_cliffOfSaid 1310 [.ref 205, .int (i5 205 52)] (i5, l0, d0, x0) (ab_E0 sc) (some (.int v)) (fun σ => σ = (i5, l0, d0, x0))) ∧ (¬ tq_P B i → v = -1)) → ∀ σ1, tp_mid R i σ1 → ab_Sp MX12_cliff (1310 + 1) [.ref 205] σ1 (ab_E0 sc) (some (.int v)) (la_I R) := by
    rintro v hv σ1 ⟨i0, l0, d0, x0, rfl, hI0, h5, h4⟩
    refine ab_ent (n := 0) okMX12_cliff.1 (fun G => Nat.le_of_ble_eq_true rfl) (fun Q hQ => ?_)
    refine tMX12_cliff_0 (d := 1310) ?_
    rintro i1 rfl
    have hb : ∀ v, v < aV_ B → (ab_u (ab_u i0 4 1 0) 205 0 0) 206 v = Int32.ofNat (tp_p i v) ∧ tp_p i v ≤ 255 := fun v hv => by
      rw [uu_k (by omega), uu_k (by omega), show tp_p i v = tp_p i0 v by unfold tp_p; rw [h5]]
      exact ⟨(tp_pe hI0 (by omega)).2.2, (tp_pe hI0 (by omega)).2.1⟩
    have hM2 : tq_M B o (ab_u (ab_u i0 4 1 0) 205 0 0) := tq_Mof (hT2 _ hI0) (by rw [uu_j (by omega), uu_k (by omega)]) (fun k h1 h2 => by rw [uu_f (by omega), uu_f (by omega)])
    have e2 : (ab_u (ab_u i0 4 1 0) 205 0 0) 205 2 = i 4 1 := by
      have := hI0.1.2.1
      dsimp only at this
      rw [uu_j (by omega), uu_k (by omega), this, h4]
    obtain ⟨r, hr, hs⟩ := tq_told (sc := sc) (l := l0) (dd := d0) (x := x0) hW hM2 hb (by rw [e2, ← h4, ← show i0 205 2 = i0 4 1 from hI0.1.2.1]; exact tq_it hI0)
    rw [e2] at hr
    refine ⟨_, _, hs 1308, ?_⟩
    rintro i5 l6 dd7 x8 ⟨i2, ⟨⟩, f2, z2⟩
    have hJ := kp_I (la_cut0 (v0 := 0) (l2 := l0) (x2 := x0) hI0 (fun _ _ => rfl)) (kp_234 f2) kp_lr kp_dr (x2 := x0)
    rcases hr with ⟨rfl, hp⟩ | ⟨rfl, hp⟩
    · have := hv i5 l0 d0 x0 (fun _ => z2 rfl) hJ
      refine ⟨fun z => absurd z (by decide), fun _ => ⟨_, _, this.1 hp, ?_⟩⟩
      rintro i17 l18 dd19 x20 ⟨⟩
      exact hQ _ hJ
    · have := hv i5 l0 d0 x0 (fun z => absurd z hp) hJ
      rw [this.2 hp] at hQ
      exact ⟨fun _ => hQ _ hJ, fun z => absurd rfl z⟩
  rcases hr with ⟨rfl, hP⟩ | ⟨rfl, hP⟩
  · obtain ⟨hp, hn, hs⟩ := hP
    obtain ⟨hO, z3, -⟩ := h3 hp
    refine ⟨tu_C B o (aV_ B) (tu_H B o (tp_p i) (aV_ B)), tp_mid R i, ?_, key _ (fun i5 l0 d0 x0 z5 hJ => ⟨fun _ => md_cliff (d := 1309) (A := B) (o := o) (b := tp_p i) (V := aV_ B) rfl (hT2 _ hJ).2.1 hW hp (z5 ⟨hp, hn, hs⟩), fun z => absurd ⟨hp, hn, hs⟩ z⟩)⟩
    refine ab_ent (n := 0) okMX11_cliff.1 (fun G => Nat.le_of_ble_eq_true rfl) (fun Q hQ => ?_)
    refine tMX11_cliff_0 (d := 1310) ⟨_, _, hS 1306, ?_⟩
    rintro i5 l6 dd7 x8 ⟨⟩
    refine ⟨fun z => absurd z (by decide), fun _ => ⟨_, _, tq_cliff (d := 1305) (b := tp_p i) hW hp hO hm e0 hK (fun k hk => (z3 k hk).1) (fun v hv => ⟨(tp_pe hI (by omega)).1, hs v hv⟩), ?_⟩⟩
    rintro i5 l6 dd7 x8 ⟨i2, l2, ⟨⟩, f2, g2⟩
    refine tMX11_cliff_32 (d := 1310) ⟨_, mt_clear (d := 1309), ?_⟩
    rintro i6 l7 dd8 x9 ⟨⟩
    exact hQ _ ⟨i5, l6, _, _, rfl, kp_I hI (kp_181 f2) (kp_182 g2) kp_dr, f2 5 (by omega), by rw [f2 4 (by omega)]⟩
  · refine ⟨-1, tp_mid R i, ?_, key _ (fun i5 l0 d0 x0 z5 hJ => ⟨fun z => absurd z hP, fun _ => rfl⟩)⟩
    refine ab_ent (n := 0) okMX11_cliff.1 (fun G => Nat.le_of_ble_eq_true rfl) (fun Q hQ => ?_)
    refine tMX11_cliff_0 (d := 1310) ⟨_, _, hS 1306, ?_⟩
    rintro i5 l6 dd7 x8 ⟨⟩
    refine ⟨fun _ => tMX11_cliff_32 (d := 1310) ⟨_, mt_clear (d := 1309), ?_⟩, fun z => absurd rfl z⟩
    rintro i6 l7 dd8 x9 ⟨⟩
    exact hQ _ ⟨i, l, dd, x, rfl, hI, rfl, rfl⟩
end TQJ4
