/-! IN TURNS: the model's sums by history and sign -/
/-- the place of a row: its history and sign -/
def mu_a (A : mA_) (o : Nat → Nat) (k r : Nat) : Nat := 3 * tu_H A o (pu_g (aS_ A) (aV_ A) r) k + pu_g (aS_ A) (aV_ A) r (o k)
def mu_S (A : mA_) (o : Nat → Nat) (k u e R : Nat) : Nat := pu_s (fun r => if mu_a A o k r = u then cs_l A (o k) (pu_g (aS_ A) (aV_ A) r) e (aT_ A) else 0) R
def mu_P (A : mA_) (o : Nat → Nat) (k u R : Nat) : Nat := pu_s (fun r => if mu_a A o k r = u then pu_s (mt_pa A (pu_g (aS_ A) (aV_ A) r)) (aT_ A) else 0) R
theorem mt_paB {A : mA_} {b : Nat → Nat} {t : Nat} (hW : mt_W A) : mt_pa A b t ≤ 25600000000 := by
  have h : ∀ k, pu_p (aC_ A t) (fun v => aL_ A v (b v) t) k ≤ 20 * 20 ^ k := by
    intro k
    induction k with
    | zero => exact (hW.2.2.2.2.1 t).1
    | succ k ih =>
      show pu_p (aC_ A t) (fun v => aL_ A v (b v) t) k * aL_ A k (b k) t ≤ _
      rw [Nat.pow_succ, ← Nat.mul_assoc]
      exact Nat.mul_le_mul ih (hW.2.2.2.2.2.2.2.1 k (b k) t).1
  have h2 := h (aV_ A)
  have h3 : (20 : Nat) ^ aV_ A ≤ 20 ^ 7 := Nat.pow_le_pow_right (by omega) hW.2.1
  have e : (20 : Nat) ^ 7 = 1280000000 := rfl
  show pu_p (aC_ A t) (fun v => aL_ A v (b v) t) (aV_ A) ≤ _
  omega
theorem p3_6 {k V : Nat} (hk : k < V) (hV : V ≤ 7) : 3 ^ k ≤ 729 := by
  have h : 3 ^ k ≤ 3 ^ 6 := Nat.pow_le_pow_right (by omega) (by omega)
  have e : (3 : Nat) ^ 6 = 729 := rfl
  omega
theorem mu_al {A : mA_} {o : Nat → Nat} {k r : Nat} (hW : mt_W A) (hp : 0 < aV_ A) (hO : tu_O A o) (hk : k < aV_ A) : mu_a A o k r < 3 * 3 ^ k := by
  have h1 := tu_Hl (A := A) (o := o) (b := pu_g (aS_ A) (aV_ A) r) hW hp k
  have h2 := pg_lt (r := r) hW (hO.1 k hk)
  have h3 := (hW.2.2.2.2.2.2.1 _ (hO.1 k hk)).2
  unfold mu_a
  omega
/-- the sums, when all rows are through -/
theorem mu_Sall {A : mA_} {o : Nat → Nat} {k h s e : Nat} (hW : mt_W A) (hp : 0 < aV_ A) (hO : tu_O A o) (hk : k < aV_ A) (hh : h < 3 ^ k) (hs : s < aS_ A (o k)) : mu_S A o k (3 * h + s) e (mt_rad (aS_ A) (aV_ A)) = pu_s (fun t => tu_L A o k h t * aL_ A (o k) s t * aK_ A (o k) t e) 3 * 20 ^ (aV_ A - (k + 1)) := by
  have w1 := hW.1
  have w7 := hW.2.2.2.2.2.2.1 _ (hO.1 k hk)
  have e1 : mu_S A o k (3 * h + s) e (mt_rad (aS_ A) (aV_ A)) = pu_n (aS_ A) (aV_ A) (fun b => if 3 * tu_H A o b k + b (o k) = 3 * h + s then cs_l A (o k) b e (aT_ A) else 0) := cs_rows (G := fun b => if 3 * tu_H A o b k + b (o k) = 3 * h + s then cs_l A (o k) b e (aT_ A) else 0) hW
  rw [e1, pu_nc (H := fun b => pu_s (fun t => (if tu_H A o b k = h ∧ b (o k) = s then mt_pa A b t else 0) * aK_ A (o k) t e) (aT_ A)) (fun b hb => by
    have hbs := hb.1 (o k) (hO.1 k hk)
    by_cases c : tu_H A o b k = h ∧ b (o k) = s
    · rw [if_pos (by omega)]
      exact pu_sc (fun t _ => by rw [if_pos c])
    · rw [if_neg (by omega)]
      exact (pu_sz (fun t _ => by rw [if_neg c, Nat.zero_mul])).symm), pu_ns (G := fun b t => (if tu_H A o b k = h ∧ b (o k) = s then mt_pa A b t else 0) * aK_ A (o k) t e)]
  rw [pu_s3 (f := fun t => tu_L A o k h t * aL_ A (o k) s t * aK_ A (o k) t e) w1 (fun t ht => by rw [tu_L0 hW ht, Nat.zero_mul, Nat.zero_mul]), ← pu_sr]
  refine pu_sc (fun t ht => ?_)
  rw [pu_nr (c := aK_ A (o k) t e) (G := fun b => if tu_H A o b k = h ∧ b (o k) = s then mt_pa A b t else 0), tu_K1 hW hp hO ht hk hh hs]
  ac_rfl
theorem mu_Pall {A : mA_} {o : Nat → Nat} {k h s : Nat} (hW : mt_W A) (hp : 0 < aV_ A) (hO : tu_O A o) (hk : k < aV_ A) (hh : h < 3 ^ k) (hs : s < aS_ A (o k)) : mu_P A o k (3 * h + s) (mt_rad (aS_ A) (aV_ A)) = pu_s (fun t => tu_L A o k h t * aL_ A (o k) s t) 3 * 20 ^ (aV_ A - (k + 1)) := by
  have w1 := hW.1
  have w7 := hW.2.2.2.2.2.2.1 _ (hO.1 k hk)
  have e1 : mu_P A o k (3 * h + s) (mt_rad (aS_ A) (aV_ A)) = pu_n (aS_ A) (aV_ A) (fun b => if 3 * tu_H A o b k + b (o k) = 3 * h + s then pu_s (mt_pa A b) (aT_ A) else 0) := cs_rows (G := fun b => if 3 * tu_H A o b k + b (o k) = 3 * h + s then pu_s (mt_pa A b) (aT_ A) else 0) hW
  rw [e1, pu_nc (H := fun b => pu_s (fun t => if tu_H A o b k = h ∧ b (o k) = s then mt_pa A b t else 0) (aT_ A)) (fun b hb => by
    have hbs := hb.1 (o k) (hO.1 k hk)
    by_cases c : tu_H A o b k = h ∧ b (o k) = s
    · rw [if_pos (by omega)]
      exact pu_sc (fun t _ => by rw [if_pos c])
    · rw [if_neg (by omega)]
      exact (pu_sz (fun t _ => by rw [if_neg c])).symm), pu_ns (G := fun b t => if tu_H A o b k = h ∧ b (o k) = s then mt_pa A b t else 0)]
  rw [pu_s3 (f := fun t => tu_L A o k h t * aL_ A (o k) s t) w1 (fun t ht => by rw [tu_L0 hW ht, Nat.zero_mul]), ← pu_sr]
  exact pu_sc (fun t ht => tu_K1 hW hp hO ht hk hh hs)
section TQD4
variable {d : Nat} {sc : Nat × (Nat → Int32)} {i : Nat → Nat → Int32} {l : Nat → Nat → Int64} {dd : Nat → Nat → Value} {x : Nat}
/-- what speaking changes: history, says, has; sums -/
def mu_o (i i2 : Nat → Nat → Int32) (l l2 : Nat → Nat → Int64) : Prop := fr_o 233 237 i i2 ∧ fr_o 236 236 l l2
theorem mu_t {i2 i3 : Nat → Nat → Int32} {l2 l3 : Nat → Nat → Int64} (h1 : mu_o i i2 l l2) (h2 : mu_o i2 i3 l2 l3) : mu_o i i3 l l3 := ⟨fr_t h1.1 h2.1, fr_t h1.2 h2.2⟩
theorem mu_r : mu_o i i l l := ⟨fr_r, fr_r⟩
theorem mu_M {A : mA_} {i2 : Nat → Nat → Int32} {l2 : Nat → Nat → Int64} (hW : mt_W A) (hM : mt_M A i l) (h : mu_o i i2 l l2) : mt_M A i2 l2 :=
  mt_M_fr hM (fun j _ _ => by rw [h.1 205 (by omega)]) (fun k _ _ => h.1 k (by omega)) (fun j _ => by rw [h.1 225 (by omega)]) (h.2 224 (by omega)) hW
theorem mu_167 {A : mA_} {v t r q U : Nat} {a1 a2 : Int32} {Z : Nat → Nat → Nat} (hW : mt_W A) (hv : v < aV_ A) (ht : t < aT_ A) (hr : r < mt_rad (aS_ A) (aV_ A)) (hq : q < U) (hU : U ≤ 2187) {l0 : Nat → Nat → Int64} (hM : mt_M A i l0) {Q : ab_Qt} (hQ : ∀ l2, fr_o 236 236 l0 l2 → (∀ u e, u < U → e < aT_ A → l2 236 (3 * u + e) = Int64.ofNat (Z u e + (if u = q then mt_pa A (pu_g (aS_ A) (aV_ A) r) t * aK_ A v t e else 0))) → ab_Fr MX12_speak (d + 2) Q 127 [some (.ref 205), some (.int a1), some (.int a2), some (.int (Int32.ofNat v)), some (.int (Int32.ofNat r)), some (.int (Int32.ofNat q)), some (.int (Int32.ofNat (t + 1))), none, none, none] [] (0, 0) (i, l2, dd, x) (ab_E0 sc)) :
    ∀ (n e : Nat) (l2 : Nat → Nat → Int64), aT_ A = e + n → fr_o 236 236 l0 l2 → (∀ u y, u < U → y < aT_ A → l2 236 (3 * u + y) = Int64.ofNat (Z u y + (if u = q ∧ y < e then mt_pa A (pu_g (aS_ A) (aV_ A) r) t * aK_ A v t y else 0))) → ab_Fr MX12_speak (d + 2) Q 167 [some (.ref 205), some (.int a1), some (.int a2), some (.int (Int32.ofNat v)), some (.int (Int32.ofNat r)), some (.int (Int32.ofNat q)), some (.int (Int32.ofNat t)), some (.int (Int32.ofNat e)), none, none] [] (0, 0) (i, l2, dd, x) (ab_E0 sc) := by
  intro n
  have w1 := hW.1
  have hR := (mt_rows hW).1
  induction n with
  | zero =>
    intro e l2 he g2 z2
    have hM2 : mt_M A i l2 := mu_M hW hM ⟨fr_r, g2⟩
    refine tMX12_speak_167 (d := d + 1) ⟨fun _ => ?_, fun c => ?_⟩
    · rw [la_nx]
      refine hQ l2 g2 (fun u y hu hy => ?_)
      rw [z2 u y hu hy]
      by_cases c : u = q
      · rw [if_pos ⟨c, by omega⟩, if_pos c]
      · rw [if_neg (fun z => c z.1), if_neg c]
    · rw [hM2.1.1, nn_le (by omega) (by omega)] at c
      omega
  | succ n ih =>
    intro e l2 he g2 z2
    have hM2 : mt_M A i l2 := mu_M hW hM ⟨fr_r, g2⟩
    have hK50 := hW.2.2.2.2.2.2.2.2.2.1 v t e
    refine tMX12_speak_167 (d := d + 1) ⟨fun c => ?_, fun _ => ?_⟩
    · rw [hM2.1.1, nn_le (by omega) (by omega)] at c
      omega
    · rw [nn_p3, nn_mul, nn_mul, nn_add, nn_add, nn_cl (by omega), nn_cl (by omega), hM2.2.2.2.2.2.2.2 r t hr ht]
      refine ⟨la_vp (by omega) (by omega), la_vp (by omega) (by omega), _, _, mt_loss (d := d) hW hM2 (Or.inl hv) ht (show e < aT_ A by omega), ?_⟩
      rintro i6 l7 dd8 x9 ⟨⟩
      rw [z2 q e hq (by omega), if_neg (fun z => Nat.lt_irrefl e z.2), Nat.add_zero, nn_64 (by omega), nl_mul, nl_add, la_nx]
      refine ⟨la_vp (by omega) (by omega), ?_⟩
      rintro l11 rfl
      refine ih (e + 1) _ (by omega) (fr_u g2 (by omega)) (fun u y hu hy => ?_)
      by_cases c : u = q ∧ y = e
      · obtain ⟨rfl, rfl⟩ := c
        rw [uu_e, if_pos ⟨rfl, by omega⟩]
      · rw [uu_j (by omega), z2 u y hu hy]
        by_cases c2 : u = q ∧ y < e
        · rw [if_pos c2, if_pos ⟨c2.1, by omega⟩]
        · rw [if_neg c2, if_neg (by omega)]
theorem mu_127 {A : mA_} {v r q U : Nat} {a1 a2 : Int32} {Z : Nat → Nat → Nat} {Y : Nat → Nat} (hW : mt_W A) (hv : v < aV_ A) (hr : r < mt_rad (aS_ A) (aV_ A)) (hq : q < U) (hU : U ≤ 2187) {i0 : Nat → Nat → Int32} {l0 : Nat → Nat → Int64} (hM : mt_M A i0 l0) {Q : ab_Qt} (hQ : ∀ i2 l2, fr_o 237 237 i0 i2 → fr_o 236 236 l0 l2 → (∀ u e, u < U → e < aT_ A → l2 236 (3 * u + e) = Int64.ofNat (Z u e + (if u = q then cs_l A v (pu_g (aS_ A) (aV_ A) r) e (aT_ A) else 0))) → (∀ u, u < U → i2 237 u = if 0 < Y u + (if u = q then pu_s (mt_pa A (pu_g (aS_ A) (aV_ A) r)) (aT_ A) else 0) then 1 else 0) → ab_Fr MX12_speak (d + 2) Q 96 [some (.ref 205), some (.int a1), some (.int a2), some (.int (Int32.ofNat v)), some (.int (Int32.ofNat (r + 1))), none, none, none, none, none] [] (0, 0) (i2, l2, dd, x) (ab_E0 sc)) :
    ∀ (n t : Nat) (i2 : Nat → Nat → Int32) (l2 : Nat → Nat → Int64), aT_ A = t + n → fr_o 237 237 i0 i2 → fr_o 236 236 l0 l2 → (∀ u y, u < U → y < aT_ A → l2 236 (3 * u + y) = Int64.ofNat (Z u y + (if u = q then cs_l A v (pu_g (aS_ A) (aV_ A) r) y t else 0))) → (∀ u, u < U → i2 237 u = if 0 < Y u + (if u = q then pu_s (mt_pa A (pu_g (aS_ A) (aV_ A) r)) t else 0) then 1 else 0) → ab_Fr MX12_speak (d + 2) Q 127 [some (.ref 205), some (.int a1), some (.int a2), some (.int (Int32.ofNat v)), some (.int (Int32.ofNat r)), some (.int (Int32.ofNat q)), some (.int (Int32.ofNat t)), none, none, none] [] (0, 0) (i2, l2, dd, x) (ab_E0 sc) := by
  intro n
  have w1 := hW.1
  have hR := (mt_rows hW).1
  induction n with
  | zero =>
    intro t i2 l2 ht f2 g2 z2 y2
    have hM2 : mt_M A i2 l2 := mu_M hW hM ⟨fr_w f2 (by omega), g2⟩
    refine tMX12_speak_127 (d := d + 1) ⟨fun _ => ?_, fun c => ?_⟩
    · rw [la_nx]
      rw [show t = aT_ A by omega] at z2 y2
      exact hQ i2 l2 f2 g2 z2 y2
    · rw [hM2.1.1, nn_le (by omega) (by omega)] at c
      omega
  | succ n ih =>
    intro t i2 l2 ht f2 g2 z2 y2
    have hM2 : mt_M A i2 l2 := mu_M hW hM ⟨fr_w f2 (by omega), g2⟩
    have hpB := mt_paB (b := pu_g (aS_ A) (aV_ A) r) (t := t) hW
    have ecs : ∀ y, cs_l A v (pu_g (aS_ A) (aV_ A) r) y (t + 1) = cs_l A v (pu_g (aS_ A) (aV_ A) r) y t + mt_pa A (pu_g (aS_ A) (aV_ A) r) t * aK_ A v t y := fun _ => rfl
    have eps : pu_s (mt_pa A (pu_g (aS_ A) (aV_ A) r)) (t + 1) = pu_s (mt_pa A (pu_g (aS_ A) (aV_ A) r)) t + mt_pa A (pu_g (aS_ A) (aV_ A) r) t := rfl
    refine tMX12_speak_127 (d := d + 1) ⟨fun c => ?_, fun _ => ?_⟩
    · rw [hM2.1.1, nn_le (by omega) (by omega)] at c
      omega
    · rw [nn_p3, nn_mul, nn_add, nn_cl (by omega), nn_cl (by omega), hM2.2.2.2.2.2.2.2 r t hr (by omega), nl_p0, nl_eq (by omega) (by omega)]
      refine ⟨la_vp (by omega) (by omega), fun c => ⟨la_vp (by omega) (by omega), ?_⟩, fun c => ?_⟩
      · rintro i3 rfl
        refine mu_167 (d := d) (Z := fun u y => Z u y + (if u = q then cs_l A v (pu_g (aS_ A) (aV_ A) r) y t else 0)) (l0 := l2) hW hv (by omega) hr hq hU (mu_M hW hM2 ⟨fr_u fr_r (by omega), fr_r⟩) (fun l3 g3 z3 => ih (t + 1) _ l3 (by omega) (fr_u f2 (by omega)) (fr_t g2 g3) (fun u y hu hy => ?_) (fun u hu => ?_)) _ 0 l2 (Nat.zero_add _).symm fr_r (fun u y hu hy => ?_)
        · rw [z3 u y hu hy, ecs]
          by_cases c2 : u = q
          · rw [if_pos c2, if_pos c2, if_pos c2, Nat.add_assoc]
          · rw [if_neg c2, if_neg c2, if_neg c2, Nat.add_zero]
        · rw [eps]
          by_cases c2 : u = q
          · rw [c2, uu_e, if_pos rfl, if_pos (by omega)]
          · rw [uu_j c2, y2 u hu, if_neg c2, if_neg c2]
        · have e0 : (if u = q ∧ y < 0 then mt_pa A (pu_g (aS_ A) (aV_ A) r) t * aK_ A v t y else 0) = 0 := if_neg (fun h => Nat.not_lt_zero y h.2)
          rw [e0, Nat.add_zero]
          exact z2 u y hu hy
      · rw [la_nx]
        refine ih (t + 1) i2 l2 (by omega) f2 g2 (fun u y hu hy => ?_) (fun u hu => ?_)
        · rw [z2 u y hu hy, ecs, c, Nat.zero_mul, Nat.add_zero]
        · rw [y2 u hu, eps, c, Nat.add_zero]
theorem mu_96 {A : mA_} {o : Nat → Nat} {k : Nat} {a1 a2 : Int32} (hW : mt_W A) (hp : 0 < aV_ A) (hO : tu_O A o) (hk : k < aV_ A) {i0 : Nat → Nat → Int32} {l0 : Nat → Nat → Int64} (hM : mt_M A i0 l0) (hH : ∀ r, r < mt_rad (aS_ A) (aV_ A) → i0 233 r = Int32.ofNat (tu_H A o (pu_g (aS_ A) (aV_ A) r) k)) {Q : ab_Qt} (hQ : ∀ i2 l2, fr_o 237 237 i0 i2 → fr_o 236 236 l0 l2 → (∀ u e, u < 3 * 3 ^ k → e < aT_ A → l2 236 (3 * u + e) = Int64.ofNat (mu_S A o k u e (mt_rad (aS_ A) (aV_ A)))) → (∀ u, u < 3 * 3 ^ k → i2 237 u = if 0 < mu_P A o k u (mt_rad (aS_ A) (aV_ A)) then 1 else 0) → ab_Fr MX12_speak (d + 2) Q 235 [some (.ref 205), some (.int a1), some (.int a2), some (.int (Int32.ofNat (o k))), some (.int 0), none, none, none, none, none] [] (0, 0) (i2, l2, dd, x) (ab_E0 sc)) :
    ∀ (n r : Nat) (i2 : Nat → Nat → Int32) (l2 : Nat → Nat → Int64), mt_rad (aS_ A) (aV_ A) = r + n → fr_o 237 237 i0 i2 → fr_o 236 236 l0 l2 → (∀ u e, u < 3 * 3 ^ k → e < aT_ A → l2 236 (3 * u + e) = Int64.ofNat (mu_S A o k u e r)) → (∀ u, u < 3 * 3 ^ k → i2 237 u = if 0 < mu_P A o k u r then 1 else 0) → ab_Fr MX12_speak (d + 2) Q 96 [some (.ref 205), some (.int a1), some (.int a2), some (.int (Int32.ofNat (o k))), some (.int (Int32.ofNat r)), none, none, none, none, none] [] (0, 0) (i2, l2, dd, x) (ab_E0 sc) := by
  intro n
  have hR := (mt_rows hW).1
  have h3 := p3_6 hk hW.2.1
  have ho := hO.1 k hk
  induction n with
  | zero =>
    intro r i2 l2 hr f2 g2 z2 y2
    have hM2 : mt_M A i2 l2 := mu_M hW hM ⟨fr_w f2 (by omega), g2⟩
    refine tMX12_speak_96 (d := d + 1) ⟨fun _ => ?_, fun c => ?_⟩
    · rw [show r = mt_rad (aS_ A) (aV_ A) by omega] at z2 y2
      exact hQ i2 l2 f2 g2 z2 y2
    · rw [hM2.1.2.2 (by omega), nn_le (by omega) (by omega)] at c
      omega
  | succ n ih =>
    intro r i2 l2 hr f2 g2 z2 y2
    have hM2 : mt_M A i2 l2 := mu_M hW hM ⟨fr_w f2 (by omega), g2⟩
    have hal := mu_al (r := r) hW hp hO hk
    refine tMX12_speak_96 (d := d + 1) ⟨fun c => ?_, fun _ => ⟨la_vp (by omega) (by omega), _, _, mt_sg (d := d) hW hM2 ho (by omega), ?_⟩⟩
    · rw [hM2.1.2.2 (by omega), nn_le (by omega) (by omega)] at c
      omega
    · rintro i6 l7 dd8 x9 ⟨⟩
      rw [nn_cl (by omega), f2 233 (by omega), hH r (by omega), nn_p3, nn_mul, nn_add]
      refine mu_127 (d := d) (v := o k) (r := r) (q := mu_a A o k r) (U := 3 * 3 ^ k) (Z := fun u e => mu_S A o k u e r) (Y := fun u => mu_P A o k u r) (i0 := i2) (l0 := l2) hW ho (by omega) hal (by omega) hM2 (fun i3 l3 f3 g3 z3 y3 => ih (r + 1) i3 l3 (by omega) (fr_t f2 f3) (fr_t g2 g3) (fun u e hu he => ?_) (fun u hu => ?_)) _ 0 i2 l2 (Nat.zero_add _).symm fr_r fr_r (fun u e hu he => ?_) (fun u hu => ?_)
      · rw [z3 u e hu he]
        show _ = Int64.ofNat (mu_S A o k u e r + if mu_a A o k r = u then cs_l A (o k) (pu_g (aS_ A) (aV_ A) r) e (aT_ A) else 0)
        by_cases c : mu_a A o k r = u
        · rw [if_pos c, if_pos c.symm]
        · rw [if_neg c, if_neg (fun z => c z.symm)]
      · rw [y3 u hu]
        show _ = if 0 < mu_P A o k u r + (if mu_a A o k r = u then pu_s (mt_pa A (pu_g (aS_ A) (aV_ A) r)) (aT_ A) else 0) then (1 : Int32) else 0
        by_cases c : mu_a A o k r = u
        · rw [if_pos c, if_pos c.symm]
        · have c2 : ¬ u = mu_a A o k r := fun z => c z.symm
          rw [if_neg c, if_neg c2]
      · rw [z2 u e hu he, show cs_l A (o k) (pu_g (aS_ A) (aV_ A) r) e 0 = 0 from rfl, ite_self, Nat.add_zero]
      · rw [y2 u hu, show pu_s (mt_pa A (pu_g (aS_ A) (aV_ A) r)) 0 = 0 from rfl, ite_self, Nat.add_zero]
end TQD4
