/-! IN TURNS: the model speaks -/
theorem pu_3 {f : Nat → Nat} : pu_s f 3 = f 0 + f 1 + f 2 := by
  show 0 + f 0 + f 1 + f 2 = _
  rw [Nat.zero_add]
/-- what a turn's cell of says holds -/
def tu_y (A : mA_) (o : Nat → Nat) (k h s : Nat) : Nat := tu_s A (o k) (tu_L A o k h) s + (if tu_f A o k h = 1 then 0 else 8)
theorem tu_yo {y : Nat} (h : y < 3) : (Int32.ofNat y ||| 8) = Int32.ofNat (y + 8) := by
  have h2 : ∀ y : Fin 3, (Int32.ofNat y.val ||| 8) = Int32.ofNat (y.val + 8) := by decide
  exact h2 ⟨y, h⟩
theorem tu_y7 {A : mA_} {o : Nat → Nat} {k h s : Nat} (hW : mt_W A) (hp : 0 < aV_ A) : (Int32.ofNat (tu_y A o k h s) &&& 7) = Int32.ofNat (tu_s A (o k) (tu_L A o k h) s) := by
  have w1 := hW.1
  have hs := tu_sl (A := A) (v := o k) (L := tu_L A o k h) (s := s) hW hp
  have h2 : ∀ y : Fin 3, (Int32.ofNat y.val &&& 7) = Int32.ofNat y.val ∧ (Int32.ofNat (y.val + 8) &&& 7) = Int32.ofNat y.val := by decide
  have h3 := h2 ⟨tu_s A (o k) (tu_L A o k h) s, by omega⟩
  unfold tu_y
  split
  · exact h3.1
  · exact h3.2
theorem tu_yl {A : mA_} {o : Nat → Nat} {k h s : Nat} (hW : mt_W A) (hp : 0 < aV_ A) : tu_y A o k h s < 11 := by
  have w1 := hW.1
  have hs := tu_sl (A := A) (v := o k) (L := tu_L A o k h) (s := s) hW hp
  unfold tu_y
  split <;> omega
/-- what is said, out of the model's sums -/
theorem mu_say {A : mA_} {o : Nat → Nat} {k h s : Nat} (hW : mt_W A) (hp : 0 < aV_ A) (hO : tu_O A o) (hk : k < aV_ A) (hh : h < 3 ^ k) (hs : s < aS_ A (o k)) : mt_li (fun e => Int64.ofNat (mu_S A o k (3 * h + s) e (mt_rad (aS_ A) (aV_ A)))) (aT_ A - 1) = tu_s A (o k) (tu_L A o k h) s := by
  have e1 : (fun e => Int64.ofNat (mu_S A o k (3 * h + s) e (mt_rad (aS_ A) (aV_ A)))) = fun e => Int64.ofNat (pu_s (fun t => tu_L A o k h t * aL_ A (o k) s t * aK_ A (o k) t e) 3 * 20 ^ (aV_ A - (k + 1))) := by
    funext e
    rw [mu_Sall hW hp hO hk hh hs]
  rw [e1, mt_li_n (f := fun e => pu_s (fun t => tu_L A o k h t * aL_ A (o k) s t * aK_ A (o k) t e) 3 * 20 ^ (aV_ A - (k + 1))) _ (fun e _ => ?_), mt_ln_m (f := fun e => pu_s (fun t => tu_L A o k h t * aL_ A (o k) s t * aK_ A (o k) t e) 3) (Nat.pow_pos (by omega))]
  · rfl
  · have hb : ∀ t, tu_L A o k h t * aL_ A (o k) s t * aK_ A (o k) t e ≤ 20 ^ (k + 1) * 20 * 50 := fun t => Nat.mul_le_mul (Nat.mul_le_mul (tu_LB hW hO k h (by omega)) (hW.2.2.2.2.2.2.2.1 (o k) s t).1) (hW.2.2.2.2.2.2.2.2.2.1 (o k) t e)
    have h3 : pu_s (fun t => tu_L A o k h t * aL_ A (o k) s t * aK_ A (o k) t e) 3 ≤ 20 ^ (k + 1) * 20 * 50 * 3 := by
      have h0 := hb 0
      have h1 := hb 1
      have h2 := hb 2
      rw [pu_3]
      omega
    have h4 := Nat.mul_le_mul h3 (Nat.le_refl (20 ^ (aV_ A - (k + 1))))
    have e2 : 20 ^ (k + 1) * 20 * 50 * 3 * 20 ^ (aV_ A - (k + 1)) = 20 ^ aV_ A * 3000 := by
      have : (20 : Nat) ^ aV_ A = 20 ^ (k + 1) * 20 ^ (aV_ A - (k + 1)) := by
        rw [← Nat.pow_add]
        congr 1
        omega
      rw [this, show (3000 : Nat) = 20 * 50 * 3 from rfl]
      ac_rfl
    have h7 : (20 : Nat) ^ aV_ A ≤ 20 ^ 7 := Nat.pow_le_pow_right (by omega) hW.2.1
    have e7 : (20 : Nat) ^ 7 = 1280000000 := rfl
    have h8 : pu_s (fun t => tu_L A o k h t * aL_ A (o k) s t * aK_ A (o k) t e) 3 * 20 ^ (aV_ A - (k + 1)) ≤ 20 ^ aV_ A * 3000 := by rw [← e2]; exact h4
    omega
theorem mu_no {A : mA_} {o : Nat → Nat} {k h s : Nat} (hz : pu_s (fun t => tu_L A o k h t * aL_ A (o k) s t) 3 = 0) : tu_s A (o k) (tu_L A o k h) s = 0 := by
  refine mt_ln_0 _ (fun e _ => pu_sz (fun t ht => ?_))
  have h2 : tu_L A o k h t * aL_ A (o k) s t = 0 := by
    have e3 : pu_s (fun t => tu_L A o k h t * aL_ A (o k) s t) 3 = tu_L A o k h 0 * aL_ A (o k) s 0 + tu_L A o k h 1 * aL_ A (o k) s 1 + tu_L A o k h 2 * aL_ A (o k) s 2 := by
      show 0 + _ + _ + _ = _
      rw [Nat.zero_add]
    rcases (show t = 0 ∨ t = 1 ∨ t = 2 by omega) with rfl | rfl | rfl <;> omega
  rw [h2, Nat.zero_mul]
section TQE4
variable {d : Nat} {sc : Nat × (Nat → Int32)} {i : Nat → Nat → Int32} {l : Nat → Nat → Int64} {dd : Nat → Nat → Value} {x : Nat}
/-- the says of turn k, histories before H -/
def mu_Y (A : mA_) (o : Nat → Nat) (k H : Nat) (i : Nat → Nat → Int32) : Prop := ∀ h s, h < H → s < aS_ A (o k) → i 235 (6561 * k + (3 * h + s)) = Int32.ofNat (tu_y A o k h s)
theorem mu_250 {A : mA_} {o : Nat → Nat} {k h : Nat} {a1 : Int32} (hW : mt_W A) (hp : 0 < aV_ A) (hO : tu_O A o) (hk : k < aV_ A) (hh : h < 3 ^ k) {i0 : Nat → Nat → Int32} (hM : mt_M A i0 l) (h236 : ∀ u e, u < 3 * 3 ^ k → e < aT_ A → l 236 (3 * u + e) = Int64.ofNat (mu_S A o k u e (mt_rad (aS_ A) (aV_ A)))) (h237 : ∀ u, u < 3 * 3 ^ k → i0 237 u = if 0 < mu_P A o k u (mt_rad (aS_ A) (aV_ A)) then 1 else 0) {Q : ab_Qt} (hQ : ∀ i2, fr_o 235 235 i0 i2 → (∀ j, j < 6561 * k + 3 * h ∨ 6561 * k + 3 * h + 3 ≤ j → i2 235 j = i0 235 j) → (∀ s, s < aS_ A (o k) → i2 235 (6561 * k + (3 * h + s)) = Int32.ofNat (tu_y A o k h s)) → ab_Fr MX12_speak (d + 2) Q 235 [some (.ref 205), some (.int a1), some (.int (Int32.ofNat k)), some (.int (Int32.ofNat (o k))), some (.int (Int32.ofNat (h + 1))), none, none, none, none, none] [] (0, 0) (i2, l, dd, x) (ab_E0 sc)) :
    ∀ (n s : Nat) (i2 : Nat → Nat → Int32), aS_ A (o k) = s + n → fr_o 235 235 i0 i2 → (∀ j, j < 6561 * k + 3 * h ∨ 6561 * k + 3 * h + 3 ≤ j → i2 235 j = i0 235 j) → (∀ u, u < s → i2 235 (6561 * k + (3 * h + u)) = Int32.ofNat (tu_s A (o k) (tu_L A o k h) u)) → ab_Fr MX12_speak (d + 2) Q 250 [some (.ref 205), some (.int a1), some (.int (Int32.ofNat k)), some (.int (Int32.ofNat (o k))), some (.int (Int32.ofNat h)), some (.int (tu_n (tu_g A o k h s).1)), some (.int (Int32.ofNat (tu_g A o k h s).2)), some (.int (Int32.ofNat s)), none, none] [] (0, 0) (i2, l, dd, x) (ab_E0 sc) := by
  intro n
  have w1 := hW.1
  have w2 := hW.2.1
  have w4 := hW.2.2.2.1 hp
  have h3 := p3_6 hk hW.2.1
  have ho := hO.1 k hk
  have w7 := hW.2.2.2.2.2.2.1 (o k) ho
  induction n with
  | zero =>
    intro s i2 hs f2 k2 z2
    have hM2 := mt_M_f hM f2 (by omega) hW
    refine tMX12_speak_250 (d := d + 1) ?_
    rw [nn_cl (by omega), (hM2.2.2.2.1 (o k) ho).1]
    refine ⟨la_vp (by omega) (by omega), fun _ => ?_, fun c => ?_⟩
    · have ef : tu_f A o k h = (tu_g A o k h s).2 := by
        unfold tu_f
        rw [show aS_ A (o k) = s by omega]
      have ey : ∀ u, tu_y A o k h u = tu_s A (o k) (tu_L A o k h) u + (if tu_f A o k h = 1 then 0 else 8) := fun _ => rfl
      rcases tu_g1 (A := A) (o := o) (i := k) (h := h) s with c | c
      · rw [c]
        refine ⟨fun z => absurd rfl z, fun _ => ?_⟩
        have go : ∀ (r u : Nat) (i3 : Nat → Nat → Int32), 3 = u + r → fr_o 235 235 i0 i3 → (∀ j, j < 6561 * k + 3 * h ∨ 6561 * k + 3 * h + 3 ≤ j → i3 235 j = i0 235 j) → (∀ w, w < aS_ A (o k) → i3 235 (6561 * k + (3 * h + w)) = Int32.ofNat (if w < u then tu_y A o k h w else tu_s A (o k) (tu_L A o k h) w)) → ab_Fr MX12_speak (d + 2) Q 395 [some (.ref 205), some (.int a1), some (.int (Int32.ofNat k)), some (.int (Int32.ofNat (o k))), some (.int (Int32.ofNat h)), none, none, some (.int (Int32.ofNat u)), none, none] [] (0, 0) (i3, l, dd, x) (ab_E0 sc) := by
          intro r
          induction r with
          | zero =>
            intro u i3 hu f3 k3 z3
            refine tMX12_speak_395 (d := d + 1) ⟨fun _ => ?_, fun c => ?_⟩
            · rw [la_nx]
              refine hQ i3 f3 k3 (fun w hw => ?_)
              rw [z3 w hw, if_pos (by omega)]
            · rw [nn_p3, nn_le (by omega) (by omega)] at c
              omega
          | succ r ihr =>
            intro u i3 hu f3 k3 z3
            refine tMX12_speak_395 (d := d + 1) ⟨fun c => ?_, fun _ => ?_⟩
            · rw [nn_p3, nn_le (by omega) (by omega)] at c
              omega
            · rw [show (6561 : Int32) = Int32.ofNat 6561 from rfl, nn_p3, nn_mul, nn_mul, nn_add, nn_add, nn_cl (by omega), la_nx]
              refine ⟨la_vp (by omega) (by omega), la_vp (by omega) (by omega), ?_⟩
              rintro i4 rfl
              refine ihr (u + 1) _ (by omega) (fr_u f3 (by omega)) (fun j hj => ?_) (fun w hw => ?_)
              · rw [uu_j (by omega)]
                exact k3 j hj
              · by_cases e : w = u
                · subst e
                  have hsl := tu_sl (A := A) (v := o k) (L := tu_L A o k h) (s := w) hW hp
                  have z4 := z3 w hw
                  rw [if_neg (Nat.lt_irrefl w)] at z4
                  rw [show 6561 * k + (3 * h + w) = 6561 * k + 3 * h + w by omega] at z4 ⊢
                  rw [uu_e, if_pos (by omega), z4, tu_yo (by omega), ey, ef, c, if_neg (by omega)]
                · rw [uu_j (by omega), z3 w hw]
                  by_cases q : w < u
                  · rw [if_pos q, if_pos (by omega)]
                  · rw [if_neg q, if_neg (by omega)]
        refine go 3 0 i2 rfl f2 k2 (fun w hw => ?_)
        rw [if_neg (Nat.not_lt_zero w)]
        exact z2 w (by omega)
      · rw [c]
        refine ⟨fun _ => ?_, fun z => absurd z (by decide)⟩
        rw [la_nx]
        refine hQ i2 f2 k2 (fun w hw => ?_)
        rw [z2 w (by omega), ey, ef, c, if_pos rfl, Nat.add_zero]
    · rw [nn_le (by omega) (by omega)] at c
      omega
  | succ n ih =>
    intro s i2 hs f2 k2 z2
    have hM2 := mt_M_f hM f2 (by omega) hW
    have hsl := tu_sl (A := A) (v := o k) (L := tu_L A o k h) (s := s) hW hp
    have hgl := tu_gl (A := A) (o := o) (i := k) (h := h) hW hp s
    have hg1 := tu_g1 (A := A) (o := o) (i := k) (h := h) s
    have eP := mu_Pall (s := s) hW hp hO hk hh (by omega)
    have e237 := h237 (3 * h + s) (by omega)
    rw [eP] at e237
    have hpow : 0 < 20 ^ (aV_ A - (k + 1)) := Nat.pow_pos (by omega)
    have eg : tu_g A o k h (s + 1) = if 0 < pu_s (fun t => tu_L A o k h t * aL_ A (o k) s t) 3 then (tu_s A (o k) (tu_L A o k h) s, if (tu_g A o k h s).1 = 9 ∨ (tu_g A o k h s).1 = tu_s A (o k) (tu_L A o k h) s then (tu_g A o k h s).2 else 0) else tu_g A o k h s := rfl
    have nx : ∀ i3, i3 = ab_u i2 235 (6561 * k + (3 * h + s)) (Int32.ofNat (tu_s A (o k) (tu_L A o k h) s)) → fr_o 235 235 i0 i3 ∧ (∀ j, j < 6561 * k + 3 * h ∨ 6561 * k + 3 * h + 3 ≤ j → i3 235 j = i0 235 j) ∧ ∀ u, u < s + 1 → i3 235 (6561 * k + (3 * h + u)) = Int32.ofNat (tu_s A (o k) (tu_L A o k h) u) := by
      rintro i3 rfl
      refine ⟨fr_u f2 (by omega), fun j hj => ?_, fun u hu => ?_⟩
      · rw [uu_j (by omega)]
        exact k2 j hj
      · by_cases e : u = s
        · rw [e, uu_e]
        · rw [uu_j (by omega)]
          exact z2 u (by omega)
    have ih2 := fun i3 (q : i3 = ab_u i2 235 (6561 * k + (3 * h + s)) (Int32.ofNat (tu_s A (o k) (tu_L A o k h) s))) => ih (s + 1) i3 (by omega) (nx i3 q).1 (nx i3 q).2.1 (nx i3 q).2.2
    have go : ab_Fr MX12_speak (d + 2) Q 331 [some (.ref 205), some (.int a1), some (.int (Int32.ofNat k)), some (.int (Int32.ofNat (o k))), some (.int (Int32.ofNat h)), some (.int (tu_n (tu_g A o k h s).1)), some (.int (Int32.ofNat (tu_g A o k h s).2)), some (.int (Int32.ofNat s)), some (.int (Int32.ofNat (3 * h + s))), none] [.int (Int32.ofNat (tu_s A (o k) (tu_L A o k h) s))] (0, 0) (i2, l, dd, x) (ab_E0 sc) := by
      refine tMX12_speak_331 (d := d + 1) ?_
      rw [show (6561 : Int32) = Int32.ofNat 6561 from rfl, nn_mul, nn_add, nn_cl (by omega), nn_cl (by omega)]
      refine ⟨la_vp (by omega) (by omega), ?_⟩
      rintro i3 q3
      have ih3 := ih2 i3 q3
      rw [q3, uu_k (by omega), f2 237 (by omega), e237, ← q3, la_nx]
      refine ⟨la_vp (by omega) (by omega), ?_⟩
      by_cases c : 0 < pu_s (fun t => tu_L A o k h t * aL_ A (o k) s t) 3
      · rw [if_pos (Nat.mul_pos c hpow)]
        refine ⟨fun _ => ?_, fun z => absurd z (by decide)⟩
        rw [if_pos c] at eg
        rw [eg] at ih3
        dsimp only at ih3
        rw [show tu_n (tu_s A (o k) (tu_L A o k h) s) = Int32.ofNat (tu_s A (o k) (tu_L A o k h) s) from if_neg (by omega)] at ih3
        by_cases c9 : (tu_g A o k h s).1 = 9
        · rw [show tu_n (tu_g A o k h s).1 = -1 from if_pos c9]
          rw [if_pos (Or.inl c9)] at ih3
          exact ⟨fun _ => ih3, fun z => absurd rfl z⟩
        · rw [show tu_n (tu_g A o k h s).1 = Int32.ofNat (tu_g A o k h s).1 from if_neg c9, nn_em (by omega), nn_eq (by omega) (by omega)]
          refine ⟨fun z => z.elim, fun _ => ⟨fun q => ?_, fun q => ?_⟩⟩
          · rw [if_pos (Or.inr q)] at ih3
            exact ih3
          · rw [if_neg (fun z => z.elim c9 q)] at ih3
            exact ih3
      · rw [if_neg (fun z => c (Nat.pos_of_mul_pos_right z))]
        refine ⟨fun z => absurd rfl z, fun _ => ?_⟩
        rw [if_neg c] at eg
        rw [eg] at ih3
        exact ih3
    refine tMX12_speak_250 (d := d + 1) ?_
    rw [nn_cl (by omega), (hM2.2.2.2.1 (o k) ho).1, nn_p3, nn_mul, nn_add, nn_mul, nn_p1, nn_p2, nn_add, nn_add, nn_add, nn_cl (by omega), nn_cl (by omega), nn_cl (by omega), nn_cl (by omega), f2 237 (by omega), e237]
    refine ⟨la_vp (by omega) (by omega), fun c => ?_, fun _ => ⟨la_vp (by omega) (by omega), fun c => ?_, fun c => ⟨la_vp (by omega) (by omega), la_vp (by omega) (by omega), ?_⟩⟩⟩
    · rw [nn_le (by omega) (by omega)] at c
      omega
    · have c2 : ¬ 0 < pu_s (fun t => tu_L A o k h t * aL_ A (o k) s t) 3 := fun z => by
        rw [if_pos (Nat.mul_pos z hpow)] at c
        exact absurd c (by decide)
      have e0 := mu_no (s := s) (show pu_s (fun t => tu_L A o k h t * aL_ A (o k) s t) 3 = 0 by omega)
      rw [e0] at go
      exact go
    · have s0 := h236 (3 * h + s) 0 (by omega) (by omega)
      have s1 := h236 (3 * h + s) 1 (by omega) (by omega)
      rw [Nat.add_zero] at s0
      have say := mu_say (s := s) hW hp hO hk hh (by omega)
      have fin : ∀ c3 : Int64, (aT_ A = 3 → Int64.ofNat (mu_S A o k (3 * h + s) 2 (mt_rad (aS_ A) (aV_ A))) = c3) → ab_Fr MX12_speak (d + 2) Q 324 [some (.ref 205), some (.int a1), some (.int (Int32.ofNat k)), some (.int (Int32.ofNat (o k))), some (.int (Int32.ofNat h)), some (.int (tu_n (tu_g A o k h s).1)), some (.int (Int32.ofNat (tu_g A o k h s).2)), some (.int (Int32.ofNat s)), some (.int (Int32.ofNat (3 * h + s))), none] [.long c3, .long (l 236 (3 * (3 * h + s) + 1)), .long (l 236 (3 * (3 * h + s))), .ref 205] (0, 0) (i2, l, dd, x) (ab_E0 sc) := fun c3 hc3 => by
        refine tMX12_speak_324 (d := d + 1) ⟨_, _, md_least (d := d) (f := fun e => Int64.ofNat (mu_S A o k (3 * h + s) e (mt_rad (aS_ A) (aV_ A)))) hW hp hM2 s0.symm s1.symm hc3, ?_⟩
        rintro i6 l7 dd8 x9 ⟨⟩
        rw [say]
        exact go
      rw [hM2.1.1, nn_eq (by omega) (by omega)]
      refine ⟨fun c3 => fin _ (fun z => absurd z c3), fun c3 => ⟨la_vp (by omega) (by omega), fin _ (fun _ => (h236 (3 * h + s) 2 (by omega) (by omega)).symm)⟩⟩
end TQE4
