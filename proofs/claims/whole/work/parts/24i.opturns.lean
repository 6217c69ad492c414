/-! IN TURNS: the class's sums are the model's; the call -/
section TQI4
variable {d : Nat} {sc : Nat × (Nat → Int32)} {i : Nat → Nat → Int32} {l : Nat → Nat → Int64} {dd : Nat → Nat → Value} {x : Nat}
theorem pu_sT {f : Nat → Nat} {T n : Nat} (hT : T ≤ n) (h : ∀ t, T ≤ t → f t = 0) : pu_s f n = pu_s f T := by
  have e := pu_sp (f := f) (n := T) (m := n - T)
  rw [show T + (n - T) = n by omega, pu_sz (fun k _ => h (T + k) (by omega)), Nat.add_zero] at e
  exact e
theorem tu_tv {A : mA_} {o : Nat → Nat} {w : Nat → Nat → Nat} (hW : mt_W A) (hp : 0 < aV_ A) (hO : tu_O A o) : pu_s (fun h => pu_s (fun t => tu_L A o (aV_ A) h t * w t h) 3) (3 ^ aV_ A) = pu_n (aS_ A) (aV_ A) (fun b => pu_s (fun t => mt_pa A b t * w t (tu_H A o b (aV_ A))) (aT_ A)) := by
  have h1 : ∀ t, pu_s (fun h => tu_L A o (aV_ A) h t * w t h) (3 ^ aV_ A) = pu_n (aS_ A) (aV_ A) (fun b => mt_pa A b t * w t (tu_H A o b (aV_ A))) := by
    intro t
    by_cases ht : t < aT_ A
    · rw [pu_sc (g := fun h => pu_n (aS_ A) (aV_ A) (fun b => if h = tu_H A o b (aV_ A) then mt_pa A b t * w t h else 0)) (fun h hh => by
        have h1 := tu_K0 (i := aV_ A) hW hp hO ht (Nat.le_refl _) hh
        rw [Nat.sub_self, Nat.pow_zero, Nat.mul_one] at h1
        rw [← h1, ← pu_nr]
        refine pu_nc (fun b _ => ?_)
        by_cases q : tu_H A o b (aV_ A) = h
        · rw [if_pos q, if_pos q.symm]
        · rw [if_neg q, if_neg (fun z => q z.symm), Nat.zero_mul]), ← pu_ns]
      refine pu_nc (fun b _ => ?_)
      rw [pu_s1 (f := fun h => mt_pa A b t * w t h), if_pos (tu_Hl hW hp _)]
    · rw [pu_sz (fun h _ => by rw [tu_L0 hW (by omega), Nat.zero_mul]), pu_nz (fun b _ => by rw [mt_pa0 hW (by omega), Nat.zero_mul])]
  rw [pu_sw, pu_sc (fun t _ => h1 t), ← pu_ns]
  refine pu_nc (fun b _ => ?_)
  exact pu_sT hW.1 (fun t ht => by rw [mt_pa0 hW ht, Nat.zero_mul])
theorem mi_he {A : mA_} {o : Nat → Nat} (hW : mt_W A) (hp : 0 < aV_ A) (hO : tu_O A o) : pu_s (tu_wh A o) (3 ^ aV_ A) = mi_h A o (mt_rad (aS_ A) (aV_ A)) := by
  rw [pu_sc (g := fun h => pu_s (fun t => tu_L A o (aV_ A) h t * (if tu_z A o (aV_ A) h + 1 < aV_ A then 1 else 0)) 3) (fun h _ => by
    unfold tu_wh
    by_cases c : tu_z A o (aV_ A) h + 1 < aV_ A
    · rw [if_pos c]
      exact pu_sc (fun t _ => by rw [if_pos c, Nat.mul_one])
    · rw [if_neg c]
      exact (pu_sz (fun t _ => by rw [if_neg c, Nat.mul_zero])).symm), tu_tv (w := fun _ h => if tu_z A o (aV_ A) h + 1 < aV_ A then 1 else 0) hW hp hO, ← cs_rows hW]
  refine pu_sc (fun r _ => ?_)
  rw [pu_sr, Nat.mul_comm]
  rfl
theorem mi_ae {A : mA_} {o : Nat → Nat} (hW : mt_W A) (hp : 0 < aV_ A) (hO : tu_O A o) : pu_s (tu_wa A o) (3 ^ aV_ A) = mi_a A o (mt_rad (aS_ A) (aV_ A)) := by
  rw [pu_sc (g := fun h => pu_s (fun t => tu_L A o (aV_ A) h t * (if tu_z A o (aV_ A) h + 1 < aV_ A then (if t = h % 3 then 0 else 1) else 0)) 3) (fun h _ => by
    unfold tu_wa
    by_cases c : tu_z A o (aV_ A) h + 1 < aV_ A
    · rw [if_pos c]
      refine pu_sc (fun t _ => ?_)
      rw [if_pos c]
      by_cases c2 : t = h % 3
      · rw [if_pos c2, if_pos c2, Nat.mul_zero]
      · rw [if_neg c2, if_neg c2, Nat.mul_one]
    · rw [if_neg c]
      exact (pu_sz (fun t _ => by rw [if_neg c, Nat.mul_zero])).symm), tu_tv (w := fun t h => if tu_z A o (aV_ A) h + 1 < aV_ A then (if t = h % 3 then 0 else 1) else 0) hW hp hO, ← cs_rows hW]
  refine pu_sc (fun r _ => ?_)
  by_cases c : tu_z A o (aV_ A) (tu_H A o (pu_g (aS_ A) (aV_ A) r) (aV_ A)) + 1 < aV_ A
  · rw [show mi_g A o r = 1 from if_pos c, Nat.one_mul]
    refine pu_sc (fun t _ => ?_)
    rw [if_pos c]
    unfold mi_e
    by_cases c2 : t = tu_H A o (pu_g (aS_ A) (aV_ A) r) (aV_ A) % 3
    · rw [if_pos c2, if_pos c2, Nat.mul_zero]
    · rw [if_neg c2, if_neg c2, Nat.mul_one]
  · rw [show mi_g A o r = 0 from if_neg c, Nat.zero_mul]
    exact pu_sz (fun t _ => by rw [if_neg c, Nat.mul_zero])
theorem mi_re {A : mA_} {o : Nat → Nat} (hW : mt_W A) (hp : 0 < aV_ A) (hO : tu_O A o) : pu_s (tu_wc A o 0 0) (3 ^ aV_ A) + pu_s (tu_wc A o 1 1) (3 ^ aV_ A) + pu_s (tu_wc A o 2 2) (3 ^ aV_ A) = mi_r A o (mt_rad (aS_ A) (aV_ A)) := by
  rw [← pu_3 (f := fun t => pu_s (tu_wc A o t t) (3 ^ aV_ A)), pu_sw, pu_sc (g := fun h => pu_s (fun t => tu_L A o (aV_ A) h t * (if t = h % 3 then 1 else 0)) 3) (fun h _ => pu_sc (fun t _ => by
    unfold tu_wc
    by_cases c : h % 3 = t
    · rw [if_pos c, if_pos c.symm, Nat.mul_one]
    · rw [if_neg c, if_neg (fun z => c z.symm), Nat.mul_zero])), tu_tv (w := fun t h => if t = h % 3 then 1 else 0) hW hp hO, ← cs_rows hW]
  refine pu_sc (fun r _ => pu_sc (fun t _ => ?_))
  unfold mi_e
  by_cases c : t = tu_H A o (pu_g (aS_ A) (aV_ A) r) (aV_ A) % 3
  · rw [if_pos c, if_pos c, Nat.mul_one]
  · rw [if_neg c, if_neg c, Nat.mul_zero]
theorem mi_le {A : mA_} {o : Nat → Nat} (hW : mt_W A) (hp : 0 < aV_ A) (hO : tu_O A o) : mt_tb (fun t e => pu_s (tu_wc A o t e) (3 ^ aV_ A)) (aK_ A 7) = pu_n (aS_ A) (aV_ A) (fun b => cs_l A 7 b (tu_H A o b (aV_ A) % 3) (aT_ A)) := by
  rw [mt_tb_s, pu_sc (g := fun t => pu_s (fun h => tu_L A o (aV_ A) h t * aK_ A 7 t (h % 3)) (3 ^ aV_ A)) (fun t _ => by
    rw [pu_sc (g := fun e => pu_s (fun h => tu_wc A o t e h * aK_ A 7 t e) (3 ^ aV_ A)) (fun e _ => pu_sr.symm), pu_sw]
    refine pu_sc (fun h _ => ?_)
    rw [pu_sc (g := fun e => if e = h % 3 then (fun e => tu_L A o (aV_ A) h t * aK_ A 7 t e) e else 0) (fun e _ => by
      unfold tu_wc
      by_cases c : h % 3 = e
      · rw [if_pos c, if_pos c.symm]
      · rw [if_neg c, if_neg (fun z => c z.symm), Nat.zero_mul]), pu_s1, if_pos (Nat.mod_lt _ (by omega))]), pu_sw, tu_tv (w := fun t h => aK_ A 7 t (h % 3)) hW hp hO]
  rfl
theorem md_take : ab_Sp MX12_take (d + 1) [.ref 205] (i, l, dd, x) (ab_E0 sc) (some (.int (i 205 2))) (fun σ => σ = (ab_u i 205 2 0, l, dd, x)) := by
  refine ab_ent (n := 0) okMX12_take.1 (fun G => Nat.le_of_ble_eq_true rfl) (fun Q hQ => ?_)
  refine tMX12_take_0 (d := d) ?_
  rintro i1 rfl
  exact hQ _ rfl
theorem ct_all {A : mA_} {o : Nat → Nat} {m : Nat} (hW : mt_W A) (hp : 0 < aV_ A) (hO : tu_O A o) (hm : ab_isM m) (hK : mt_K A m i) (h5 : ∀ k, k < aV_ A → i 5 k = Int32.ofNat (o k)) : ab_Sp MX8_speakAll (d + 13) [.ref 179, .ref m, .ref 5] (i, l, dd, x) (ab_E0 sc) none (fun σ => ∃ i2 l2, σ = (i2, l2, ab_u dd 179 0 (.ref m), x) ∧ fr_o 180 181 i i2 ∧ (∀ k, k < aV_ A → i2 180 k = Int32.ofNat (o k)) ∧ (∀ k, k ≠ 179 → k ≠ 182 → k ≠ 183 → k ≠ 184 → l2 k = l k) ∧ (∀ q, q ≠ 6 → q ≠ 7 → l2 179 q = l 179 q) ∧ ct_A A o 179 l2 (3 ^ aV_ A)) := by
  have w2 := hW.2.1
  refine ab_ent (n := 2) okMX8_speakAll.1 (fun G => Nat.le_of_ble_eq_true rfl) (fun Q hQ => ?_)
  refine tMX8_speakAll_0 (d := d + 12) (a0 := 179) (n_a2 := 740) (Or.inl rfl) hm rfl ?_
  rintro dd1 rfl
  have go : ∀ (n k : Nat) (i2 : Nat → Nat → Int32), aV_ A = k + n → fr_o 180 180 i i2 → (∀ j, j < k → i2 180 j = Int32.ofNat (o j)) → ab_Fr MX8_speakAll (d + 13) Q 7 [some (.ref 179), none, some (.ref 5), some (.int (Int32.ofNat k))] [] (0, 0) (i2, l, ab_u dd 179 0 (.ref m), x) (ab_E0 sc) := by
    intro n
    induction n with
    | zero =>
      intro k i2 hk f2 z2
      have hK2 : mt_K A m i2 := mt_K_f hm hK (fun q h1 h2 => f2 q (by rcases hm with rfl | rfl | rfl <;> omega)) hW
      refine tMX8_speakAll_7 (d := d + 12) (a0 := 179) (a2 := 5) (n_a2 := 740) (Or.inl rfl) rfl ⟨m, uu_e, hm, fun _ => ⟨_, ct_inOrder (d := d) (a0 := 179) hW hp hO (Or.inl rfl) hm uu_e hK2 (fun j hj => z2 j (by omega)), ?_⟩, fun c => ?_⟩
      · rintro i8 l9 dd10 x11 ⟨i3, l3, ⟨⟩, f3, g3, k3, A3⟩
        exact hQ _ ⟨_, _, rfl, fr_t (fr_w f2 (by omega)) (fr_w f3 (by omega)), fun j hj => by rw [f3 180 (by omega)]; exact z2 j (by omega), fun q a b c e => g3 q a b c e, k3, A3⟩
      · rw [hK2.1.2, nn_le (by omega) (by omega)] at c
        omega
    | succ n ih =>
      intro k i2 hk f2 z2
      have hK2 : mt_K A m i2 := mt_K_f hm hK (fun q h1 h2 => f2 q (by rcases hm with rfl | rfl | rfl <;> omega)) hW
      refine tMX8_speakAll_7 (d := d + 12) (a0 := 179) (a2 := 5) (n_a2 := 740) (Or.inl rfl) rfl ⟨m, uu_e, hm, fun c => ?_, fun _ => ⟨la_vp (by omega) (by omega), la_vp (by omega) (by omega), ?_⟩⟩
      · rw [hK2.1.2, nn_le (by omega) (by omega)] at c
        omega
      · rintro i13 rfl
        rw [nn_cl (by omega), la_nx]
        refine ih (k + 1) _ (by omega) (fr_u f2 (by omega)) (fun j hj => ?_)
        by_cases e : j = k
        · rw [e, uu_e, f2 5 (by omega), h5 k (by omega)]
        · rw [uu_j e]
          exact z2 j (by omega)
  exact go (aV_ A) 0 i (Nat.zero_add _).symm fr_r (fun j hj => absurd hj (Nat.not_lt_zero j))
/-- the model from where the order is known to be one -/
theorem mi_turns {A : mA_} {b : Nat → Nat} (hW : mt_W A) (hp : 0 < aV_ A) (hO : tu_O A b) (hM : mt_M A i l) (hb : ∀ v, v < aV_ A → i 206 v = Int32.ofNat (b v)) {Q : ab_Qt} (hQ : ∀ i2 l2, (∀ k j, (k < 232 ∨ 240 < k) → ¬ (k = 205 ∧ (j = 50 ∨ j = 52)) → i2 k j = i k j) → i2 205 52 = Int32.ofNat (aV_ A) → (∀ v, v < aV_ A → i2 238 v = Int32.ofNat (b v) ∧ i2 240 v = Int32.ofNat (aS_ A v)) → (∀ k h s, k < aV_ A → h < 3 ^ k → s < aS_ A (b k) → i2 239 (6561 * k + (3 * h + s)) = Int32.ofNat (tu_y A b k h s)) → (∀ k j, k ≠ 236 → ¬ (k = 205 ∧ 53 ≤ j ∧ j ≤ 55) → l2 k j = l k j) → mi_E A b (mt_rad (aS_ A) (aV_ A)) l2 → Q (some (some (.long (Int64.ofNat (pu_n (aS_ A) (aV_ A) (fun c => cs_l A 7 c (tu_H A b c (aV_ A) % 3) (aT_ A))))))) (i2, l2, dd, x) (ab_E0 sc)) :
    ab_Fr MX12_inTurns (d + 4) Q 90 [some (.ref 205), some (.int (Int32.ofNat (aV_ A))), none, some (.int 0), none, none, none, none] [] (0, 0) (i, l, dd, x) (ab_E0 sc) := by
  have w2 := hW.2.1
  have w7 := hW.2.2.2.2.2.2.1
  refine mi_90 (d := d + 3) (b := b) (i0 := i) w2 hb (fun i2 f2 z2 i4 e4 => ?_) (aV_ A) 0 i (Nat.zero_add _).symm (fun _ _ _ => rfl) (fun v hv => absurd hv (Nat.not_lt_zero v))
  have f4 : ∀ k, k ≠ 232 → k ≠ 238 → k ≠ 205 → i4 k = i k := fun k h1 h2 h3 => by rw [e4, uu_f h3, uu_f h3, f2 k h1 h2]
  have f45 : ∀ j, j ≠ 50 → j ≠ 52 → i4 205 j = i 205 j := fun j h1 h2 => by rw [e4, uu_j h1, uu_j h2, f2 205 (by omega) (by omega)]
  have e52 : i4 205 52 = Int32.ofNat (aV_ A) := by rw [e4, uu_j (by omega), uu_e]
  have e50 : i4 205 50 = Int32.ofNat (aV_ A) := by rw [e4, uu_e]
  have hM4 : mt_M A i4 l := mt_M_fr hM (fun j h1 h2 => f45 j (by omega) (by omega)) (fun k h1 h2 => f4 k (by omega) (by omega) (by omega)) (fun j hj => by rw [f4 225 (by omega) (by omega) (by omega)]) rfl hW
  refine ⟨_, md_speak (d := d + 1) hW hp hO hM4 (fun k hk => by rw [e4, uu_f (by omega), uu_f (by omega)]; exact (z2 k hk).1), ?_⟩
  rintro i10 l11 dd12 x13 ⟨i5, l5, ⟨⟩, ⟨f5, g5⟩, hA5⟩
  refine mi_141 (d := d + 3) (i0 := i10) (fun i6 f6 z6 => ?_) 45927 0 i10 (Nat.zero_add _).symm fr_r (fun v hv => absurd hv (Nat.not_lt_zero v))
  refine mi_167 (d := d + 3) (i0 := i6) w2 (fun i7 f7 z7 l7 e7 => ?_) (aV_ A) 0 i6 (Nat.zero_add _).symm fr_r (fun v hv => absurd hv (Nat.not_lt_zero v))
  have hM10 : mt_M A i10 l11 := mu_M hW hM4 ⟨f5, g5⟩
  have fA : ∀ k, k ≠ 239 → k ≠ 240 → i7 k = i10 k := fun k h1 h2 => by rw [f7 k (by omega), f6 k (by omega)]
  have gL : mi_o l11 l7 := by
    rw [e7]
    exact mi_u (mi_u (mi_u (fun _ _ _ => rfl) (by omega)) (by omega)) (by omega)
  have hM7 : mt_M A i7 l7 := mt_M_fr hM10 (fun j h1 h2 => by rw [fA 205 (by omega) (by omega)]) (fun k h1 h2 => fA k (by omega) (by omega)) (fun j hj => by rw [fA 225 (by omega) (by omega)]) (funext fun j => gL 224 j (by omega)) hW
  refine mi_207 (d := d) (o := b) (i0 := i7) (l0 := l7) hW hp hO hM7 (fun k hk => ?_) ?_ (fun j hj h s hh hs => ?_) (fun i8 l8 f8 g8 z8 => ?_) (mt_rad (aS_ A) (aV_ A)) 0 i7 l7 (Nat.zero_add _).symm fr_r (fun _ _ _ => rfl) ?_
  · rw [fA 232 (by omega) (by omega), f5 232 (by omega), e4, uu_f (by omega), uu_f (by omega)]
    exact (z2 k hk).1
  · rw [fA 205 (by omega) (by omega), f5 205 (by omega), e50]
  · rw [fA 235 (by omega) (by omega)]
    exact hA5 j hj h s hh hs
  · refine hQ i8 l8 (fun k j h1 h2 => ?_) ?_ (fun v hv => ⟨?_, ?_⟩) (fun k h s hk hh hs => ?_) (fun k j h1 h2 => ?_) z8
    · rw [f8 k (by omega), fA k (by omega) (by omega), f5 k (by omega)]
      by_cases c : k = 205
      · rw [c]
        exact f45 j (by omega) (by omega)
      · rw [f4 k (by omega) (by omega) c]
    · rw [f8 205 (by omega), fA 205 (by omega) (by omega), f5 205 (by omega), e52]
    · rw [f8 238 (by omega), fA 238 (by omega) (by omega), f5 238 (by omega), e4, uu_f (by omega), uu_f (by omega)]
      exact (z2 v hv).2
    · rw [f8 240 (by omega), z7 v hv, f6 212 (by omega), (hM10.2.2.2.1 v hv).1]
    · have hp3 := p3_6 hk w2
      have hs3 := (w7 (b k) (hO.1 k hk)).2
      rw [f8 239 (by omega), f7 239 (by omega), z6 _ (by omega)]
      exact hA5 k hk h s hh hs
    · rw [g8 k j h2, gL k j h2, g5 k (by omega)]
  · rw [e7]
    refine ⟨?_, ?_, ?_⟩
    · rw [uu_j (by omega), uu_j (by omega), uu_e]
      rfl
    · rw [uu_j (by omega), uu_e]
      rfl
    · rw [uu_e]
      rfl
/-- what is kept of the latest inTurns -/
def tn_K (A : mA_) (o : Nat → Nat) (τ : ab_S) : Prop := (∃ m, τ.2.2.1 179 0 = .ref m ∧ ab_isM m ∧ mt_K A m τ.1) ∧ τ.1 205 52 = Int32.ofNat (aV_ A) ∧ (0 < aV_ A → tu_O A o ∧ (∀ k, k < aV_ A → τ.1 180 k = Int32.ofNat (o k) ∧ τ.1 238 k = Int32.ofNat (o k) ∧ τ.1 240 k = Int32.ofNat (aS_ A k)) ∧ (∀ k h s, k < aV_ A → h < 3 ^ k → s < aS_ A (o k) → τ.1 239 (6561 * k + (3 * h + s)) = Int32.ofNat (tu_y A o k h s)) ∧ τ.2.1 179 6 = τ.2.1 205 53 ∧ τ.2.1 179 7 = τ.2.1 205 54 ∧ τ.2.1 184 0 + τ.2.1 184 4 + τ.2.1 184 8 = τ.2.1 205 55)
theorem tnk_M {m : Nat} (hm : ab_isM m) : ∀ k, m ≤ k → k ≤ m + 47 → (la_mask (i, l, dd, x)).1 k = i k := fun k h1 h2 => funext fun j => by
  show (if la_ws k j then 0 else i k j) = i k j
  have h : la_ws k j = false := by
    rcases hm with rfl | rfl | rfl <;> simp [la_ws] <;> omega
  rw [h]
  rfl
theorem tnk_i {k : Nat} (h : ∀ j, la_ws k j = false) : (la_mask (i, l, dd, x)).1 k = i k := funext fun j => by
  show (if la_ws k j then 0 else i k j) = i k j
  rw [h j]
  rfl
theorem tnk_l {k : Nat} (h : ∀ j, la_ws k j = false) : (la_mask (i, l, dd, x)).2.1 k = l k := funext fun j => by
  show (if la_ws k j then 0 else l k j) = l k j
  rw [h j]
  rfl
theorem tn_Km {A : mA_} {o : Nat → Nat} (hW : mt_W A) : tn_K A o (la_mask (i, l, dd, x)) ↔ tn_K A o (i, l, dd, x) := by
  have e1 : ∀ m, ab_isM m → (mt_K A m (la_mask (i, l, dd, x)).1 ↔ mt_K A m i) := fun m hm => ⟨fun h => mt_K_f hm h (fun k h1 h2 => (tnk_M hm k h1 h2).symm) hW, fun h => mt_K_f hm h (tnk_M hm) hW⟩
  have e2 : ((∃ m, (la_mask (i, l, dd, x)).2.2.1 179 0 = .ref m ∧ ab_isM m ∧ mt_K A m (la_mask (i, l, dd, x)).1) ↔ ∃ m, dd 179 0 = .ref m ∧ ab_isM m ∧ mt_K A m i) := ⟨fun ⟨m, h1, h2, h3⟩ => ⟨m, h1, h2, (e1 m h2).mp h3⟩, fun ⟨m, h1, h2, h3⟩ => ⟨m, h1, h2, (e1 m h2).mpr h3⟩⟩
  unfold tn_K
  rw [e2, show (la_mask (i, l, dd, x)).1 205 52 = i 205 52 from rfl, tnk_i (k := 180) (fun j => by simp [la_ws]), tnk_i (k := 238) (fun j => by simp [la_ws]), tnk_i (k := 239) (fun j => by simp [la_ws]), tnk_i (k := 240) (fun j => by simp [la_ws]), tnk_l (k := 179) (fun j => by simp [la_ws]), tnk_l (k := 184) (fun j => by simp [la_ws]), show (la_mask (i, l, dd, x)).2.1 205 53 = l 205 53 from rfl, show (la_mask (i, l, dd, x)).2.1 205 54 = l 205 54 from rfl, show (la_mask (i, l, dd, x)).2.1 205 55 = l 205 55 from rfl]
/-- stores that differ where inTurns keeps alone -/
def in_E (τ τ2 : ab_S) : Prop := (∀ k j, k ≠ 180 → k ≠ 238 → k ≠ 239 → k ≠ 240 → ¬ (k = 205 ∧ j = 52) → τ2.1 k j = τ.1 k j) ∧ (∀ k j, ¬ (k = 179 ∧ (j = 6 ∨ j = 7)) → k ≠ 184 → ¬ (k = 205 ∧ 53 ≤ j ∧ j ≤ 55) → τ2.2.1 k j = τ.2.1 k j) ∧ ∀ k j, ¬ (k = 179 ∧ j = 0) → τ2.2.2.1 k j = τ.2.2.1 k j
theorem in_fin {R RF : ab_S → Prop} {A : mA_} {o : Nat → Nat} {m x2 : Nat} {i2 : Nat → Nat → Int32} {l2 : Nat → Nat → Int64} (hW : mt_W A) (hm : ab_isM m) (hC : ∀ τ τ2, R τ → in_E τ τ2 → tn_K A o τ2 → RF τ2) (hJ : la_I R (i, l, dd, x)) (h5 : i2 5 = i 5) (h6 : i2 206 = i 206) (h4 : i2 4 1 = i 4 1) (h2 : i2 205 2 = i 205 2) (hi : ∀ k j, la_ws k j = false → k ≠ 180 → k ≠ 238 → k ≠ 239 → k ≠ 240 → ¬ (k = 205 ∧ j = 52) → i2 k j = i k j) (hl : ∀ k j, la_ws k j = false → ¬ (k = 179 ∧ (j = 6 ∨ j = 7)) → k ≠ 184 → ¬ (k = 205 ∧ 53 ≤ j ∧ j ≤ 55) → l2 k j = l k j) (ht : tn_K A o (i2, l2, ab_u dd 179 0 (.ref m), x2)) : la_I RF (i2, l2, ab_u dd 179 0 (.ref m), x2) := by
  refine ⟨?_, ?_, hC _ _ hJ.2.2 ⟨fun k j a b c e f => ?_, fun k j a b c => ?_, fun k j a => ?_⟩ ((tn_Km hW).mpr ht)⟩
  · unfold la_It
    dsimp only
    rw [h5, h6, h4, h2]
    exact hJ.1
  · obtain ⟨v1, v2, v3, v4, v5, v6⟩ := hJ.2.1
    refine ⟨?_, ?_, ?_, ?_, ⟨m, (uu_e : ab_u dd 179 0 (Value.ref m) 179 0 = Value.ref m), hm⟩, ?_⟩
    · dsimp only
      rw [uu_k (by omega)]
      exact v1
    · dsimp only
      rw [uu_k (by omega)]
      exact v2
    · dsimp only
      rw [uu_k (by omega)]
      exact v3
    · dsimp only
      rw [uu_k (by omega)]
      exact v4
    · dsimp only
      rw [uu_k (by omega)]
      exact v6
  · show (if la_ws k j then 0 else i2 k j) = (if la_ws k j then 0 else i k j)
    cases q : la_ws k j with
    | true => rfl
    | false =>
      rw [if_neg (by decide), if_neg (by decide)]
      exact hi k j q a b c e f
  · show (if la_ws k j then 0 else l2 k j) = (if la_ws k j then 0 else l k j)
    cases q : la_ws k j with
    | true => rfl
    | false =>
      rw [if_neg (by decide), if_neg (by decide)]
      exact hl k j q a b c
  · show (if la_ws k j then .null else ab_u dd 179 0 (.ref m) k j) = (if la_ws k j then .null else dd k j)
    rw [show ab_u dd 179 0 (.ref m) k j = dd k j from if_neg a]
theorem op_inTurns {R RF : ab_S → Prop} {A : mA_} (hA : op_A R A) (hR : ∀ τ, R τ → RF τ) (hC : ∀ o τ τ2, R τ → in_E τ τ2 → tn_K A o τ2 → RF τ2) (σ : ab_S) (hI : la_I R σ) : ∃ (r : Int64) (P : ab_S → Prop), ab_Sp MX11_inTurns (1310 + 1) [.ref 3] σ (ab_E0 sc) (some (.long r)) P ∧ ∀ σ1, P σ1 → ab_Sp MX12_inTurns (1310 + 1) [.ref 205] σ1 (ab_E0 sc) (some (.long r)) (la_I RF) := by
  obtain ⟨i, l, dd, x⟩ := σ
  obtain ⟨hW, hA2⟩ := hA
  obtain ⟨m, e0, hm, hK, hM⟩ := hA2 _ _ _ _ hI
  have w2 := hW.2.1
  obtain ⟨r, hr, hS⟩ := tn_cls (sc := sc) hW hI hm hK
  have hF : ∀ σ, la_I R σ → la_I RF σ := fun σ h => ⟨h.1, h.2.1, hR _ h.2.2⟩
  rcases hr with ⟨rfl, hp, hn, hO⟩ | ⟨rfl, hN⟩
  · refine ⟨Int64.ofNat (mt_tb (fun t e => pu_s (tu_wc A (tp_p i) t e) (3 ^ aV_ A)) (aK_ A 7)), fun σ => ∃ i2 l2, σ = (ab_u i2 4 1 0, l2, ab_u dd 179 0 (.ref m), x) ∧ fr_o 180 181 i i2 ∧ (∀ k, k < aV_ A → i2 180 k = Int32.ofNat (tp_p i k)) ∧ (∀ k, k ≠ 179 → k ≠ 182 → k ≠ 183 → k ≠ 184 → l2 k = l k) ∧ (∀ q, q ≠ 6 → q ≠ 7 → l2 179 q = l 179 q) ∧ ct_A A (tp_p i) 179 l2 (3 ^ aV_ A), ?_, ?_⟩
    · refine ab_ent (n := 0) okMX11_inTurns.1 (fun G => Nat.le_of_ble_eq_true rfl) (fun Q hQ => ?_)
      refine tMX11_inTurns_0 (d := 1310) ⟨m, e0, hm, _, _, hS 1307, ?_⟩
      rintro i5 l6 dd7 x8 ⟨⟩
      refine ⟨fun z => absurd z (by decide), fun _ => ⟨m, e0, hm, _, ct_all (d := 1297) hW hp hO hm hK (fun k hk => (tp_pe hI (by omega)).1), ?_⟩⟩
      rintro i5 l6 dd7 x8 ⟨i2, l2, ⟨⟩, f2, z2, g2, k2, A2⟩
      have hK2 : mt_K A m i5 := mt_K_f hm hK (fun q h1 h2 => f2 q (by rcases hm with rfl | rfl | rfl <;> omega)) hW
      refine ⟨m, by rw [uu_k (by omega)]; exact e0, hm, _, _, mt_lostBy (d := 1309) (a := 179 + 5) (n := 9) (K := aK_ A 7) (F := fun t e => pu_s (tu_wc A (tp_p i) t e) (3 ^ aV_ A)) (isM_2 hm) rfl (mt_KLo hW hK2) A2.1 (by omega), ?_⟩
      rintro i5 l6 dd7 x8 ⟨⟩
      refine tMX11_inTurns_54 (d := 1310) ⟨_, mt_clear (d := 1309), ?_⟩
      rintro i5 l6 dd7 x8 ⟨⟩
      exact hQ _ ⟨_, _, rfl, f2, z2, g2, k2, A2⟩
    · rintro σ1 ⟨i2, l2, rfl, f2, z2, g2, k2, A2⟩
      refine ab_ent (n := 0) okMX12_inTurns.1 (fun G => Nat.le_of_ble_eq_true rfl) (fun Q hQ => ?_)
      rw [mi_le hW hp hO] at hQ
      refine tMX12_inTurns_0 (d := 1310) ?_
      rintro i1 rfl
      refine ⟨_, _, md_take (d := 1309), ?_⟩
      rintro i5 l6 dd7 x8 ⟨⟩
      have hM7 : mt_M A (ab_u (ab_u (ab_u i2 4 1 0) 205 0 0) 205 2 0) l2 := mt_M_fr hM (fun j h1 h2 => by rw [uu_j (by omega), uu_j (by omega), uu_k (by omega), f2 205 (by omega)]) (fun k h1 h2 => by rw [uu_f (by omega), uu_f (by omega), uu_f (by omega), f2 k (by omega)]) (fun j hj => by rw [uu_k (by omega), uu_k (by omega), uu_k (by omega), f2 225 (by omega)]) (g2 224 (by omega) (by omega) (by omega) (by omega)) hW
      have hn2 : i 205 2 = Int32.ofNat (aV_ A) := by
        have := hI.1.2.1
        dsimp only at this
        rw [this, hn]
      have hb : ∀ v, v < aV_ A → (ab_u (ab_u (ab_u i2 4 1 0) 205 0 0) 205 2 0) 206 v = Int32.ofNat (tp_p i v) ∧ tp_p i v ≤ 255 := fun v hv => by
        rw [uu_k (by omega), uu_k (by omega), uu_k (by omega), f2 206 (by omega)]
        exact ⟨(tp_pe hI (by omega)).2.2, (tp_pe hI (by omega)).2.1⟩
      rw [hM7.1.2.1, show (ab_u (ab_u i2 4 1 0) 205 0 0) 205 2 = Int32.ofNat (aV_ A) from by rw [uu_j (by omega), uu_k (by omega), f2 205 (by omega), hn2]]
      refine ⟨fun z => ?_, fun _ => ⟨fun _ => ?_, fun z => ?_⟩⟩
      · rw [nn_p0, nn_eq (by omega) (by omega)] at z
        omega
      · refine tn_33 (d := 1310) (b := tp_p i) hW hM7 hb (fun _ => ?_) (fun z => absurd hO z) (aV_ A) 0 (Nat.zero_add _).symm (fun j hj => absurd hj (Nat.not_lt_zero j))
        refine mi_turns (d := 1307) hW hp hO hM7 (fun v hv => (hb v hv).1) (fun i3 l3 f3 e52 z3 y3 g3 E3 => hQ _ ?_)
        have hJ := la_cut0 (v0 := 0) (l2 := l) (x2 := x) hI (fun _ _ => rfl)
        have fi : ∀ k j, k ≠ 180 → k ≠ 181 → (k < 232 ∨ 240 < k) → ¬ (k = 205 ∧ (j = 50 ∨ j = 52)) → i3 k j = ab_u (ab_u (ab_u i 4 1 0) 205 0 0) 205 2 0 k j := fun k j h1 h2 h3 h4 => by
          rw [f3 k j h3 h4]
          unfold ab_u
          rw [f2 k (by omega)]
        refine in_fin (RF := RF) (o := tp_p i) hW hm (hC (tp_p i)) hJ (funext fun j => fi 5 j (by omega) (by omega) (by omega) (by omega)) (funext fun j => fi 206 j (by omega) (by omega) (by omega) (by omega)) (fi 4 1 (by omega) (by omega) (by omega) (by omega)) (fi 205 2 (by omega) (by omega) (by omega) (by omega)) (fun k j q a b c e f => ?_) (fun k j q a b c => ?_) ⟨⟨m, (uu_e : ab_u dd 179 0 (Value.ref m) 179 0 = Value.ref m), hm, ?_⟩, e52, fun _ => ⟨hO, fun k hk => ⟨?_, (z3 k hk).1, (z3 k hk).2⟩, y3, ?_, ?_, ?_⟩⟩
        · have nq : ∀ y, kp_s y = true → k ≠ y := fun y hy z => by
            rw [z, kp_sw hy] at q
            cases q
          have n50 : ¬ (k = 205 ∧ j = 50) := fun z => by
            rw [z.1, z.2] at q
            exact absurd q (by decide)
          have := nq 181 rfl
          have := nq 232 rfl
          have := nq 233 rfl
          have := nq 234 rfl
          have := nq 235 rfl
          have := nq 236 rfl
          have := nq 237 rfl
          exact fi k j a (by omega) (by omega) (by omega)
        · have nq : ∀ y, kp_s y = true → k ≠ y := fun y hy z => by
            rw [z, kp_sw hy] at q
            cases q
          have q1 := nq 182 rfl
          have q2 := nq 183 rfl
          have q3 := nq 236 rfl
          rw [g3 k j q3 c]
          by_cases c2 : k = 179
          · rw [c2]
            exact k2 j (fun z => a ⟨c2, Or.inl z⟩) (fun z => a ⟨c2, Or.inr z⟩)
          · rw [g2 k c2 q1 q2 b]
        · refine mt_K_f hm hK (fun k h1 h2 => funext fun j => ?_) hW
          have hk : 7 ≤ k ∧ k ≤ 154 := by rcases hm with rfl | rfl | rfl <;> omega
          show i3 k j = i k j
          rw [fi k j (by omega) (by omega) (by omega) (by omega), uu_k (by omega), uu_k (by omega), uu_k (by omega)]
        · show i3 180 k = Int32.ofNat (tp_p i k)
          rw [f3 180 k (by omega) (by omega), uu_k (by omega), uu_k (by omega), uu_k (by omega)]
          exact z2 k hk
        · show l3 179 6 = l3 205 53
          rw [g3 179 6 (by omega) (by omega), E3.1, A2.2.1, mi_he hW hp hO]
        · show l3 179 7 = l3 205 54
          rw [g3 179 7 (by omega) (by omega), E3.2.1, A2.2.2, mi_ae hW hp hO]
        · show l3 184 0 + l3 184 4 + l3 184 8 = l3 205 55
          have a0 := A2.1 0 0 (by omega) (by omega)
          have a1 := A2.1 1 1 (by omega) (by omega)
          have a2 := A2.1 2 2 (by omega) (by omega)
          rw [g3 184 0 (by omega) (by omega), g3 184 4 (by omega) (by omega), g3 184 8 (by omega) (by omega), E3.2.2, show l2 184 0 = _ from a0, show l2 184 4 = _ from a1, show l2 184 8 = _ from a2, nl_add, nl_add, mi_re hW hp hO]
      · exact absurd rfl z
  · refine ⟨-1, tp_mid R i, ?_, ?_⟩
    · refine ab_ent (n := 0) okMX11_inTurns.1 (fun G => Nat.le_of_ble_eq_true rfl) (fun Q hQ => ?_)
      refine tMX11_inTurns_0 (d := 1310) ⟨m, e0, hm, _, _, hS 1307, ?_⟩
      rintro i5 l6 dd7 x8 ⟨⟩
      refine ⟨fun _ => tMX11_inTurns_54 (d := 1310) ⟨_, mt_clear (d := 1309), ?_⟩, fun z => absurd rfl z⟩
      rintro i5 l6 dd7 x8 ⟨⟩
      exact hQ _ ⟨i, l, dd, x, rfl, hI, rfl, rfl⟩
    · rintro σ1 ⟨i0, l0, d0, x0, rfl, hI0, h5, h4⟩
      obtain ⟨m, e0, hm, hK, hM⟩ := hA2 _ _ _ _ hI0
      refine ab_ent (n := 0) okMX12_inTurns.1 (fun G => Nat.le_of_ble_eq_true rfl) (fun Q hQ => ?_)
      refine tMX12_inTurns_0 (d := 1310) ?_
      rintro i1 rfl
      refine ⟨_, _, md_take (d := 1309), ?_⟩
      rintro i5 l6 dd7 x8 ⟨⟩
      have hJ := la_cut0 (v0 := 0) (l2 := l0) (x2 := x0) hI0 (fun _ _ => rfl)
      have hM7 : mt_M A (ab_u (ab_u (ab_u i0 4 1 0) 205 0 0) 205 2 0) l0 := mt_M_fr hM (fun j h1 h2 => by rw [uu_j (by omega), uu_j (by omega), uu_k (by omega)]) (fun k h1 h2 => by rw [uu_f (by omega), uu_f (by omega), uu_f (by omega)]) (fun j hj => by rw [uu_k (by omega), uu_k (by omega), uu_k (by omega)]) rfl hW
      have e2 : i0 205 2 = i 4 1 := by
        have := hI0.1.2.1
        dsimp only at this
        rw [this, h4]
      have ep : ∀ v, tp_p i0 v = tp_p i v := fun v => by
        unfold tp_p
        rw [h5]
      have hb : ∀ v, v < aV_ A → (ab_u (ab_u (ab_u i0 4 1 0) 205 0 0) 205 2 0) 206 v = Int32.ofNat (tp_p i v) ∧ tp_p i v ≤ 255 := fun v hv => by
        rw [uu_k (by omega), uu_k (by omega), uu_k (by omega), ← ep]
        exact ⟨(tp_pe hI0 (by omega)).2.2, (tp_pe hI0 (by omega)).2.1⟩
      rw [mt_z31 hW hM7, hM7.1.2.1]
      refine ⟨fun _ => hQ _ (hF _ hJ), fun c1 => ⟨fun c2 => ?_, fun _ => hQ _ (hF _ hJ)⟩⟩
      rw [uu_j (by omega), uu_k (by omega), e2] at c2
      rw [uu_j (by omega), uu_k (by omega), e2, c2]
      refine tn_33 (d := 1310) (b := tp_p i) hW hM7 hb (fun z => absurd ⟨by omega, c2, z⟩ hN) (fun _ => hQ _ (hF _ hJ)) (aV_ A) 0 (Nat.zero_add _).symm (fun j hj => absurd hj (Nat.not_lt_zero j))
end TQI4
