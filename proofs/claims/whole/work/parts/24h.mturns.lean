/-! IN TURNS, the model: what is summed of all rows, what is told -/
section TQH4
variable {d : Nat} {sc : Nat × (Nat → Int32)} {i : Nat → Nat → Int32} {l : Nat → Nat → Int64} {dd : Nat → Nat → Value} {x : Nat}
def mi_g (A : mA_) (o : Nat → Nat) (r : Nat) : Nat := if tu_z A o (aV_ A) (tu_H A o (pu_g (aS_ A) (aV_ A) r) (aV_ A)) + 1 < aV_ A then 1 else 0
def mi_e (A : mA_) (o : Nat → Nat) (r : Nat) : Nat := tu_H A o (pu_g (aS_ A) (aV_ A) r) (aV_ A) % 3
def mi_h (A : mA_) (o : Nat → Nat) (R : Nat) : Nat := pu_s (fun r => mi_g A o r * pu_s (mt_pa A (pu_g (aS_ A) (aV_ A) r)) (aT_ A)) R
def mi_a (A : mA_) (o : Nat → Nat) (R : Nat) : Nat := pu_s (fun r => mi_g A o r * pu_s (fun t => if t = mi_e A o r then 0 else mt_pa A (pu_g (aS_ A) (aV_ A) r) t) (aT_ A)) R
def mi_r (A : mA_) (o : Nat → Nat) (R : Nat) : Nat := pu_s (fun r => pu_s (fun t => if t = mi_e A o r then mt_pa A (pu_g (aS_ A) (aV_ A) r) t else 0) (aT_ A)) R
def mi_o (l l2 : Nat → Nat → Int64) : Prop := ∀ k j, ¬ (k = 205 ∧ 53 ≤ j ∧ j ≤ 55) → l2 k j = l k j
theorem mi_t {l2 l3 : Nat → Nat → Int64} (h1 : mi_o l l2) (h2 : mi_o l2 l3) : mi_o l l3 := fun k j h => (h2 k j h).trans (h1 k j h)
theorem mi_u {l2 : Nat → Nat → Int64} {j : Nat} {v : Int64} (h1 : mi_o l l2) (h : 53 ≤ j ∧ j ≤ 55) : mi_o l (ab_u l2 205 j v) := fun k q hk => by
  rw [show ab_u l2 205 j v k q = l2 k q from if_neg (fun z => hk ⟨z.1, by omega⟩)]
  exact h1 k q hk
theorem mi_M {A : mA_} {i2 : Nat → Nat → Int32} {l2 : Nat → Nat → Int64} (hW : mt_W A) (hM : mt_M A i l) (f : fr_o 234 234 i i2) (h : mi_o l l2) : mt_M A i2 l2 :=
  mt_M_fr hM (fun j _ _ => by rw [f 205 (by omega)]) (fun k _ _ => f k (by omega)) (fun j _ => by rw [f 225 (by omega)]) (funext fun j => h 224 j (by omega)) hW
def mi_L (P : Nat → Nat) (e g x3 x4 x5 k : Nat) (l2 : Nat → Nat → Int64) : Prop := l2 205 53 = Int64.ofNat (x3 + g * pu_s P k) ∧ l2 205 54 = Int64.ofNat (x4 + g * pu_s (fun t => if t = e then 0 else P t) k) ∧ l2 205 55 = Int64.ofNat (x5 + pu_s (fun t => if t = e then P t else 0) k)
theorem mi_289 {A : mA_} {r e g x3 x4 k : Nat} {a1 : Int32} (hr : r < mt_rad (aS_ A) (aV_ A)) (hR : mt_rad (aS_ A) (aV_ A) ≤ 2187) (hk : k < aT_ A) (w1 : aT_ A ≤ 3) (he : e < 3) (hg : g < 2) (hM : mt_M A i l) (h3 : l 205 53 = Int64.ofNat (x3 + g * pu_s (mt_pa A (pu_g (aS_ A) (aV_ A) r)) k)) (h4 : l 205 54 = Int64.ofNat (x4 + g * pu_s (fun t => if t = e then 0 else mt_pa A (pu_g (aS_ A) (aV_ A) r) t) k)) {Q : ab_Qt} (hQ : ∀ l2, mi_o l l2 → l2 205 55 = l 205 55 → l2 205 53 = Int64.ofNat (x3 + g * pu_s (mt_pa A (pu_g (aS_ A) (aV_ A) r)) (k + 1)) → l2 205 54 = Int64.ofNat (x4 + g * pu_s (fun t => if t = e then 0 else mt_pa A (pu_g (aS_ A) (aV_ A) r) t) (k + 1)) → ab_Fr MX12_inTurns (d + 1) Q 253 [some (.ref 205), some (.int a1), none, some (.int (Int32.ofNat r)), some (.int (Int32.ofNat e)), none, some (.int (Int32.ofNat g)), some (.int (Int32.ofNat (k + 1)))] [] (0, 0) (i, l2, dd, x) (ab_E0 sc)) :
    ab_Fr MX12_inTurns (d + 1) Q 289 [some (.ref 205), some (.int a1), none, some (.int (Int32.ofNat r)), some (.int (Int32.ofNat e)), none, some (.int (Int32.ofNat g)), some (.int (Int32.ofNat k))] [] (0, 0) (i, l, dd, x) (ab_E0 sc) := by
  have es : pu_s (mt_pa A (pu_g (aS_ A) (aV_ A) r)) (k + 1) = pu_s (mt_pa A (pu_g (aS_ A) (aV_ A) r)) k + mt_pa A (pu_g (aS_ A) (aV_ A) r) k := rfl
  have ea : pu_s (fun t => if t = e then 0 else mt_pa A (pu_g (aS_ A) (aV_ A) r) t) (k + 1) = pu_s (fun t => if t = e then 0 else mt_pa A (pu_g (aS_ A) (aV_ A) r) t) k + (if k = e then 0 else mt_pa A (pu_g (aS_ A) (aV_ A) r) k) := rfl
  refine tMX12_inTurns_289 (d := d) ⟨fun c => ?_, fun c => ?_⟩
  · rw [nn_p0, nn_eq (by omega) (by omega)] at c
    rw [show g = 1 by omega] at hQ h3 h4 ⊢
    rw [Nat.one_mul] at h3 h4
    rw [nn_p3, nn_mul, nn_add, nn_cl (by omega), hM.2.2.2.2.2.2.2 r k hr hk]
    refine ⟨la_vp (by omega) (by omega), ?_⟩
    rintro l4 rfl
    rw [nn_eq (by omega) (by omega), la_nx]
    refine ⟨fun ce => hQ _ (mi_u (fun _ _ _ => rfl) (by omega)) (by rw [uu_j (by omega)]) ?_ ?_, fun ce => ⟨la_vp (by omega) (by omega), ?_⟩⟩
    · rw [uu_e, h3, nl_add, Nat.one_mul, es, Nat.add_assoc]
    · rw [uu_j (by omega), h4, Nat.one_mul, ea, if_pos ce, Nat.add_zero]
    · rintro l5 rfl
      refine hQ _ (mi_u (mi_u (fun _ _ _ => rfl) (by omega)) (by omega)) (by rw [uu_j (by omega), uu_j (by omega)]) ?_ ?_
      · rw [uu_j (by omega), uu_e, h3, nl_add, Nat.one_mul, es, Nat.add_assoc]
      · rw [uu_e, uu_j (by omega), uu_k (by omega), h4, hM.2.2.2.2.2.2.2 r k hr hk, nl_add, Nat.one_mul, ea, if_neg ce, Nat.add_assoc]
  · rw [nn_p0, nn_eq (by omega) (by omega)] at c
    rw [c] at hQ h3 h4 ⊢
    rw [Nat.zero_mul] at h3 h4
    rw [la_nx]
    exact hQ l (fun _ _ _ => rfl) rfl (by rw [h3, Nat.zero_mul]) (by rw [h4, Nat.zero_mul])
theorem mi_253 {A : mA_} {r e g x3 x4 x5 : Nat} {a1 : Int32} (hW : mt_W A) (hr : r < mt_rad (aS_ A) (aV_ A)) (hg : g < 2) (he : e < 3) {l0 : Nat → Nat → Int64} (hM : mt_M A i l0) {Q : ab_Qt} (hQ : ∀ l2, mi_o l0 l2 → mi_L (mt_pa A (pu_g (aS_ A) (aV_ A) r)) e g x3 x4 x5 (aT_ A) l2 → ab_Fr MX12_inTurns (d + 1) Q 207 [some (.ref 205), some (.int a1), none, some (.int (Int32.ofNat (r + 1))), none, none, none, none] [] (0, 0) (i, l2, dd, x) (ab_E0 sc)) :
    ∀ (n k : Nat) (l2 : Nat → Nat → Int64), aT_ A = k + n → mi_o l0 l2 → mi_L (mt_pa A (pu_g (aS_ A) (aV_ A) r)) e g x3 x4 x5 k l2 → ab_Fr MX12_inTurns (d + 1) Q 253 [some (.ref 205), some (.int a1), none, some (.int (Int32.ofNat r)), some (.int (Int32.ofNat e)), none, some (.int (Int32.ofNat g)), some (.int (Int32.ofNat k))] [] (0, 0) (i, l2, dd, x) (ab_E0 sc) := by
  intro n
  have w1 := hW.1
  have hR := (mt_rows hW).1
  induction n with
  | zero =>
    intro k l2 hk g2 z2
    refine tMX12_inTurns_253 (d := d) ⟨fun _ => ?_, fun c => ?_⟩
    · rw [la_nx]
      rw [show k = aT_ A by omega] at z2
      exact hQ l2 g2 z2
    · rw [hM.1.1, nn_le (by omega) (by omega)] at c
      omega
  | succ n ih =>
    intro k l2 hk g2 z2
    have hM2 := mi_M hW hM fr_r g2
    obtain ⟨z3, z4, z5⟩ := z2
    have e5 : pu_s (fun t => if t = e then mt_pa A (pu_g (aS_ A) (aV_ A) r) t else 0) (k + 1) = pu_s (fun t => if t = e then mt_pa A (pu_g (aS_ A) (aV_ A) r) t else 0) k + (if k = e then mt_pa A (pu_g (aS_ A) (aV_ A) r) k else 0) := rfl
    refine tMX12_inTurns_253 (d := d) ⟨fun c => ?_, fun _ => ?_⟩
    · rw [hM.1.1, nn_le (by omega) (by omega)] at c
      omega
    · rw [nn_eq (by omega) (by omega), nn_p3, nn_mul, nn_add, nn_cl (by omega), hM2.2.2.2.2.2.2.2 r k hr (by omega)]
      refine ⟨fun ce => ?_, fun ce => ⟨la_vp (by omega) (by omega), ?_⟩⟩
      · refine mi_289 (d := d) hr hR (by omega) w1 he hg hM2 z3 z4 (fun l3 g3 k5 k3 k4 => ih (k + 1) l3 (by omega) (mi_t g2 g3) ⟨k3, k4, ?_⟩)
        rw [k5, z5, e5, if_neg ce, Nat.add_zero]
      · rintro l3 rfl
        refine mi_289 (d := d) hr hR (by omega) w1 he hg (mi_M hW hM fr_r (mi_u g2 (by omega))) (by rw [uu_j (by omega)]; exact z3) (by rw [uu_j (by omega)]; exact z4) (fun l3 g3 k5 k3 k4 => ih (k + 1) l3 (by omega) (mi_t (mi_u g2 (by omega)) g3) ⟨k3, k4, ?_⟩)
        rw [k5, uu_e, z5, e5, if_pos ce, nl_add, Nat.add_assoc]
def mi_E (A : mA_) (o : Nat → Nat) (R : Nat) (l2 : Nat → Nat → Int64) : Prop := l2 205 53 = Int64.ofNat (mi_h A o R) ∧ l2 205 54 = Int64.ofNat (mi_a A o R) ∧ l2 205 55 = Int64.ofNat (mi_r A o R)
theorem mi_207 {A : mA_} {o : Nat → Nat} (hW : mt_W A) (hp : 0 < aV_ A) (hO : tu_O A o) {i0 : Nat → Nat → Int32} {l0 : Nat → Nat → Int64} (hM : mt_M A i0 l0) (ho : ∀ k, k < aV_ A → i0 232 k = Int32.ofNat (o k)) (h50 : i0 205 50 = Int32.ofNat (aV_ A)) (hA : mu_A A o (aV_ A) i0) {Q : ab_Qt} (hQ : ∀ i2 l2, fr_o 234 234 i0 i2 → mi_o l0 l2 → mi_E A o (mt_rad (aS_ A) (aV_ A)) l2 → Q (some (some (.long (Int64.ofNat (pu_n (aS_ A) (aV_ A) (fun b => cs_l A 7 b (tu_H A o b (aV_ A) % 3) (aT_ A))))))) (i2, l2, dd, x) (ab_E0 sc)) :
    ∀ (n r : Nat) (i2 : Nat → Nat → Int32) (l2 : Nat → Nat → Int64), mt_rad (aS_ A) (aV_ A) = r + n → fr_o 234 234 i0 i2 → mi_o l0 l2 → mi_E A o r l2 → ab_Fr MX12_inTurns (d + 4) Q 207 [some (.ref 205), some (.int (Int32.ofNat (aV_ A))), none, some (.int (Int32.ofNat r)), none, none, none, none] [] (0, 0) (i2, l2, dd, x) (ab_E0 sc) := by
  intro n
  have w1 := hW.1
  have w2 := hW.2.1
  have hR := (mt_rows hW).1
  induction n with
  | zero =>
    intro r i2 l2 hr f2 g2 z2
    have hM2 := mi_M hW hM f2 g2
    refine tMX12_inTurns_207 (d := d + 3) ⟨fun _ => ⟨_, _, md_lostT (d := d) hW hp hO hM2 (fun k hk => by rw [f2 232 (by omega)]; exact ho k hk) (by rw [f2 205 (by omega)]; exact h50) (fun j hj h s hh hs => by rw [f2 235 (by omega)]; exact hA j hj h s hh hs), ?_⟩, fun c => ?_⟩
    · rintro i6 l7 dd8 x9 ⟨i3, ⟨⟩, f3⟩
      rw [show r = mt_rad (aS_ A) (aV_ A) by omega] at z2
      exact hQ _ _ (fr_t f2 f3) g2 z2
    · rw [hM2.1.2.2 (by omega), nn_le (by omega) (by omega)] at c
      omega
  | succ n ih =>
    intro r i2 l2 hr f2 g2 z2
    have hM2 := mi_M hW hM f2 g2
    obtain ⟨z3, z4, z5⟩ := z2
    refine tMX12_inTurns_207 (d := d + 3) ⟨fun c => ?_, fun _ => ⟨_, _, md_speakRow (d := d + 1) (r := r) hW hp hO hM2 (fun k hk => by rw [f2 232 (by omega)]; exact ho k hk) (by rw [f2 205 (by omega)]; exact h50) (fun j hj h s hh hs => by rw [f2 235 (by omega)]; exact hA j hj h s hh hs) (by omega), ?_⟩⟩
    · rw [hM2.1.2.2 (by omega), nn_le (by omega) (by omega)] at c
      omega
    · rintro i6 l7 dd8 x9 ⟨i3, ⟨⟩, f3, k3⟩
      refine ⟨_, _, md_cliff (d := d + 2) (A := A) (o := o) (b := pu_g (aS_ A) (aV_ A) r) (V := aV_ A) rfl rfl hW hp k3, ?_⟩
      rintro i6 l7 dd8 x9 ⟨⟩
      have hz := tu_zl (A := A) (o := o) (aV_ A) (tu_H A o (pu_g (aS_ A) (aV_ A) r) (aV_ A))
      have hM3 := mi_M hW hM2 f3 (l2 := l2) (fun _ _ _ => rfl)
      have hn : ∀ g, g = mi_g A o r → ab_Fr MX12_inTurns (d + 4) Q 253 [some (.ref 205), some (.int (Int32.ofNat (aV_ A))), none, some (.int (Int32.ofNat r)), some (.int (Int32.ofNat (tu_H A o (pu_g (aS_ A) (aV_ A) r) (aV_ A) % 3))), none, some (.int (Int32.ofNat g)), some (.int 0)] [] (0, 0) (i6, l2, dd, x) (ab_E0 sc) := fun g hg => by
        have hg2 : g < 2 := by
          rw [hg]
          unfold mi_g
          split <;> omega
        refine mi_253 (d := d + 3) (A := A) (r := r) (e := tu_H A o (pu_g (aS_ A) (aV_ A) r) (aV_ A) % 3) (g := g) (x3 := mi_h A o r) (x4 := mi_a A o r) (x5 := mi_r A o r) hW (by omega) hg2 (by omega) hM3 (fun l4 g4 z4 => ih (r + 1) i6 l4 (by omega) (fr_t f2 f3) (mi_t g2 g4) ?_) (aT_ A) 0 l2 (Nat.zero_add _).symm (fun _ _ _ => rfl) ⟨z3, z4, z5⟩
        rw [hg] at z4
        exact z4
      by_cases c : tu_z A o (aV_ A) (tu_H A o (pu_g (aS_ A) (aV_ A) r) (aV_ A)) = aV_ A
      · rw [show tu_C A o (aV_ A) (tu_H A o (pu_g (aS_ A) (aV_ A) r) (aV_ A)) = -1 from if_pos c]
        exact ⟨fun _ => tMX12_inTurns_247 (d := d + 3) (tMX12_inTurns_248 (d := d + 3) (hn 0 (if_neg (by omega)).symm)), fun z => absurd rfl z⟩
      · rw [show tu_C A o (aV_ A) (tu_H A o (pu_g (aS_ A) (aV_ A) r) (aV_ A)) = Int32.ofNat (tu_z A o (aV_ A) (tu_H A o (pu_g (aS_ A) (aV_ A) r) (aV_ A))) from if_neg c]
        refine ⟨fun z => absurd z (by rw [nn_em (by omega)]; exact id), fun _ => ?_⟩
        rw [show Int32.ofNat (aV_ A) - 1 = Int32.ofNat (aV_ A - 1) from nn_sub (b := 1) (by omega), nn_le (by omega) (by omega)]
        exact ⟨fun q => tMX12_inTurns_247 (d := d + 3) (tMX12_inTurns_248 (d := d + 3) (hn 0 (if_neg (by omega)).symm)), fun q => tMX12_inTurns_248 (d := d + 3) (hn 1 (if_pos (by omega)).symm)⟩
theorem mi_167 {n0 : Nat} {i0 : Nat → Nat → Int32} (hV : n0 ≤ 7) {Q : ab_Qt} (hQ : ∀ i2, fr_o 240 240 i0 i2 → (∀ v, v < n0 → i2 240 v = i0 212 v) → ∀ l6, l6 = ab_u (ab_u (ab_u l 205 53 0) 205 54 0) 205 55 0 → ab_Fr MX12_inTurns (d + 1) Q 207 [some (.ref 205), some (.int (Int32.ofNat n0)), none, some (.int 0), none, none, none, none] [] (0, 0) (i2, l6, dd, x) (ab_E0 sc)) :
    ∀ (n k : Nat) (i2 : Nat → Nat → Int32), n0 = k + n → fr_o 240 240 i0 i2 → (∀ v, v < k → i2 240 v = i0 212 v) → ab_Fr MX12_inTurns (d + 1) Q 167 [some (.ref 205), some (.int (Int32.ofNat n0)), none, some (.int (Int32.ofNat k)), none, none, none, none] [] (0, 0) (i2, l, dd, x) (ab_E0 sc) := by
  intro n
  induction n with
  | zero =>
    intro k i2 hk f2 z2
    refine tMX12_inTurns_167 (d := d) ⟨fun _ => ?_, fun c => ?_⟩
    · rintro l2 rfl l4 rfl l6 rfl
      exact hQ i2 f2 (fun v hv => z2 v (by omega)) _ rfl
    · rw [nn_le (by omega) (by omega)] at c
      omega
  | succ n ih =>
    intro k i2 hk f2 z2
    refine tMX12_inTurns_167 (d := d) ⟨fun c => ?_, fun _ => ⟨la_vp (by omega) (by omega), la_vp (by omega) (by omega), ?_⟩⟩
    · rw [nn_le (by omega) (by omega)] at c
      omega
    · rintro i8 rfl
      rw [nn_cl (by omega), la_nx]
      refine ih (k + 1) _ (by omega) (fr_u f2 (by omega)) (fun v hv => ?_)
      by_cases e : v = k
      · rw [e, uu_e, f2 212 (by omega)]
      · rw [uu_j e]
        exact z2 v (by omega)
theorem mi_141 {a1 : Int32} {i0 : Nat → Nat → Int32} {Q : ab_Qt} (hQ : ∀ i2, fr_o 239 239 i0 i2 → (∀ j, j < 45927 → i2 239 j = i0 235 j) → ab_Fr MX12_inTurns (d + 1) Q 167 [some (.ref 205), some (.int a1), none, some (.int 0), none, none, none, none] [] (0, 0) (i2, l, dd, x) (ab_E0 sc)) :
    ∀ (n k : Nat) (i2 : Nat → Nat → Int32), 45927 = k + n → fr_o 239 239 i0 i2 → (∀ j, j < k → i2 239 j = i0 235 j) → ab_Fr MX12_inTurns (d + 1) Q 141 [some (.ref 205), some (.int a1), none, some (.int (Int32.ofNat k)), none, none, none, none] [] (0, 0) (i2, l, dd, x) (ab_E0 sc) := by
  intro n
  have e9 : (45927 : Int32) = Int32.ofNat 45927 := rfl
  induction n with
  | zero =>
    intro k i2 hk f2 z2
    refine tMX12_inTurns_141 (d := d) ⟨fun _ => ?_, fun c => ?_⟩
    · exact hQ i2 f2 (fun v hv => z2 v (by omega))
    · rw [e9, nn_le (by omega) (by omega)] at c
      omega
  | succ n ih =>
    intro k i2 hk f2 z2
    refine tMX12_inTurns_141 (d := d) ⟨fun c => ?_, fun _ => ⟨la_vp (by omega) (by omega), la_vp (by omega) (by omega), ?_⟩⟩
    · rw [e9, nn_le (by omega) (by omega)] at c
      omega
    · rintro i8 rfl
      rw [nn_cl (by omega), la_nx]
      refine ih (k + 1) _ (by omega) (fr_u f2 (by omega)) (fun v hv => ?_)
      by_cases e : v = k
      · rw [e, uu_e, f2 235 (by omega)]
      · rw [uu_j e]
        exact z2 v (by omega)
/-- ints that inTurns leaves alone -/
def mi_f (i i2 : Nat → Nat → Int32) : Prop := ∀ k j, (k < 232 ∨ 240 < k) → ¬ (k = 205 ∧ (j = 50 ∨ j = 52)) → i2 k j = i k j
theorem mi_90 {n0 : Nat} {b : Nat → Nat} {i0 : Nat → Nat → Int32} (hV : n0 ≤ 7) (hb : ∀ v, v < n0 → i0 206 v = Int32.ofNat (b v)) {Q : ab_Qt} (hQ : ∀ i2, (∀ k, k ≠ 232 → k ≠ 238 → i2 k = i0 k) → (∀ v, v < n0 → i2 232 v = Int32.ofNat (b v) ∧ i2 238 v = Int32.ofNat (b v)) → ∀ i4, i4 = ab_u (ab_u i2 205 52 (Int32.ofNat n0)) 205 50 (Int32.ofNat n0) → ∃ (P7 : ab_S → Prop), ab_Sp MX12_speak d [.ref 205] (i4, l, dd, x) (ab_E0 sc) none P7 ∧ ∀ i10 l11 dd12 x13, P7 (i10, l11, dd12, x13) → ab_Fr MX12_inTurns (d + 1) Q 141 [some (.ref 205), some (.int (Int32.ofNat n0)), none, some (.int 0), none, none, none, none] [] (0, 0) (i10, l11, dd12, x13) (ab_E0 sc)) :
    ∀ (n k : Nat) (i2 : Nat → Nat → Int32), n0 = k + n → (∀ q, q ≠ 232 → q ≠ 238 → i2 q = i0 q) → (∀ v, v < k → i2 232 v = Int32.ofNat (b v) ∧ i2 238 v = Int32.ofNat (b v)) → ab_Fr MX12_inTurns (d + 1) Q 90 [some (.ref 205), some (.int (Int32.ofNat n0)), none, some (.int (Int32.ofNat k)), none, none, none, none] [] (0, 0) (i2, l, dd, x) (ab_E0 sc) := by
  intro n
  induction n with
  | zero =>
    intro k i2 hk f2 z2
    refine tMX12_inTurns_90 (d := d) ⟨fun _ => ?_, fun c => ?_⟩
    · rintro i3 rfl i4 rfl
      exact hQ i2 f2 (fun v hv => z2 v (by omega)) _ rfl
    · rw [nn_le (by omega) (by omega)] at c
      omega
  | succ n ih =>
    intro k i2 hk f2 z2
    refine tMX12_inTurns_90 (d := d) ⟨fun c => ?_, fun _ => ⟨la_vp (by omega) (by omega), la_vp (by omega) (by omega), ?_⟩⟩
    · rw [nn_le (by omega) (by omega)] at c
      omega
    · rintro i8 rfl
      refine ⟨la_vp (by omega) (by omega), la_vp (by omega) (by omega), ?_⟩
      rintro i9 rfl
      rw [nn_cl (by omega), la_nx]
      refine ih (k + 1) _ (by omega) (fun q h1 h2 => by rw [uu_f h1, uu_f h2, f2 q h1 h2]) (fun v hv => ?_)
      have e6 : ∀ j, i2 206 j = i0 206 j := fun j => by rw [f2 206 (by omega) (by omega)]
      by_cases e : v = k
      · rw [e, uu_e, uu_k (by omega), uu_k (by omega), uu_e, e6, hb k (by omega)]
        exact ⟨rfl, rfl⟩
      · rw [uu_j e, uu_k (by omega), uu_k (by omega), uu_j e]
        exact z2 v (by omega)
end TQH4
