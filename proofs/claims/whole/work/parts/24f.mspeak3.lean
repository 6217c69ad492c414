/-! IN TURNS: the model speaks, whole; a row; cliffs; what is lost -/
section TQF4
variable {d : Nat} {sc : Nat × (Nat → Int32)} {i : Nat → Nat → Int32} {l : Nat → Nat → Int64} {dd : Nat → Nat → Value} {x : Nat}
theorem mu_235 {A : mA_} {o : Nat → Nat} {k : Nat} {a1 : Int32} (hW : mt_W A) (hp : 0 < aV_ A) (hO : tu_O A o) (hk : k < aV_ A) (ha1 : a1 = Int32.ofNat (3 ^ k)) {i0 : Nat → Nat → Int32} (hM : mt_M A i0 l) (h236 : ∀ u e, u < 3 * 3 ^ k → e < aT_ A → l 236 (3 * u + e) = Int64.ofNat (mu_S A o k u e (mt_rad (aS_ A) (aV_ A)))) (h237 : ∀ u, u < 3 * 3 ^ k → i0 237 u = if 0 < mu_P A o k u (mt_rad (aS_ A) (aV_ A)) then 1 else 0) {Q : ab_Qt} (hQ : ∀ i2, fr_o 235 235 i0 i2 → (∀ j, j < 6561 * k → i2 235 j = i0 235 j) → mu_Y A o k (3 ^ k) i2 → ab_Fr MX12_speak (d + 2) Q 439 [some (.ref 205), some (.int a1), some (.int (Int32.ofNat k)), some (.int (Int32.ofNat (o k))), some (.int 0), none, none, none, none, none] [] (0, 0) (i2, l, dd, x) (ab_E0 sc)) :
    ∀ (n h : Nat) (i2 : Nat → Nat → Int32), 3 ^ k = h + n → fr_o 235 235 i0 i2 → (∀ j, j < 6561 * k → i2 235 j = i0 235 j) → mu_Y A o k h i2 → ab_Fr MX12_speak (d + 2) Q 235 [some (.ref 205), some (.int a1), some (.int (Int32.ofNat k)), some (.int (Int32.ofNat (o k))), some (.int (Int32.ofNat h)), none, none, none, none, none] [] (0, 0) (i2, l, dd, x) (ab_E0 sc) := by
  subst ha1
  intro n
  have h3 := p3_6 hk hW.2.1
  induction n with
  | zero =>
    intro h i2 hh f2 k2 y2
    refine tMX12_speak_235 (d := d + 1) ⟨fun _ => ?_, fun c => ?_⟩
    · rw [show h = 3 ^ k by omega] at y2
      exact hQ i2 f2 k2 y2
    · rw [nn_le (by omega) (by omega)] at c
      omega
  | succ n ih =>
    intro h i2 hh f2 k2 y2
    refine tMX12_speak_235 (d := d + 1) ⟨fun c => ?_, fun _ => ?_⟩
    · rw [nn_le (by omega) (by omega)] at c
      omega
    · refine mu_250 (d := d) (h := h) (i0 := i2) hW hp hO hk (by omega) (mt_M_f hM f2 (by omega) hW) h236 (fun u hu => by rw [f2 237 (by omega)]; exact h237 u hu) (fun i3 f3 k3 z3 => ih (h + 1) i3 (by omega) (fr_t f2 f3) (fun j hj => (k3 j (by omega)).trans (k2 j hj)) (fun h2 s hh2 hs => ?_)) _ 0 i2 (Nat.zero_add _).symm fr_r (fun _ _ => rfl) (fun u hu => absurd hu (Nat.not_lt_zero u))
      have w7 := (hW.2.2.2.2.2.2.1 (o k) (hO.1 k hk)).2
      by_cases e : h2 = h
      · rw [e]
        exact z3 s hs
      · rw [k3 _ (by omega)]
        exact y2 h2 s (by omega) hs
/-- the history up to turn k of all rows -/
def mu_H (A : mA_) (o : Nat → Nat) (k : Nat) (i : Nat → Nat → Int32) : Prop := ∀ r, r < mt_rad (aS_ A) (aV_ A) → i 233 r = Int32.ofNat (tu_H A o (pu_g (aS_ A) (aV_ A) r) k)
theorem mu_439 {A : mA_} {o : Nat → Nat} {k : Nat} {a1 : Int32} (hW : mt_W A) (hp : 0 < aV_ A) (hO : tu_O A o) (hk : k < aV_ A) {i0 : Nat → Nat → Int32} (hM : mt_M A i0 l) (hH : mu_H A o k i0) (hY : mu_Y A o k (3 ^ k) i0) {Q : ab_Qt} (hQ : ∀ i2, fr_o 233 233 i0 i2 → mu_H A o (k + 1) i2 → ab_Fr MX12_speak (d + 2) Q 27 [some (.ref 205), some (.int (a1 * 3)), some (.int (Int32.ofNat (k + 1))), none, none, none, none, none, none, none] [] (0, 0) (i2, l, dd, x) (ab_E0 sc)) :
    ∀ (n r : Nat) (i2 : Nat → Nat → Int32), mt_rad (aS_ A) (aV_ A) = r + n → fr_o 233 233 i0 i2 → (∀ q, q < mt_rad (aS_ A) (aV_ A) → i2 233 q = Int32.ofNat (tu_H A o (pu_g (aS_ A) (aV_ A) q) (if q < r then k + 1 else k))) → ab_Fr MX12_speak (d + 2) Q 439 [some (.ref 205), some (.int a1), some (.int (Int32.ofNat k)), some (.int (Int32.ofNat (o k))), some (.int (Int32.ofNat r)), none, none, none, none, none] [] (0, 0) (i2, l, dd, x) (ab_E0 sc) := by
  intro n
  have h3 := p3_6 hk hW.2.1
  have hR := (mt_rows hW).1
  have w2 := hW.2.1
  have ho := hO.1 k hk
  have w7 := hW.2.2.2.2.2.2.1 (o k) ho
  induction n with
  | zero =>
    intro r i2 hr f2 z2
    have hM2 : mt_M A i2 l := mt_M_f hM f2 (by omega) hW
    refine tMX12_speak_439 (d := d + 1) ⟨fun _ => ?_, fun c => ?_⟩
    · rw [la_nx]
      refine hQ i2 f2 (fun q hq => ?_)
      rw [z2 q hq, if_pos (by omega)]
    · rw [hM2.1.2.2 (by omega), nn_le (by omega) (by omega)] at c
      omega
  | succ n ih =>
    intro r i2 hr f2 z2
    have hM2 : mt_M A i2 l := mt_M_f hM f2 (by omega) hW
    have er := z2 r (by omega)
    rw [if_neg (Nat.lt_irrefl r)] at er
    have hHl := tu_Hl (A := A) (o := o) (b := pu_g (aS_ A) (aV_ A) r) hW hp k
    have hsg := pg_lt (r := r) hW ho
    have eY := hY _ _ hHl hsg
    refine tMX12_speak_439 (d := d + 1) ⟨fun c => ?_, fun _ => ⟨la_vp (by omega) (by omega), la_vp (by omega) (by omega), _, _, mt_sg (d := d) hW hM2 ho (by omega), ?_⟩⟩
    · rw [hM2.1.2.2 (by omega), nn_le (by omega) (by omega)] at c
      omega
    · rintro i6 l7 dd8 x9 ⟨⟩
      rw [nn_cl (by omega), er, show (6561 : Int32) = Int32.ofNat 6561 from rfl, nn_p3, nn_mul, nn_mul, nn_add, nn_add, nn_cl (by omega), f2 235 (by omega), show 6561 * k + 3 * tu_H A o (pu_g (aS_ A) (aV_ A) r) k + pu_g (aS_ A) (aV_ A) r (o k) = 6561 * k + (3 * tu_H A o (pu_g (aS_ A) (aV_ A) r) k + pu_g (aS_ A) (aV_ A) r (o k)) by omega, eY, tu_y7 hW hp, nn_add, la_nx]
      refine ⟨la_vp (by omega) (by omega), la_vp (by omega) (by omega), ?_⟩
      rintro i11 rfl
      refine ih (r + 1) _ (by omega) (fr_u f2 (by omega)) (fun q hq => ?_)
      by_cases e : q = r
      · rw [e, uu_e, if_pos (by omega)]
        rfl
      · rw [uu_j e, z2 q hq]
        by_cases c : q < r
        · rw [if_pos c, if_pos (by omega)]
        · rw [if_neg c, if_neg (by omega)]
/-- all that is said in the turns before k -/
def mu_A (A : mA_) (o : Nat → Nat) (k : Nat) (i : Nat → Nat → Int32) : Prop := ∀ j, j < k → mu_Y A o j (3 ^ j) i
theorem mu_27 {A : mA_} {o : Nat → Nat} (hW : mt_W A) (hp : 0 < aV_ A) (hO : tu_O A o) {i0 : Nat → Nat → Int32} {l0 : Nat → Nat → Int64} (hM : mt_M A i0 l0) (ho : ∀ k, k < aV_ A → i0 232 k = Int32.ofNat (o k)) {Q : ab_Qt} (hQ : ∀ i2 l2, mu_o i0 i2 l0 l2 → mu_A A o (aV_ A) i2 → Q (some none) (i2, l2, dd, x) (ab_E0 sc)) :
    ∀ (n k : Nat) (i2 : Nat → Nat → Int32) (l2 : Nat → Nat → Int64), aV_ A = k + n → mu_o i0 i2 l0 l2 → mu_H A o k i2 → mu_A A o k i2 → ab_Fr MX12_speak (d + 2) Q 27 [some (.ref 205), some (.int (Int32.ofNat (3 ^ k))), some (.int (Int32.ofNat k)), none, none, none, none, none, none, none] [] (0, 0) (i2, l2, dd, x) (ab_E0 sc) := by
  intro n
  have w2 := hW.2.1
  induction n with
  | zero =>
    intro k i2 l2 hk o2 H2 A2
    have hM2 := mu_M hW hM o2
    refine tMX12_speak_27 (d := d + 1) ⟨fun _ => ?_, fun c => ?_⟩
    · rw [show k = aV_ A by omega] at A2
      exact hQ i2 l2 o2 A2
    · rw [hM2.1.2.1, nn_le (by omega) (by omega)] at c
      omega
  | succ n ih =>
    intro k i2 l2 hk o2 H2 A2
    have hM2 := mu_M hW hM o2
    have h3 := p3_6 (show k < aV_ A by omega) w2
    have hok := hO.1 k (by omega)
    have hpow : 3 ^ (k + 1) = 3 ^ k * 3 := Nat.pow_succ 3 k
    refine tMX12_speak_27 (d := d + 1) ⟨fun c => ?_, fun _ => ⟨la_vp (by omega) (by omega), ?_⟩⟩
    · rw [hM2.1.2.1, nn_le (by omega) (by omega)] at c
      omega
    · rw [nn_cl (by omega), o2.1 232 (by omega), ho k (by omega)]
      have go45 : ∀ (r z : Nat) (l3 : Nat → Nat → Int64), 9 * 3 ^ k = z + r → fr_o 236 236 l2 l3 → (∀ j, j < z → l3 236 j = 0) → ab_Fr MX12_speak (d + 2) Q 45 [some (.ref 205), some (.int (Int32.ofNat (3 ^ k))), some (.int (Int32.ofNat k)), some (.int (Int32.ofNat (o k))), some (.int (Int32.ofNat z)), none, none, none, none, none] [] (0, 0) (i2, l3, dd, x) (ab_E0 sc) := by
        intro r
        induction r with
        | zero =>
          intro z l3 hz g3 z3
          refine tMX12_speak_45 (d := d + 1) ⟨fun _ => ?_, fun c => ?_⟩
          · have go71 : ∀ (r z : Nat) (i3 : Nat → Nat → Int32), 3 * 3 ^ k = z + r → fr_o 237 237 i2 i3 → (∀ j, j < z → i3 237 j = 0) → ab_Fr MX12_speak (d + 2) Q 71 [some (.ref 205), some (.int (Int32.ofNat (3 ^ k))), some (.int (Int32.ofNat k)), some (.int (Int32.ofNat (o k))), some (.int (Int32.ofNat z)), none, none, none, none, none] [] (0, 0) (i3, l3, dd, x) (ab_E0 sc) := by
              intro r
              induction r with
              | zero =>
                intro z i3 hz2 f3 y3
                refine tMX12_speak_71 (d := d + 1) ⟨fun _ => ?_, fun c => ?_⟩
                · have o3 : mu_o i0 i3 l0 l3 := mu_t o2 ⟨fr_w f3 (by omega), g3⟩
                  refine mu_96 (d := d) (k := k) (i0 := i3) (l0 := l3) hW hp hO (by omega) (mu_M hW hM o3) (fun r hr => by rw [f3 233 (by omega)]; exact H2 r hr) (fun i4 l4 f4 g4 z4 y4 => ?_) _ 0 i3 l3 (Nat.zero_add _).symm fr_r fr_r (fun u e hu he => by rw [z3 _ (by have := hW.1; omega)]; rfl) (fun u hu => by rw [y3 u (by omega)]; rfl)
                  have o4 : mu_o i0 i4 l0 l4 := mu_t o3 ⟨fr_w f4 (by omega), g4⟩
                  refine mu_235 (d := d) (k := k) (i0 := i4) hW hp hO (by omega) rfl (mu_M hW hM o4) z4 y4 (fun i5 f5 k5 y5 => ?_) _ 0 i4 (Nat.zero_add _).symm fr_r (fun _ _ => rfl) (fun h s hh _ => absurd hh (Nat.not_lt_zero h))
                  have o5 : mu_o i0 i5 l0 l4 := mu_t o4 ⟨fr_w f5 (by omega), fr_r⟩
                  have e233 : i5 233 = i2 233 := by rw [f5 233 (by omega), f4 233 (by omega), f3 233 (by omega)]
                  have H5 : mu_H A o k i5 := fun r hr => by rw [e233]; exact H2 r hr
                  refine mu_439 (d := d) (k := k) (i0 := i5) hW hp hO (by omega) (mu_M hW hM o5) H5 y5 (fun i6 f6 H6 => ?_) _ 0 i5 (Nat.zero_add _).symm fr_r (fun q hq => by rw [if_neg (Nat.not_lt_zero q)]; exact H5 q hq)
                  rw [nn_m3, nn_mul, show 3 * 3 ^ k = 3 ^ (k + 1) by omega]
                  refine ih (k + 1) i6 l4 (by omega) (mu_t o5 ⟨fr_w f6 (by omega), fr_r⟩) H6 (fun j hj h s hh hs => ?_)
                  have e6 : i6 235 = i5 235 := f6 235 (by omega)
                  rw [e6]
                  by_cases e : j = k
                  · subst e
                    exact y5 h s hh hs
                  · have h3j := p3_6 (show j < aV_ A by omega) w2
                    have w7 := (hW.2.2.2.2.2.2.1 (o j) (hO.1 j (by omega))).2
                    rw [k5 _ (by omega), f4 235 (by omega), f3 235 (by omega)]
                    exact A2 j (by omega) h s hh hs
                · rw [nn_p3, nn_mul, nn_le (by omega) (by omega)] at c
                  omega
              | succ r ihr =>
                intro z i3 hz2 f3 y3
                refine tMX12_speak_71 (d := d + 1) ⟨fun c => ?_, fun _ => ?_⟩
                · rw [nn_p3, nn_mul, nn_le (by omega) (by omega)] at c
                  omega
                · rw [nn_cl (by omega), la_nx]
                  refine ⟨la_vp (by omega) (by omega), ?_⟩
                  rintro i4 rfl
                  refine ihr (z + 1) _ (by omega) (fr_u f3 (by omega)) (fun j hj => ?_)
                  by_cases e : j = z
                  · rw [e, uu_e]
                  · rw [uu_j e]
                    exact y3 j (by omega)
            exact go71 _ 0 i2 (Nat.zero_add _).symm fr_r (fun j hj => absurd hj (Nat.not_lt_zero j))
          · rw [nn_p9, nn_mul, nn_le (by omega) (by omega)] at c
            omega
        | succ r ihr =>
          intro z l3 hz g3 z3
          refine tMX12_speak_45 (d := d + 1) ⟨fun c => ?_, fun _ => ?_⟩
          · rw [nn_p9, nn_mul, nn_le (by omega) (by omega)] at c
            omega
          · rw [nn_cl (by omega), la_nx]
            refine ⟨la_vp (by omega) (by omega), ?_⟩
            rintro l4 rfl
            refine ihr (z + 1) _ (by omega) (fr_u g3 (by omega)) (fun j hj => ?_)
            by_cases e : j = z
            · rw [e, uu_e]
            · rw [uu_j e]
              exact z3 j (by omega)
      exact go45 _ 0 l2 (Nat.zero_add _).symm fr_r (fun j hj => absurd hj (Nat.not_lt_zero j))
theorem md_speak {A : mA_} {o : Nat → Nat} (hW : mt_W A) (hp : 0 < aV_ A) (hO : tu_O A o) (hM : mt_M A i l) (ho : ∀ k, k < aV_ A → i 232 k = Int32.ofNat (o k)) : ab_Sp MX12_speak (d + 2) [.ref 205] (i, l, dd, x) (ab_E0 sc) none (fun σ => ∃ i2 l2, σ = (i2, l2, dd, x) ∧ mu_o i i2 l l2 ∧ mu_A A o (aV_ A) i2) := by
  have hR := (mt_rows hW).1
  refine ab_ent (n := 0) okMX12_speak.1 (fun G => Nat.le_of_ble_eq_true rfl) (fun Q hQ => ?_)
  refine tMX12_speak_0 (d := d + 1) ?_
  have go : ∀ (n r : Nat) (i2 : Nat → Nat → Int32), mt_rad (aS_ A) (aV_ A) = r + n → fr_o 233 233 i i2 → (∀ q, q < r → i2 233 q = 0) → ab_Fr MX12_speak (d + 2) Q 4 [some (.ref 205), some (.int 1), some (.int (Int32.ofNat r)), none, none, none, none, none, none, none] [] (0, 0) (i2, l, dd, x) (ab_E0 sc) := by
    intro n
    induction n with
    | zero =>
      intro r i2 hr f2 z2
      have hM2 : mt_M A i2 l := mt_M_f hM f2 (by omega) hW
      refine tMX12_speak_4 (d := d + 1) ⟨fun _ => ?_, fun c => ?_⟩
      · exact mu_27 (d := d) (i0 := i) (l0 := l) hW hp hO hM ho (fun i3 l3 o3 A3 => hQ _ ⟨i3, l3, rfl, o3, A3⟩) _ 0 i2 l (Nat.zero_add _).symm ⟨fr_w f2 (by omega), fr_r⟩ (fun q hq => by rw [z2 q (by omega)]; rfl) (fun j hj => absurd hj (Nat.not_lt_zero j))
      · rw [hM2.1.2.2 (by omega), nn_le (by omega) (by omega)] at c
        omega
    | succ n ih =>
      intro r i2 hr f2 z2
      have hM2 : mt_M A i2 l := mt_M_f hM f2 (by omega) hW
      refine tMX12_speak_4 (d := d + 1) ⟨fun c => ?_, fun _ => ?_⟩
      · rw [hM2.1.2.2 (by omega), nn_le (by omega) (by omega)] at c
        omega
      · rw [nn_cl (by omega), la_nx]
        refine ⟨la_vp (by omega) (by omega), ?_⟩
        rintro i3 rfl
        refine ih (r + 1) _ (by omega) (fr_u f2 (by omega)) (fun q hq => ?_)
        by_cases e : q = r
        · rw [e, uu_e]
        · rw [uu_j e]
          exact z2 q (by omega)
  exact go _ 0 i (Nat.zero_add _).symm fr_r (fun q hq => absurd hq (Nat.not_lt_zero q))
/-- the last said -/
def tu_d (A : mA_) (o b : Nat → Nat) (k : Nat) : Nat := tu_H A o b k % 3
theorem md_speakRow {A : mA_} {o : Nat → Nat} {r : Nat} (hW : mt_W A) (hp : 0 < aV_ A) (hO : tu_O A o) (hM : mt_M A i l) (ho : ∀ k, k < aV_ A → i 232 k = Int32.ofNat (o k)) (h50 : i 205 50 = Int32.ofNat (aV_ A)) (hA : mu_A A o (aV_ A) i) (hr : r < mt_rad (aS_ A) (aV_ A)) : ab_Sp MX12_speakRow (d + 2) [.ref 205, .int (Int32.ofNat r)] (i, l, dd, x) (ab_E0 sc) (some (.int (Int32.ofNat (tu_H A o (pu_g (aS_ A) (aV_ A) r) (aV_ A) % 3)))) (fun σ => ∃ i2, σ = (i2, l, dd, x) ∧ fr_o 234 234 i i2 ∧ ∀ k, k < aV_ A → i2 234 k = Int32.ofNat (tu_y A o k (tu_H A o (pu_g (aS_ A) (aV_ A) r) k) (pu_g (aS_ A) (aV_ A) r (o k)))) := by
  have w2 := hW.2.1
  have hR := (mt_rows hW).1
  refine ab_ent (n := 1) okMX12_speakRow.1 (fun G => Nat.le_of_ble_eq_true rfl) (fun Q hQ => ?_)
  refine tMX12_speakRow_0 (d := d + 1) ?_
  have go : ∀ (n k : Nat) (i2 : Nat → Nat → Int32), aV_ A = k + n → fr_o 234 234 i i2 → (∀ j, j < k → i2 234 j = Int32.ofNat (tu_y A o j (tu_H A o (pu_g (aS_ A) (aV_ A) r) j) (pu_g (aS_ A) (aV_ A) r (o j)))) → ab_Fr MX12_speakRow (d + 2) Q 7 [some (.ref 205), some (.int (Int32.ofNat r)), some (.int (Int32.ofNat (tu_H A o (pu_g (aS_ A) (aV_ A) r) k))), some (.int (Int32.ofNat (tu_H A o (pu_g (aS_ A) (aV_ A) r) k % 3))), some (.int (Int32.ofNat k))] [] (0, 0) (i2, l, dd, x) (ab_E0 sc) := by
    intro n
    induction n with
    | zero =>
      intro k i2 hk f2 z2
      refine tMX12_speakRow_7 (d := d + 1) ⟨fun _ => ?_, fun c => ?_⟩
      · rw [show k = aV_ A by omega] at z2 ⊢
        exact hQ _ ⟨i2, rfl, f2, z2⟩
      · rw [f2 205 (by omega), h50, nn_le (by omega) (by omega)] at c
        omega
    | succ n ih =>
      intro k i2 hk f2 z2
      have hM2 : mt_M A i2 l := mt_M_f hM f2 (by omega) hW
      have hok := hO.1 k (by omega)
      have h3 := p3_6 (show k < aV_ A by omega) w2
      have hHl := tu_Hl (A := A) (o := o) (b := pu_g (aS_ A) (aV_ A) r) hW hp k
      have hsg := pg_lt (r := r) hW hok
      have w7 := (hW.2.2.2.2.2.2.1 (o k) hok).2
      have eY := hA k (by omega) _ _ hHl hsg
      have w1 := hW.1
      have hsl := tu_sl (A := A) (v := o k) (L := tu_L A o k (tu_H A o (pu_g (aS_ A) (aV_ A) r) k)) (s := pu_g (aS_ A) (aV_ A) r (o k)) hW hp
      have eH : tu_H A o (pu_g (aS_ A) (aV_ A) r) (k + 1) = 3 * tu_H A o (pu_g (aS_ A) (aV_ A) r) k + tu_s A (o k) (tu_L A o k (tu_H A o (pu_g (aS_ A) (aV_ A) r) k)) (pu_g (aS_ A) (aV_ A) r (o k)) := rfl
      refine tMX12_speakRow_7 (d := d + 1) ⟨fun c => ?_, fun _ => ⟨la_vp (by omega) (by omega), ?_⟩⟩
      · rw [f2 205 (by omega), h50, nn_le (by omega) (by omega)] at c
        omega
      · rw [nn_cl (by omega), f2 232 (by omega), ho k (by omega)]
        refine ⟨_, _, mt_sg (d := d) hW hM2 hok (by omega), ?_⟩
        rintro i6 l7 dd8 x9 ⟨⟩
        rw [show (6561 : Int32) = Int32.ofNat 6561 from rfl, nn_p3, nn_mul, nn_mul, nn_add, nn_add, nn_cl (by omega), f2 235 (by omega), show 6561 * k + 3 * tu_H A o (pu_g (aS_ A) (aV_ A) r) k + pu_g (aS_ A) (aV_ A) r (o k) = 6561 * k + (3 * tu_H A o (pu_g (aS_ A) (aV_ A) r) k + pu_g (aS_ A) (aV_ A) r (o k)) by omega, eY]
        refine ⟨la_vp (by omega) (by omega), la_vp (by omega) (by omega), ?_⟩
        rintro i11 rfl
        rw [uu_e, tu_y7 hW hp, nn_add, la_nx, ← eH]
        refine ⟨la_vp (by omega) (by omega), ?_⟩
        have ih2 := ih (k + 1) (ab_u i2 234 k (Int32.ofNat (tu_y A o k (tu_H A o (pu_g (aS_ A) (aV_ A) r) k) (pu_g (aS_ A) (aV_ A) r (o k))))) (by omega) (fr_u f2 (by omega)) (fun j hj => by
          by_cases e : j = k
          · rw [e, uu_e]
          · rw [uu_j e]
            exact z2 j (by omega))
        rw [show tu_H A o (pu_g (aS_ A) (aV_ A) r) (k + 1) % 3 = tu_s A (o k) (tu_L A o k (tu_H A o (pu_g (aS_ A) (aV_ A) r) k)) (pu_g (aS_ A) (aV_ A) r (o k)) by omega] at ih2
        exact ih2
  exact go (aV_ A) 0 i (Nat.zero_add _).symm fr_r (fun j hj => absurd hj (Nat.not_lt_zero j))
/-- the turn from which on all followed, out of what was said -/
theorem tu_zH {A : mA_} {o b : Nat → Nat} (hW : mt_W A) (hp : 0 < aV_ A) : ∀ n c, (∀ j, c ≤ j → j < c + n → tu_f A o j (tu_H A o b j) = 1) → tu_z A o (c + n) (tu_H A o b (c + n)) = tu_z A o c (tu_H A o b c) := by
  intro n
  induction n with
  | zero => intro c _; rfl
  | succ n ih =>
    intro c h
    have w1 := hW.1
    have hsl := tu_sl (A := A) (v := o (c + n)) (L := tu_L A o (c + n) (tu_H A o b (c + n))) (s := b (o (c + n))) hW hp
    have eH : tu_H A o b (c + n + 1) = 3 * tu_H A o b (c + n) + tu_s A (o (c + n)) (tu_L A o (c + n) (tu_H A o b (c + n))) (b (o (c + n))) := rfl
    have ez : tu_z A o (c + n + 1) (tu_H A o b (c + n + 1)) = if tu_f A o (c + n) (tu_H A o b (c + n + 1) / 3) = 1 then tu_z A o (c + n) (tu_H A o b (c + n + 1) / 3) else c + n + 1 := rfl
    rw [show tu_H A o b (c + n + 1) / 3 = tu_H A o b (c + n) by omega] at ez
    show tu_z A o (c + n + 1) (tu_H A o b (c + n + 1)) = _
    rw [ez, if_pos (h (c + n) (by omega) (by omega))]
    exact ih c (fun j h1 h2 => h j h1 (by omega))
theorem md_cliff {A : mA_} {o b : Nat → Nat} {V : Nat} {a1 : Int32} (hV : V = aV_ A) (ha1 : a1 = Int32.ofNat V) (hW : mt_W A) (hp : 0 < aV_ A) (h234 : ∀ k, k < V → i 234 k = Int32.ofNat (tu_y A o k (tu_H A o b k) (b (o k)))) : ab_Sp MX12_cliffOfSaid (d + 1) [.ref 205, .int a1] (i, l, dd, x) (ab_E0 sc) (some (.int (tu_C A o V (tu_H A o b V)))) (fun σ => σ = (i, l, dd, x)) := by
  subst ha1
  have w2 := hW.2.1
  refine ab_ent (n := 1) okMX12_cliffOfSaid.1 (fun G => Nat.le_of_ble_eq_true rfl) (fun Q hQ => ?_)
  refine tMX12_cliffOfSaid_0 (d := d) ?_
  have go : ∀ c n : Nat, V = c + n → (∀ j, c ≤ j → j < V → tu_f A o j (tu_H A o b j) = 1) → ab_Fr MX12_cliffOfSaid (d + 1) Q 2 [some (.ref 205), some (.int (Int32.ofNat V)), some (.int (Int32.ofNat c))] [] (0, 0) (i, l, dd, x) (ab_E0 sc) := by
    intro c
    have fin : ∀ c n : Nat, V = c + n → (∀ j, c ≤ j → j < V → tu_f A o j (tu_H A o b j) = 1) → tu_z A o c (tu_H A o b c) = c → ab_Fr MX12_cliffOfSaid (d + 1) Q 25 [none, some (.int (Int32.ofNat V)), some (.int (Int32.ofNat c))] [] (0, 0) (i, l, dd, x) (ab_E0 sc) := fun c n hc hf hz => by
      have e := tu_zH (A := A) (o := o) (b := b) hW hp n c (fun j h1 h2 => hf j h1 (by omega))
      rw [← hc, hz] at e
      unfold tu_C at hQ
      rw [e] at hQ
      refine tMX12_cliffOfSaid_25 (d := d) ⟨fun q => ?_, fun q => ?_⟩
      · rw [nn_eq (by omega) (by omega)] at q
        rw [if_neg q] at hQ
        exact hQ _ rfl
      · rw [nn_eq (by omega) (by omega)] at q
        rw [if_pos q] at hQ
        exact hQ _ rfl
    induction c with
    | zero =>
      intro n hc hf
      refine tMX12_cliffOfSaid_2 (d := d) ⟨fun _ => fin 0 n hc hf rfl, fun q => ?_⟩
      rw [nn_p0, nn_le (by omega) (by omega)] at q
      omega
    | succ c ih =>
      intro n hc hf
      have hsl := tu_sl (A := A) (v := o c) (L := tu_L A o c (tu_H A o b c)) (s := b (o c)) hW hp
      have hyl := tu_yl (A := A) (o := o) (k := c) (h := tu_H A o b c) (s := b (o c)) hW hp
      have w1 := hW.1
      have eH : tu_H A o b (c + 1) = 3 * tu_H A o b c + tu_s A (o c) (tu_L A o c (tu_H A o b c)) (b (o c)) := rfl
      have ez : tu_z A o (c + 1) (tu_H A o b (c + 1)) = if tu_f A o c (tu_H A o b (c + 1) / 3) = 1 then tu_z A o c (tu_H A o b (c + 1) / 3) else c + 1 := rfl
      rw [show tu_H A o b (c + 1) / 3 = tu_H A o b c by omega] at ez
      have ey : tu_y A o c (tu_H A o b c) (b (o c)) = tu_s A (o c) (tu_L A o c (tu_H A o b c)) (b (o c)) + (if tu_f A o c (tu_H A o b c) = 1 then 0 else 8) := rfl
      refine tMX12_cliffOfSaid_2 (d := d) ⟨fun q => ?_, fun _ => ?_⟩
      · rw [nn_p0, nn_le (by omega) (by omega)] at q
        omega
      · rw [nn_p1, nn_sub (by omega), show c + 1 - 1 = c by omega, nn_cl (by omega), h234 c (by omega), nn_p8, nn_le (by omega) (by omega)]
        refine ⟨la_vp (by omega) (by omega), fun q => ?_, fun q => ?_⟩
        · have hf0 : ¬ tu_f A o c (tu_H A o b c) = 1 := fun z => by
            rw [ey, if_pos z] at q
            omega
          rw [if_neg hf0] at ez
          exact fin (c + 1) n hc hf ez
        · have hf1 : tu_f A o c (tu_H A o b c) = 1 := by
            by_cases z : tu_f A o c (tu_H A o b c) = 1
            · exact z
            · rw [ey, if_neg z] at q
              omega
          rw [← nn_p1, nn_m1 (by omega), show c + 1 - 1 = c by omega]
          refine ih (n + 1) (by omega) (fun j h1 h2 => ?_)
          by_cases e : j = c
          · rw [e]
            exact hf1
          · exact hf j (by omega) h2
  exact go V 0 rfl (fun j h1 h2 => absurd h2 (by omega))
theorem md_lostT {A : mA_} {o : Nat → Nat} (hW : mt_W A) (hp : 0 < aV_ A) (hO : tu_O A o) (hM : mt_M A i l) (ho : ∀ k, k < aV_ A → i 232 k = Int32.ofNat (o k)) (h50 : i 205 50 = Int32.ofNat (aV_ A)) (hA : mu_A A o (aV_ A) i) : ab_Sp MX12_lostInTurns (d + 3) [.ref 205] (i, l, dd, x) (ab_E0 sc) (some (.long (Int64.ofNat (pu_n (aS_ A) (aV_ A) (fun b => cs_l A 7 b (tu_H A o b (aV_ A) % 3) (aT_ A)))))) (fun σ => ∃ i2, σ = (i2, l, dd, x) ∧ fr_o 234 234 i i2) := by
  have w1 := hW.1
  have w2 := hW.2.1
  have hR := (mt_rows hW).1
  refine ab_ent (n := 0) okMX12_lostInTurns.1 (fun G => Nat.le_of_ble_eq_true rfl) (fun Q hQ => ?_)
  refine tMX12_lostInTurns_0 (d := d + 2) ?_
  have go : ∀ (n r : Nat) (i2 : Nat → Nat → Int32), mt_rad (aS_ A) (aV_ A) = r + n → fr_o 234 234 i i2 → ab_Fr MX12_lostInTurns (d + 3) Q 4 [some (.ref 205), some (.long (Int64.ofNat (pu_s (fun r => cs_l A 7 (pu_g (aS_ A) (aV_ A) r) (tu_H A o (pu_g (aS_ A) (aV_ A) r) (aV_ A) % 3) (aT_ A)) r))), none, some (.int (Int32.ofNat r))] [] (0, 0) (i2, l, dd, x) (ab_E0 sc) := by
    intro n
    induction n with
    | zero =>
      intro r i2 hr f2
      have hM2 : mt_M A i2 l := mt_M_f hM f2 (by omega) hW
      refine tMX12_lostInTurns_4 (d := d + 2) ⟨fun _ => ?_, fun c => ?_⟩
      · rw [show r = mt_rad (aS_ A) (aV_ A) by omega, cs_rows (G := fun b => cs_l A 7 b (tu_H A o b (aV_ A) % 3) (aT_ A)) hW]
        exact hQ _ ⟨i2, rfl, f2⟩
      · rw [hM2.1.2.2 (by omega), nn_le (by omega) (by omega)] at c
        omega
    | succ n ih =>
      intro r i2 hr f2
      have hM2 : mt_M A i2 l := mt_M_f hM f2 (by omega) hW
      have ih2 := fun i3 f3 => ih (r + 1) i3 (by omega) f3
      have es : pu_s (fun r => cs_l A 7 (pu_g (aS_ A) (aV_ A) r) (tu_H A o (pu_g (aS_ A) (aV_ A) r) (aV_ A) % 3) (aT_ A)) (r + 1) = pu_s (fun r => cs_l A 7 (pu_g (aS_ A) (aV_ A) r) (tu_H A o (pu_g (aS_ A) (aV_ A) r) (aV_ A) % 3) (aT_ A)) r + cs_l A 7 (pu_g (aS_ A) (aV_ A) r) (tu_H A o (pu_g (aS_ A) (aV_ A) r) (aV_ A) % 3) (aT_ A) := rfl
      rw [es] at ih2
      have hHd : tu_H A o (pu_g (aS_ A) (aV_ A) r) (aV_ A) % 3 < aT_ A := by
        obtain ⟨V, hV⟩ : ∃ V, aV_ A = V + 1 := ⟨aV_ A - 1, by omega⟩
        have hsl := tu_sl (A := A) (v := o V) (L := tu_L A o V (tu_H A o (pu_g (aS_ A) (aV_ A) r) V)) (s := pu_g (aS_ A) (aV_ A) r (o V)) hW hp
        have eH : tu_H A o (pu_g (aS_ A) (aV_ A) r) (V + 1) = 3 * tu_H A o (pu_g (aS_ A) (aV_ A) r) V + tu_s A (o V) (tu_L A o V (tu_H A o (pu_g (aS_ A) (aV_ A) r) V)) (pu_g (aS_ A) (aV_ A) r (o V)) := rfl
        rw [hV] at eH hsl ⊢
        omega
      refine tMX12_lostInTurns_4 (d := d + 2) ⟨fun c => ?_, fun _ => ⟨_, _, md_speakRow (d := d) (r := r) hW hp hO hM2 (fun k hk => by rw [f2 232 (by omega)]; exact ho k hk) (by rw [f2 205 (by omega)]; exact h50) (fun j hj h s hh hs => by rw [f2 235 (by omega)]; exact hA j hj h s hh hs) (by omega), ?_⟩⟩
      · rw [hM2.1.2.2 (by omega), nn_le (by omega) (by omega)] at c
        omega
      · rintro i6 l7 dd8 x9 ⟨i3, ⟨⟩, f3, _⟩
        refine ⟨_, _, md_commonly (d := d) hW (mt_M_f hM2 f3 (by omega) hW) (by omega) hHd, ?_⟩
        rintro i15 l16 dd17 x18 ⟨⟩
        rw [nl_add, la_nx]
        exact ih2 _ (fr_t f2 f3)
  exact go _ 0 i (Nat.zero_add _).symm fr_r
end TQF4
