/-! weighed: the model's call -/
section TQS3
variable {d : Nat} {sc : Nat × (Nat → Int32)} {i : Nat → Nat → Int32} {l : Nat → Nat → Int64} {dd : Nat → Nat → Value} {x : Nat}
theorem mq_131 {A : mA_} {q t k : Nat} {a1 : Int64} (hW : mt_W A) (hV : aV_ A ≤ 5) (hk : 1 ≤ k ∧ k ≤ 15) (ht : t < aT_ A) (hM : mt_M A i l) (h243 : ∀ w e, w < 16 → e < aT_ A → l 243 (3 * w + e) = Int64.ofNat (bx_ A (wt_ (aV_ A) q) t w e)) {Q : ab_Qt} (hQ : ∀ L C, wJ_ A q t (k + 1) 0 L C → ab_Fr MX12_weighed (d + 2) Q 121 [some (.ref 205), some (.long a1), none, some (.int (Int32.ofNat q)), some (.long L), none, some (.int C), some (.int (Int32.ofNat t)), some (.int (Int32.ofNat (k + 1))), none, none, none, none] [] (0, 0) (i, l, dd, x) (ab_E0 sc)) :
    ∀ (n e : Nat) (L : Int64) (C : Int32), aT_ A = e + n → wJ_ A q t k e L C → ab_Fr MX12_weighed (d + 2) Q 131 [some (.ref 205), some (.long a1), none, some (.int (Int32.ofNat q)), some (.long L), none, some (.int C), some (.int (Int32.ofNat t)), some (.int (Int32.ofNat k)), some (.int (Int32.ofNat e)), none, none, none] [] (0, 0) (i, l, dd, x) (ab_E0 sc) := by
  intro n
  have w1 := hW.1
  have r1 := hM.1.1
  have hB : ∀ u, cx_ A (wt_ (aV_ A) q) t u ≤ 15 := fun u => cx_B hV (fun _ => wt_4)
  induction n with
  | zero =>
    intro e L C he hJ
    refine tMX12_weighed_131 (d := d + 1) ⟨fun _ => ?_, fun c => ?_⟩
    · rw [la_nx]
      refine hQ L C (wJ_sk hJ (fun n hn hd => ?_))
      have := hd.2.2.1
      unfold pl_
      omega
    · rw [r1, nn_le (by omega) (by omega)] at c
      omega
  | succ n ih =>
    intro e L C he hJ
    refine tMX12_weighed_131 (d := d + 1) ⟨fun c => ?_, fun _ => ⟨fun c => ?_, fun c => ?_⟩⟩
    · rw [r1, nn_le (by omega) (by omega)] at c
      omega
    · rw [nn_eq (by omega) (by omega)] at c
      obtain ⟨z1, z2, z3, z4⟩ := w_at (q := q) (k := k) (t := t) (e := e) (n := q * 144 + (9 * k + 3 * t + e)) hk.2 (by omega) (by omega) (by omega)
      have hd : wd_ A (q * 144 + (9 * k + 3 * t + e)) := by
        unfold wd_
        rw [z2, z3, z4]
        omega
      have ev : wv_ A (q * 144 + (9 * k + 3 * t + e)) = lx_ A (wt_ (aV_ A) q) t e k := by
        unfold wv_
        rw [z1, z2, z3, z4]
      refine ⟨_, _, md_lost15 (d := d) (g := wt_ (aV_ A) q) (n := k) hB w1 ht (by omega) (by omega) h243, ?_⟩
      rintro i7 l8 dd9 x10 ⟨⟩
      rw [← ev, nn_p9, nn_p3, nn_mul, nn_mul, nn_add, nn_add, la_nx]
      refine ⟨fun c3 => ih (e + 1) L C (by omega) (wJ_gt hW hJ (by omega) (by omega) c3), fun c3 => ⟨fun c4 => ih (e + 1) _ _ (by omega) (wJ_up hW hJ hk.2 (by omega) (by omega) hd c3 (Or.inl c4)), fun c4 => ⟨fun c5 => ih (e + 1) _ _ (by omega) (wJ_up hW hJ hk.2 (by omega) (by omega) hd c3 (Or.inr c5)), fun c5 => ih (e + 1) L C (by omega) (wJ_eq hW hJ hk.2 (by omega) (by omega) c4 c5)⟩⟩⟩
    · rw [nn_eq (by omega) (by omega)] at c
      rw [la_nx]
      refine ih (e + 1) L C (by omega) (wJ_sk hJ (fun n hn hd => ?_))
      have h3 := hd.2.2.2
      rw [show (q * 144 + n) % 144 = n by omega] at h3
      unfold pl_
      omega
theorem mq_121 {A : mA_} {q t : Nat} {a1 : Int64} (hW : mt_W A) (hV : aV_ A ≤ 5) (ht : t < aT_ A) (hM : mt_M A i l) (h243 : ∀ w e, w < 16 → e < aT_ A → l 243 (3 * w + e) = Int64.ofNat (bx_ A (wt_ (aV_ A) q) t w e)) {Q : ab_Qt} (hQ : ∀ L C, wJ_ A q (t + 1) 1 0 L C → ab_Fr MX12_weighed (d + 2) Q 97 [some (.ref 205), some (.long a1), none, some (.int (Int32.ofNat q)), some (.long L), none, some (.int C), some (.int (Int32.ofNat (t + 1))), none, none, none, none, none] [] (0, 0) (i, l, dd, x) (ab_E0 sc)) :
    ∀ (n k : Nat) (L : Int64) (C : Int32), 16 = k + n → 1 ≤ k → wJ_ A q t k 0 L C → ab_Fr MX12_weighed (d + 2) Q 121 [some (.ref 205), some (.long a1), none, some (.int (Int32.ofNat q)), some (.long L), none, some (.int C), some (.int (Int32.ofNat t)), some (.int (Int32.ofNat k)), none, none, none, none] [] (0, 0) (i, l, dd, x) (ab_E0 sc) := by
  intro n
  have w1 := hW.1
  induction n with
  | zero =>
    intro k L C hk h1 hJ
    refine tMX12_weighed_121 (d := d + 1) ⟨fun _ => ?_, fun c => ?_⟩
    · rw [la_nx]
      refine hQ L C (wJ_sk hJ (fun n hn hd => ?_))
      have := hd.1
      unfold pl_
      omega
    · rw [show (15 : Int32) = Int32.ofNat 15 from rfl, nn_lt (by omega) (by omega)] at c
      omega
  | succ n ih =>
    intro k L C hk h1 hJ
    refine tMX12_weighed_121 (d := d + 1) ⟨fun c => ?_, fun _ => ?_⟩
    · rw [show (15 : Int32) = Int32.ofNat 15 from rfl, nn_lt (by omega) (by omega)] at c
      omega
    · exact mq_131 (d := d) hW hV ⟨h1, by omega⟩ ht hM h243 (fun L2 C2 h2 => ih (k + 1) L2 C2 (by omega) (by omega) h2) _ 0 L C (Nat.zero_add _).symm hJ
theorem mq_97 {A : mA_} {q : Nat} {a1 : Int64} (hW : mt_W A) (hp : 0 < aV_ A) (hV : aV_ A ≤ 5) {l0 : Nat → Nat → Int64} (hM : mt_M A i l0) (h244 : ∀ v, v < aV_ A → i 244 v = Int32.ofNat (wt_ (aV_ A) q v)) (h242 : ∀ u, u < 4 ^ aV_ A → i 242 u = if (∃ r, r < mt_rad (aS_ A) (aV_ A) ∧ cd_r A (pu_g (aS_ A) (aV_ A) r) = u) then 1 else 0) (h241 : ∀ u e, u < 4 ^ aV_ A → e < aT_ A → l0 241 (3 * u + e) = Int64.ofNat (bv_ A u e)) {Q : ab_Qt} (hQ : ∀ L C l2, fr_o 243 243 l0 l2 → wJ_ A q (aT_ A) 1 0 L C → (L < a1 → ab_Fr MX12_weighed (d + 2) Q 247 [some (.ref 205), some (.long L), none, some (.int (Int32.ofNat q)), none, none, some (.int C), some (.int 0), none, none, none, none, none] [] (0, 0) (i, l2, dd, x) (ab_E0 sc)) ∧ (¬ L < a1 → ab_Fr MX12_weighed (d + 2) Q 34 [some (.ref 205), some (.long a1), none, some (.int (Int32.ofNat q + 1)), none, none, none, none, none, none, none, none, none] [] (0, 0) (i, l2, dd, x) (ab_E0 sc))) :
    ∀ (n t : Nat) (L : Int64) (C : Int32) (l2 : Nat → Nat → Int64), aT_ A = t + n → fr_o 243 243 l0 l2 → wJ_ A q t 1 0 L C → ab_Fr MX12_weighed (d + 2) Q 97 [some (.ref 205), some (.long a1), none, some (.int (Int32.ofNat q)), some (.long L), none, some (.int C), some (.int (Int32.ofNat t)), none, none, none, none, none] [] (0, 0) (i, l2, dd, x) (ab_E0 sc) := by
  intro n
  have w1 := hW.1
  have hB : ∀ t u, cx_ A (wt_ (aV_ A) q) t u ≤ 15 := fun t u => cx_B hV (fun _ => wt_4)
  have hfr : ∀ {l2}, fr_o 243 243 l0 l2 → mt_M A i l2 := fun g => mt_M_fr hM (fun _ _ _ => rfl) (fun _ _ _ => rfl) (fun _ _ => rfl) (g 224 (by omega)) hW
  induction n with
  | zero =>
    intro t L C l2 ht g2 hJ
    have hM2 := hfr g2
    refine tMX12_weighed_97 (d := d + 1) ⟨fun _ => ?_, fun c => ?_⟩
    · rw [show t = aT_ A by omega] at hJ
      exact hQ L C l2 g2 hJ
    · rw [hM2.1.1, nn_le (by omega) (by omega)] at c
      omega
  | succ n ih =>
    intro t L C l2 ht g2 hJ
    have hM2 := hfr g2
    refine tMX12_weighed_97 (d := d + 1) ⟨fun c => ?_, fun _ => ⟨_, md_byW15 (d := d) (g := wt_ (aV_ A) q) (t := t) hW (hB t) h244 hM2 (by omega) h242 (fun u e hu he => by rw [g2 241 (by omega)]; exact h241 u e hu he), ?_⟩⟩
    · rw [hM2.1.1, nn_le (by omega) (by omega)] at c
      omega
    · rintro i7 l8 dd9 x10 ⟨l3, ⟨⟩, g3, z3⟩
      exact mq_121 (d := d) hW hV (by omega) (hfr (fr_t g2 g3)) z3 (fun L2 C2 h2 => ih (t + 1) L2 C2 l8 (by omega) (fr_t g2 g3) h2) 15 1 L C rfl (Nat.le_refl 1) hJ
theorem mq_247 {A : mA_} {q c : Nat} {a1 : Int64} (hW : mt_W A) (hV : aV_ A ≤ 5) (hc : c < 144) {i0 : Nat → Nat → Int32} (hM : mt_M A i0 l) (h244 : ∀ v, v < aV_ A → i0 244 v = Int32.ofNat (wt_ (aV_ A) q v)) {Q : ab_Qt} (hQ : ∀ i2, fr_o 245 245 i0 i2 → wl_ A (q * 144 + c) i2 → ab_Fr MX12_weighed (d + 2) Q 34 [some (.ref 205), some (.long a1), none, some (.int (Int32.ofNat q + 1)), none, none, none, none, none, none, none, none, none] [] (0, 0) (i2, l, dd, x) (ab_E0 sc)) :
    ∀ (n v : Nat) (i2 : Nat → Nat → Int32), aV_ A = v + n → fr_o 245 245 i0 i2 → (∀ y, y < v → i2 245 y = Int32.ofNat (wt_ (aV_ A) q y)) → ab_Fr MX12_weighed (d + 2) Q 247 [some (.ref 205), some (.long a1), none, some (.int (Int32.ofNat q)), none, none, some (.int (Int32.ofNat c)), some (.int (Int32.ofNat v)), none, none, none, none, none] [] (0, 0) (i2, l, dd, x) (ab_E0 sc) := by
  intro n
  induction n with
  | zero =>
    intro v i2 hv g2 z2
    have hM2 := mt_M_f hM g2 (by omega) hW
    refine tMX12_weighed_247 (d := d + 1) ⟨fun _ => ?_, fun g => ?_⟩
    · rintro i3 rfl i4 rfl i5 rfl
      obtain ⟨c1, c2, c3⟩ := w144 hc
      refine hQ _ (fr_u (fr_u (fr_u g2 (by omega)) (by omega)) (by omega)) ⟨fun y hy => ?_, ?_, ?_, ?_⟩
      · rw [uu_j (by omega), uu_j (by omega), uu_j (by omega), show (q * 144 + c) / 144 = q by omega]
        exact z2 y (by omega)
      · rw [uu_j (by omega), uu_j (by omega), uu_e, c1, show (q * 144 + c) % 144 = c by omega]
      · rw [uu_j (by omega), uu_e, c2, show (q * 144 + c) % 144 = c by omega]
      · rw [uu_e, c3, show (q * 144 + c) % 144 = c by omega]
    · rw [hM2.1.2.1, nn_le (by omega) (by omega)] at g
      omega
  | succ n ih =>
    intro v i2 hv g2 z2
    have hM2 := mt_M_f hM g2 (by omega) hW
    refine tMX12_weighed_247 (d := d + 1) ⟨fun g => ?_, fun _ => ?_⟩
    · rw [hM2.1.2.1, nn_le (by omega) (by omega)] at g
      omega
    · rw [nn_cl (by omega), g2 244 (by omega), h244 v (by omega), la_nx]
      refine ⟨la_vp (by omega) (by omega), la_vp (by omega) (by omega), ?_⟩
      rintro i3 rfl
      refine ih (v + 1) _ (by omega) (fr_u g2 (by omega)) (fun y hy => ?_)
      by_cases e : y = v
      · rw [e, uu_e]
      · rw [uu_j e]
        exact z2 y (by omega)
theorem mq_49 {A : mA_} {q : Nat} {a1 : Int64} (hW : mt_W A) (hV : aV_ A ≤ 5) (hq : q < 4 ^ aV_ A) {i0 : Nat → Nat → Int32} (hM : mt_M A i0 l) {Q : ab_Qt} (hQ : ∀ i2, fr_o 244 244 i0 i2 → (∀ v, v < aV_ A → i2 244 v = Int32.ofNat (wt_ (aV_ A) q v)) → ab_Fr MX12_weighed (d + 2) Q 97 [some (.ref 205), some (.long a1), none, some (.int (Int32.ofNat q)), some (.long 1000000000000000000), none, some (.int (-1)), some (.int 0), none, none, none, none, none] [] (0, 0) (i2, l, dd, x) (ab_E0 sc)) :
    ∀ (n v : Nat) (i2 : Nat → Nat → Int32), aV_ A = v + n → fr_o 244 244 i0 i2 → (∀ y, y < v → i2 244 y = Int32.ofNat (wt_ (aV_ A) q y)) → ab_Fr MX12_weighed (d + 2) Q 49 [some (.ref 205), some (.long a1), none, some (.int (Int32.ofNat q)), some (.int (Int32.ofNat v)), none, none, none, none, none, none, none, none] [] (0, 0) (i2, l, dd, x) (ab_E0 sc) := by
  intro n
  have h7 := cd_7 (V := aV_ A) (by omega)
  induction n with
  | zero =>
    intro v i2 hv g2 z2
    have hM2 := mt_M_f hM g2 (by omega) hW
    refine tMX12_weighed_49 (d := d + 1) ⟨fun _ => hQ i2 g2 (fun y hy => z2 y (by omega)), fun g => ?_⟩
    rw [hM2.1.2.1, nn_le (by omega) (by omega)] at g
    omega
  | succ n ih =>
    intro v i2 hv g2 z2
    have hM2 := mt_M_f hM g2 (by omega) hW
    refine tMX12_weighed_49 (d := d + 1) ⟨fun g => ?_, fun _ => ?_⟩
    · rw [hM2.1.2.1, nn_le (by omega) (by omega)] at g
      omega
    · rw [hM2.1.2.1, nn_p1, nn_sub (by omega), nn_sub (by omega), cd_dg (by omega) (by omega), nn_cl (by omega), show q / 4 ^ (aV_ A - 1 - v) % 4 = wt_ (aV_ A) q v from rfl, nn_add]
      refine ⟨la_vp (by omega) (by omega), ?_⟩
      rintro i3 rfl
      refine ih (v + 1) _ (by omega) (fr_u g2 (by omega)) (fun y hy => ?_)
      by_cases e : y = v
      · rw [e, uu_e]
      · rw [uu_j e]
        exact z2 y (by omega)
def wP_ (i i2 : Nat → Nat → Int32) (l l2 : Nat → Nat → Int64) : Prop := fr_o 244 245 i i2 ∧ fr_o 243 243 l l2
theorem mq_34 {A : mA_} {y b : Nat} (hW : mt_W A) (hp : 0 < aV_ A) (hV : aV_ A ≤ 5) (hF : wF_ A (4 ^ aV_ A * 144) y b) {i0 : Nat → Nat → Int32} {l0 : Nat → Nat → Int64} (hM : mt_M A i0 l0) (h242 : ∀ u, u < 4 ^ aV_ A → i0 242 u = if (∃ r, r < mt_rad (aS_ A) (aV_ A) ∧ cd_r A (pu_g (aS_ A) (aV_ A) r) = u) then 1 else 0) (h241 : ∀ u e, u < 4 ^ aV_ A → e < aT_ A → l0 241 (3 * u + e) = Int64.ofNat (bv_ A u e)) {Q : ab_Qt} (hQ : ∀ i2 l2, wP_ i0 i2 l0 l2 → wl_ A b i2 → Q (some (some (.long (Int64.ofNat y)))) (ab_u i2 205 64 (Int32.ofNat (aV_ A)), l2, dd, x) (ab_E0 sc)) :
    ∀ (n q : Nat) (B : Int64) (i2 : Nat → Nat → Int32) (l2 : Nat → Nat → Int64), 4 ^ aV_ A = q + n → wP_ i0 i2 l0 l2 → wO_ A (q * 144) B i2 → ab_Fr MX12_weighed (d + 2) Q 34 [some (.ref 205), some (.long B), none, some (.int (Int32.ofNat q)), none, none, none, none, none, none, none, none, none] [] (0, 0) (i2, l2, dd, x) (ab_E0 sc) := by
  intro n
  have w2 := hW.2.1
  have h7 := cd_7 (V := aV_ A) (by omega)
  have h4 : 0 < 4 ^ aV_ A := Nat.pow_pos (by omega)
  have hfr : ∀ {i2 l2}, wP_ i0 i2 l0 l2 → mt_M A i2 l2 := fun g => mt_M_fr hM (fun j _ _ => by rw [g.1 205 (by omega)]) (fun k _ _ => g.1 k (by omega)) (fun j _ => by rw [g.1 225 (by omega)]) (g.2 224 (by omega)) hW
  induction n with
  | zero =>
    intro q B i2 l2 hq g2 hO
    have hM2 := hfr g2
    refine tMX12_weighed_34 (d := d + 1) ⟨fun _ => ?_, fun g => ?_⟩
    · rintro i3 rfl
      rw [show q * 144 = 4 ^ aV_ A * 144 by omega] at hO
      rcases hO with ⟨h1, _⟩ | ⟨z, a, h1, h2, h3⟩
      · omega
      · obtain ⟨rfl, rfl⟩ := wF_u h1 hF
        rw [h2, hM2.1.2.1]
        exact hQ i2 l2 g2 h3
    · rw [hM2.1.2.1, cd_sh w2, nn_le (by omega) (by omega)] at g
      omega
  | succ n ih =>
    intro q B i2 l2 hq g2 hO
    have hM2 := hfr g2
    refine tMX12_weighed_34 (d := d + 1) ⟨fun g => ?_, fun _ => ?_⟩
    · rw [hM2.1.2.1, cd_sh w2, nn_le (by omega) (by omega)] at g
      omega
    · refine mq_49 (d := d) (i0 := i2) hW hV (by omega) hM2 (fun i3 g3 z3 => ?_) _ 0 i2 (Nat.zero_add _).symm fr_r (fun y hy => absurd hy (Nat.not_lt_zero y))
      have o3 : wP_ i0 i3 l0 l2 := ⟨fr_t g2.1 (fr_w g3 (by omega)), g2.2⟩
      refine mq_97 (d := d) (l0 := l2) hW hp hV (hfr o3) z3 (fun u hu => by rw [o3.1 242 (by omega)]; exact h242 u hu) (fun u e hu he => by rw [o3.2 241 (by omega)]; exact h241 u e hu he) (fun L C l4 g4 hJ => ?_) _ 0 _ _ l2 (Nat.zero_add _).symm fr_r (Or.inl ⟨fun n hn hd => ?_, rfl, rfl⟩)
      · obtain ⟨z, c, c1, c2, c3, c4, rfl, rfl⟩ := wJ_all hW hp hJ
        have o4 : wP_ i0 i3 l0 l4 := ⟨o3.1, fr_t o3.2 g4⟩
        have hO3 : wO_ A (q * 144) B i3 := by
          rcases hO with h | ⟨z, a, h1, h2, h3⟩
          · exact Or.inl h
          · refine Or.inr ⟨z, a, h1, h2, ?_⟩
            unfold wl_
            rw [g3 245 (by omega)]
            exact h3
        refine ⟨fun hg => ?_, fun hg => ?_⟩
        · refine mq_247 (d := d) (i0 := i3) hW hV c1 (hfr o4) z3 (fun i5 g5 z5 => ?_) _ 0 i3 (Nat.zero_add _).symm fr_r (fun y hy => absurd hy (Nat.not_lt_zero y))
          rw [la_nx]
          exact ih (q + 1) _ i5 l4 (by omega) ⟨fr_t o4.1 (fr_w g5 (by omega)), o4.2⟩ (wO_ye hW hO3 c1 c2 c3 c4 hg z5)
        · rw [la_nx]
          exact ih (q + 1) B i3 l4 (by omega) o4 (wO_no hW hO3 c3 c4 hg)
      · have := hd.1
        unfold pl_
        omega
end TQS3
