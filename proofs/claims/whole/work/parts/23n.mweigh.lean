/-! weighed: the model's layByWeight and lostByNeed with weights that are tried -/
def bx_u (A : mA_) (w : Nat → Nat) (t k e u : Nat) : Nat := pu_s (fun u => if cx_ A w t u = k then bv_ A u e else 0) u
section TQN3
variable {d : Nat} {sc : Nat × (Nat → Int32)} {i : Nat → Nat → Int32} {l : Nat → Nat → Int64} {dd : Nat → Nat → Value} {x : Nat}
theorem lv_102 {A : mA_} {g : Nat → Nat} {t u : Nat} {Z : Nat → Nat → Nat} (hW : mt_W A) (hB : ∀ u, cx_ A g t u ≤ 15) {l0 : Nat → Nat → Int64} (hM : mt_M A i l0) (hu : u < 4 ^ aV_ A) (h241 : ∀ e, e < aT_ A → l0 241 (3 * u + e) = Int64.ofNat (bv_ A u e)) (hZ : ∀ w e, w < 16 → e < aT_ A → l0 243 (3 * w + e) = Int64.ofNat (Z w e)) {Q : ab_Qt} (hQ : ∀ l2, fr_o 243 243 l0 l2 → (∀ w e, w < 16 → e < aT_ A → l2 243 (3 * w + e) = Int64.ofNat (Z w e + (if cx_ A g t u = w then bv_ A u e else 0))) → ab_Fr MX12_layByWeight (d + 1) Q 30 [some (.ref 205), some (.int (Int32.ofNat t)), some (.ref 244), none, some (.int (Int32.ofNat (u + 1))), none, none] [] (0, 0) (i, l2, dd, x) (ab_E0 sc)) :
    ∀ (n e : Nat) (l2 : Nat → Nat → Int64), aT_ A = e + n → fr_o 243 243 l0 l2 → (∀ w y, w < 16 → y < aT_ A → l2 243 (3 * w + y) = Int64.ofNat (Z w y + (if cx_ A g t u = w ∧ y < e then bv_ A u y else 0))) → ab_Fr MX12_layByWeight (d + 1) Q 102 [some (.ref 205), some (.int (Int32.ofNat t)), some (.ref 244), none, some (.int (Int32.ofNat u)), some (.int (Int32.ofNat (cx_ A g t u))), some (.int (Int32.ofNat e))] [] (0, 0) (i, l2, dd, x) (ab_E0 sc) := by
  intro n
  have w1 := hW.1
  have w2 := hW.2.1
  have h7 := cd_7 w2
  have r1 := hM.1.1
  have hwB := hB u
  induction n with
  | zero =>
    intro e l2 he g2 z2
    refine tMX12_layByWeight_102 (n_a2 := 7) kd_244 ⟨fun _ => ?_, fun g => ?_⟩
    · rw [la_nx]
      refine hQ l2 g2 (fun w y hw hy => ?_)
      rw [z2 w y hw hy]
      by_cases q : cx_ A g t u = w
      · rw [if_pos ⟨q, by omega⟩, if_pos q]
      · rw [if_neg (fun h => q h.1), if_neg q]
    · simp (disch := omega) only [r1, ↓nn_m3, nn_p0, nn_p1, nn_p2, nn_p3, nn_p4, nn_p5, nn_p6, nn_p7, nn_p8, nn_p9, nn_p10, nn_p20, nn_p21, nn_le, nn_lt, nn_eq, nn_cl, nn_in, nn_add, nn_mul, nn_en, nn_ne, nn_mn, nn_64] at g
      omega
  | succ n ih =>
    intro e l2 he g2 z2
    refine tMX12_layByWeight_102 (n_a2 := 7) kd_244 ⟨fun g => ?_, fun _ => ?_⟩
    · simp (disch := omega) only [r1, ↓nn_m3, nn_p0, nn_p1, nn_p2, nn_p3, nn_p4, nn_p5, nn_p6, nn_p7, nn_p8, nn_p9, nn_p10, nn_p20, nn_p21, nn_le, nn_lt, nn_eq, nn_cl, nn_in, nn_add, nn_mul, nn_en, nn_ne, nn_mn, nn_64] at g
      omega
    · rw [nn_p3, nn_mul, nn_mul, nn_add, nn_add, nn_cl (by omega), nn_cl (by omega), g2 241 (by omega), h241 e (by omega), z2 (cx_ A g t u) e (by omega) (by omega), if_neg (fun h => Nat.lt_irrefl e h.2), Nat.add_zero, nl_add, la_nx]
      refine ⟨la_vp (by omega) (by omega), la_vp (by omega) (by omega), la_vp (by omega) (by omega), ?_⟩
      rintro l3 rfl
      refine ih (e + 1) _ (by omega) (fr_u g2 (by omega)) (fun w y hw hy => ?_)
      by_cases q : cx_ A g t u = w ∧ y = e
      · obtain ⟨q1, rfl⟩ := q
        rw [q1, uu_e, if_pos ⟨rfl, by omega⟩]
      · rw [uu_j (by omega), z2 w y hw hy]
        by_cases q2 : cx_ A g t u = w ∧ y < e
        · rw [if_pos q2, if_pos ⟨q2.1, by omega⟩]
        · rw [if_neg q2, if_neg (by omega)]
theorem lv_62 {A : mA_} {g : Nat → Nat} {t u : Nat} (hW : mt_W A) (h244 : ∀ v, v < aV_ A → i 244 v = Int32.ofNat (g v)) (hM : mt_M A i l) (hu : u < 4 ^ aV_ A) (ht : t < aT_ A) {Q : ab_Qt} (hQ : ab_Fr MX12_layByWeight (d + 1) Q 102 [some (.ref 205), some (.int (Int32.ofNat t)), some (.ref 244), none, some (.int (Int32.ofNat u)), some (.int (Int32.ofNat (cx_ A g t u))), some (.int (Int32.ofNat 0))] [] (0, 0) (i, l, dd, x) (ab_E0 sc)) :
    ∀ n v : Nat, aV_ A = v + n → ab_Fr MX12_layByWeight (d + 1) Q 62 [some (.ref 205), some (.int (Int32.ofNat t)), some (.ref 244), none, some (.int (Int32.ofNat u)), some (.int (Int32.ofNat (pu_s (fun v => if u / 4 ^ v % 4 = t then g v else 0) v))), some (.int (Int32.ofNat v))] [] (0, 0) (i, l, dd, x) (ab_E0 sc) := by
  intro n
  have w1 := hW.1
  have w2 := hW.2.1
  have h7 := cd_7 w2
  have r2 := hM.1.2.1
  induction n with
  | zero =>
    intro v hv
    refine tMX12_layByWeight_62 (n_a2 := 7) kd_244 ⟨fun _ => ?_, fun g => ?_⟩
    · rw [show v = aV_ A by omega]
      exact hQ
    · simp (disch := omega) only [r2, ↓nn_m3, nn_p0, nn_p1, nn_p2, nn_p3, nn_p4, nn_p5, nn_p6, nn_p7, nn_p8, nn_p9, nn_p10, nn_p20, nn_p21, nn_le, nn_lt, nn_eq, nn_cl, nn_in, nn_add, nn_mul, nn_en, nn_ne, nn_mn, nn_64] at g
      omega
  | succ n ih =>
    intro v hv
    have ih2 := ih (v + 1) (by omega)
    have es : pu_s (fun v => if u / 4 ^ v % 4 = t then g v else 0) (v + 1) = pu_s (fun v => if u / 4 ^ v % 4 = t then g v else 0) v + (if u / 4 ^ v % 4 = t then g v else 0) := rfl
    have hm4 := Nat.mod_lt (u / 4 ^ v) (show 0 < 4 by omega)
    refine tMX12_layByWeight_62 (n_a2 := 7) kd_244 ⟨fun g => ?_, fun _ => ?_⟩
    · simp (disch := omega) only [r2, ↓nn_m3, nn_p0, nn_p1, nn_p2, nn_p3, nn_p4, nn_p5, nn_p6, nn_p7, nn_p8, nn_p9, nn_p10, nn_p20, nn_p21, nn_le, nn_lt, nn_eq, nn_cl, nn_in, nn_add, nn_mul, nn_en, nn_ne, nn_mn, nn_64] at g
      omega
    · rw [cd_dg (by omega) (by omega), nn_eq (by omega) (by omega)]
      refine ⟨fun c => ?_, fun c => ⟨la_vp (by omega) (by omega), ?_⟩⟩
      · rw [es, if_neg c, Nat.add_zero] at ih2
        rw [la_nx]
        exact ih2
      · rw [es, if_pos c] at ih2
        rw [nn_cl (by omega), h244 v (by omega), nn_add, la_nx]
        exact ih2
theorem lv_30 {A : mA_} {g : Nat → Nat} {t : Nat} (hW : mt_W A) (hB : ∀ u, cx_ A g t u ≤ 15) (h244 : ∀ v, v < aV_ A → i 244 v = Int32.ofNat (g v)) {l0 : Nat → Nat → Int64} (hM : mt_M A i l0) (ht : t < aT_ A) (h242 : ∀ u, u < 4 ^ aV_ A → i 242 u = if (∃ r, r < mt_rad (aS_ A) (aV_ A) ∧ cd_r A (pu_g (aS_ A) (aV_ A) r) = u) then 1 else 0) (h241 : ∀ u e, u < 4 ^ aV_ A → e < aT_ A → l0 241 (3 * u + e) = Int64.ofNat (bv_ A u e)) {Q : ab_Qt} (hQ : ∀ l2, fr_o 243 243 l0 l2 → (∀ w e, w < 16 → e < aT_ A → l2 243 (3 * w + e) = Int64.ofNat (bx_ A g t w e)) → Q (some none) (i, l2, dd, x) (ab_E0 sc)) :
    ∀ (n u : Nat) (l2 : Nat → Nat → Int64), 4 ^ aV_ A = u + n → fr_o 243 243 l0 l2 → (∀ w e, w < 16 → e < aT_ A → l2 243 (3 * w + e) = Int64.ofNat (bx_u A g t w e u)) → ab_Fr MX12_layByWeight (d + 1) Q 30 [some (.ref 205), some (.int (Int32.ofNat t)), some (.ref 244), none, some (.int (Int32.ofNat u)), none, none] [] (0, 0) (i, l2, dd, x) (ab_E0 sc) := by
  intro n
  have w2 := hW.2.1
  have h7 := cd_7 w2
  have r2 := hM.1.2.1
  induction n with
  | zero =>
    intro u l2 hu g2 z2
    refine tMX12_layByWeight_30 (n_a2 := 7) kd_244 ⟨fun _ => hQ l2 g2 (fun w e hw he => ?_), fun g => ?_⟩
    · rw [z2 w e hw he, show u = 4 ^ aV_ A by omega]
      rfl
    · rw [r2, cd_sh w2, nn_le (by omega) (by omega)] at g
      omega
  | succ n ih =>
    intro u l2 hu g2 z2
    have es : ∀ w e, bx_u A g t w e (u + 1) = bx_u A g t w e u + (if cx_ A g t u = w then bv_ A u e else 0) := fun _ _ => rfl
    refine tMX12_layByWeight_30 (n_a2 := 7) kd_244 ⟨fun g => ?_, fun _ => ⟨la_vp (by omega) (by omega), ?_⟩⟩
    · rw [r2, cd_sh w2, nn_le (by omega) (by omega)] at g
      omega
    · rw [nn_cl (by omega), h242 u (by omega)]
      by_cases c : ∃ r, r < mt_rad (aS_ A) (aV_ A) ∧ cd_r A (pu_g (aS_ A) (aV_ A) r) = u
      · rw [if_pos c]
        refine ⟨fun _ => ?_, fun z => absurd z (by decide)⟩
        have hM2 : mt_M A i l2 := mt_M_fr hM (fun _ _ _ => rfl) (fun _ _ _ => rfl) (fun _ _ => rfl) (g2 224 (by omega)) hW
        refine lv_62 (d := d) hW h244 hM2 (by omega) ht ?_ _ 0 (Nat.zero_add _).symm
        refine lv_102 (d := d) (Z := fun w e => bx_u A g t w e u) (l0 := l2) hW hB hM2 (by omega) (fun e he => by rw [g2 241 (by omega)]; exact h241 u e (by omega) he) z2 (fun l3 g3 z3 => ih (u + 1) l3 (by omega) (fr_t g2 g3) (fun w e hw he => ?_)) _ 0 l2 (Nat.zero_add _).symm fr_r (fun w y hw hy => ?_)
        · rw [z3 w e hw he, es]
        · rw [z2 w y hw hy, if_neg (fun h => Nat.not_lt_zero y h.2), Nat.add_zero]
      · rw [if_neg c]
        refine ⟨fun z => absurd rfl z, fun _ => ?_⟩
        rw [la_nx]
        refine ih (u + 1) l2 (by omega) g2 (fun w e hw he => ?_)
        rw [z2 w e hw he, es, bv_0 hW c]
        by_cases q : cx_ A g t u = w
        · rw [if_pos q, Nat.add_zero]
        · rw [if_neg q, Nat.add_zero]
theorem md_byW15 {A : mA_} {g : Nat → Nat} {t : Nat} (hW : mt_W A) (hB : ∀ u, cx_ A g t u ≤ 15) (h244 : ∀ v, v < aV_ A → i 244 v = Int32.ofNat (g v)) (hM : mt_M A i l) (ht : t < aT_ A) (h242 : ∀ u, u < 4 ^ aV_ A → i 242 u = if (∃ r, r < mt_rad (aS_ A) (aV_ A) ∧ cd_r A (pu_g (aS_ A) (aV_ A) r) = u) then 1 else 0) (h241 : ∀ u e, u < 4 ^ aV_ A → e < aT_ A → l 241 (3 * u + e) = Int64.ofNat (bv_ A u e)) : ab_Sp MX12_layByWeight (d + 1) [.ref 205, .int (Int32.ofNat t), .ref 244, .int 15] (i, l, dd, x) (ab_E0 sc) none (fun σ => ∃ l2, σ = (i, l2, dd, x) ∧ fr_o 243 243 l l2 ∧ ∀ w e, w < 16 → e < aT_ A → l2 243 (3 * w + e) = Int64.ofNat (bx_ A g t w e)) := by
  have w1 := hW.1
  refine ab_ent (n := 3) okMX12_layByWeight.1 (fun G => Nat.le_of_ble_eq_true rfl) (fun Q hQ => ?_)
  refine tMX12_layByWeight_0 (n_a2 := 7) kd_244 ?_
  have e48 : (3 : Int32) * (15 + 1) = Int32.ofNat 48 := by decide
  have go : ∀ (r k : Nat) (l2 : Nat → Nat → Int64), 48 = k + r → fr_o 243 243 l l2 → (∀ j, j < k → l2 243 j = 0) → ab_Fr MX12_layByWeight (d + 1) Q 3 [some (.ref 205), some (.int (Int32.ofNat t)), some (.ref 244), some (.int 15), some (.int (Int32.ofNat k)), none, none] [] (0, 0) (i, l2, dd, x) (ab_E0 sc) := by
    intro r
    induction r with
    | zero =>
      intro k l2 hk g2 z2
      refine tMX12_layByWeight_3 (n_a2 := 7) kd_244 ⟨fun _ => ?_, fun c => ?_⟩
      · have hM2 : mt_M A i l2 := mt_M_fr hM (fun _ _ _ => rfl) (fun _ _ _ => rfl) (fun _ _ => rfl) (g2 224 (by omega)) hW
        exact lv_30 (d := d) (l0 := l2) hW hB h244 hM2 ht h242 (fun u e hu he => by rw [g2 241 (by omega)]; exact h241 u e hu he) (fun l3 g3 z3 => hQ _ ⟨l3, rfl, fr_t g2 g3, z3⟩) _ 0 l2 (Nat.zero_add _).symm fr_r (fun w e hw he => z2 _ (by omega))
      · rw [e48, nn_le (by omega) (by omega)] at c
        omega
    | succ r ih =>
      intro k l2 hk g2 z2
      refine tMX12_layByWeight_3 (n_a2 := 7) kd_244 ⟨fun c => ?_, fun _ => ⟨la_vp (by omega) (by omega), ?_⟩⟩
      · rw [e48, nn_le (by omega) (by omega)] at c
        omega
      · rintro l3 rfl
        rw [nn_cl (by omega), la_nx]
        refine ih (k + 1) _ (by omega) (fr_u g2 (by omega)) (fun j hj => ?_)
        by_cases q : j = k
        · rw [q]
          exact uu_e
        · rw [uu_j q]
          exact z2 j (by omega)
  exact go 48 0 l rfl fr_r (fun j hj => absurd hj (Nat.not_lt_zero j))
def lz_ (A : mA_) (g : Nat → Nat) (t e n k : Nat) : Nat := pu_s (fun w => if w < n then bx_ A g t w e else bx_ A g t w t) k
theorem lz_16 {A : mA_} {g : Nat → Nat} {t e n : Nat} (hB : ∀ u, cx_ A g t u ≤ 15) : lz_ A g t e n 16 = lx_ A g t e n := lx_m hB
theorem md_lost15 {A : mA_} {g : Nat → Nat} {t e n : Nat} (hB : ∀ u, cx_ A g t u ≤ 15) (hT : aT_ A ≤ 3) (ht : t < aT_ A) (he : e < aT_ A) (hn : n < 2 ^ 20) (h243 : ∀ w e, w < 16 → e < aT_ A → l 243 (3 * w + e) = Int64.ofNat (bx_ A g t w e)) : ab_Sp MX12_lostByNeed (d + 1) [.ref 205, .int (Int32.ofNat n), .int (Int32.ofNat t), .int (Int32.ofNat e), .int 15] (i, l, dd, x) (ab_E0 sc) (some (.long (Int64.ofNat (lx_ A g t e n)))) (fun σ => σ = (i, l, dd, x)) := by
  refine ab_ent (n := 4) okMX12_lostByNeed.1 (fun G => Nat.le_of_ble_eq_true rfl) (fun Q hQ => ?_)
  refine tMX12_lostByNeed_0 ?_
  have go : ∀ r w : Nat, 16 = w + r → ab_Fr MX12_lostByNeed (d + 1) Q 6 [some (.ref 205), some (.int (Int32.ofNat n)), some (.int (Int32.ofNat t)), some (.int (Int32.ofNat e)), some (.int 15), some (.long (Int64.ofNat (lz_ A g t e n w))), none, some (.int (Int32.ofNat w))] [] (0, 0) (i, l, dd, x) (ab_E0 sc) := by
    intro r
    induction r with
    | zero =>
      intro w hw
      refine tMX12_lostByNeed_6 ⟨fun _ => ?_, fun c => ?_⟩
      · rw [show w = 16 by omega, lz_16 hB]
        exact hQ _ rfl
      · rw [show (15 : Int32) = Int32.ofNat 15 from rfl, nn_lt (by omega) (by omega)] at c
        omega
    | succ r ih =>
      intro w hw
      have ih2 := ih (w + 1) (by omega)
      have es : lz_ A g t e n (w + 1) = lz_ A g t e n w + (if w < n then bx_ A g t w e else bx_ A g t w t) := rfl
      rw [es] at ih2
      refine tMX12_lostByNeed_6 ⟨fun c => ?_, fun _ => ?_⟩
      · rw [show (15 : Int32) = Int32.ofNat 15 from rfl, nn_lt (by omega) (by omega)] at c
        omega
      · rw [nn_lt (by omega) (by omega), nn_p3, nn_mul, nn_add, nn_add, nn_cl (by omega), nn_cl (by omega), h243 w e (by omega) he, h243 w t (by omega) ht, nl_add, nl_add, la_nx]
        refine ⟨fun c => ⟨la_vp (by omega) (by omega), ?_⟩, fun c => ⟨la_vp (by omega) (by omega), ?_⟩⟩
        · rw [if_pos c] at ih2
          exact ih2
        · rw [if_neg c] at ih2
          exact ih2
  exact go 16 0 rfl
end TQN3
