/-! bar: the model's layByWeight, whole -/
section TQI3
variable {d : Nat} {sc : Nat × (Nat → Int32)} {i : Nat → Nat → Int32} {l : Nat → Nat → Int64} {dd : Nat → Nat → Value} {x : Nat}
theorem lw_30 {A : mA_} {t : Nat} (hW : mt_W A) {l0 : Nat → Nat → Int64} (hM : mt_M A i l0) (ht : t < aT_ A) (h242 : ∀ u, u < 4 ^ aV_ A → i 242 u = if (∃ r, r < mt_rad (aS_ A) (aV_ A) ∧ cd_r A (pu_g (aS_ A) (aV_ A) r) = u) then 1 else 0) (h241 : ∀ u e, u < 4 ^ aV_ A → e < aT_ A → l0 241 (3 * u + e) = Int64.ofNat (bv_ A u e)) {Q : ab_Qt} (hQ : ∀ l2, fr_o 243 243 l0 l2 → (∀ w e, w < 82 → e < aT_ A → l2 243 (3 * w + e) = Int64.ofNat (bw_ A t w e)) → Q (some none) (i, l2, dd, x) (ab_E0 sc)) :
    ∀ (n u : Nat) (l2 : Nat → Nat → Int64), 4 ^ aV_ A = u + n → fr_o 243 243 l0 l2 → (∀ w e, w < 82 → e < aT_ A → l2 243 (3 * w + e) = Int64.ofNat (bw_u A t w e u)) → ab_Fr MX12_layByWeight (d + 1) Q 30 [some (.ref 205), some (.int (Int32.ofNat t)), some (.ref 218), none, some (.int (Int32.ofNat u)), none, none] [] (0, 0) (i, l2, dd, x) (ab_E0 sc) := by
  intro n
  have w2 := hW.2.1
  have h7 := cd_7 w2
  have r2 := hM.1.2.1
  induction n with
  | zero =>
    intro u l2 hu g2 z2
    refine tMX12_layByWeight_30 (n_a2 := 14) kd_218 ⟨fun _ => hQ l2 g2 (fun w e hw he => ?_), fun g => ?_⟩
    · rw [z2 w e hw he, show u = 4 ^ aV_ A by omega]
      rfl
    · rw [r2, cd_sh w2, nn_le (by omega) (by omega)] at g
      omega
  | succ n ih =>
    intro u l2 hu g2 z2
    have es : ∀ w e, bw_u A t w e (u + 1) = bw_u A t w e u + (if cw_ A t u = w then bv_ A u e else 0) := fun _ _ => rfl
    refine tMX12_layByWeight_30 (n_a2 := 14) kd_218 ⟨fun g => ?_, fun _ => ⟨la_vp (by omega) (by omega), ?_⟩⟩
    · rw [r2, cd_sh w2, nn_le (by omega) (by omega)] at g
      omega
    · rw [nn_cl (by omega), h242 u (by omega)]
      by_cases c : ∃ r, r < mt_rad (aS_ A) (aV_ A) ∧ cd_r A (pu_g (aS_ A) (aV_ A) r) = u
      · rw [if_pos c]
        refine ⟨fun _ => ?_, fun z => absurd z (by decide)⟩
        have hM2 : mt_M A i l2 := mt_M_fr hM (fun _ _ _ => rfl) (fun _ _ _ => rfl) (fun _ _ => rfl) (g2 224 (by omega)) hW
        refine lw_62 (d := d) hW hM2 (by omega) ht ?_ _ 0 (Nat.zero_add _).symm
        refine lw_102 (d := d) (Z := fun w e => bw_u A t w e u) (l0 := l2) hW hM2 (by omega) (fun e he => by rw [g2 241 (by omega)]; exact h241 u e (by omega) he) z2 (fun l3 g3 z3 => ih (u + 1) l3 (by omega) (fr_t g2 g3) (fun w e hw he => ?_)) _ 0 l2 (Nat.zero_add _).symm fr_r (fun w y hw hy => ?_)
        · rw [z3 w e hw he, es]
        · rw [z2 w y hw hy, if_neg (fun h => Nat.not_lt_zero y h.2), Nat.add_zero]
      · rw [if_neg c]
        refine ⟨fun z => absurd rfl z, fun _ => ?_⟩
        rw [la_nx]
        refine ih (u + 1) l2 (by omega) g2 (fun w e hw he => ?_)
        rw [z2 w e hw he, es, bv_0 hW c]
        by_cases q : cw_ A t u = w
        · rw [if_pos q, Nat.add_zero]
        · rw [if_neg q, Nat.add_zero]
theorem md_byWeight {A : mA_} {t : Nat} (hW : mt_W A) (hM : mt_M A i l) (ht : t < aT_ A) (h242 : ∀ u, u < 4 ^ aV_ A → i 242 u = if (∃ r, r < mt_rad (aS_ A) (aV_ A) ∧ cd_r A (pu_g (aS_ A) (aV_ A) r) = u) then 1 else 0) (h241 : ∀ u e, u < 4 ^ aV_ A → e < aT_ A → l 241 (3 * u + e) = Int64.ofNat (bv_ A u e)) : ab_Sp MX12_layByWeight (d + 1) [.ref 205, .int (Int32.ofNat t), .ref 218, .int 81] (i, l, dd, x) (ab_E0 sc) none (fun σ => ∃ l2, σ = (i, l2, dd, x) ∧ fr_o 243 243 l l2 ∧ ∀ w e, w < 82 → e < aT_ A → l2 243 (3 * w + e) = Int64.ofNat (bw_ A t w e)) := by
  have w1 := hW.1
  refine ab_ent (n := 3) okMX12_layByWeight.1 (fun G => Nat.le_of_ble_eq_true rfl) (fun Q hQ => ?_)
  refine tMX12_layByWeight_0 (n_a2 := 14) kd_218 ?_
  have e246 : (3 : Int32) * (81 + 1) = Int32.ofNat 246 := by decide
  have go : ∀ (r k : Nat) (l2 : Nat → Nat → Int64), 246 = k + r → fr_o 243 243 l l2 → (∀ j, j < k → l2 243 j = 0) → ab_Fr MX12_layByWeight (d + 1) Q 3 [some (.ref 205), some (.int (Int32.ofNat t)), some (.ref 218), some (.int 81), some (.int (Int32.ofNat k)), none, none] [] (0, 0) (i, l2, dd, x) (ab_E0 sc) := by
    intro r
    induction r with
    | zero =>
      intro k l2 hk g2 z2
      refine tMX12_layByWeight_3 (n_a2 := 14) kd_218 ⟨fun _ => ?_, fun c => ?_⟩
      · have hM2 : mt_M A i l2 := mt_M_fr hM (fun _ _ _ => rfl) (fun _ _ _ => rfl) (fun _ _ => rfl) (g2 224 (by omega)) hW
        exact lw_30 (d := d) (l0 := l2) hW hM2 ht h242 (fun u e hu he => by rw [g2 241 (by omega)]; exact h241 u e hu he) (fun l3 g3 z3 => hQ _ ⟨l3, rfl, fr_t g2 g3, z3⟩) _ 0 l2 (Nat.zero_add _).symm fr_r (fun w e hw he => z2 _ (by omega))
      · rw [e246, nn_le (by omega) (by omega)] at c
        omega
    | succ r ih =>
      intro k l2 hk g2 z2
      refine tMX12_layByWeight_3 (n_a2 := 14) kd_218 ⟨fun c => ?_, fun _ => ⟨la_vp (by omega) (by omega), ?_⟩⟩
      · rw [e246, nn_le (by omega) (by omega)] at c
        omega
      · rintro l3 rfl
        rw [nn_cl (by omega), la_nx]
        refine ih (k + 1) _ (by omega) (fr_u g2 (by omega)) (fun j hj => ?_)
        by_cases q : j = k
        · rw [q]
          exact uu_e
        · rw [uu_j q]
          exact z2 j (by omega)
  exact go 246 0 l rfl fr_r (fun j hj => absurd hj (Nat.not_lt_zero j))
end TQI3
