/-! the call weighed -/
theorem wF_ex {A : mA_} : ∀ N, (∃ n, n < N ∧ wd_ A n) → ∃ x a, wF_ A N x a := by
  intro N
  induction N with
  | zero => rintro ⟨n, h, _⟩; exact absurd h (Nat.not_lt_zero n)
  | succ N ih =>
    intro h
    by_cases c : ∃ n, n < N ∧ wd_ A n
    · obtain ⟨x, a, hF⟩ := ih c
      by_cases c2 : wd_ A N
      · by_cases c3 : wv_ A N < x
        · exact ⟨_, _, wF_ye hF c2 c3⟩
        · exact ⟨_, _, wF_no hF c3⟩
      · exact ⟨_, _, wF_sk hF (Nat.le_succ N) (fun n h1 h2 => by rw [show n = N by omega]; exact c2)⟩
    · obtain ⟨n, h1, h2⟩ := h
      have e : n = N := by
        by_cases c2 : n < N
        · exact absurd ⟨n, c2, h2⟩ c
        · omega
      rw [e] at h2
      exact ⟨_, _, wF_1 (fun n h3 h4 => c ⟨n, h3, h4⟩) h2⟩
/-- stores that differ at the places of K alone -/
def up_E (K : Nat → Nat → Bool) (τ τ2 : ab_S) : Prop := (∀ k j, K k j = false → τ2.1 k j = τ.1 k j) ∧ (∀ k j, K k j = false → τ2.2.1 k j = τ.2.1 k j) ∧ ∀ k j, K k j = false → τ2.2.2.1 k j = τ.2.2.1 k j
section TQT3
variable {d : Nat} {sc : Nat × (Nat → Int32)} {i : Nat → Nat → Int32} {l : Nat → Nat → Int64} {dd : Nat → Nat → Value} {x : Nat}
theorem la_up {R : ab_S → Prop} {K : Nat → Nat → Bool} {i2 : Nat → Nat → Int32} {l2 : Nat → Nat → Int64} {d2 : Nat → Nat → Value} {x2 : Nat} (hI : la_I R (i, l, dd, x)) (hC : ∀ τ2, up_E K (la_mask (i, l, dd, x)) τ2 → τ2 = la_mask (i2, l2, d2, x2) → R τ2) (h1 : ∀ k j, la_ws k j = false → K k j = false → i2 k j = i k j) (h4 : i2 5 = i 5 ∧ i2 206 = i 206 ∧ i2 4 1 = i 4 1 ∧ i2 205 2 = i 205 2) (h2 : ∀ k j, la_ws k j = false → K k j = false → l2 k j = l k j) (h3 : ∀ k j, la_ws k j = false → K k j = false → d2 k j = dd k j) (hv : la_Iv d2) : la_I R (i2, l2, d2, x2) := by
  refine ⟨?_, hv, hC _ ⟨fun k j a => ?_, fun k j a => ?_, fun k j a => ?_⟩ rfl⟩
  · have ht := hI.1
    unfold la_It at ht ⊢
    dsimp only at ht ⊢
    rw [h4.1, h4.2.1, h4.2.2.1, h4.2.2.2]
    exact ht
  · show (if la_ws k j then 0 else i2 k j) = (if la_ws k j then 0 else i k j)
    cases e : la_ws k j with
    | true => rfl
    | false => rw [if_neg (by decide), if_neg (by decide), h1 k j e a]
  · show (if la_ws k j then 0 else l2 k j) = (if la_ws k j then 0 else l k j)
    cases e : la_ws k j with
    | true => rfl
    | false => rw [if_neg (by decide), if_neg (by decide), h2 k j e a]
  · show (if la_ws k j then .null else d2 k j) = (if la_ws k j then .null else dd k j)
    cases e : la_ws k j with
    | true => rfl
    | false => rw [if_neg (by decide), if_neg (by decide), h3 k j e a]
theorem mt_weighA {A : mA_} {m y a : Nat} (hW : mt_W A) (hp : 0 < aV_ A) (hV : aV_ A ≤ 5) (hm : ab_isM m) (hK : mt_K A m i) (h0 : i 195 0 = 0) (hF : wF_ A (4 ^ aV_ A * 144) y a) : ab_Sp MX5_weighAll (d + 5) [.ref 191, .ref m] (i, l, dd, x) (ab_E0 sc) (some (.long (Int64.ofNat y))) (fun σ => ∃ i2 l2, σ = (i2, l2, ab_u dd 160 0 (.ref m), x) ∧ (∀ k, (k < 161 ∨ (168 < k ∧ k < 195) ∨ 198 < k) → i2 k = i k) ∧ i2 195 0 = 0 ∧ (∀ k j, k ≠ 165 → k ≠ 194 → k ≠ 196 → ¬ (k = 191 ∧ j = 8) → l2 k j = l k j) ∧ wk_ A a i2) := by
  have w1 := hW.1
  have w2 := hW.2.1
  have h7 := cd_7 w2
  have h4 : 0 < 4 ^ aV_ A := Nat.pow_pos (by omega)
  have hw : ∀ q v, wt_ (aV_ A) q v ≤ 3 := fun _ _ => wt_4
  refine ab_ent (n := 1) okMX5_weighAll.1 (fun G => Nat.le_of_ble_eq_true rfl) (fun Q hQ => ?_)
  refine tMX5_weighAll_0 (d := d + 4) hm ⟨_, mt_sortV (d := d) hW hp hV hm hK, ?_⟩
  rintro i5 l6 dd7 x8 ⟨i2, l2, ⟨⟩, k2, f2, h2, z2⟩
  rintro l10 rfl
  have hK5 := mt_K_kp hW hm hK k2
  rw [hK5.1.2, cd_sh w2]
  have go : ∀ (n q : Nat) (i3 : Nat → Nat → Int32) (l3 : Nat → Nat → Int64), 4 ^ aV_ A = q + n → fr_o 195 198 i5 i3 → i3 195 0 = 0 → (∀ k j, k ≠ 196 → ¬ (k = 191 ∧ j = 8) → l3 k j = l6 k j) → wC_ A (q * 144) i3 l3 → ab_Fr MX5_weighAll (d + 5) Q 23 [some (.ref 191), some (.ref m), some (.int (Int32.ofNat (4 ^ aV_ A))), some (.int (Int32.ofNat q))] [] (0, 0) (i3, l3, ab_u dd 160 0 (.ref m), x) (ab_E0 sc) := by
    intro n
    induction n with
    | zero =>
      intro q i3 l3 hq g3 z3 e3 c3
      refine tMX5_weighAll_23 (d := d + 4) hm ⟨fun _ => ?_, fun c => ?_⟩
      · rw [show q * 144 = 4 ^ aV_ A * 144 by omega] at c3
        rcases c3 with ⟨c4, _⟩ | ⟨y2, a2, c4, c5, c6⟩
        · exact absurd hF.2.1 (c4 a hF.1)
        · obtain ⟨rfl, rfl⟩ := wF_u c4 hF
          rw [c5]
          exact hQ _ ⟨i3, l3, rfl, fun k hk => (g3 k (by omega)).trans (f2 k (by omega)), z3, fun k j b1 b2 b3 b4 => (e3 k j b3 b4).trans (congrFun (h2 k b1 b2) j), c6⟩
      · rw [nn_le (by omega) (by omega)] at c
        omega
    | succ n ih =>
      intro q i3 l3 hq g3 z3 e3 c3
      have hK3 : mt_K A m i3 := mt_K_o hm hK5 g3 (by omega) hW
      refine tMX5_weighAll_23 (d := d + 4) hm ⟨fun c => ?_, fun _ => ?_⟩
      · rw [nn_le (by omega) (by omega)] at c
        omega
      · rw [hK3.1.2]
        refine ⟨_, mt_takeW (d := d + 3) hV (show q < 4 ^ aV_ A by omega) z3, ?_⟩
        rintro i6 l7 dd8 x9 ⟨i4, ⟨⟩, g4, v4, z4⟩
        have o4 : fr_o 195 198 i3 i6 := fun k hk => g4 k (by omega) (by omega)
        have hK4 : mt_K A m i6 := mt_K_o hm hK3 o4 (by omega) hW
        refine ⟨_, mt_addW (d := d + 2) (g := wt_ (aV_ A) q) hW hV (hw q) hm hK4 (fun y u e hy hu he => by rw [e3 194 _ (by omega) (by omega)]; exact z2 y u e hy hu he) z4, ?_⟩
        rintro i15 l16 dd17 x18 ⟨l5, ⟨⟩, g5, z5⟩
        have c4 : wC_ A (q * 144) i6 l16 := by
          unfold wC_ wk_
          rw [g5 191 (by omega), g4 198 (by omega) (by omega)]
          exact c3
        refine ⟨_, mt_tryN (d := d + 2) (q := q) hW hV hm hK4 z5 v4 c4, ?_⟩
        rintro i24 l25 dd26 x27 ⟨i7, l8, ⟨⟩, g8, c8⟩
        rw [la_nx]
        refine ih (q + 1) _ _ (by omega) (fr_t g3 (fr_t o4 (fr_w g8.1 (by omega)))) ?_ (fun k j b1 b2 => ?_) c8
        · rw [g8.1 195 (by omega), z4 0 (Nat.pow_pos (by omega)), sm_0]
          rfl
        · rw [g8.2 k j b2, g5 k (by omega), e3 k j b1 b2]
  refine go _ 0 i5 _ (Nat.zero_add _).symm fr_r (by rw [f2 195 (by omega)]; exact h0) (fun k j b1 b2 => if_neg b2) (Or.inl ⟨fun n hn => by omega, uu_e⟩)
def wg_B (k j : Nat) : Bool := k == 198 || k == 245 || (k == 205 && j == 64)
def wg_K (τ : ab_S) : Prop := (τ.1 205 64).toInt ≤ 5 ∧ ∀ v : Nat, v < 8 → τ.1 198 v = if 0 < (τ.1 205 64).toInt ∧ ((v : Int) < (τ.1 205 64).toInt ∨ 5 ≤ v) then τ.1 245 v else -1
theorem op_weighed {R : ab_S → Prop} {A : mA_} (hA : op_A R A) (hS : ∀ τ, R τ → τ.1 195 0 = 0) (hC : ∀ τ τ2, R τ → up_E wg_B τ τ2 → wg_K τ2 → R τ2) : la_c37 1310 sc (la_I R) := by
  rintro ⟨i, l, dd, x⟩ hI
  obtain ⟨hW, hA2⟩ := hA
  have w1 := hW.1
  have w2 := hW.2.1
  obtain ⟨m, e0, hm, hK, hM⟩ := hA2 _ _ _ _ hI
  have hz := mt_z30 hW hK
  have e5 : (5 : Int32) = Int32.ofNat 5 := rfl
  by_cases c : 0 < aV_ A ∧ aV_ A ≤ 5
  · obtain ⟨hp, hV⟩ := c
    have w4 := hW.2.2.2.1 hp
    have h4 : 0 < 4 ^ aV_ A := Nat.pow_pos (by omega)
    have h7 := cd_7 w2
    obtain ⟨y, a, hF⟩ := wF_ex (A := A) (4 ^ aV_ A * 144) ⟨10, by omega, by unfold wd_; omega⟩
    have h0 : i 195 0 = 0 := hS _ hI.2.2
    refine ⟨Int64.ofNat y, fun σ => ∃ i2 l2 x2, σ = (i2, l2, ab_u dd 160 0 (.ref m), x2) ∧ (∀ k, (k < 161 ∨ (168 < k ∧ k < 195) ∨ 198 < k) → i2 k = i k) ∧ i2 195 0 = 0 ∧ (∀ k j, k ≠ 165 → k ≠ 194 → k ≠ 196 → ¬ (k = 191 ∧ j = 8) → l2 k j = l k j) ∧ wk_ A a i2, ?_, ?_⟩
    · refine ab_ent (n := 0) okMX11_weighed.1 (fun G => Nat.le_of_ble_eq_true rfl) (fun Q hQ => ?_)
      refine tMX11_weighed_0 (d := 1310) ⟨m, e0, hm, _, _, mt_empty (d := 1309) hm, ?_⟩
      rintro i5 l6 dd7 x8 ⟨⟩
      rw [if_neg (fun z => by rw [hz] at z; omega)]
      refine ⟨fun z => absurd rfl z, fun _ => ⟨m, e0, hm, fun _ => ⟨_, _, mt_weighA (d := 1305) hW hp hV hm hK h0 hF, ?_⟩, fun z => ?_⟩⟩
      · rintro i5 l6 dd7 x8 ⟨i2, l2, ⟨⟩, h⟩
        exact hQ _ ⟨_, _, _, rfl, h⟩
      · rw [hK.1.2, e5, nn_le (by omega) (by omega)] at z
        omega
    · rintro σ1 ⟨i1, l1, x1, rfl, k1, s1, g1, c1⟩
      have hM1 : mt_M A (ab_u i1 205 0 0) l1 := mt_M_fr hM (fun j h1 h2 => by rw [uu_j (by omega), k1 205 (by omega)]) (fun k h1 h2 => by rw [uu_f (by omega), k1 k (by omega)]) (fun j hj => by rw [uu_k (by omega), k1 225 (by omega)]) (funext fun j => g1 224 j (by omega) (by omega) (by omega) (by omega)) hW
      refine ab_ent (n := 0) okMX12_weighed.1 (fun G => Nat.le_of_ble_eq_true rfl) (fun Q hQ => ?_)
      refine tMX12_weighed_0 (d := 1310) ?_
      rintro i3 rfl
      rw [hM1.1.2.1, nn_p0, nn_eq (by omega) (by omega)]
      refine ⟨fun z => by omega, fun _ => ⟨fun _ => ⟨_, md_byVotes (d := 1307) hW (by omega) hM1, ?_⟩, fun z => ?_⟩⟩
      · rintro i5 l6 dd7 x8 ⟨i4, l4, ⟨⟩, o4, f4, z4⟩
        refine mq_34 (d := 1309) (i0 := i5) (l0 := l6) hW hp hV hF (bv_M hW hM1 o4) f4 z4 (fun i6 l7 g6 t6 => hQ _ ?_) _ 0 _ i5 l6 (Nat.zero_add _).symm ⟨fr_r, fr_r⟩ (Or.inl ⟨Nat.zero_mul _, rfl⟩)
        have hi : ∀ k, (k < 161 ∨ (168 < k ∧ k < 195) ∨ 198 < k) → k ≠ 205 → k ≠ 242 → k ≠ 244 → k ≠ 245 → ab_u i6 205 64 (Int32.ofNat (aV_ A)) k = i k := fun k b1 b2 b3 b4 b5 => by
          rw [uu_f b2, g6.1 k (by omega), o4.1 k (by omega), uu_f b2, k1 k b1]
        have hi5 : ∀ j, j ≠ 0 → j ≠ 64 → ab_u i6 205 64 (Int32.ofNat (aV_ A)) 205 j = i 205 j := fun j b1 b2 => by
          rw [uu_j b2, g6.1 205 (by omega), o4.1 205 (by omega), uu_j b1, k1 205 (by omega)]
        have h198 : ab_u i6 205 64 (Int32.ofNat (aV_ A)) 198 = i1 198 := by
          rw [uu_f (by omega), g6.1 198 (by omega), o4.1 198 (by omega), uu_f (by omega)]
        have h195 : ab_u i6 205 64 (Int32.ofNat (aV_ A)) 195 = i1 195 := by
          rw [uu_f (by omega), g6.1 195 (by omega), o4.1 195 (by omega), uu_f (by omega)]
        have kd := kp_160 (dd := dd) hm
        refine la_up (K := wg_B) hI (fun τ2 hE hτ => hC _ _ hI.2.2 hE ?_) (fun k j b1 b2 => ?_) ⟨hi 5 (by omega) (by omega) (by omega) (by omega) (by omega), hi 206 (by omega) (by omega) (by omega) (by omega) (by omega), by rw [hi 4 (by omega) (by omega) (by omega) (by omega) (by omega)], hi5 2 (by omega) (by omega)⟩ (fun k j b1 b2 => ?_) (fun k j b1 _ => kd.1 k j b1) (kd.2 hI.2.1)
        · rw [hτ]
          show (ab_u i6 205 64 (Int32.ofNat (aV_ A)) 205 64).toInt ≤ 5 ∧ ∀ v : Nat, v < 8 → ab_u i6 205 64 (Int32.ofNat (aV_ A)) 198 v = if 0 < (ab_u i6 205 64 (Int32.ofNat (aV_ A)) 205 64).toInt ∧ ((v : Int) < (ab_u i6 205 64 (Int32.ofNat (aV_ A)) 205 64).toInt ∨ 5 ≤ v) then ab_u i6 205 64 (Int32.ofNat (aV_ A)) 245 v else -1
          rw [h198, uu_e, la_nat (by omega), uu_f (show 245 ≠ 205 by omega)]
          refine ⟨by omega, fun v hv => ?_⟩
          obtain ⟨c2, c3, c4, c5⟩ := c1
          obtain ⟨t2, t3, t4, t5⟩ := t6
          rcases (show v < 5 ∨ v = 5 ∨ v = 6 ∨ v = 7 by omega) with q | rfl | rfl | rfl
          · rw [c2 v q]
            by_cases q2 : v < aV_ A
            · rw [if_pos q2, if_pos ⟨by omega, by omega⟩, t2 v q2]
            · rw [if_neg q2, if_neg (fun h => by omega)]
          · rw [c3, if_pos ⟨by omega, Or.inr (by omega)⟩, t3]
          · rw [c4, if_pos ⟨by omega, Or.inr (by omega)⟩, t4]
          · rw [c5, if_pos ⟨by omega, Or.inr (by omega)⟩, t5]
        · have nq : ∀ q, kp_s q = true → k ≠ q := fun q hq z => by
            rw [z, kp_sw hq] at b1
            cases b1
          by_cases q5 : k = 205
          · subst q5
            refine hi5 j (fun z => ?_) (fun z => ?_)
            · rw [z] at b1
              cases b1
            · rw [z] at b2
              cases b2
          · by_cases q6 : k = 195
            · subst q6
              rw [h195]
              have ej : j = 0 := by
                rcases Nat.eq_zero_or_pos j with q | q
                · exact q
                · exfalso
                  have : la_ws 195 j = true := by simp [la_ws]; omega
                  rw [this] at b1
                  cases b1
              rw [ej, s1, h0]
            · have q8 : k ≠ 198 := fun z => by rw [z] at b2; cases b2
              have q9 : k ≠ 245 := fun z => by rw [z] at b2; cases b2
              have n6 := nq 196 rfl
              have n7 := nq 197 rfl
              have n8 : ¬ (161 ≤ k ∧ k ≤ 168) := fun q => nq k (kp_c18 k q.1 q.2) rfl
              rw [hi k (by omega) q5 (nq 242 rfl) (nq 244 rfl) q9]
        · have nq : ∀ q, kp_s q = true → k ≠ q := fun q hq z => by
            rw [z, kp_sw hq] at b1
            cases b1
          rw [g6.2 k (by have := nq 243 rfl; omega), o4.2 k (by have := nq 241 rfl; omega)]
          refine g1 k j (nq 165 rfl) (nq 194 rfl) (nq 196 rfl) (fun q => ?_)
          rw [q.1, q.2] at b1
          cases b1
      · rw [e5, nn_le (by omega) (by omega)] at z
        omega
  · refine ⟨-1, la_I R, ?_, ?_⟩
    · refine ab_ent (n := 0) okMX11_weighed.1 (fun G => Nat.le_of_ble_eq_true rfl) (fun Q hQ => ?_)
      refine tMX11_weighed_0 (d := 1310) ⟨m, e0, hm, _, _, mt_empty (d := 1309) hm, ?_⟩
      rintro i5 l6 dd7 x8 ⟨⟩
      refine ⟨fun _ => hQ _ hI, fun g => ⟨m, e0, hm, fun z => ?_, fun _ => hQ _ hI⟩⟩
      rw [hK.1.2, e5, nn_le (by omega) (by omega)] at z
      by_cases q : i m 1 = 0
      · rw [if_pos q] at g
        exact absurd g (by decide)
      · rw [hz] at q
        omega
    · rintro ⟨i, l, dd, x⟩ hI
      refine ab_ent (n := 0) okMX12_weighed.1 (fun G => Nat.le_of_ble_eq_true rfl) (fun Q hQ => ?_)
      refine tMX12_weighed_0 (d := 1310) ?_
      rintro i1 rfl
      have hI2 := la_thr (v := 0) (x2 := x) hI
      obtain ⟨m, e0, hm, hK, hM⟩ := hA2 _ _ _ _ hI2
      rw [hM.1.2.1, nn_p0, nn_eq (by omega) (by omega)]
      refine ⟨fun _ => hQ _ hI2, fun g => ⟨fun z => ?_, fun _ => hQ _ hI2⟩⟩
      rw [e5, nn_le (by omega) (by omega)] at z
      omega
end TQT3
