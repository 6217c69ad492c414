/-! the calls right, lost, comes; what is lost without one or two -/
section TQP
variable {d : Nat} {sc : Nat × (Nat → Int32)} {i : Nat → Nat → Int32} {l : Nat → Nat → Int64} {dd : Nat → Nat → Value} {x : Nat}
/-- what the invariant tells of the matter that counts -/
def op_A (R : ab_S → Prop) (A : mA_) : Prop := mt_W A ∧ ∀ (i : Nat → Nat → Int32) (l : Nat → Nat → Int64) (dd : Nat → Nat → Value) (x : Nat), la_I R (i, l, dd, x) → ∃ m, dd 3 11 = .ref m ∧ ab_isM m ∧ mt_K A m i ∧ mt_M A i l
theorem ws_m1 : ∀ k : Fin 160, (7 ≤ k.val ∧ k.val ≤ 54 ∨ 57 ≤ k.val ∧ k.val ≤ 104 ∨ 107 ≤ k.val ∧ k.val ≤ 154) → ([226, 227, 228, 231, 232, 233, 234, 235, 236, 237, 241, 242, 243, 244, 246, 249, 55, 56, 105, 106, 155, 156, 158, 159, 161, 162, 163, 164, 165, 166, 167, 168, 170, 171, 172, 173, 176, 177, 178, 181, 182, 183, 185, 186, 187, 188, 189, 190, 192, 193, 194, 196, 197, 199, 200, 201, 202, 203, 204] : List Nat).contains k.val = false := by decide +kernel
theorem ws_m {m k j : Nat} (hm : ab_isM m) (h1 : m ≤ k) (h2 : k ≤ m + 47) : la_ws k j = false := by
  have h3 : 7 ≤ k ∧ k ≤ 54 ∨ 57 ≤ k ∧ k ≤ 104 ∨ 107 ≤ k ∧ k ≤ 154 := by rcases hm with rfl | rfl | rfl <;> omega
  have h4 := ws_m1 ⟨k, by omega⟩ h3
  dsimp only at h4
  unfold la_ws
  rw [h4]
  have e : ∀ q : Nat, q ≤ 6 ∨ 156 < q → (k == q) = false := fun q hq => by
    rw [beq_eq_false_iff_ne]
    omega
  rw [e 4 (by omega), e 5 (by omega), e 206 (by omega), e 205 (by omega), e 225 (by omega), e 157 (by omega), e 160 (by omega), e 169 (by omega), e 191 (by omega), e 195 (by omega)]
  simp
theorem mt_K_kp {A : mA_} {m : Nat} {i2 : Nat → Nat → Int32} (hW : mt_W A) (hm : ab_isM m) (hK : mt_K A m i) (h : kp_i i i2) : mt_K A m i2 :=
  mt_K_f hm hK (fun k h1 h2 => by
    funext j
    exact h.1 k j (ws_m hm h1 h2)) hW
theorem mt_KV {A : mA_} {m : Nat} (hK : mt_K A m i) : mt_Vc A i (m + 47) (aO_ A) := hK.2.2.2.2.2.2.2
theorem mt_MV {A : mA_} (hM : mt_M A i l) : mt_Vo A i 0 (aO_ A) := fun v s hv hs => by
  rw [show 21 * 0 + 3 * v + s = 3 * v + s by omega]
  exact hM.2.2.2.2.2.2.1 v s hv hs
theorem kd_47 {m : Nat} (hm : ab_isM m) : (ab_E0 sc).1 (m + 47) = .inr (0, 21) := by
  rcases hm with rfl | rfl | rfl <;> rfl
theorem mt_O9 {A : mA_} (hW : mt_W A) : ∀ v s, v < aV_ A → s < aS_ A v → aO_ A v s ≤ 9 := fun _ _ hv hs => mt_vt9 hW hW.2.2.2.2.2.2.2.2.2.2.1 hv hs
theorem mt_votedT {A : mA_} {m : Nat} (hW : mt_W A) (hm : ab_isM m) (hK : mt_K A m i) : ab_Sp MX4_voting (d + 3) [.ref 160, .ref m, .ref (m + 47)] (i, l, dd, x) (ab_E0 sc) none (fun σ => ∃ i2, σ = (i2, l, ab_u dd 160 0 (.ref m), x) ∧ kp_i i i2 ∧ rw_R (aV_ A) (gr_cv A (aO_ A)) i2) := by
  refine ab_call_mono (mt_voting (d := d) hW hm hK (kd_47 hm) (by omega) (by rcases hm with rfl | rfl | rfl <;> omega) (mt_KV hK) (mt_O9 hW)) ?_
  rintro v σ2 E2 ⟨rfl, rfl, i2, rfl, f2, R2⟩
  exact ⟨rfl, rfl, i2, rfl, kp_fo f2 kp_c14, R2⟩
/-- the class's sums by choices that stand for votes -/
theorem mt_summed {A : mA_} {m : Nat} {cv : Nat → mC_} {vt : Nat → Nat → Nat} {lam : Nat → Nat → Nat → Nat} (hW : mt_W A) (hp : 0 < aV_ A) (hm : ab_isM m) (hd : dd 160 0 = .ref m) (hc : rw_cb A cv) (hK : mt_K A m i) (hR : rw_R (aV_ A) cv i) (hr : ∀ t, t < aT_ A → gr_r (aS_ A) (aV_ A) cv t vt (fun v s => lam v s t)) : ab_Sp MX4_sumUp (d + 3) [.ref 160, .ref 204] (i, l, dd, x) (ab_E0 sc) none (fun σ => ∃ i2 l2, σ = (i2, l2, dd, x) ∧ kp_i i i2 ∧ kp_l l l2 ∧ ∀ t u, t < 3 → u < 3 → l2 204 (3 * t + u) = Int64.ofNat (cs_w A vt lam t u)) := by
  refine ab_call_mono (rw_sumUp (d := d) (n := 9) hW hp hm hd hc rfl (by omega) (by omega) hK hR) ?_
  rintro v σ2 E2 ⟨rfl, rfl, i2, l2, rfl, g2, h2, z2⟩
  refine ⟨rfl, rfl, i2, l2, rfl, kp_g g2, kp_h h2 rfl, fun t u ht hu => ?_⟩
  rw [z2 t u ht hu, gr_sum hW (hr t)]
theorem mt_z30 {A : mA_} {m : Nat} (hW : mt_W A) (hK : mt_K A m i) : (i m 1 = 0) = (aV_ A = 0) := by
  have w2 := hW.2.1
  rw [hK.1.2, nn_p0, nn_eq (by omega) (by omega)]
theorem mt_z31 {A : mA_} (hW : mt_W A) (hM : mt_M A i l) : (i 205 30 = 0) = (aV_ A = 0) := by
  have w2 := hW.2.1
  rw [hM.1.2.1, nn_p0, nn_eq (by omega) (by omega)]
theorem mt_rightOf {a n : Nat} {F : Nat → Nat → Nat} (hk : (ab_E0 sc).1 a = .inr (1, n)) (hn : 9 ≤ n ∧ n < 2 ^ 31) (hP : ∀ t e, t < 3 → e < 3 → l a (3 * t + e) = Int64.ofNat (F t e)) : ab_Sp MX11_rightOf (d + 1) [.ref a] (i, l, dd, x) (ab_E0 sc) (some (.long (Int64.ofNat (F 0 0 + F 1 1 + F 2 2)))) (fun σ => σ = (i, l, dd, x)) := by
  refine ab_ent (n := 1) okMX11_rightOf.1 (fun G => Nat.le_of_ble_eq_true rfl) (fun Q hQ => ?_)
  refine tMX11_rightOf_0 hk ⟨la_vp (n := 0) (by omega) (by omega), la_vp (n := 4) (by omega) (by omega), la_vp (n := 8) (by omega) (by omega), ?_⟩
  have h0 := hP 0 0 (by omega) (by omega)
  have h1 := hP 1 1 (by omega) (by omega)
  have h2 := hP 2 2 (by omega) (by omega)
  rw [h0, h1, h2, nl_add, nl_add]
  exact hQ _ rfl
theorem op_right {R : ab_S → Prop} {A : mA_} (hA : op_A R A) : la_c10 1310 sc (la_I R) := by
  rintro ⟨i, l, dd, x⟩ hI
  obtain ⟨hW, hA2⟩ := hA
  obtain ⟨m, e0, hm, hK, hM⟩ := hA2 _ _ _ _ hI
  have hz := mt_z30 hW hK
  by_cases c : aV_ A = 0
  · refine ⟨0, la_I R, ?_, ?_⟩
    · refine ab_ent (n := 0) okMX11_right.1 (fun G => Nat.le_of_ble_eq_true rfl) (fun Q hQ => ?_)
      refine tMX11_right_0 (d := 1310) ⟨m, e0, hm, _, _, mt_empty (d := 1309) hm, ?_⟩
      rintro i5 l6 dd7 x8 ⟨⟩
      rw [if_pos (hz.mpr c)]
      exact ⟨fun z => absurd z (by decide), fun _ => hQ _ hI⟩
    · rintro ⟨i, l, dd, x⟩ hI
      obtain ⟨m, e0, hm, hK, hM⟩ := hA2 _ _ _ _ hI
      refine ab_ent (n := 0) okMX12_right.1 (fun G => Nat.le_of_ble_eq_true rfl) (fun Q hQ => ?_)
      refine tMX12_right_0 (d := 1310) ?_
      rintro i1 rfl
      rw [uu_j (by decide), mt_z31 hW hM]
      exact ⟨fun z => absurd c z, fun _ => hQ _ (la_thr hI)⟩
  · refine ⟨Int64.ofNat (cs_right A (aO_ A)), la_I R, ?_, ?_⟩
    · refine ab_ent (n := 0) okMX11_right.1 (fun G => Nat.le_of_ble_eq_true rfl) (fun Q hQ => ?_)
      refine tMX11_right_0 (d := 1310) ⟨m, e0, hm, _, _, mt_empty (d := 1309) hm, ?_⟩
      rintro i5 l6 dd7 x8 ⟨⟩
      rw [if_neg (fun z => c (hz.mp z))]
      refine ⟨fun _ => ⟨m, e0, hm, _, mt_votedT (d := 1307) hW hm hK, ?_⟩, fun z => absurd rfl z⟩
      rintro i5 l6 dd7 x8 ⟨i2, ⟨⟩, k2, R2⟩
      refine ⟨_, mt_summed (d := 1307) (lam := aL_ A) (vt := aO_ A) hW (by omega) hm uu_e (gr_cb hW (mt_O9 hW)) (mt_K_kp hW hm hK k2) R2 (fun t _ => gr_v), ?_⟩
      rintro i5 l6 dd7 x8 ⟨i3, l3, ⟨⟩, k3, kl3, z3⟩
      refine ⟨_, _, mt_rightOf (d := 1309) (F := fun t u => cs_cm A (aO_ A) t u) (n := 9) rfl (by omega) z3, ?_⟩
      rintro i5 l6 dd7 x8 ⟨⟩
      rw [show cs_cm A (aO_ A) 0 0 + cs_cm A (aO_ A) 1 1 + cs_cm A (aO_ A) 2 2 = cs_right A (aO_ A) from cs_rt hW (by omega)]
      exact hQ _ (kp_I hI (kp_it k2 k3) kl3 (kp_160 hm))
    · rintro ⟨i, l, dd, x⟩ hI
      obtain ⟨m, e0, hm, hK, hM⟩ := hA2 _ _ _ _ hI
      refine ab_ent (n := 0) okMX12_right.1 (fun G => Nat.le_of_ble_eq_true rfl) (fun Q hQ => ?_)
      refine tMX12_right_0 (d := 1310) ?_
      rintro i1 rfl
      have hI2 := la_thr (v := 0) (x2 := x) hI
      obtain ⟨m, e0, hm, hK, hM2⟩ := hA2 _ _ _ _ hI2
      rw [uu_j (by decide), mt_z31 hW hM]
      refine ⟨fun _ => ⟨_, _, md_right (d := 1307) (o := 0) hW (by omega) hM2 (by omega) (mt_MV hM2) hW.2.2.2.2.2.2.2.2.2.2.1, ?_⟩, fun z => absurd z c⟩
      rintro i5 l6 dd7 x8 ⟨i3, ⟨⟩, f3⟩
      exact hQ _ (kp_I hI2 (kp_fo f3 kp_c67) kp_lr kp_dr)
end TQP
