/-! the tape tells a sign of each: both sides; decided, known -/
section TQW
variable {d : Nat} {sc : Nat × (Nat → Int32)} {i : Nat → Nat → Int32} {l : Nat → Nat → Int64} {dd : Nat → Nat → Value} {x : Nat}
theorem mt_rad_c {S T : Nat → Nat} : ∀ k, (∀ v, v < k → S v = T v) → mt_rad S k = mt_rad T k := by
  intro k
  induction k with
  | zero => intro _; rfl
  | succ k ih =>
    intro h
    show mt_rad S k * S k = mt_rad T k * T k
    rw [ih (fun v hv => h v (by omega)), h k (by omega)]
theorem mt_row_c {S T b c : Nat → Nat} : ∀ k, (∀ v, v < k → S v = T v ∧ b v = c v) → mt_row S b k = mt_row T c k := by
  intro k
  induction k with
  | zero => intro _; rfl
  | succ k ih =>
    intro h
    show mt_row S b k + b k * mt_rad S k = mt_row T c k + c k * mt_rad T k
    rw [ih (fun v hv => h v (by omega)), (h k (by omega)).2, mt_rad_c k (fun v hv => (h v (by omega)).1)]
theorem mt_C_of {A : mA_} {m : Nat} (hW : mt_W A) (hK : mt_K A m i) (hM : mt_M A i l) : mt_C i m := by
  have w2 := hW.2.1
  have w7 := hW.2.2.2.2.2.2.1
  have r2 := hM.1.2.1
  have e : (i 205 30).toInt = (aV_ A : Int) := by rw [r2, la_nat (by omega)]
  refine ⟨by rw [hK.1.2, r2], by omega, fun v hv hv2 => ?_, fun v s hv hs hv2 hs2 => ?_⟩
  · have h1 := (hM.2.2.2.1 v (by omega)).1
    have h2 := w7 v (by omega)
    rw [(hK.2.2.2.2.1 v (by omega)).1, h1, la_nat (by omega)]
    exact ⟨rfl, by omega, by omega⟩
  · have h1 := (hM.2.2.2.1 v (by omega)).1
    have h2 := w7 v (by omega)
    rw [h1, la_nat (by omega)] at hs2
    rw [mt_KV hK v s (by omega) (by omega), hM.2.2.2.2.2.2.1 v s (by omega) (by omega)]
theorem mt_Sg_of {A : mA_} (hW : mt_W A) (hM : mt_M A i l) {v : Nat} (hv : v < aV_ A) : mt_Sg i v = aS_ A v := by
  have h2 := hW.2.2.2.2.2.2.1 v hv
  unfold mt_Sg
  rw [(hM.2.2.2.1 v hv).1, la_tn (by omega)]
theorem mt_X_of {A : mA_} (hW : mt_W A) (hM : mt_M A i l) : mt_X i := by
  have w2 := hW.2.1
  intro v hv
  rw [hM.1.2.1, la_nat (by omega)] at hv
  rw [(hM.2.2.2.1 v (by omega)).2.2, mt_rad_c (S := mt_Sg i) (T := aS_ A) v (fun u hu => mt_Sg_of hW hM (by omega))]
theorem kp_48s {m : Nat} (hm : ab_isM m) : kp_s (m + 48) = true ∧ kp_s (m + 49) = true := by
  rcases hm with rfl | rfl | rfl <;> exact ⟨rfl, rfl⟩
theorem kp_48 {m : Nat} {i2 : Nat → Nat → Int32} (hm : ab_isM m) (h : fr_o (m + 48) (m + 48) i i2) : kp_i i i2 := kp_fo h (fun k h1 h2 => by
  rw [Nat.le_antisymm h2 h1]
  exact (kp_48s hm).1)
theorem kp_49 {m : Nat} {l2 : Nat → Nat → Int64} (hm : ab_isM m) (h : fr_o (m + 49) (m + 49) l l2) : kp_l l l2 := kp_lc (fun k hk => h k (by
  have := kp_ne hk (m + 49) (kp_48s hm).2
  omega))
/-- the tape's bytes are signs b -/
def tp_sg (A : mA_) (i : Nat → Nat → Int32) (b : Nat → Nat) : Prop := 0 < aV_ A ∧ i 4 1 = Int32.ofNat (aV_ A) ∧ ∀ v, v < aV_ A → i 5 v = Int32.ofNat (b v) ∧ b v < aS_ A v
theorem tp_sg_t {R : ab_S → Prop} {A : mA_} (hW : mt_W A) (hI : la_I R (i, l, dd, x)) (hM : mt_M A i l) : mt_told i ↔ ∃ b, tp_sg A i b := by
  have w2 := hW.2.1
  have w7 := hW.2.2.2.2.2.2.1
  have r2 := hM.1.2.1
  have e : (i 205 30).toInt = (aV_ A : Int) := by rw [r2, la_nat (by omega)]
  have h5 : ∀ j, j < 740 → la_byte (i 5 j) := fun j hj => (hI.1.2.2 j hj).2
  constructor
  · rintro ⟨h1, h2, h3⟩
    rw [mt_z31 hW hM] at h1
    refine ⟨fun v => (i 5 v).toInt.toNat, by omega, by rw [h2, r2], fun v hv => ?_⟩
    have h4 := h3 v (by omega)
    have h6 := (h5 v (by omega)).1
    have h7 := w7 v hv
    rw [(hM.2.2.2.1 v hv).1, la_nat (by omega)] at h4
    exact ⟨la_inv h6, show (i 5 v).toInt.toNat < aS_ A v by omega⟩
  · rintro ⟨b, h1, h2, h3⟩
    refine ⟨by rw [mt_z31 hW hM]; omega, by rw [h2, r2], fun v hv => ?_⟩
    have h7 := w7 v (by omega)
    obtain ⟨h4, h6⟩ := h3 v (by omega)
    rw [h4, (hM.2.2.2.1 v (by omega)).1, la_nat (by omega), la_nat (by omega)]
    omega
theorem tp_cls {R : ab_S → Prop} {A : mA_} {m : Nat} (hW : mt_W A) (hI : la_I R (i, l, dd, x)) (hm : ab_isM m) (hK : mt_K A m i) (hM : mt_M A i l) : ∃ r : Int32, ((r = 1 ∧ ∃ b, tp_sg A i b) ∨ (r = 0 ∧ ¬ ∃ b, tp_sg A i b)) ∧ ∀ d, ab_Sp MX1_hasSigns (d + 3) [.ref m, .ref 4] (i, l, dd, x) (ab_E0 sc) (some (.int r)) (fun σ => σ = (i, l, dd, x)) := by
  have hC := mt_C_of hW hK hM
  obtain ⟨r, h1, h2⟩ := mt_hasSigns (sc := sc) (l := l) (dd := dd) (x := x) hm hC (fun j hj => (hI.1.2.2 j hj).2)
  refine ⟨r, ?_, h2⟩
  rw [tp_sg_t hW hI hM] at h1
  exact h1
/-- the model's number of the row told, its own tape whole, the class's emptied -/
theorem tp_mod {R : ab_S → Prop} {A : mA_} {m : Nat} (hW : mt_W A) (hI : la_I R (i, l, dd, x)) (hm : ab_isM m) (hK : mt_K A m i) (hM : mt_M A i l) {v0 v1 : Int32} : ∃ r : Int32, ((∃ b k, tp_sg A i b ∧ r = Int32.ofNat k ∧ k < mt_rad (aS_ A) (aV_ A) ∧ ∀ v, v < aV_ A → pu_g (aS_ A) (aV_ A) k v = b v) ∨ (r = -1 ∧ ¬ ∃ b, tp_sg A i b)) ∧ ∀ d l2 d2 x2, ab_Sp MX12_rowTold (d + 1) [.ref 205] (ab_u (ab_u i 4 1 v0) 205 0 v1, l2, d2, x2) (ab_E0 sc) (some (.int r)) (fun σ => σ = (ab_u (ab_u i 4 1 v0) 205 0 v1, l2, d2, x2)) := by
  have w2 := hW.2.1
  have w7 := hW.2.2.2.2.2.2.1
  have hK2 : mt_K A m (ab_u (ab_u i 4 1 v0) 205 0 v1) := mt_K_f hm hK (fun k h1 h2 => by
    have : k ≠ 205 ∧ k ≠ 4 := by rcases hm with rfl | rfl | rfl <;> omega
    rw [uu_f this.1, uu_f this.2]) hW
  have hM2 : mt_M A (ab_u (ab_u i 4 1 v0) 205 0 v1) l := mt_M_fr hM (fun j h1 h2 => by rw [uu_j (by omega), uu_k (by omega)]) (fun k h1 h2 => by rw [uu_f (by omega), uu_f (by omega)]) (fun j hj => by rw [uu_k (by omega), uu_k (by omega)]) rfl hW
  have hC2 := mt_C_of hW hK2 hM2
  have hX2 := mt_X_of hW hM2
  have h6 : ∀ j, j < 740 → la_byte ((ab_u (ab_u i 4 1 v0) 205 0 v1) 206 j) := fun j hj => by
    rw [uu_k (by omega), uu_k (by omega)]
    have := hI.1.2.2 j hj
    dsimp only at this
    rw [this.1]
    exact this.2
  have hC := mt_C_of hW hK hM
  have e30 : (ab_u (ab_u i 4 1 v0) 205 0 v1 205 30).toInt.toNat = aV_ A := by rw [hM2.1.2.1, la_tn (by omega)]
  have htold : mt_toldM (ab_u (ab_u i 4 1 v0) 205 0 v1) ↔ ∃ b, tp_sg A i b := by
    rw [← tp_sg_t hW hI hM, mt_told_iff hI.1 hC]
    unfold mt_toldM
    rw [uu_j (by omega), uu_k (k := 4) (by omega), uu_j (by omega), uu_k (k := 4) (by omega), uu_f (k := 205) (a := 206) (by omega), uu_f (k := 4) (a := 206) (by omega), uu_f (k := 205) (a := 212) (by omega), uu_f (k := 4) (a := 212) (by omega)]
  have hall : ∀ l2 d2 x2, ∃ r : Int32, (r = Int32.ofNat (mt_row (mt_Sg (ab_u (ab_u i 4 1 v0) 205 0 v1)) (mt_bt (ab_u (ab_u i 4 1 v0) 205 0 v1)) (aV_ A)) ∧ mt_toldM (ab_u (ab_u i 4 1 v0) 205 0 v1) ∨ r = -1 ∧ ¬ mt_toldM (ab_u (ab_u i 4 1 v0) 205 0 v1)) ∧ ∀ d, ab_Sp MX12_rowTold (d + 1) [.ref 205] (ab_u (ab_u i 4 1 v0) 205 0 v1, l2, d2, x2) (ab_E0 sc) (some (.int r)) (fun σ => σ = (ab_u (ab_u i 4 1 v0) 205 0 v1, l2, d2, x2)) := fun l2 d2 x2 => by
    have h := mt_rowTold (sc := sc) (l := l2) (dd := d2) (x := x2) hC2 hX2 h6
    rw [e30] at h
    exact h
  rcases Classical.em (∃ b, tp_sg A i b) with ⟨b, hb⟩ | hb
  · have ec : mt_row (mt_Sg (ab_u (ab_u i 4 1 v0) 205 0 v1)) (mt_bt (ab_u (ab_u i 4 1 v0) 205 0 v1)) (aV_ A) = mt_row (aS_ A) b (aV_ A) := mt_row_c _ (fun v hv => by
      refine ⟨mt_Sg_of hW hM2 hv, ?_⟩
      have h1 := (hI.1.2.2 v (by omega)).1
      dsimp only at h1
      have h7 := w7 v hv
      have h8 := (hb.2.2 v hv).2
      unfold mt_bt
      rw [uu_k (by omega), uu_k (by omega), h1, (hb.2.2 v hv).1, la_tn (by omega)])
    refine ⟨Int32.ofNat (mt_row (aS_ A) b (aV_ A)), Or.inl ⟨b, _, hb, rfl, mt_row_lt _ (fun v hv => (hb.2.2 v hv).2), fun v hv => ?_⟩, fun d l2 d2 x2 => ?_⟩
    · unfold pu_g
      rw [if_pos hv]
      have h := mt_sign (S := aS_ A) (b := b) (v := v) (aV_ A - v - 1) (fun u hu => (hb.2.2 u (by omega)).2)
      rw [show v + 1 + (aV_ A - v - 1) = aV_ A by omega] at h
      exact h
    · obtain ⟨r, h1, h2⟩ := hall l2 d2 x2
      rcases h1 with ⟨h3, -⟩ | ⟨-, h4⟩
      · rw [h3, ec] at h2
        exact h2 d
      · exact absurd (htold.mpr ⟨b, hb⟩) h4
  · refine ⟨-1, Or.inr ⟨rfl, hb⟩, fun d l2 d2 x2 => ?_⟩
    obtain ⟨r, h1, h2⟩ := hall l2 d2 x2
    rcases h1 with ⟨-, h4⟩ | ⟨h3, -⟩
    · exact absurd (htold.mp h4) hb
    · rw [h3] at h2
      exact h2 d
theorem tp_sg_u {A : mA_} {b c : Nat → Nat} (hW : mt_W A) (h1 : tp_sg A i b) (h2 : tp_sg A i c) : ∀ v, v < aV_ A → b v = c v := fun v hv => by
  have h7 := hW.2.2.2.2.2.2.1 v hv
  obtain ⟨e1, g1⟩ := h1.2.2 v hv
  obtain ⟨e2, g2⟩ := h2.2.2 v hv
  rw [e1, nn_eq (by omega) (by omega)] at e2
  exact e2
/-- between class and model: the class's tape is emptied already -/
def tp_mid (R : ab_S → Prop) (i : Nat → Nat → Int32) (σ : ab_S) : Prop := ∃ i0 l0 d0 x0, σ = (ab_u i0 4 1 0, l0, d0, x0) ∧ la_I R (i0, l0, d0, x0) ∧ i0 5 = i 5 ∧ i0 4 1 = i 4 1
theorem tp_sg_c {A : mA_} {i2 : Nat → Nat → Int32} {b : Nat → Nat} (h5 : i2 5 = i 5) (h4 : i2 4 1 = i 4 1) : tp_sg A i2 b ↔ tp_sg A i b := by
  unfold tp_sg
  rw [h5, h4]
theorem cs_d_c {A : mA_} {vt : Nat → Nat → Nat} {b c : Nat → Nat} (hW : mt_W A) (h : ∀ v, v < aV_ A → b v = c v) : cs_d A vt b = cs_d A vt c := mt_db_c hW (fun v hv => by rw [h v hv])
theorem op_decided {R : ab_S → Prop} {A : mA_} (hA : op_A R A) : la_c9 1310 sc (la_I R) := by
  rintro ⟨i, l, dd, x⟩ hI
  obtain ⟨hW, hA2⟩ := hA
  obtain ⟨m, e0, hm, hK, hM⟩ := hA2 _ _ _ _ hI
  have w2 := hW.2.1
  obtain ⟨r, hr, hS⟩ := tp_cls (sc := sc) hW hI hm hK hM
  rcases hr with ⟨rfl, b, hb⟩ | ⟨rfl, hb⟩
  · refine ⟨Int32.ofNat (cs_d A (aO_ A) b), tp_mid R i, ?_, ?_⟩
    · refine ab_ent (n := 0) okMX11_decided.1 (fun G => Nat.le_of_ble_eq_true rfl) (fun Q hQ => ?_)
      refine tMX11_decided_0 (d := 1310) ⟨m, e0, hm, _, _, hS 1307, ?_⟩
      rintro i5 l6 dd7 x8 ⟨⟩
      refine ⟨fun z => absurd z (by decide), fun _ => ⟨m, e0, hm, _, _, mt_decWS (d := 1308) (n := 740) hW hb.1 hm hK rfl (by omega) (by rcases hm with rfl | rfl | rfl <;> omega) hb.2.2, ?_⟩⟩
      rintro i5 l6 dd7 x8 ⟨i2, ⟨⟩, f2⟩
      refine tMX11_decided_32 (d := 1310) ⟨_, mt_clear (d := 1309), ?_⟩
      rintro i5 l6 dd7 x8 ⟨⟩
      have k2 := kp_48 hm f2
      exact hQ _ ⟨i5, l, dd, x, rfl, kp_I hI k2 kp_lr kp_dr, k2.2.1, k2.2.2.2.1⟩
    · rintro σ1 ⟨i0, l0, d0, x0, rfl, hI0, h5, h4⟩
      obtain ⟨m, e0, hm, hK, hM⟩ := hA2 _ _ _ _ hI0
      obtain ⟨r, hr, hS⟩ := tp_mod (sc := sc) (v0 := 0) (v1 := 0) hW hI0 hm hK hM
      refine ab_ent (n := 0) okMX12_decided.1 (fun G => Nat.le_of_ble_eq_true rfl) (fun Q hQ => ?_)
      refine tMX12_decided_0 (d := 1310) ?_
      rintro i1 rfl
      refine ⟨_, _, hS 1309 _ _ _, ?_⟩
      rintro i5 l6 dd7 x8 ⟨⟩
      rintro i1 rfl
      have hb0 : tp_sg A i0 b := (tp_sg_c h5 h4).mpr hb
      rcases hr with ⟨c, k, hc, rfl, hk, hg⟩ | ⟨-, h⟩
      · have hJ := la_cut0 (v0 := 0) (l2 := l0) (x2 := x0) hI0 (fun _ _ => rfl)
        obtain ⟨m, e0, hm, hK, hM⟩ := hA2 _ _ _ _ hJ
        have hR := (mt_rows hW).1
        rw [nn_p1, nn_en (by omega)]
        refine ⟨fun _ => ⟨_, _, mt_decideRow (d := 1308) (o := 0) hW hb.1 hM (by omega) (mt_MV hM) hW.2.2.2.2.2.2.2.2.2.2.1 hk, ?_⟩, fun z => z.elim⟩
        rintro i5 l6 dd7 x8 ⟨i3, ⟨⟩, f3, -⟩
        rw [show mt_db A (fun v => aO_ A v (pu_g (aS_ A) (aV_ A) k v)) = cs_d A (aO_ A) b from cs_d_c hW (fun v hv => (hg v hv).trans (tp_sg_u hW hc hb0 v hv))]
        exact hQ _ (kp_I hJ (kp_fo f3 kp_c67) kp_lr kp_dr)
      · exact absurd ⟨b, hb0⟩ h
  · refine ⟨-1, tp_mid R i, ?_, ?_⟩
    · refine ab_ent (n := 0) okMX11_decided.1 (fun G => Nat.le_of_ble_eq_true rfl) (fun Q hQ => ?_)
      refine tMX11_decided_0 (d := 1310) ⟨m, e0, hm, _, _, hS 1307, ?_⟩
      rintro i5 l6 dd7 x8 ⟨⟩
      refine ⟨fun _ => tMX11_decided_32 (d := 1310) ⟨_, mt_clear (d := 1309), ?_⟩, fun z => absurd rfl z⟩
      rintro i5 l6 dd7 x8 ⟨⟩
      exact hQ _ ⟨i, l, dd, x, rfl, hI, rfl, rfl⟩
    · rintro σ1 ⟨i0, l0, d0, x0, rfl, hI0, h5, h4⟩
      obtain ⟨m, e0, hm, hK, hM⟩ := hA2 _ _ _ _ hI0
      obtain ⟨r, hr, hS⟩ := tp_mod (sc := sc) (v0 := 0) (v1 := 0) hW hI0 hm hK hM
      refine ab_ent (n := 0) okMX12_decided.1 (fun G => Nat.le_of_ble_eq_true rfl) (fun Q hQ => ?_)
      refine tMX12_decided_0 (d := 1310) ?_
      rintro i1 rfl
      refine ⟨_, _, hS 1309 _ _ _, ?_⟩
      rintro i5 l6 dd7 x8 ⟨⟩
      rintro i1 rfl
      rcases hr with ⟨c, k, hc, -, -, -⟩ | ⟨rfl, h⟩
      · exact absurd ⟨c, (tp_sg_c h5 h4).mp hc⟩ hb
      · exact ⟨fun z => absurd rfl z, fun _ => hQ _ (la_cut0 hI0 (fun _ _ => rfl))⟩
end TQW
