/-! the model: a row decided, one's vote replaced, losses -/
section TQD
variable {d : Nat} {sc : Nat × (Nat → Int32)} {i : Nat → Nat → Int32} {l : Nat → Nat → Int64} {dd : Nat → Nat → Value} {x : Nat}
theorem mt_bk_fr {A : mA_} {i2 : Nat → Nat → Int32} {bal : Nat → Nat} (h : mt_ba A i bal) (hf : i2 226 = i 226) : mt_ba A i2 bal := fun v hv => by rw [hf]; exact h v hv
theorem mt_dr2 {A : mA_} {r o : Nat} {vt : Nat → Nat → Nat} (hW : mt_W A) (hp : 0 < aV_ A) (hM : mt_M A i l) (ho : o < 2) (hV : mt_Vo A i o vt) (hr : r < mt_rad (aS_ A) (aV_ A)) {Q : ab_Qt} (hQ : ∀ i2, fr_o 226 226 i i2 → mt_ba A i2 (fun v => vt v (pu_g (aS_ A) (aV_ A) r v)) → ab_Fr MX12_decideRow (d + 2) Q 2 [some (.ref 205), some (.int (Int32.ofNat r)), some (.int (Int32.ofNat o)), some (.int (Int32.ofNat (aV_ A)))] [] (0, 0) (i2, l, dd, x) (ab_E0 sc)) :
    ∀ (n v : Nat) (i2 : Nat → Nat → Int32), aV_ A = v + n → fr_o 226 226 i i2 → (∀ u, u < v → i2 226 u = Int32.ofNat (vt u (pu_g (aS_ A) (aV_ A) r u))) → ab_Fr MX12_decideRow (d + 2) Q 2 [some (.ref 205), some (.int (Int32.ofNat r)), some (.int (Int32.ofNat o)), some (.int (Int32.ofNat v))] [] (0, 0) (i2, l, dd, x) (ab_E0 sc) := by
  intro n
  have hR := (mt_rows hW).1
  have hW2 := hW
  obtain ⟨w1, w2, w3, w4, w5, w6, w7, w8, w9, w10, w11, w12, w13, w14, w15⟩ := hW2
  induction n with
  | zero =>
    intro v i2 hv hf h
    have e : v = aV_ A := by omega
    rw [e] at h ⊢
    exact hQ i2 hf h
  | succ n ih =>
    intro v i2 hv hf h
    have hM2 := mt_M_f hM hf (by omega) hW
    have r2 := hM2.1.2.1
    have hg := (pu_gt (S := aS_ A) (k := aV_ A) (r := r) (fun v hv => by have := (w7 v hv).1; omega)).1 v (by omega)
    have hS := w7 v (by omega)
    have e225 : i2 225 (21 * o + 3 * v + pu_g (aS_ A) (aV_ A) r v) = Int32.ofNat (vt v (pu_g (aS_ A) (aV_ A) r v)) := by
      rw [hf 225 (by omega)]
      exact hV v _ (by omega) hg
    refine tMX12_decideRow_2 (d := d + 1) ⟨fun c => ?_, fun _ => ⟨_, _, mt_sg (d := d) hW hM2 (by omega) (by omega), ?_⟩⟩
    · simp (disch := omega) only [r2, ↓nn_m3, nn_p0, nn_p1, nn_p2, nn_p3, nn_p4, nn_p5, nn_p6, nn_p7, nn_p8, nn_p9, nn_p10, nn_p20, nn_p21, nn_le, nn_lt, nn_eq, nn_cl, nn_in, nn_add, nn_mul, nn_en, nn_ne, nn_mn, nn_64] at c
      omega
    · rintro i5 l6 dd7 x8 ⟨⟩
      simp (disch := omega) only [↓nn_m3, nn_p0, nn_p1, nn_p2, nn_p3, nn_p4, nn_p5, nn_p6, nn_p7, nn_p8, nn_p9, nn_p10, nn_p20, nn_p21, nn_le, nn_lt, nn_eq, nn_cl, nn_in, nn_add, nn_mul, nn_en, nn_ne, nn_mn, nn_64]
      refine ⟨trivial, trivial, ?_⟩
      rintro i9 rfl
      rw [e225]
      refine ih (v + 1) _ (by omega) (fr_u hf (by omega)) (fun u hu => ?_)
      by_cases e : u = v
      · rw [e]
        exact uu_e
      · rw [uu_j e]
        exact h u (by omega)
theorem mt_row_bk {A : mA_} {r : Nat} {vt : Nat → Nat → Nat} (hW : mt_W A) (hk : mt_vt A vt) : mt_bk A (fun v => vt v (pu_g (aS_ A) (aV_ A) r v)) := fun v hv =>
  hk v _ hv ((pu_gt (S := aS_ A) (k := aV_ A) (r := r) (fun v hv => by have := (hW.2.2.2.2.2.2.1 v hv).1; omega)).1 v hv)
theorem mt_decideRow {A : mA_} {r o : Nat} {vt : Nat → Nat → Nat} (hW : mt_W A) (hp : 0 < aV_ A) (hM : mt_M A i l) (ho : o < 2) (hV : mt_Vo A i o vt) (hk : mt_vt A vt) (hr : r < mt_rad (aS_ A) (aV_ A)) : ab_Sp MX12_decideRow (d + 2) [.ref 205, .int (Int32.ofNat r), .int (Int32.ofNat o)] (i, l, dd, x) (ab_E0 sc) (some (.int (Int32.ofNat (mt_db A (fun v => vt v (pu_g (aS_ A) (aV_ A) r v)))))) (fun σ => ∃ i2, σ = (i2, l, dd, x) ∧ fr_o 226 227 i i2 ∧ mt_ba A i2 (fun v => vt v (pu_g (aS_ A) (aV_ A) r v))) := by
  refine ab_ent (n := 2) okMX12_decideRow.1 (fun G => Nat.le_of_ble_eq_true rfl) (fun Q hQ => ?_)
  refine tMX12_decideRow_0 (d := d + 1) ?_
  refine mt_dr2 hW hp hM ho hV hr ?_ (aV_ A) 0 i (by omega) fr_r (fun u hu => absurd hu (by omega))
  intro i2 f2 hB
  have hM2 := mt_M_f hM f2 (by omega) hW
  have r2 := hM2.1.2.1
  have w2 := hW.2.1
  refine tMX12_decideRow_2 (d := d + 1) ⟨fun _ => ⟨_, _, mt_decide (d := d) hW hp hM2 hB (mt_row_bk hW hk), ?_⟩, fun c => ?_⟩
  · rintro i5 l6 dd7 x8 ⟨i9, ⟨⟩, f9⟩
    exact (hQ _ ⟨_, rfl, fr_t (fr_w f2 (by omega)) (fr_w f9 (by omega)), mt_bk_fr hB (f9 226 (by omega))⟩)
  · simp (disch := omega) only [r2, ↓nn_m3, nn_p0, nn_p1, nn_p2, nn_p3, nn_p4, nn_p5, nn_p6, nn_p7, nn_p8, nn_p9, nn_p10, nn_p20, nn_p21, nn_le, nn_lt, nn_eq, nn_cl, nn_in, nn_add, nn_mul, nn_en, nn_ne, nn_mn, nn_64] at c
    omega
/-- one's vote put in its place -/
def mt_wx (A : mA_) (y : Nat) : Nat := if y < aT_ A then y else 9
theorem mt_decideWith {A : mA_} {bal : Nat → Nat} {v y : Nat} (hW : mt_W A) (hp : 0 < aV_ A) (hM : mt_M A i l) (hB : mt_ba A i bal) (hb : mt_bk A bal) (hv : v < aV_ A) (hy : y ≤ aT_ A) : ab_Sp MX12_decideWith (d + 2) [.ref 205, .int (Int32.ofNat v), .int (Int32.ofNat y)] (i, l, dd, x) (ab_E0 sc) (some (.int (Int32.ofNat (mt_db A (pu_u bal v (mt_wx A y)))))) (fun σ => ∃ i2, σ = (i2, l, dd, x) ∧ fr_o 226 227 i i2 ∧ mt_ba A i2 bal) := by
  have w1 := hW.1
  have w2 := hW.2.1
  have r1 := hM.1.1
  have hbv := hb v hv
  refine ab_ent (n := 2) okMX12_decideWith.1 (fun G => Nat.le_of_ble_eq_true rfl) (fun Q hQ => ?_)
  have key : ∀ z : Nat, z = mt_wx A y → ab_Fr MX12_decideWith (d + 2) Q 26 [some (.ref 205), some (.int (Int32.ofNat v)), none, some (.int (Int32.ofNat (bal v))), none] [.int (Int32.ofNat z), .int (Int32.ofNat v), .ref 226] (0, 0) (i, l, dd, x) (ab_E0 sc) := by
    intro z hz
    refine tMX12_decideWith_26 (d := d + 1) (n_s0 := 7) rfl ⟨la_vp (by omega) (by omega), ?_⟩
    rintro i1 rfl
    rw [nn_cl (by omega)]
    have f1 : fr_o 226 226 i (ab_u i 226 v (Int32.ofNat z)) := fr_u fr_r (by omega)
    have hM1 := mt_M_f hM f1 (by omega) hW
    have hB1 : mt_ba A (ab_u i 226 v (Int32.ofNat z)) (pu_u bal v (mt_wx A y)) := by
      intro u hu
      unfold pu_u
      by_cases e : u = v
      · rw [if_pos e, ← hz]
        exact uu_a ⟨rfl, e⟩
      · rw [if_neg e, uu_j e]
        exact hB u hu
    have hb1 : mt_bk A (pu_u bal v (mt_wx A y)) := by
      intro u hu
      unfold pu_u mt_wx
      by_cases e : u = v
      · rw [if_pos e]
        split <;> omega
      · rw [if_neg e]
        exact hb u hu
    refine ⟨_, _, mt_decide (d := d) hW hp hM1 hB1 hb1, ?_⟩
    rintro i5 l6 dd7 x8 ⟨i9, ⟨⟩, f9⟩
    refine ⟨la_vp (by omega) (by omega), ?_⟩
    rintro i12 rfl
    refine (hQ _ ⟨_, rfl, fr_u (fr_t (fr_w f1 (by omega)) (fr_w f9 (by omega))) (by omega), fun u hu => ?_⟩)
    by_cases e : u = v
    · rw [e]
      exact uu_e
    · rw [uu_j e, f9 226 (by omega), uu_j e]
      exact hB u hu
  refine tMX12_decideWith_0 (d := d + 1) ?_
  have e226 := hB v hv
  simp (disch := omega) only [r1, e226, ↓nn_m3, nn_p0, nn_p1, nn_p2, nn_p3, nn_p4, nn_p5, nn_p6, nn_p7, nn_p8, nn_p9, nn_p10, nn_p20, nn_p21, nn_le, nn_lt, nn_eq, nn_cl, nn_in, nn_add, nn_mul, nn_en, nn_ne, nn_mn, nn_64]
  refine ⟨trivial, fun c => ?_, fun c => ?_⟩
  · exact key 9 (by unfold mt_wx; rw [if_neg (by omega)])
  · exact key y (by unfold mt_wx; rw [if_pos (by omega)])
theorem mt_loss {A : mA_} {w t e : Nat} (hW : mt_W A) (hM : mt_M A i l) (hw : w < aV_ A ∨ w = 7) (ht : t < aT_ A) (he : e < aT_ A) : ab_Sp MX12_loss (d + 1) [.ref 205, .int (Int32.ofNat w), .int (Int32.ofNat t), .int (Int32.ofNat e)] (i, l, dd, x) (ab_E0 sc) (some (.int (Int32.ofNat (aK_ A w t e)))) (fun σ => σ = (i, l, dd, x)) := by
  have w1 := hW.1
  have w2 := hW.2.1
  obtain ⟨⟨r1, r2, r3⟩, ⟨r4, r5, r6⟩, r7, r8, r9, r10, r11, r12⟩ := hM
  have h := r10 w t e hw ht he
  refine ab_ent (n := 3) okMX12_loss.1 (fun G => Nat.le_of_ble_eq_true rfl) (fun Q hQ => ?_)
  have hQ2 : ∀ z : Int32, z = Int32.ofNat (aK_ A w t e) → Q (some (some (.int z))) (i, l, dd, x) (ab_E0 sc) := fun z hz => by rw [hz]; exact hQ _ rfl
  refine tMX12_loss_0 ?_
  unfold mt_lo at h
  have e1 : (Int32.ofNat 9 * Int32.ofNat w + Int32.ofNat 3 * Int32.ofNat t + Int32.ofNat e) = Int32.ofNat (9 * w + 3 * t + e) := by simp (disch := omega) only [nn_add, nn_mul]
  have e2 : ((63 : Int32) + Int32.ofNat 3 * Int32.ofNat t + Int32.ofNat e) = Int32.ofNat (63 + 3 * t + e) := by
    rw [show (63 : Int32) = Int32.ofNat 63 from rfl]
    simp (disch := omega) only [nn_add, nn_mul]
  rw [show ((9 : Int32) * Int32.ofNat w + 3 * Int32.ofNat t + Int32.ofNat e) = Int32.ofNat (9 * w + 3 * t + e) from e1, show ((63 : Int32) + 3 * Int32.ofNat t + Int32.ofNat e) = Int32.ofNat (63 + 3 * t + e) from e2, nn_cl (by omega), nn_cl (by omega)]
  refine ⟨la_vp (by omega) (by omega), fun c => ⟨la_vp (by omega) (by omega), fun c2 => ⟨fun c3 => hQ2 _ ?_, fun c3 => hQ2 _ ?_⟩, fun c2 => hQ2 _ ?_⟩, fun c => hQ2 _ ?_⟩
  · rw [if_pos c, if_pos c2, if_neg (fun q => c3 (by rw [q]))] at h
    exact h
  · rw [nn_eq (by omega) (by omega)] at c3
    rw [if_pos c, if_pos c2, if_pos c3] at h
    exact h
  · rw [if_pos c, if_neg c2] at h
    exact h
  · rw [if_neg c] at h
    exact h
end TQD
