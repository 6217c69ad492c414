/-! right, comes, lost: the model's loops; the class's rows by the votes told -/
section TQO
variable {d : Nat} {sc : Nat × (Nat → Int32)} {i : Nat → Nat → Int32} {l : Nat → Nat → Int64} {dd : Nat → Nat → Value} {x : Nat}
theorem mt_Vo_o {A : mA_} {o lo hi : Nat} {vt : Nat → Nat → Nat} {i2 : Nat → Nat → Int32} (h : mt_Vo A i o vt) (hf : fr_o lo hi i i2) (h6 : 226 ≤ lo) : mt_Vo A i2 o vt := fun v s hv hs => by
  rw [hf 225 (by omega)]
  exact h v s hv hs
/-- decided in a row, by a table -/
def cs_d (A : mA_) (vt : Nat → Nat → Nat) (b : Nat → Nat) : Nat := mt_db A (fun v => vt v (b v))
theorem md_rt5 {A : mA_} {o : Nat} {vt : Nat → Nat → Nat} (hW : mt_W A) (hp : 0 < aV_ A) {i0 : Nat → Nat → Int32} (hM : mt_M A i0 l) (ho : o < 2) (hV : mt_Vo A i0 o vt) (hk : mt_vt A vt) {Q : ab_Qt} (hQ : ∀ i2, fr_o 226 227 i0 i2 → Q (some (some (.long (Int64.ofNat (cs_right A vt))))) (i2, l, dd, x) (ab_E0 sc)) :
    ∀ (n r : Nat) (i2 : Nat → Nat → Int32), mt_rad (aS_ A) (aV_ A) = r + n → fr_o 226 227 i0 i2 → ab_Fr MX12_rightBy (d + 3) Q 5 [some (.ref 205), some (.int (Int32.ofNat o)), some (.long (Int64.ofNat (pu_s (fun r => mt_pa A (pu_g (aS_ A) (aV_ A) r) (cs_d A vt (pu_g (aS_ A) (aV_ A) r))) r))), none, some (.int (Int32.ofNat r))] [] (0, 0) (i2, l, dd, x) (ab_E0 sc) := by
  intro n
  have hR := (mt_rows hW).1
  have w1 := hW.1
  induction n with
  | zero =>
    intro r i2 hr f2
    have r3 := (mt_M_f hM f2 (by omega) hW).1.2.2
    refine tMX12_rightBy_5 (d := d + 2) ⟨fun _ => ?_, fun c => ?_⟩
    · rw [show r = mt_rad (aS_ A) (aV_ A) by omega, cs_rows (G := fun b => mt_pa A b (cs_d A vt b)) hW]
      exact hQ i2 f2
    · simp (disch := omega) only [r3, ↓nn_m3, nn_p0, nn_p1, nn_p2, nn_p3, nn_p4, nn_p5, nn_p6, nn_p7, nn_p8, nn_p9, nn_p10, nn_p20, nn_p21, nn_le, nn_lt, nn_eq, nn_cl, nn_in, nn_add, nn_mul, nn_en, nn_ne, nn_mn, nn_64] at c
      omega
  | succ n ih =>
    intro r i2 hr f2
    have hM2 := mt_M_f hM f2 (by omega) hW
    have r3 := hM2.1.2.2 (by omega)
    have hdl := cs_db_lt (p := fun v => vt v (pu_g (aS_ A) (aV_ A) r v)) hW hp
    refine tMX12_rightBy_5 (d := d + 2) ⟨fun c => ?_, fun _ => ⟨_, _, mt_decideRow (d := d) hW hp hM2 ho (mt_Vo_o hV f2 (by omega)) hk (by omega), ?_⟩⟩
    · simp (disch := omega) only [r3, ↓nn_m3, nn_p0, nn_p1, nn_p2, nn_p3, nn_p4, nn_p5, nn_p6, nn_p7, nn_p8, nn_p9, nn_p10, nn_p20, nn_p21, nn_le, nn_lt, nn_eq, nn_cl, nn_in, nn_add, nn_mul, nn_en, nn_ne, nn_mn, nn_64] at c
      omega
    · rintro i6 l7 dd8 x9 ⟨i3, ⟨⟩, f3, -⟩
      have e12 := (mt_M_f hM2 f3 (by omega) hW).2.2.2.2.2.2.2 r _ (by omega) hdl
      simp (disch := omega) only [e12, ↓nn_m3, nn_p0, nn_p1, nn_p2, nn_p3, nn_p4, nn_p5, nn_p6, nn_p7, nn_p8, nn_p9, nn_p10, nn_p20, nn_p21, nn_le, nn_lt, nn_eq, nn_cl, nn_in, nn_add, nn_mul, nn_en, nn_ne, nn_mn, nn_64, nl_p0, nl_p1, nl_p20, nl_add, nl_mul]
      exact ⟨trivial, ih (r + 1) _ (by omega) (fr_t f2 f3)⟩
theorem md_right {A : mA_} {o : Nat} {vt : Nat → Nat → Nat} (hW : mt_W A) (hp : 0 < aV_ A) (hM : mt_M A i l) (ho : o < 2) (hV : mt_Vo A i o vt) (hk : mt_vt A vt) : ab_Sp MX12_rightBy (d + 3) [.ref 205, .int (Int32.ofNat o)] (i, l, dd, x) (ab_E0 sc) (some (.long (Int64.ofNat (cs_right A vt)))) (fun σ => ∃ i2, σ = (i2, l, dd, x) ∧ fr_o 226 227 i i2) := by
  refine ab_ent (n := 1) okMX12_rightBy.1 (fun G => Nat.le_of_ble_eq_true rfl) (fun Q hQ => ?_)
  exact tMX12_rightBy_0 (d := d + 2) (md_rt5 (i0 := i) hW hp hM ho hV hk (fun i2 f2 => hQ _ ⟨i2, rfl, f2⟩) _ 0 i (Nat.zero_add _).symm fr_r)
/-- what is lost in a row, if e is decided -/
def cs_l (A : mA_) (w : Nat) (b : Nat → Nat) (e t : Nat) : Nat := pu_s (fun t => mt_pa A b t * aK_ A w t e) t
theorem md_lo26 {A : mA_} {o r e z : Nat} (hW : mt_W A) (hM : mt_M A i l) (hr : r < mt_rad (aS_ A) (aV_ A)) (he : e < aT_ A) {Q : ab_Qt} (hQ : ab_Fr MX12_lostBy (d + 2) Q 5 [some (.ref 205), some (.int (Int32.ofNat o)), some (.long (Int64.ofNat (z + cs_l A 7 (pu_g (aS_ A) (aV_ A) r) e (aT_ A)))), none, some (.int (Int32.ofNat (r + 1))), none, none] [] (0, 0) (i, l, dd, x) (ab_E0 sc)) :
    ∀ (n t : Nat), aT_ A = t + n → ab_Fr MX12_lostBy (d + 2) Q 26 [some (.ref 205), some (.int (Int32.ofNat o)), some (.long (Int64.ofNat (z + cs_l A 7 (pu_g (aS_ A) (aV_ A) r) e t))), none, some (.int (Int32.ofNat r)), some (.int (Int32.ofNat e)), some (.int (Int32.ofNat t))] [] (0, 0) (i, l, dd, x) (ab_E0 sc) := by
  intro n
  have hR := (mt_rows hW).1
  have w1 := hW.1
  have r1 := hM.1.1
  induction n with
  | zero =>
    intro t ht
    refine tMX12_lostBy_26 (d := d + 1) ⟨fun _ => ?_, fun c => ?_⟩
    · rw [la_nx, show t = aT_ A by omega]
      exact hQ
    · simp (disch := omega) only [r1, ↓nn_m3, nn_p0, nn_p1, nn_p2, nn_p3, nn_p4, nn_p5, nn_p6, nn_p7, nn_p8, nn_p9, nn_p10, nn_p20, nn_p21, nn_le, nn_lt, nn_eq, nn_cl, nn_in, nn_add, nn_mul, nn_en, nn_ne, nn_mn, nn_64] at c
      omega
  | succ n ih =>
    intro t ht
    have e12 := hM.2.2.2.2.2.2.2 r t (by omega) (by omega)
    have hK5 := hW.2.2.2.2.2.2.2.2.2.1 7 t e
    refine tMX12_lostBy_26 (d := d + 1) ⟨fun c => ?_, fun _ => ?_⟩
    · simp (disch := omega) only [r1, ↓nn_m3, nn_p0, nn_p1, nn_p2, nn_p3, nn_p4, nn_p5, nn_p6, nn_p7, nn_p8, nn_p9, nn_p10, nn_p20, nn_p21, nn_le, nn_lt, nn_eq, nn_cl, nn_in, nn_add, nn_mul, nn_en, nn_ne, nn_mn, nn_64] at c
      omega
    · rw [nn_p3, nn_mul, nn_add]
      refine ⟨la_vp (by omega) (by omega), _, _, mt_loss (d := d) (w := 7) hW hM (Or.inr rfl) (by omega) he, ?_⟩
      rintro i6 l7 dd8 x9 ⟨⟩
      rw [nn_cl (by omega), e12, nn_64 (by omega), nl_mul, nl_add, la_nx, Nat.add_assoc z]
      exact ih (t + 1) (by omega)
theorem md_lo5 {A : mA_} {o : Nat} {vt : Nat → Nat → Nat} (hW : mt_W A) (hp : 0 < aV_ A) {i0 : Nat → Nat → Int32} (hM : mt_M A i0 l) (ho : o < 2) (hV : mt_Vo A i0 o vt) (hk : mt_vt A vt) {Q : ab_Qt} (hQ : ∀ i2, fr_o 226 227 i0 i2 → Q (some (some (.long (Int64.ofNat (cs_lost A vt))))) (i2, l, dd, x) (ab_E0 sc)) :
    ∀ (n r : Nat) (i2 : Nat → Nat → Int32), mt_rad (aS_ A) (aV_ A) = r + n → fr_o 226 227 i0 i2 → ab_Fr MX12_lostBy (d + 3) Q 5 [some (.ref 205), some (.int (Int32.ofNat o)), some (.long (Int64.ofNat (pu_s (fun r => cs_l A 7 (pu_g (aS_ A) (aV_ A) r) (cs_d A vt (pu_g (aS_ A) (aV_ A) r)) (aT_ A)) r))), none, some (.int (Int32.ofNat r)), none, none] [] (0, 0) (i2, l, dd, x) (ab_E0 sc) := by
  intro n
  have hR := (mt_rows hW).1
  induction n with
  | zero =>
    intro r i2 hr f2
    have r3 := (mt_M_f hM f2 (by omega) hW).1.2.2
    refine tMX12_lostBy_5 (d := d + 2) ⟨fun _ => ?_, fun c => ?_⟩
    · rw [show r = mt_rad (aS_ A) (aV_ A) by omega, cs_rows (G := fun b => cs_l A 7 b (cs_d A vt b) (aT_ A)) hW]
      exact hQ i2 f2
    · simp (disch := omega) only [r3, ↓nn_m3, nn_p0, nn_p1, nn_p2, nn_p3, nn_p4, nn_p5, nn_p6, nn_p7, nn_p8, nn_p9, nn_p10, nn_p20, nn_p21, nn_le, nn_lt, nn_eq, nn_cl, nn_in, nn_add, nn_mul, nn_en, nn_ne, nn_mn, nn_64] at c
      omega
  | succ n ih =>
    intro r i2 hr f2
    have hM2 := mt_M_f hM f2 (by omega) hW
    have r3 := hM2.1.2.2 (by omega)
    have hdl := cs_db_lt (p := fun v => vt v (pu_g (aS_ A) (aV_ A) r v)) hW hp
    refine tMX12_lostBy_5 (d := d + 2) ⟨fun c => ?_, fun _ => ⟨_, _, mt_decideRow (d := d) hW hp hM2 ho (mt_Vo_o hV f2 (by omega)) hk (by omega), ?_⟩⟩
    · simp (disch := omega) only [r3, ↓nn_m3, nn_p0, nn_p1, nn_p2, nn_p3, nn_p4, nn_p5, nn_p6, nn_p7, nn_p8, nn_p9, nn_p10, nn_p20, nn_p21, nn_le, nn_lt, nn_eq, nn_cl, nn_in, nn_add, nn_mul, nn_en, nn_ne, nn_mn, nn_64] at c
      omega
    · rintro i6 l7 dd8 x9 ⟨i3, ⟨⟩, f3, -⟩
      exact md_lo26 (d := d + 1) hW (mt_M_f hM2 f3 (by omega) hW) (by omega) hdl (ih (r + 1) _ (by omega) (fr_t f2 f3)) (aT_ A) 0 (by omega)
theorem md_lost {A : mA_} {o : Nat} {vt : Nat → Nat → Nat} (hW : mt_W A) (hp : 0 < aV_ A) (hM : mt_M A i l) (ho : o < 2) (hV : mt_Vo A i o vt) (hk : mt_vt A vt) : ab_Sp MX12_lostBy (d + 3) [.ref 205, .int (Int32.ofNat o)] (i, l, dd, x) (ab_E0 sc) (some (.long (Int64.ofNat (cs_lost A vt)))) (fun σ => ∃ i2, σ = (i2, l, dd, x) ∧ fr_o 226 227 i i2) := by
  refine ab_ent (n := 1) okMX12_lostBy.1 (fun G => Nat.le_of_ble_eq_true rfl) (fun Q hQ => ?_)
  exact tMX12_lostBy_0 (d := d + 2) (md_lo5 (i0 := i) hW hp hM ho hV hk (fun i2 f2 => hQ _ ⟨i2, rfl, f2⟩) _ 0 i (Nat.zero_add _).symm fr_r)
def cs_e (A : mA_) (vt : Nat → Nat → Nat) (t u : Nat) (b : Nat → Nat) : Nat := if cs_d A vt b = u then mt_pa A b t else 0
theorem md_co31 {A : mA_} {t u : Nat} {vt : Nat → Nat → Nat} (hW : mt_W A) (hp : 0 < aV_ A) {i0 : Nat → Nat → Int32} (hM : mt_M A i0 l) (hV : mt_Vo A i0 0 vt) (hk : mt_vt A vt) (ht : t < aT_ A) (hu : u < aT_ A) {Q : ab_Qt} (hQ : ∀ i2, fr_o 226 227 i0 i2 → Q (some (some (.long (Int64.ofNat (cs_cm A vt t u))))) (i2, l, dd, x) (ab_E0 sc)) :
    ∀ (n r : Nat) (i2 : Nat → Nat → Int32), mt_rad (aS_ A) (aV_ A) = r + n → fr_o 226 227 i0 i2 → ab_Fr MX12_comes (d + 3) Q 31 [some (.ref 205), some (.int (Int32.ofNat t)), some (.int (Int32.ofNat u)), some (.long (Int64.ofNat (pu_s (fun r => cs_e A vt t u (pu_g (aS_ A) (aV_ A) r)) r))), none, some (.int (Int32.ofNat r))] [] (0, 0) (i2, l, dd, x) (ab_E0 sc) := by
  intro n
  have hR := (mt_rows hW).1
  have w1 := hW.1
  induction n with
  | zero =>
    intro r i2 hr f2
    have r3 := (mt_M_f hM f2 (by omega) hW).1.2.2
    refine tMX12_comes_31 (d := d + 2) ⟨fun _ => ?_, fun c => ?_⟩
    · rw [show r = mt_rad (aS_ A) (aV_ A) by omega, cs_rows (G := cs_e A vt t u) hW]
      exact hQ i2 f2
    · simp (disch := omega) only [r3, ↓nn_m3, nn_p0, nn_p1, nn_p2, nn_p3, nn_p4, nn_p5, nn_p6, nn_p7, nn_p8, nn_p9, nn_p10, nn_p20, nn_p21, nn_le, nn_lt, nn_eq, nn_cl, nn_in, nn_add, nn_mul, nn_en, nn_ne, nn_mn, nn_64] at c
      omega
  | succ n ih =>
    intro r i2 hr f2
    have hM2 := mt_M_f hM f2 (by omega) hW
    have r3 := hM2.1.2.2 (by omega)
    have hdl : cs_d A vt (pu_g (aS_ A) (aV_ A) r) < aT_ A := cs_db_lt (p := fun v => vt v (pu_g (aS_ A) (aV_ A) r v)) hW hp
    have ihr := ih (r + 1)
    refine tMX12_comes_31 (d := d + 2) ⟨fun c => ?_, fun _ => ⟨_, _, mt_decideRow (d := d) (o := 0) hW hp hM2 (by omega) (mt_Vo_o hV f2 (by omega)) hk (by omega), ?_⟩⟩
    · simp (disch := omega) only [r3, ↓nn_m3, nn_p0, nn_p1, nn_p2, nn_p3, nn_p4, nn_p5, nn_p6, nn_p7, nn_p8, nn_p9, nn_p10, nn_p20, nn_p21, nn_le, nn_lt, nn_eq, nn_cl, nn_in, nn_add, nn_mul, nn_en, nn_ne, nn_mn, nn_64] at c
      omega
    · rintro i6 l7 dd8 x9 ⟨i3, ⟨⟩, f3, -⟩
      have ih2 := ih (r + 1) i6 (by omega) (fr_t f2 f3)
      have e12 := (mt_M_f hM2 f3 (by omega) hW).2.2.2.2.2.2.2 r t (by omega) ht
      refine ⟨fun c => ?_, fun c => ?_⟩
      · rw [nn_eq (by unfold cs_d at hdl; omega) (by omega)] at c
        rw [show pu_s (fun r => cs_e A vt t u (pu_g (aS_ A) (aV_ A) r)) (r + 1) = pu_s (fun r => cs_e A vt t u (pu_g (aS_ A) (aV_ A) r)) r + cs_e A vt t u (pu_g (aS_ A) (aV_ A) r) from rfl, show cs_e A vt t u (pu_g (aS_ A) (aV_ A) r) = 0 from if_neg c] at ih2
        rw [la_nx]
        exact ih2
      · rw [nn_eq (by unfold cs_d at hdl; omega) (by omega)] at c
        rw [show pu_s (fun r => cs_e A vt t u (pu_g (aS_ A) (aV_ A) r)) (r + 1) = pu_s (fun r => cs_e A vt t u (pu_g (aS_ A) (aV_ A) r)) r + cs_e A vt t u (pu_g (aS_ A) (aV_ A) r) from rfl, show cs_e A vt t u (pu_g (aS_ A) (aV_ A) r) = mt_pa A (pu_g (aS_ A) (aV_ A) r) t from if_pos c] at ih2
        simp (disch := omega) only [e12, ↓nn_m3, nn_p0, nn_p1, nn_p2, nn_p3, nn_p4, nn_p5, nn_p6, nn_p7, nn_p8, nn_p9, nn_p10, nn_p20, nn_p21, nn_le, nn_lt, nn_eq, nn_cl, nn_in, nn_add, nn_mul, nn_en, nn_ne, nn_mn, nn_64, nl_p0, nl_p1, nl_p20, nl_add, nl_mul]
        exact ⟨trivial, ih2⟩
end TQO
