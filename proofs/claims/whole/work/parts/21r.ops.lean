/-! the calls lost, silent, helps, comes -/
section TQR
variable {d : Nat} {sc : Nat × (Nat → Int32)} {i : Nat → Nat → Int32} {l : Nat → Nat → Int64} {dd : Nat → Nat → Value} {x : Nat}
theorem cs_lost_c {A : mA_} {vt v2 : Nat → Nat → Nat} (hW : mt_W A) (h : ∀ v, v < aV_ A → vt v = v2 v) : cs_lost A vt = cs_lost A v2 := by
  unfold cs_lost
  refine pu_nc (fun b _ => pu_sc (fun t _ => ?_))
  rw [mt_db_c (b := fun v => vt v (b v)) (c := fun v => v2 v (b v)) hW (fun v hv => by rw [h v hv])]
theorem cs_si77 {A : mA_} (hW : mt_W A) : cs_lost A (cs_si (aO_ A) 7 7) = cs_lost A (aO_ A) := cs_lost_c hW (fun v hv => by
  have w2 := hW.2.1
  funext s
  unfold cs_si
  rw [if_neg (by omega)])
theorem cs_si_sw {A : mA_} {a b : Nat} (hW : mt_W A) : cs_lost A (cs_si (aO_ A) a b) = cs_lost A (cs_si (aO_ A) b a) := cs_lost_c hW (fun v _ => by
  funext s
  unfold cs_si
  by_cases c : v = a ∨ v = b
  · rw [if_pos c, if_pos (Or.symm c)]
  · rw [if_neg c, if_neg (fun q => c (Or.symm q))])
theorem mt_h7 : (-1 : Int32) = mt_h 7 := rfl
theorem mt_hn {a : Nat} (h : a < 7) : mt_h a = Int32.ofNat a := if_neg (by omega)
/-- lost of the class -/
theorem mt_lostC {R : ab_S → Prop} {A : mA_} {m : Nat} (hW : mt_W A) (hI : la_I R (i, l, dd, x)) (e0 : dd 3 11 = .ref m) (hm : ab_isM m) (hK : mt_K A m i) : ab_Sp MX11_lost (d + 5) [.ref 3] (i, l, dd, x) (ab_E0 sc) (some (.long (if aV_ A = 0 then 0 else Int64.ofNat (cs_lost A (aO_ A))))) (la_I R) := by
  have hz := mt_z30 hW hK
  refine ab_ent (n := 0) okMX11_lost.1 (fun G => Nat.le_of_ble_eq_true rfl) (fun Q hQ => ?_)
  refine tMX11_lost_0 (d := d + 4) ⟨m, e0, hm, _, _, mt_empty (d := d + 3) hm, ?_⟩
  rintro i5 l6 dd7 x8 ⟨⟩
  by_cases c : aV_ A = 0
  · rw [if_pos c] at hQ
    rw [if_pos (hz.mpr c)]
    exact ⟨fun z => absurd z (by decide), fun _ => hQ _ hI⟩
  · rw [if_neg c, ← cs_si77 hW] at hQ
    rw [if_neg (fun z => c (hz.mp z))]
    refine ⟨fun _ => ⟨_, _, mt_without (d := d) (a := 7) (b := 7) hW (by omega) hm e0 hK (Or.inr rfl) (Or.inr rfl), ?_⟩, fun z => absurd rfl z⟩
    rintro i5 l6 dd7 x8 ⟨i2, l2, ⟨⟩, k2, kl2⟩
    exact hQ _ (kp_I hI k2 kl2 (kp_160 hm))
theorem op_lost {R : ab_S → Prop} {A : mA_} (hA : op_A R A) : la_c12 1310 sc (la_I R) := by
  rintro ⟨i, l, dd, x⟩ hI
  obtain ⟨hW, hA2⟩ := hA
  obtain ⟨m, e0, hm, hK, -⟩ := hA2 _ _ _ _ hI
  refine ⟨_, la_I R, mt_lostC (d := 1306) hW hI e0 hm hK, ?_⟩
  rintro ⟨i, l, dd, x⟩ hI
  refine ab_ent (n := 0) okMX12_lost.1 (fun G => Nat.le_of_ble_eq_true rfl) (fun Q hQ => ?_)
  refine tMX12_lost_0 (d := 1310) ?_
  rintro i1 rfl
  have hI2 := la_thr (v := 0) (x2 := x) hI
  obtain ⟨m, e0, hm, hK, hM2⟩ := hA2 _ _ _ _ hI2
  rw [mt_z31 hW hM2]
  by_cases c : aV_ A = 0
  · rw [if_pos c] at hQ
    exact ⟨fun z => absurd c z, fun _ => hQ _ hI2⟩
  · rw [if_neg c] at hQ
    refine ⟨fun _ => ⟨_, _, md_lost (d := 1307) (o := 0) hW (by omega) hM2 (by omega) (mt_MV hM2) hW.2.2.2.2.2.2.2.2.2.2.1, ?_⟩, fun z => absurd z c⟩
    rintro i5 l6 dd7 x8 ⟨i3, ⟨⟩, f3⟩
    exact hQ _ (kp_I hI2 (kp_fo f3 kp_c67) kp_lr kp_dr)
/-- who had better be silent, of the voters before k: who, and what is lost -/
def cs_sl (A : mA_) : Nat → Nat × Int64
  | 0 => (7, Int64.ofNat (cs_lost A (aO_ A)))
  | k + 1 => if Int64.ofNat (cs_lost A (cs_si (aO_ A) k 7)) < (cs_sl A k).2 then (k, Int64.ofNat (cs_lost A (cs_si (aO_ A) k 7))) else cs_sl A k
theorem cs_sl7 {A : mA_} : ∀ k, k ≤ 7 → (cs_sl A k).1 = 7 ∨ (cs_sl A k).1 < k := by
  intro k
  induction k with
  | zero => intro _; exact Or.inl rfl
  | succ k ih =>
    intro hk
    have := ih (by omega)
    unfold cs_sl
    split
    · exact Or.inr (Nat.lt_succ_self k)
    · omega
theorem mt_si10 {R : ab_S → Prop} {A : mA_} (hA : op_A R A) (hp : 0 < aV_ A) {Q : ab_Qt} (hQ : ∀ σ, la_I R σ → Q (some (some (.int (mt_h (cs_sl A (aV_ A)).1)))) σ (ab_E0 sc)) :
    ∀ (n k : Nat) (i : Nat → Nat → Int32) (l : Nat → Nat → Int64) (dd : Nat → Nat → Value) (x : Nat), aV_ A = k + n → la_I R (i, l, dd, x) → ab_Fr MX11_silent (d + 5) Q 10 [some (.ref 3), some (.int (mt_h (cs_sl A k).1)), some (.long (cs_sl A k).2), none, some (.int (Int32.ofNat k)), none, none] [] (0, 0) (i, l, dd, x) (ab_E0 sc) := by
  intro n
  obtain ⟨hW, hA2⟩ := hA
  have w2 := hW.2.1
  induction n with
  | zero =>
    intro k i l dd x hk hI
    obtain ⟨m, e0, hm, hK, -⟩ := hA2 _ _ _ _ hI
    refine tMX11_silent_10 (d := d + 4) ⟨m, e0, hm, fun _ => ?_, fun c => ?_⟩
    · rw [show k = aV_ A by omega]
      exact hQ _ hI
    · simp (disch := omega) only [hK.1.2, ↓nn_m3, nn_p0, nn_p1, nn_p2, nn_p3, nn_p4, nn_p5, nn_p6, nn_p7, nn_p8, nn_p9, nn_p10, nn_p20, nn_p21, nn_le, nn_lt, nn_eq, nn_cl, nn_in, nn_add, nn_mul, nn_en, nn_ne, nn_mn, nn_64] at c
      omega
  | succ n ih =>
    intro k i l dd x hk hI
    obtain ⟨m, e0, hm, hK, -⟩ := hA2 _ _ _ _ hI
    refine tMX11_silent_10 (d := d + 4) ⟨m, e0, hm, fun c => ?_, fun _ => ?_⟩
    · simp (disch := omega) only [hK.1.2, ↓nn_m3, nn_p0, nn_p1, nn_p2, nn_p3, nn_p4, nn_p5, nn_p6, nn_p7, nn_p8, nn_p9, nn_p10, nn_p20, nn_p21, nn_le, nn_lt, nn_eq, nn_cl, nn_in, nn_add, nn_mul, nn_en, nn_ne, nn_mn, nn_64] at c
      omega
    · rw [mt_h7, ← mt_hn (a := k) (by omega)]
      refine ⟨_, _, mt_without (d := d) (a := k) (b := 7) hW hp hm e0 hK (Or.inl (by omega)) (Or.inr rfl), ?_⟩
      rintro i5 l6 dd7 x8 ⟨i2, l2, ⟨⟩, k2, kl2⟩
      have hI2 := kp_I hI k2 kl2 (kp_160 hm) (x2 := x)
      have ih2 := ih (k + 1) _ _ _ _ (by omega) hI2
      rw [mt_hn (a := k) (by omega), la_nx]
      unfold cs_sl at ih2
      refine ⟨fun c => ?_, fun c => ?_⟩
      · rw [if_neg c] at ih2
        exact ih2
      · rw [if_pos c] at ih2
        dsimp only at ih2
        rw [mt_hn (a := k) (by omega)] at ih2
        exact ih2
theorem md_si25 {R : ab_S → Prop} {A : mA_} (hA : op_A R A) (hp : 0 < aV_ A) {Q : ab_Qt} (hQ : ∀ σ, la_I R σ → Q (some (some (.int (mt_h (cs_sl A (aV_ A)).1)))) σ (ab_E0 sc)) :
    ∀ (n k : Nat) (i : Nat → Nat → Int32) (l : Nat → Nat → Int64) (dd : Nat → Nat → Value) (x : Nat), aV_ A = k + n → la_I R (i, l, dd, x) → ab_Fr MX12_silent (d + 5) Q 25 [some (.ref 205), some (.long (cs_sl A k).2), none, some (.int (mt_h (cs_sl A k).1)), some (.int (Int32.ofNat k)), none, none] [] (0, 0) (i, l, dd, x) (ab_E0 sc) := by
  intro n
  obtain ⟨hW, hA2⟩ := hA
  have w2 := hW.2.1
  induction n with
  | zero =>
    intro k i l dd x hk hI
    obtain ⟨m, e0, hm, -, hM⟩ := hA2 _ _ _ _ hI
    refine tMX12_silent_25 (d := d + 4) ⟨fun _ => ?_, fun c => ?_⟩
    · rw [show k = aV_ A by omega]
      exact hQ _ hI
    · simp (disch := omega) only [hM.1.2.1, ↓nn_m3, nn_p0, nn_p1, nn_p2, nn_p3, nn_p4, nn_p5, nn_p6, nn_p7, nn_p8, nn_p9, nn_p10, nn_p20, nn_p21, nn_le, nn_lt, nn_eq, nn_cl, nn_in, nn_add, nn_mul, nn_en, nn_ne, nn_mn, nn_64] at c
      omega
  | succ n ih =>
    intro k i l dd x hk hI
    obtain ⟨m, e0, hm, -, hM⟩ := hA2 _ _ _ _ hI
    refine tMX12_silent_25 (d := d + 4) ⟨fun c => ?_, fun _ => ?_⟩
    · simp (disch := omega) only [hM.1.2.1, ↓nn_m3, nn_p0, nn_p1, nn_p2, nn_p3, nn_p4, nn_p5, nn_p6, nn_p7, nn_p8, nn_p9, nn_p10, nn_p20, nn_p21, nn_le, nn_lt, nn_eq, nn_cl, nn_in, nn_add, nn_mul, nn_en, nn_ne, nn_mn, nn_64] at c
      omega
    · rw [mt_h7, ← mt_hn (a := k) (by omega)]
      refine ⟨_, _, md_without (d := d) (a := k) (b := 7) hW hp hM (Or.inl (by omega)) (Or.inr rfl), ?_⟩
      rintro i5 l6 dd7 x8 ⟨i2, ⟨⟩, f2⟩
      have hI2 := kp_I hI (md_kp f2) kp_lr kp_dr (x2 := x)
      have ih2 := ih (k + 1) _ _ _ _ (by omega) hI2
      rw [mt_hn (a := k) (by omega), la_nx]
      unfold cs_sl at ih2
      refine ⟨fun c => ?_, fun c => ?_⟩
      · rw [if_pos c] at ih2
        dsimp only at ih2
        rw [mt_hn (a := k) (by omega)] at ih2
        exact ih2
      · rw [if_neg c] at ih2
        exact ih2
theorem op_silent {R : ab_S → Prop} {A : mA_} (hA : op_A R A) : la_c30 1310 sc (la_I R) := by
  rintro ⟨i, l, dd, x⟩ hI
  have hA0 := hA
  obtain ⟨hW, hA2⟩ := hA
  obtain ⟨m, e0, hm, hK, -⟩ := hA2 _ _ _ _ hI
  by_cases c : aV_ A = 0
  · refine ⟨-1, la_I R, ?_, ?_⟩
    · refine ab_ent (n := 0) okMX11_silent.1 (fun G => Nat.le_of_ble_eq_true rfl) (fun Q hQ => ?_)
      refine tMX11_silent_0 (d := 1310) ⟨_, _, mt_lostC (d := 1305) hW hI e0 hm hK, ?_⟩
      rintro i5 l6 dd7 x8 hI2
      obtain ⟨m, e0, hm, hK, -⟩ := hA2 _ _ _ _ hI2
      refine tMX11_silent_10 (d := 1310) ⟨m, e0, hm, fun _ => hQ _ hI2, fun c2 => ?_⟩
      simp (disch := omega) only [hK.1.2, c, ↓nn_m3, nn_p0, nn_p1, nn_p2, nn_p3, nn_p4, nn_p5, nn_p6, nn_p7, nn_p8, nn_p9, nn_p10, nn_p20, nn_p21, nn_le, nn_lt, nn_eq, nn_cl, nn_in, nn_add, nn_mul, nn_en, nn_ne, nn_mn, nn_64] at c2
      omega
    · rintro ⟨i, l, dd, x⟩ hI
      refine ab_ent (n := 0) okMX12_silent.1 (fun G => Nat.le_of_ble_eq_true rfl) (fun Q hQ => ?_)
      refine tMX12_silent_0 (d := 1310) ?_
      rintro i1 rfl
      have hI2 := la_thr (v := 0) (x2 := x) hI
      obtain ⟨m, e0, hm, hK, hM2⟩ := hA2 _ _ _ _ hI2
      rw [mt_z31 hW hM2]
      exact ⟨fun z => absurd c z, fun _ => hQ _ hI2⟩
  · refine ⟨mt_h (cs_sl A (aV_ A)).1, la_I R, ?_, ?_⟩
    · refine ab_ent (n := 0) okMX11_silent.1 (fun G => Nat.le_of_ble_eq_true rfl) (fun Q hQ => ?_)
      refine tMX11_silent_0 (d := 1310) ⟨_, _, mt_lostC (d := 1305) hW hI e0 hm hK, ?_⟩
      rintro i5 l6 dd7 x8 hI2
      rw [if_neg c]
      exact mt_si10 (d := 1306) hA0 (by omega) hQ (aV_ A) 0 _ _ _ _ (by omega) hI2
    · rintro ⟨i, l, dd, x⟩ hI
      refine ab_ent (n := 0) okMX12_silent.1 (fun G => Nat.le_of_ble_eq_true rfl) (fun Q hQ => ?_)
      refine tMX12_silent_0 (d := 1310) ?_
      rintro i1 rfl
      have hI2 := la_thr (v := 0) (x2 := x) hI
      obtain ⟨m, e0, hm, hK, hM2⟩ := hA2 _ _ _ _ hI2
      rw [mt_z31 hW hM2]
      refine ⟨fun _ => ⟨_, _, md_lost (d := 1307) (o := 0) hW (by omega) hM2 (by omega) (mt_MV hM2) hW.2.2.2.2.2.2.2.2.2.2.1, ?_⟩, fun z => absurd z c⟩
      rintro i5 l6 dd7 x8 ⟨i3, ⟨⟩, f3⟩
      exact md_si25 (d := 1306) hA0 (by omega) hQ (aV_ A) 0 _ _ _ _ (by omega) (kp_I hI2 (kp_fo f3 kp_c67) kp_lr kp_dr)
end TQR
