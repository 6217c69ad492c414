/-! what is lost without one or two: both sides; silent, helps, lost -/
section TQQ
variable {d : Nat} {sc : Nat × (Nat → Int32)} {i : Nat → Nat → Int32} {l : Nat → Nat → Int64} {dd : Nat → Nat → Value} {x : Nat}
def cs_si (vt : Nat → Nat → Nat) (a b : Nat) : Nat → Nat → Nat := fun u s => if u = a ∨ u = b then 9 else vt u s
theorem cs_si_v {A : mA_} {vt : Nat → Nat → Nat} {a b : Nat} (h : mt_vt A vt) : mt_vt A (cs_si vt a b) := fun v s hv hs => by
  unfold cs_si
  split
  · exact Or.inr rfl
  · exact h v s hv hs
theorem gr_rc {S : Nat → Nat} {V t : Nat} {cv : Nat → mC_} {vt vt2 lam : Nat → Nat → Nat} (h : gr_r S V cv t vt lam) (e : ∀ v, v < V → vt2 v = vt v) : gr_r S V cv t vt2 lam := fun v hv F => by
  rw [e v hv]
  exact h v hv F
theorem mt_ht {a : Nat} (h : a < 7 ∨ a = 7) : (mt_h a).toInt = if a = 7 then -1 else (a : Int) := by
  unfold mt_h
  by_cases c : a = 7
  · rw [if_pos c, if_pos c]
    rfl
  · rw [if_neg c, if_neg c, la_nat (by omega)]
theorem mt_hasH {A : mA_} {m a : Nat} (hW : mt_W A) (hm : ab_isM m) (hK : mt_K A m i) (ha : a < aV_ A ∨ a = 7) : ab_Sp MX1_hasVoter (d + 1) [.ref m, .int (mt_h a)] (i, l, dd, x) (ab_E0 sc) (some (.int (if a = 7 then 0 else 1))) (fun σ => σ = (i, l, dd, x)) := by
  have w2 := hW.2.1
  have h := mt_hasV (d := d) (sc := sc) (i := i) (l := l) (dd := dd) (x := x) (a := mt_h a) hm
  rw [hK.1.2, la_nat (by omega), mt_ht (by omega)] at h
  by_cases c : a = 7
  · rw [if_pos c] at h ⊢
    rw [if_neg (by omega)] at h
    exact h
  · rw [if_neg c] at h ⊢
    rw [if_pos (by omega)] at h
    exact h
/-- cells of the model that calls on trial write -/
def md_f (i i2 : Nat → Nat → Int32) : Prop := (∀ k, k ≠ 225 → k ≠ 226 → k ≠ 227 → i2 k = i k) ∧ ∀ j, j < 21 → i2 225 j = i 225 j
theorem md_ft {i2 i3 : Nat → Nat → Int32} (h1 : md_f i i2) (h2 : md_f i2 i3) : md_f i i3 := ⟨fun k a b c => (h2.1 k a b c).trans (h1.1 k a b c), fun j h => (h2.2 j h).trans (h1.2 j h)⟩
theorem md_fo {i2 : Nat → Nat → Int32} (h : fr_o 226 227 i i2) : md_f i i2 := ⟨fun k _ b c => h k (by omega), fun j _ => by rw [h 225 (by omega)]⟩
theorem md_fr : md_f i i := ⟨fun _ _ _ _ => rfl, fun _ _ => rfl⟩
theorem md_fM {A : mA_} {i2 : Nat → Nat → Int32} (hM : mt_M A i l) (h : md_f i i2) (hW : mt_W A) : mt_M A i2 l :=
  mt_M_fr hM (fun j _ _ => by rw [h.1 205 (by decide) (by decide) (by decide)]) (fun k _ _ => h.1 k (by omega) (by omega) (by omega)) h.2 rfl hW
theorem md_kp {i2 : Nat → Nat → Int32} (h : md_f i i2) : kp_i i i2 := by
  refine ⟨fun k j hk => ?_, h.1 5 (by decide) (by decide) (by decide), h.1 206 (by decide) (by decide) (by decide), by rw [h.1 4 (by decide) (by decide) (by decide)], by rw [h.1 205 (by decide) (by decide) (by decide)]⟩
  by_cases c5 : k = 225
  · subst c5
    refine h.2 j ?_
    rcases Nat.lt_or_ge j 21 with c | c
    · exact c
    · exfalso
      simp [la_ws, c] at hk
  · have c6 : k ≠ 226 := fun z => by subst z; rw [kp_sw rfl] at hk; cases hk
    have c7 : k ≠ 227 := fun z => by subst z; rw [kp_sw rfl] at hk; cases hk
    rw [h.1 k c5 c6 c7]
theorem md_u5 {j : Nat} {v : Int32} (h : 21 ≤ j) : md_f i (ab_u i 225 j v) := ⟨fun k a _ _ => uu_f a, fun b hb => uu_j (by omega)⟩
theorem md_tt2 {i0 : Nat → Nat → Int32} {Q : ab_Qt} (hQ : ∀ i2, md_f i0 i2 → (∀ j, j < 21 → i2 225 (21 + j) = i0 225 j) → Q (some none) (i2, l, dd, x) (ab_E0 sc)) :
    ∀ (n k : Nat) (i2 : Nat → Nat → Int32), 21 = k + n → md_f i0 i2 → (∀ j, j < k → i2 225 (21 + j) = i0 225 j) → ab_Fr MX12_tryTold (d + 1) Q 2 [some (.ref 205), some (.int (Int32.ofNat k))] [] (0, 0) (i2, l, dd, x) (ab_E0 sc) := by
  intro n
  induction n with
  | zero =>
    intro k i2 hk f2 z2
    refine tMX12_tryTold_2 ⟨fun _ => hQ i2 f2 (fun j hj => z2 j (by omega)), fun c => ?_⟩
    simp (disch := omega) only [↓nn_m3, nn_p0, nn_p1, nn_p2, nn_p3, nn_p4, nn_p5, nn_p6, nn_p7, nn_p8, nn_p9, nn_p10, nn_p20, nn_p21, nn_le, nn_lt, nn_eq, nn_cl, nn_in, nn_add, nn_mul, nn_en, nn_ne, nn_mn, nn_64] at c
    omega
  | succ n ih =>
    intro k i2 hk f2 z2
    refine tMX12_tryTold_2 ⟨fun c => ?_, fun _ => ?_⟩
    · simp (disch := omega) only [↓nn_m3, nn_p0, nn_p1, nn_p2, nn_p3, nn_p4, nn_p5, nn_p6, nn_p7, nn_p8, nn_p9, nn_p10, nn_p20, nn_p21, nn_le, nn_lt, nn_eq, nn_cl, nn_in, nn_add, nn_mul, nn_en, nn_ne, nn_mn, nn_64] at c
      omega
    · simp (disch := omega) only [↓nn_m3, nn_p0, nn_p1, nn_p2, nn_p3, nn_p4, nn_p5, nn_p6, nn_p7, nn_p8, nn_p9, nn_p10, nn_p20, nn_p21, nn_le, nn_lt, nn_eq, nn_cl, nn_in, nn_add, nn_mul, nn_en, nn_ne, nn_mn, nn_64]
      refine ⟨trivial, trivial, ?_⟩
      rintro i3 rfl
      refine ih (k + 1) _ (by omega) (md_ft f2 (md_u5 (by omega))) (fun j hj => ?_)
      by_cases e : j = k
      · rw [e, uu_e]
        exact f2.2 k (by omega)
      · rw [uu_j (by omega)]
        exact z2 j (by omega)
theorem md_tryTold {A : mA_} (hW : mt_W A) (hM : mt_M A i l) : ab_Sp MX12_tryTold (d + 1) [.ref 205] (i, l, dd, x) (ab_E0 sc) none (fun σ => ∃ i2, σ = (i2, l, dd, x) ∧ md_f i i2 ∧ mt_Vo A i2 1 (aO_ A)) := by
  refine ab_ent (n := 0) okMX12_tryTold.1 (fun G => Nat.le_of_ble_eq_true rfl) (fun Q hQ => ?_)
  refine tMX12_tryTold_0 (md_tt2 (i0 := i) ?_ 21 0 i rfl md_fr (fun j hj => absurd hj (Nat.not_lt_zero j)))
  intro i2 f2 z2
  refine hQ _ ⟨i2, rfl, f2, fun v s hv hs => ?_⟩
  have w2 := hW.2.1
  have h7 := hW.2.2.2.2.2.2.1 v hv
  rw [show 21 * 1 + 3 * v + s = 21 + (3 * v + s) by omega, z2 _ (by omega)]
  exact hM.2.2.2.2.2.2.1 v s hv hs
theorem md_si2 {a : Nat} {vt : Nat → Nat → Nat} {A : mA_} (hW : mt_W A) (ha : a < aV_ A) {i0 : Nat → Nat → Int32} (hV : mt_Vo A i0 1 vt) {Q : ab_Qt} (hQ : ∀ i2, md_f i0 i2 → mt_Vo A i2 1 (gr_f vt a (fun _ => 9)) → Q (some none) (i2, l, dd, x) (ab_E0 sc)) :
    ∀ (n k : Nat) (i2 : Nat → Nat → Int32), 3 = k + n → md_f i0 i2 → (∀ j, j < k → i2 225 (21 + 3 * a + j) = Int32.ofNat 9) → (∀ j, (j < 21 + 3 * a ∨ 21 + 3 * a + 3 ≤ j) → i2 225 j = i0 225 j) → ab_Fr MX12_silence (d + 1) Q 2 [some (.ref 205), some (.int (Int32.ofNat a)), some (.int (Int32.ofNat k))] [] (0, 0) (i2, l, dd, x) (ab_E0 sc) := by
  intro n
  have w2 := hW.2.1
  induction n with
  | zero =>
    intro k i2 hk f2 z2 y2
    refine tMX12_silence_2 ⟨fun _ => hQ i2 f2 (fun v s hv hs => ?_), fun c => ?_⟩
    · have h7 := hW.2.2.2.2.2.2.1 v hv
      unfold gr_f
      by_cases e : v = a
      · rw [if_pos e, e]
        exact z2 s (by omega)
      · rw [if_neg e, y2 _ (by omega)]
        exact hV v s hv hs
    · simp (disch := omega) only [↓nn_m3, nn_p0, nn_p1, nn_p2, nn_p3, nn_p4, nn_p5, nn_p6, nn_p7, nn_p8, nn_p9, nn_p10, nn_p20, nn_p21, nn_le, nn_lt, nn_eq, nn_cl, nn_in, nn_add, nn_mul, nn_en, nn_ne, nn_mn, nn_64] at c
      omega
  | succ n ih =>
    intro k i2 hk f2 z2 y2
    refine tMX12_silence_2 ⟨fun c => ?_, fun _ => ?_⟩
    · simp (disch := omega) only [↓nn_m3, nn_p0, nn_p1, nn_p2, nn_p3, nn_p4, nn_p5, nn_p6, nn_p7, nn_p8, nn_p9, nn_p10, nn_p20, nn_p21, nn_le, nn_lt, nn_eq, nn_cl, nn_in, nn_add, nn_mul, nn_en, nn_ne, nn_mn, nn_64] at c
      omega
    · simp (disch := omega) only [↓nn_m3, nn_p0, nn_p1, nn_p2, nn_p3, nn_p4, nn_p5, nn_p6, nn_p7, nn_p8, nn_p9, nn_p10, nn_p20, nn_p21, nn_le, nn_lt, nn_eq, nn_cl, nn_in, nn_add, nn_mul, nn_en, nn_ne, nn_mn, nn_64]
      refine ⟨trivial, ?_⟩
      rintro i3 rfl
      refine ih (k + 1) _ (by omega) (md_ft f2 (md_u5 (by omega))) (fun j hj => ?_) (fun j hj => ?_)
      · by_cases e : j = k
        · rw [e]
          exact uu_e
        · rw [uu_j (by omega)]
          exact z2 j (by omega)
      · rw [uu_j (by omega)]
        exact y2 j hj
theorem md_silence {a : Nat} {vt : Nat → Nat → Nat} {A : mA_} (hW : mt_W A) (ha : a < aV_ A) (hV : mt_Vo A i 1 vt) : ab_Sp MX12_silence (d + 1) [.ref 205, .int (Int32.ofNat a)] (i, l, dd, x) (ab_E0 sc) none (fun σ => ∃ i2, σ = (i2, l, dd, x) ∧ md_f i i2 ∧ mt_Vo A i2 1 (gr_f vt a (fun _ => 9))) := by
  refine ab_ent (n := 1) okMX12_silence.1 (fun G => Nat.le_of_ble_eq_true rfl) (fun Q hQ => ?_)
  refine tMX12_silence_0 (md_si2 (i0 := i) hW ha hV ?_ 3 0 i rfl md_fr (fun j hj => absurd hj (Nat.not_lt_zero j)) (fun _ _ => rfl))
  intro i2 f2 z2
  exact hQ _ ⟨i2, rfl, f2, z2⟩
theorem mt_h_n {a : Nat} (h : a < 7 ∨ a = 7) : (mt_h a = -1) = (a = 7) := by
  refine propext ⟨fun z => ?_, fun z => by rw [z]; rfl⟩
  have h2 := mt_ht h
  rw [z] at h2
  by_cases c : a = 7
  · exact c
  · rw [if_neg c] at h2
    have h3 : ((-1 : Int32).toInt) = -1 := rfl
    omega
theorem md_Vo_c {A : mA_} {o : Nat} {vt vt2 : Nat → Nat → Nat} (h : mt_Vo A i o vt) (e : ∀ v, v < aV_ A → vt2 v = vt v) : mt_Vo A i o vt2 := fun v s hv hs => by
  rw [e v hv]
  exact h v s hv hs
theorem md_without {A : mA_} {a b : Nat} (hW : mt_W A) (hp : 0 < aV_ A) (hM : mt_M A i l) (ha : a < aV_ A ∨ a = 7) (hb : b < aV_ A ∨ b = 7) : ab_Sp MX12_lostWithout (d + 4) [.ref 205, .int (mt_h a), .int (mt_h b)] (i, l, dd, x) (ab_E0 sc) (some (.long (Int64.ofNat (cs_lost A (cs_si (aO_ A) a b))))) (fun σ => ∃ i2, σ = (i2, l, dd, x) ∧ md_f i i2) := by
  have w2 := hW.2.1
  refine ab_ent (n := 2) okMX12_lostWithout.1 (fun G => Nat.le_of_ble_eq_true rfl) (fun Q hQ => ?_)
  have fin : ∀ i2, md_f i i2 → mt_Vo A i2 1 (cs_si (aO_ A) a b) → ab_Fr MX12_lostWithout (d + 4) Q 24 [some (.ref 205), none, none] [] (0, 0) (i2, l, dd, x) (ab_E0 sc) := by
    intro i2 f2 V2
    refine tMX12_lostWithout_24 (d := d + 3) ⟨_, _, md_lost (d := d) (o := 1) hW hp (md_fM hM f2 hW) (by omega) V2 (cs_si_v hW.2.2.2.2.2.2.2.2.2.2.1), ?_⟩
    rintro i5 l6 dd7 x8 ⟨i3, ⟨⟩, f3⟩
    exact hQ _ ⟨_, rfl, md_ft f2 (md_fo f3)⟩
  have mid : ∀ i2, md_f i i2 → mt_Vo A i2 1 (cs_si (aO_ A) a 7) → ab_Fr MX12_lostWithout (d + 4) Q 14 [some (.ref 205), none, some (.int (mt_h b))] [] (0, 0) (i2, l, dd, x) (ab_E0 sc) := by
    intro i2 f2 V2
    refine tMX12_lostWithout_14 (d := d + 3) ?_
    rw [mt_h_n (by omega)]
    refine ⟨fun c => fin i2 f2 (by rw [c]; exact V2), fun c => ?_⟩
    rw [show mt_h b = Int32.ofNat b from if_neg c]
    refine ⟨_, md_silence (d := d + 2) hW (by omega) V2, ?_⟩
    rintro i5 l6 dd7 x8 ⟨i3, ⟨⟩, f3, V3⟩
    refine fin _ (md_ft f2 f3) (md_Vo_c V3 (fun v hv => ?_))
    funext s
    unfold cs_si gr_f
    by_cases e : v = b
    · rw [if_pos e, if_pos (Or.inr e)]
    · rw [if_neg e]
      dsimp only
      by_cases e2 : v = a
      · rw [if_pos (Or.inl e2), if_pos (Or.inl e2)]
      · rw [if_neg (by omega), if_neg (by omega)]
  refine tMX12_lostWithout_0 (d := d + 3) ⟨_, md_tryTold (d := d + 2) hW hM, ?_⟩
  rintro i5 l6 dd7 x8 ⟨i2, ⟨⟩, f2, V2⟩
  rw [mt_h_n (by omega)]
  refine ⟨fun c => mid _ f2 (md_Vo_c V2 (fun v hv => ?_)), fun c => ?_⟩
  · funext s
    unfold cs_si
    rw [if_neg (by omega)]
  · rw [show mt_h a = Int32.ofNat a from if_neg c]
    refine ⟨_, md_silence (d := d + 2) hW (by omega) V2, ?_⟩
    rintro i5 l6 dd7 x8 ⟨i3, ⟨⟩, f3, V3⟩
    refine mid _ (md_ft f2 f3) (md_Vo_c V3 (fun v hv => ?_))
    funext s
    unfold cs_si gr_f
    by_cases e : v = a
    · rw [if_pos e, if_pos (Or.inl e)]
    · rw [if_neg e, if_neg (by omega)]
/-- the class -/
theorem mt_without {A : mA_} {m a b : Nat} (hW : mt_W A) (hp : 0 < aV_ A) (hm : ab_isM m) (e0 : dd 3 11 = .ref m) (hK : mt_K A m i) (ha : a < aV_ A ∨ a = 7) (hb : b < aV_ A ∨ b = 7) : ab_Sp MX11_lostWithout (d + 4) [.ref 3, .int (mt_h a), .int (mt_h b)] (i, l, dd, x) (ab_E0 sc) (some (.long (Int64.ofNat (cs_lost A (cs_si (aO_ A) a b))))) (fun σ => ∃ i2 l2, σ = (i2, l2, ab_u dd 160 0 (.ref m), x) ∧ kp_i i i2 ∧ kp_l l l2) := by
  have w2 := hW.2.1
  have eD : ab_u dd 160 0 (.ref m) 3 11 = .ref m := by rw [uu_k (by decide)]; exact e0
  refine ab_ent (n := 2) okMX11_lostWithout.1 (fun G => Nat.le_of_ble_eq_true rfl) (fun Q hQ => ?_)
  have fin : ∀ (i2 : Nat → Nat → Int32) (cv : Nat → mC_), kp_i i i2 → rw_cb A cv → rw_R (aV_ A) cv i2 → (∀ t, t < aT_ A → gr_r (aS_ A) (aV_ A) cv t (cs_si (aO_ A) a b) (fun v s => aL_ A v s t)) → ab_Fr MX11_lostWithout (d + 4) Q 56 [some (.ref 3), none, none] [] (0, 0) (i2, l, ab_u dd 160 0 (.ref m), x) (ab_E0 sc) := by
    intro i2 cv k2 c2 R2 g2
    refine tMX11_lostWithout_56 (d := d + 3) ⟨_, mt_summed (d := d) (lam := aL_ A) (vt := cs_si (aO_ A) a b) hW hp hm uu_e c2 (mt_K_kp hW hm hK k2) R2 g2, ?_⟩
    rintro i5 l6 dd7 x8 ⟨i3, l3, ⟨⟩, k3, kl3, z3⟩
    have k4 := kp_it k2 k3
    refine ⟨m, eD, hm, _, _, mt_lostBy (d := d + 2) (n := 9) (K := aK_ A 7) (F := cs_cm A (cs_si (aO_ A) a b)) (Or.inl ⟨m, hm, rfl⟩) rfl (mt_KLo hW (mt_K_kp hW hm hK k4)) z3 (by omega), ?_⟩
    rintro i5 l6 dd7 x8 ⟨⟩
    rw [cs_tb hW hp]
    exact hQ _ ⟨_, _, rfl, k4, kl3⟩
  have c9 : (0 < ((1, fun _ => 9, fun _ _ => 20) : mC_).1 ∧ ((1, fun _ => 9, fun _ _ => 20) : mC_).1 ≤ 3) ∧ ∀ a, a < ((1, fun _ => 9, fun _ _ => 20) : mC_).1 → ((1, fun _ => 9, fun _ _ => 20) : mC_).2.1 a ≤ 9 ∧ ∀ t, ((1, fun _ => 9, fun _ _ => 20) : mC_).2.2 a t ≤ 60 := ⟨⟨by decide, by decide⟩, fun _ _ => ⟨show 9 ≤ 9 from Nat.le_refl 9, fun _ => show 20 ≤ 60 by decide⟩⟩
  have mid : ∀ (i2 : Nat → Nat → Int32) (cv : Nat → mC_), kp_i i i2 → rw_cb A cv → rw_R (aV_ A) cv i2 → (∀ t, t < aT_ A → gr_r (aS_ A) (aV_ A) cv t (cs_si (aO_ A) a 7) (fun v s => aL_ A v s t)) → ab_Fr MX11_lostWithout (d + 4) Q 37 [some (.ref 3), none, some (.int (mt_h b))] [] (0, 0) (i2, l, ab_u dd 160 0 (.ref m), x) (ab_E0 sc) := by
    intro i2 cv k2 c2 R2 g2
    refine tMX11_lostWithout_37 (d := d + 3) ⟨m, eD, hm, _, _, mt_hasH (d := d + 2) hW hm (mt_K_kp hW hm hK k2) hb, ?_⟩
    rintro i5 l6 dd7 x8 ⟨⟩
    by_cases c : b = 7
    · rw [if_pos c]
      exact ⟨fun _ => fin i2 cv k2 c2 R2 (by rw [c]; exact g2), fun z => absurd rfl z⟩
    · rw [if_neg c, show mt_h b = Int32.ofNat b from if_neg c]
      refine ⟨fun z => absurd z (by decide), fun _ => ⟨_, mt_silence (d := d + 1) hW (show b < aV_ A by omega) R2 (fun u hu => (c2 u hu).1.2), ?_⟩⟩
      rintro i5 l6 dd7 x8 ⟨i3, ⟨⟩, f3, R3⟩
      refine fin _ (gr_u cv b _) (kp_it k2 (kp_fo f3 kp_c14)) (gr_cbu c2 c9) R3 (fun t ht => gr_rc (gr_si hW ht (g2 t ht)) (fun v hv => ?_))
      funext s
      unfold cs_si gr_f
      by_cases e : v = b
      · rw [if_pos e, if_pos (Or.inr e)]
      · rw [if_neg e]
        dsimp only
        by_cases e2 : v = a
        · rw [if_pos (Or.inl e2), if_pos (Or.inl e2)]
        · rw [if_neg (by omega), if_neg (by omega)]
  refine tMX11_lostWithout_0 (d := d + 3) ⟨m, e0, hm, _, mt_votedT (d := d) hW hm hK, ?_⟩
  rintro i5 l6 dd7 x8 ⟨i2, ⟨⟩, k2, R2⟩
  have c2 := gr_cb hW (mt_O9 hW)
  refine ⟨m, eD, hm, _, _, mt_hasH (d := d + 2) hW hm (mt_K_kp hW hm hK k2) ha, ?_⟩
  rintro i5 l6 dd7 x8 ⟨⟩
  by_cases c : a = 7
  · rw [if_pos c]
    refine ⟨fun _ => mid _ _ k2 c2 R2 (fun t ht => gr_rc gr_v (fun v hv => ?_)), fun z => absurd rfl z⟩
    funext s
    unfold cs_si
    rw [if_neg (by omega)]
  · rw [if_neg c, show mt_h a = Int32.ofNat a from if_neg c]
    refine ⟨fun z => absurd z (by decide), fun _ => ⟨_, mt_silence (d := d + 1) hW (show a < aV_ A by omega) R2 (fun u hu => (c2 u hu).1.2), ?_⟩⟩
    rintro i5 l6 dd7 x8 ⟨i3, ⟨⟩, f3, R3⟩
    refine mid _ (gr_u (gr_cv A (aO_ A)) a _) (kp_it k2 (kp_fo f3 kp_c14)) (gr_cbu c2 c9) R3 (fun t ht => gr_rc (gr_si hW ht gr_v) (fun v hv => ?_))
    funext s
    unfold cs_si gr_f
    by_cases e : v = a
    · rw [if_pos e, if_pos (Or.inl e)]
    · rw [if_neg e, if_neg (by omega)]
end TQQ
