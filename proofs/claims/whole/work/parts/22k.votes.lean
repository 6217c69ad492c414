/-! the tape tells all votes: both sides; rows as told -/
theorem pu_pi {c : Nat} {f : Nat → Nat} {P : Nat → Bool} : ∀ k, pu_p c (fun w => if P w then f w else 0) k = if (∀ w, w < k → P w = true) then pu_p c f k else 0 := by
  intro k
  induction k with
  | zero => rw [if_pos (fun w hw => absurd hw (Nat.not_lt_zero w))]; rfl
  | succ k ih =>
    show pu_p c (fun w => if P w then f w else 0) k * (if P k then f k else 0) = _
    rw [ih]
    by_cases h : ∀ w, w < k → P w = true
    · rw [if_pos h]
      by_cases h2 : P k = true
      · rw [if_pos h2, if_pos (fun w hw => by
          by_cases e : w = k
          · rw [e]
            exact h2
          · exact h w (by omega))]
        rfl
      · rw [if_neg h2, if_neg (fun q => h2 (q k (Nat.lt_succ_self k))), Nat.mul_zero]
    · rw [if_neg h, Nat.zero_mul, if_neg (fun q => h (fun w hw => q w (by omega)))]
theorem pu_n1 {N : Nat → Nat} : ∀ {k : Nat} {G : (Nat → Nat) → Nat}, (∀ v, v < k → N v = 1) → pu_n N k G = G (fun _ => 0) := by
  intro k
  induction k with
  | zero => intro G _; rfl
  | succ k ih =>
    intro G h
    show pu_s (fun a => pu_n N k (fun b => G (pu_u b k a))) (N k) = _
    rw [h k (by omega)]
    show 0 + pu_n N k (fun b => G (pu_u b k 0)) = _
    rw [Nat.zero_add, ih (fun v hv => h v (by omega))]
    congr 1
    funext v
    unfold pu_u
    split <;> rfl
section TQK2
variable {d : Nat} {sc : Nat × (Nat → Int32)} {i : Nat → Nat → Int32} {l : Nat → Nat → Int64} {dd : Nat → Nat → Value} {x : Nat}
/-- the tape's byte as a natural -/
def tp_p (i : Nat → Nat → Int32) (v : Nat) : Nat := (i 5 v).toInt.toNat
def tp_vt (A : mA_) (i : Nat → Nat → Int32) : Prop := 0 < aV_ A ∧ i 4 1 = Int32.ofNat (aV_ A) ∧ ∀ v, v < aV_ A → tp_p i v < aT_ A ∨ tp_p i v = 9
theorem tp_pe {R : ab_S → Prop} (hI : la_I R (i, l, dd, x)) {v : Nat} (hv : v < 740) : i 5 v = Int32.ofNat (tp_p i v) ∧ tp_p i v ≤ 255 ∧ i 206 v = Int32.ofNat (tp_p i v) := by
  obtain ⟨h1, h2, h3⟩ := hI.1.2.2 v hv
  dsimp only at h1 h2 h3
  have e : i 5 v = Int32.ofNat (tp_p i v) := la_inv h2
  unfold tp_p at e ⊢
  exact ⟨e, by omega, h1.trans e⟩
theorem tv_22 {A : mA_} {m : Nat} {p : Nat → Nat} (hW : mt_W A) (hm : ab_isM m) (hK : mt_K A m i) (hb : ∀ v, v < aV_ A → i 5 v = Int32.ofNat (p v) ∧ p v ≤ 255) {Q : ab_Qt} (h1 : (∀ v, v < aV_ A → p v < aT_ A ∨ p v = 9) → Q (some (some (.int 1))) (i, l, dd, x) (ab_E0 sc)) (h0 : (¬ ∀ v, v < aV_ A → p v < aT_ A ∨ p v = 9) → Q (some (some (.int 0))) (i, l, dd, x) (ab_E0 sc)) :
    ∀ n k : Nat, aV_ A = k + n → (∀ v, v < k → p v < aT_ A ∨ p v = 9) → ab_Fr MX1_hasVotes (d + 2) Q 22 [some (.ref m), some (.ref 4), some (.int (Int32.ofNat k))] [] (0, 0) (i, l, dd, x) (ab_E0 sc) := by
  intro n
  have w1 := hW.1
  have w2 := hW.2.1
  have q2 := hK.1.2
  induction n with
  | zero =>
    intro k hk h
    refine tMX1_hasVotes_22 (d := d + 1) hm ⟨fun _ => h1 (fun v hv => h v (by omega)), fun c => ?_⟩
    simp (disch := omega) only [q2, ↓nn_m3, nn_p0, nn_p1, nn_p2, nn_p3, nn_p4, nn_p5, nn_p6, nn_p7, nn_p8, nn_p9, nn_p10, nn_p20, nn_p21, nn_le, nn_lt, nn_eq, nn_cl, nn_in, nn_add, nn_mul, nn_en, nn_ne, nn_mn, nn_64] at c
    omega
  | succ n ih =>
    intro k hk h
    obtain ⟨e1, e2⟩ := hb k (by omega)
    refine tMX1_hasVotes_22 (d := d + 1) hm ⟨fun c => ?_, fun _ => ⟨la_vp (by omega) (by omega), _, _, mt_hasT1 (d := d) hW hm hK, ?_⟩⟩
    · simp (disch := omega) only [q2, ↓nn_m3, nn_p0, nn_p1, nn_p2, nn_p3, nn_p4, nn_p5, nn_p6, nn_p7, nn_p8, nn_p9, nn_p10, nn_p20, nn_p21, nn_le, nn_lt, nn_eq, nn_cl, nn_in, nn_add, nn_mul, nn_en, nn_ne, nn_mn, nn_64] at c
      omega
    · rintro i6 l7 dd8 x9 ⟨⟩
      rw [nn_cl (by omega), e1, la_nat (by omega), la_nx]
      by_cases c : p k < aT_ A
      · rw [if_pos (by omega)]
        refine ⟨fun _ => ih (k + 1) (by omega) (fun v hv => ?_), fun z => absurd z (by decide)⟩
        by_cases e : v = k
        · rw [e]
          exact Or.inl c
        · exact h v (by omega)
      · rw [if_neg (by omega)]
        refine ⟨fun z => absurd rfl z, fun _ => ⟨la_vp (by omega) (by omega), ?_⟩⟩
        rw [nn_p9, nn_eq (by omega) (by omega)]
        refine ⟨fun c2 => ih (k + 1) (by omega) (fun v hv => ?_), fun c2 => h0 (fun q => ?_)⟩
        · by_cases e : v = k
          · rw [e]
            exact Or.inr c2
          · exact h v (by omega)
        · have := q k (by omega)
          omega
theorem tv_cls {R : ab_S → Prop} {A : mA_} {m : Nat} (hW : mt_W A) (hI : la_I R (i, l, dd, x)) (hm : ab_isM m) (hK : mt_K A m i) : ∃ r : Int32, ((r = 1 ∧ tp_vt A i) ∨ (r = 0 ∧ ¬ tp_vt A i)) ∧ ∀ d, ab_Sp MX1_hasVotes (d + 3) [.ref m, .ref 4] (i, l, dd, x) (ab_E0 sc) (some (.int r)) (fun σ => σ = (i, l, dd, x)) := by
  have w2 := hW.2.1
  have hz := mt_z30 hW hK
  have hb : ∀ v, v < aV_ A → i 5 v = Int32.ofNat (tp_p i v) ∧ tp_p i v ≤ 255 := fun v hv => ⟨(tp_pe hI (by omega)).1, (tp_pe hI (by omega)).2.1⟩
  rcases Classical.em (tp_vt A i) with h | h
  · refine ⟨1, Or.inl ⟨rfl, h⟩, fun d => ?_⟩
    refine ab_ent (n := 1) okMX1_hasVotes.1 (fun G => Nat.le_of_ble_eq_true rfl) (fun Q hQ => ?_)
    refine tMX1_hasVotes_0 (d := d + 2) hm ⟨_, _, mt_empty (d := d + 1) hm, ?_⟩
    rintro i5 l6 dd7 x8 ⟨⟩
    rw [if_neg (fun z => by rw [hz] at z; have := h.1; omega), hK.1.2]
    exact ⟨fun z => absurd rfl z, fun _ => ⟨fun _ => tv_22 (d := d + 1) hW hm hK hb (fun _ => hQ _ rfl) (fun q => absurd h.2.2 q) (aV_ A) 0 (by omega) (fun v hv => absurd hv (Nat.not_lt_zero v)), fun z => absurd h.2.1 z⟩⟩
  · refine ⟨0, Or.inr ⟨rfl, h⟩, fun d => ?_⟩
    refine ab_ent (n := 1) okMX1_hasVotes.1 (fun G => Nat.le_of_ble_eq_true rfl) (fun Q hQ => ?_)
    refine tMX1_hasVotes_0 (d := d + 2) hm ⟨_, _, mt_empty (d := d + 1) hm, ?_⟩
    rintro i5 l6 dd7 x8 ⟨⟩
    by_cases c : i m 1 = 0
    · rw [if_pos c]
      exact ⟨fun _ => hQ _ rfl, fun z => absurd z (by decide)⟩
    · rw [if_neg c, hK.1.2]
      rw [hz] at c
      exact ⟨fun z => absurd rfl z, fun _ => ⟨fun c2 => tv_22 (d := d + 1) hW hm hK hb (fun q => absurd ⟨by omega, c2, q⟩ h) (fun _ => hQ _ rfl) (aV_ A) 0 (by omega) (fun v hv => absurd hv (Nat.not_lt_zero v)), fun _ => hQ _ rfl⟩⟩
theorem tm_22 {A : mA_} {p : Nat → Nat} (hW : mt_W A) (hM : mt_M A i l) (hb : ∀ v, v < aV_ A → i 206 v = Int32.ofNat (p v) ∧ p v ≤ 255) {Q : ab_Qt} (h1 : (∀ v, v < aV_ A → p v < aT_ A ∨ p v = 9) → Q (some (some (.int 1))) (i, l, dd, x) (ab_E0 sc)) (h0 : (¬ ∀ v, v < aV_ A → p v < aT_ A ∨ p v = 9) → Q (some (some (.int 0))) (i, l, dd, x) (ab_E0 sc)) :
    ∀ n k : Nat, aV_ A = k + n → (∀ v, v < k → p v < aT_ A ∨ p v = 9) → ab_Fr MX12_areVotesTold (d + 1) Q 22 [some (.ref 205), some (.int (Int32.ofNat k))] [] (0, 0) (i, l, dd, x) (ab_E0 sc) := by
  intro n
  have w1 := hW.1
  have w2 := hW.2.1
  have r2 := hM.1.2.1
  have r1 := hM.1.1
  induction n with
  | zero =>
    intro k hk h
    refine tMX12_areVotesTold_22 ⟨fun _ => h1 (fun v hv => h v (by omega)), fun c => ?_⟩
    simp (disch := omega) only [r2, ↓nn_m3, nn_p0, nn_p1, nn_p2, nn_p3, nn_p4, nn_p5, nn_p6, nn_p7, nn_p8, nn_p9, nn_p10, nn_p20, nn_p21, nn_le, nn_lt, nn_eq, nn_cl, nn_in, nn_add, nn_mul, nn_en, nn_ne, nn_mn, nn_64] at c
    omega
  | succ n ih =>
    intro k hk h
    obtain ⟨e1, e2⟩ := hb k (by omega)
    refine tMX12_areVotesTold_22 ⟨fun c => ?_, fun _ => ⟨la_vp (by omega) (by omega), ?_⟩⟩
    · simp (disch := omega) only [r2, ↓nn_m3, nn_p0, nn_p1, nn_p2, nn_p3, nn_p4, nn_p5, nn_p6, nn_p7, nn_p8, nn_p9, nn_p10, nn_p20, nn_p21, nn_le, nn_lt, nn_eq, nn_cl, nn_in, nn_add, nn_mul, nn_en, nn_ne, nn_mn, nn_64] at c
      omega
    · rw [nn_cl (by omega), e1, r1, nn_lt (by omega) (by omega), la_nx]
      refine ⟨fun c => ih (k + 1) (by omega) (fun v hv => ?_), fun c => ⟨la_vp (by omega) (by omega), ?_⟩⟩
      · by_cases e : v = k
        · rw [e]
          exact Or.inl c
        · exact h v (by omega)
      · rw [nn_p9, nn_eq (by omega) (by omega)]
        refine ⟨fun c2 => ih (k + 1) (by omega) (fun v hv => ?_), fun c2 => h0 (fun q => ?_)⟩
        · by_cases e : v = k
          · rw [e]
            exact Or.inr c2
          · exact h v (by omega)
        · have := q k (by omega)
          omega
/-- the model, its tape whole: the same of the first store's -/
theorem tv_mod {R : ab_S → Prop} {A : mA_} {j : Nat → Nat → Int32} {l2 : Nat → Nat → Int64} (hW : mt_W A) (hI : la_I R (i, l, dd, x)) (hM : mt_M A j l2) (h2 : j 205 2 = i 205 2) (h6 : j 206 = i 206) : ∃ r : Int32, ((r = 1 ∧ tp_vt A i) ∨ (r = 0 ∧ ¬ tp_vt A i)) ∧ ∀ d d2 x2, ab_Sp MX12_areVotesTold (d + 1) [.ref 205] (j, l2, d2, x2) (ab_E0 sc) (some (.int r)) (fun σ => σ = (j, l2, d2, x2)) := by
  have w2 := hW.2.1
  have hz := mt_z31 hW hM
  have eL : j 205 2 = i 4 1 := h2.trans hI.1.2.1
  have hb : ∀ v, v < aV_ A → j 206 v = Int32.ofNat (tp_p i v) ∧ tp_p i v ≤ 255 := fun v hv => by
    rw [h6]
    exact ⟨(tp_pe hI (by omega)).2.2, (tp_pe hI (by omega)).2.1⟩
  rcases Classical.em (tp_vt A i) with h | h
  · refine ⟨1, Or.inl ⟨rfl, h⟩, fun d d2 x2 => ?_⟩
    refine ab_ent (n := 0) okMX12_areVotesTold.1 (fun G => Nat.le_of_ble_eq_true rfl) (fun Q hQ => ?_)
    refine tMX12_areVotesTold_0 ?_
    rw [hz, eL, hM.1.2.1]
    exact ⟨fun z => absurd z (by have := h.1; omega), fun _ => ⟨fun _ => tm_22 hW hM hb (fun _ => hQ _ rfl) (fun q => absurd h.2.2 q) (aV_ A) 0 (by omega) (fun v hv => absurd hv (Nat.not_lt_zero v)), fun z => absurd h.2.1 z⟩⟩
  · refine ⟨0, Or.inr ⟨rfl, h⟩, fun d d2 x2 => ?_⟩
    refine ab_ent (n := 0) okMX12_areVotesTold.1 (fun G => Nat.le_of_ble_eq_true rfl) (fun Q hQ => ?_)
    refine tMX12_areVotesTold_0 ?_
    rw [hz, eL, hM.1.2.1]
    exact ⟨fun _ => hQ _ rfl, fun c => ⟨fun c2 => tm_22 hW hM hb (fun q => absurd ⟨by omega, c2, q⟩ h) (fun _ => hQ _ rfl) (aV_ A) 0 (by omega) (fun v hv => absurd hv (Nat.not_lt_zero v)), fun _ => hQ _ rfl⟩⟩
/-- rows in which the votes are p -/
def va_m (A : mA_) (vt : Nat → Nat → Nat) (p b : Nat → Nat) : Nat := if (∀ w, w < aV_ A → vt w (b w) = p w) then 1 else 0
theorem tm_va2 {A : mA_} {r : Nat} {p : Nat → Nat} {vt : Nat → Nat → Nat} (hW : mt_W A) (ht : mt_vt A vt) (hM : mt_M A i l) (hV : mt_Vo A i 0 vt) (hr : r < 2187) (hb : ∀ v, v < aV_ A → i 206 v = Int32.ofNat (p v) ∧ p v ≤ 255) {Q : ab_Qt} (hQ : Q (some (some (.int (Int32.ofNat (va_m A vt p (pu_g (aS_ A) (aV_ A) r)))))) (i, l, dd, x) (ab_E0 sc)) :
    ∀ n k : Nat, aV_ A = k + n → (∀ w, w < k → vt w (pu_g (aS_ A) (aV_ A) r w) = p w) → ab_Fr MX12_votesAsTold (d + 2) Q 2 [some (.ref 205), some (.int (Int32.ofNat r)), some (.int (Int32.ofNat k))] [] (0, 0) (i, l, dd, x) (ab_E0 sc) := by
  intro n
  have w2 := hW.2.1
  have r2 := hM.1.2.1
  induction n with
  | zero =>
    intro k hk h
    refine tMX12_votesAsTold_2 (d := d + 1) ⟨fun _ => ?_, fun c => ?_⟩
    · unfold va_m at hQ
      rw [if_pos (fun w hw => h w (by omega))] at hQ
      exact hQ
    · simp (disch := omega) only [r2, ↓nn_m3, nn_p0, nn_p1, nn_p2, nn_p3, nn_p4, nn_p5, nn_p6, nn_p7, nn_p8, nn_p9, nn_p10, nn_p20, nn_p21, nn_le, nn_lt, nn_eq, nn_cl, nn_in, nn_add, nn_mul, nn_en, nn_ne, nn_mn, nn_64] at c
      omega
  | succ n ih =>
    intro k hk h
    obtain ⟨e1, e2⟩ := hb k (by omega)
    have hS := hW.2.2.2.2.2.2.1 k (by omega)
    have hgl := (pu_gt (S := aS_ A) (k := aV_ A) (r := r) (fun v hv => by have := (hW.2.2.2.2.2.2.1 v hv).1; omega)).1 k (by omega)
    have eV := hV k _ (by omega) hgl
    rw [show 21 * 0 + 3 * k + pu_g (aS_ A) (aV_ A) r k = 3 * k + pu_g (aS_ A) (aV_ A) r k by omega] at eV
    have h9 := vt_9 hW ht k _ (by omega) hgl
    refine tMX12_votesAsTold_2 (d := d + 1) ⟨fun c => ?_, fun _ => ⟨_, _, mt_sg (d := d) hW hM (by omega) hr, ?_⟩⟩
    · simp (disch := omega) only [r2, ↓nn_m3, nn_p0, nn_p1, nn_p2, nn_p3, nn_p4, nn_p5, nn_p6, nn_p7, nn_p8, nn_p9, nn_p10, nn_p20, nn_p21, nn_le, nn_lt, nn_eq, nn_cl, nn_in, nn_add, nn_mul, nn_en, nn_ne, nn_mn, nn_64] at c
      omega
    · rintro i6 l7 dd8 x9 ⟨⟩
      rw [nn_p3, nn_mul, nn_add, nn_cl (by omega), nn_cl (by omega), eV, e1, nn_eq (by omega) (by omega), la_nx]
      refine ⟨la_vp (by omega) (by omega), la_vp (by omega) (by omega), fun c => ih (k + 1) (by omega) (fun w hw => ?_), fun c => ?_⟩
      · by_cases e : w = k
        · rw [e]
          exact c
        · exact h w (by omega)
      · unfold va_m at hQ
        rw [if_neg (fun q => c (q k (by omega)))] at hQ
        exact hQ
theorem tm_va {A : mA_} {r : Nat} {p : Nat → Nat} {vt : Nat → Nat → Nat} (hW : mt_W A) (ht : mt_vt A vt) (hM : mt_M A i l) (hV : mt_Vo A i 0 vt) (hr : r < 2187) (hb : ∀ v, v < aV_ A → i 206 v = Int32.ofNat (p v) ∧ p v ≤ 255) : ab_Sp MX12_votesAsTold (d + 2) [.ref 205, .int (Int32.ofNat r)] (i, l, dd, x) (ab_E0 sc) (some (.int (Int32.ofNat (va_m A vt p (pu_g (aS_ A) (aV_ A) r))))) (fun σ => σ = (i, l, dd, x)) := by
  refine ab_ent (n := 1) okMX12_votesAsTold.1 (fun G => Nat.le_of_ble_eq_true rfl) (fun Q hQ => ?_)
  exact tMX12_votesAsTold_0 (d := d + 1) (tm_va2 (d := d) hW ht hM hV hr hb (hQ _ rfl) (aV_ A) 0 (by omega) (fun w hw => absurd hw (Nat.not_lt_zero w)))
/-- the class's one row as told, signs before s -/
def va_c (A : mA_) (vt : Nat → Nat → Nat) (p : Nat → Nat) (v : Nat) : Nat → mC_
  | 0 => (1, pu_u (fun _ => 0) 0 (p v), fun b _ => if b = 0 then 0 else 0)
  | s + 1 => if vt v s = p v then mt_ad (va_c A vt p v s) (p v) (aL_ A v s) else va_c A vt p v s
theorem va_cs {A : mA_} {vt : Nat → Nat → Nat} {p : Nat → Nat} {v : Nat} : ∀ s, (va_c A vt p v s).1 = 1 ∧ (va_c A vt p v s).2.1 0 = p v ∧ ∀ t, (va_c A vt p v s).2.2 0 t = pu_s (fun u => if vt v u = p v then aL_ A v u t else 0) s := by
  intro s
  induction s with
  | zero => exact ⟨rfl, (show pu_u (fun _ => 0) 0 (p v) 0 = p v from pu_ue), fun t => rfl⟩
  | succ s ih =>
    obtain ⟨h1, h2, h3⟩ := ih
    unfold va_c
    by_cases c : vt v s = p v
    · rw [if_pos c]
      have ek : mt_fi (va_c A vt p v s).2.1 (p v) (va_c A vt p v s).1 0 = 0 := by
        rw [h1]
        show (if (va_c A vt p v s).2.1 0 = p v then 0 else _) = 0
        rw [if_pos h2]
      unfold mt_ad
      rw [ek, h1]
      dsimp only
      refine ⟨rfl, pu_ue, fun t => ?_⟩
      rw [if_pos rfl, if_neg (by decide), h3]
      show _ = pu_s (fun u => if vt v u = p v then aL_ A v u t else 0) s + (if vt v s = p v then aL_ A v s t else 0)
      rw [if_pos c]
    · rw [if_neg c]
      refine ⟨h1, h2, fun t => ?_⟩
      rw [h3]
      show _ = pu_s (fun u => if vt v u = p v then aL_ A v u t else 0) s + (if vt v s = p v then aL_ A v s t else 0)
      rw [if_neg c, Nat.add_zero]
def va_cv (A : mA_) (vt : Nat → Nat → Nat) (p : Nat → Nat) : Nat → mC_ := fun v => va_c A vt p v (aS_ A v)
theorem va_le {A : mA_} {vt : Nat → Nat → Nat} {p : Nat → Nat} {v t : Nat} (hW : mt_W A) : ∀ s, pu_s (fun u => if vt v u = p v then aL_ A v u t else 0) s ≤ 20 * s := by
  intro s
  induction s with
  | zero => exact Nat.le_refl 0
  | succ s ih =>
    show pu_s (fun u => if vt v u = p v then aL_ A v u t else 0) s + (if vt v s = p v then aL_ A v s t else 0) ≤ 20 * (s + 1)
    have := (hW.2.2.2.2.2.2.2.1 v s t).1
    split <;> omega
theorem va_cb {A : mA_} {vt : Nat → Nat → Nat} {p : Nat → Nat} (hW : mt_W A) (hp9 : ∀ v, v < aV_ A → p v ≤ 9) : rw_cb A (va_cv A vt p) := by
  intro v hv
  have hS := hW.2.2.2.2.2.2.1 v hv
  obtain ⟨h1, h2, h3⟩ := va_cs (A := A) (vt := vt) (p := p) (v := v) (aS_ A v)
  unfold va_cv
  refine ⟨⟨by omega, by omega⟩, fun a ha => ?_⟩
  have ha0 : a = 0 := by omega
  rw [ha0]
  refine ⟨by rw [h2]; exact hp9 v hv, fun t => ?_⟩
  have := va_le (A := A) (vt := vt) (p := p) (v := v) (t := t) hW (aS_ A v)
  rw [h3]
  omega
theorem va_gr {A : mA_} {vt : Nat → Nat → Nat} {p : Nat → Nat} {t : Nat} : gr_r (aS_ A) (aV_ A) (va_cv A vt p) t (fun v _ => p v) (fun v s => if vt v s = p v then aL_ A v s t else 0) := fun v _ F => by
  obtain ⟨h1, h2, h3⟩ := va_cs (A := A) (vt := vt) (p := p) (v := v) (aS_ A v)
  unfold va_cv
  rw [h1, pu_sm]
  show 0 + F ((va_c A vt p v (aS_ A v)).2.1 0) * (va_c A vt p v (aS_ A v)).2.2 0 t = _
  rw [h2, h3, Nat.zero_add]
theorem va_37 {A : mA_} {m v : Nat} {p : Nat → Nat} (hW : mt_W A) (hm : ab_isM m) (hd : dd 160 0 = .ref m) (hK : mt_K A m i) (hb : ∀ v, v < aV_ A → i 5 v = Int32.ofNat (p v) ∧ p v ≤ 9) (hv : v < aV_ A) {Q : ab_Qt} (hQ : ∀ i2, fr_o 161 164 i i2 → mt_co v i i2 → mt_c1 (va_cv A (aO_ A) p v) v i2 → ab_Fr MX4_votingAs (d + 3) Q 7 [some (.ref 160), none, some (.ref 5), some (.int (Int32.ofNat (v + 1))), none] [] (0, 0) (i2, l, dd, x) (ab_E0 sc)) :
    ∀ (r s : Nat) (i2 : Nat → Nat → Int32), aS_ A v = s + r → fr_o 161 164 i i2 → mt_co v i i2 → mt_c1 (va_c A (aO_ A) p v s) v i2 → ab_Fr MX4_votingAs (d + 3) Q 37 [some (.ref 160), none, some (.ref 5), some (.int (Int32.ofNat v)), some (.int (Int32.ofNat s))] [] (0, 0) (i2, l, dd, x) (ab_E0 sc) := by
  intro r
  have w2 := hW.2.1
  have hS := hW.2.2.2.2.2.2.1 v hv
  obtain ⟨e5, e9⟩ := hb v hv
  induction r with
  | zero =>
    intro s i2 hs f2 o2 c2
    have e0 := ((mt_K_o hm hK f2 (by omega) hW).2.2.2.2.1 v hv).1
    refine tMX4_votingAs_37 (d := d + 2) (n_a2 := 740) rfl ⟨m, hd, hm, la_vp (by omega) (by omega), fun _ => ?_, fun c => ?_⟩
    · rw [la_nx]
      rw [show s = aS_ A v by omega] at c2
      exact hQ i2 f2 o2 c2
    · simp (disch := omega) only [e0, ↓nn_m3, nn_p0, nn_p1, nn_p2, nn_p3, nn_p4, nn_p5, nn_p6, nn_p7, nn_p8, nn_p9, nn_p10, nn_p20, nn_p21, nn_le, nn_lt, nn_eq, nn_cl, nn_in, nn_add, nn_mul, nn_en, nn_ne, nn_mn, nn_64] at c
      omega
  | succ r ih =>
    intro s i2 hs f2 o2 c2
    have hK2 := mt_K_o hm hK f2 (by omega) hW
    have e0 := (hK2.2.2.2.2.1 v hv).1
    have eV := mt_KV hK2 v s hv (by omega)
    have h9 := mt_O9 hW v s hv (by omega)
    have e5' : i2 5 v = Int32.ofNat (p v) := by rw [f2 5 (by omega)]; exact e5
    obtain ⟨g1, g2, g3⟩ := va_cs (A := A) (vt := aO_ A) (p := p) (v := v) s
    have ih2 := ih (s + 1)
    unfold va_c at ih2
    refine tMX4_votingAs_37 (d := d + 2) (n_a2 := 740) rfl ⟨m, hd, hm, la_vp (by omega) (by omega), fun c => ?_, fun _ => ?_⟩
    · simp (disch := omega) only [e0, ↓nn_m3, nn_p0, nn_p1, nn_p2, nn_p3, nn_p4, nn_p5, nn_p6, nn_p7, nn_p8, nn_p9, nn_p10, nn_p20, nn_p21, nn_le, nn_lt, nn_eq, nn_cl, nn_in, nn_add, nn_mul, nn_en, nn_ne, nn_mn, nn_64] at c
      omega
    · rw [nn_m3, nn_mul, nn_add, nn_cl (by omega), nn_cl (by omega), eV, e5', nn_eq (by omega) (by omega), la_nx]
      refine ⟨la_vp (by omega) (by omega), la_vp (by omega) (by omega), fun c => ?_, fun c => ⟨la_vp (by omega) (by omega), _, mt_addC (d := d) (vote := p v) hW hm hd hK2 hv (by omega) c2 ⟨by omega, fun a ha => ?_⟩ e9, ?_⟩⟩
      · rw [if_neg c] at ih2
        exact ih2 i2 (by omega) f2 o2 c2
      · have ha0 : a = 0 := by omega
        rw [ha0]
        refine ⟨by rw [g2]; exact e9, fun t => ?_⟩
        have := va_le (A := A) (vt := aO_ A) (p := p) (v := v) (t := t) hW s
        rw [g3]
        omega
      · rintro i8 l9 dd10 x11 ⟨i3, ⟨⟩, f3, o3, c3⟩
        rw [if_pos c] at ih2
        exact ih2 _ (by omega) (fr_t f2 f3) (mt_co_t o2 o3) c3
theorem va_7 {A : mA_} {m : Nat} {p : Nat → Nat} (hW : mt_W A) (hm : ab_isM m) (hd : dd 160 0 = .ref m) {i0 : Nat → Nat → Int32} (hK : mt_K A m i0) (hb : ∀ v, v < aV_ A → i0 5 v = Int32.ofNat (p v) ∧ p v ≤ 9) {Q : ab_Qt} (hQ : ∀ i2, fr_o 161 164 i0 i2 → rw_R (aV_ A) (va_cv A (aO_ A) p) i2 → Q (some none) (i2, l, dd, x) (ab_E0 sc)) :
    ∀ (r v : Nat) (i2 : Nat → Nat → Int32), aV_ A = v + r → fr_o 161 164 i0 i2 → rw_R v (va_cv A (aO_ A) p) i2 → ab_Fr MX4_votingAs (d + 3) Q 7 [some (.ref 160), none, some (.ref 5), some (.int (Int32.ofNat v)), none] [] (0, 0) (i2, l, dd, x) (ab_E0 sc) := by
  intro r
  have w2 := hW.2.1
  induction r with
  | zero =>
    intro v i2 hv f2 R2
    have q2 := (mt_K_o hm hK f2 (by omega) hW).1.2
    have hv2 : v = aV_ A := by omega
    refine tMX4_votingAs_7 (d := d + 2) (n_a2 := 740) rfl ⟨m, hd, hm, fun _ => ?_, fun c => ?_⟩
    · rw [hv2] at R2
      exact hQ i2 f2 R2
    · simp (disch := omega) only [q2, ↓nn_m3, nn_p0, nn_p1, nn_p2, nn_p3, nn_p4, nn_p5, nn_p6, nn_p7, nn_p8, nn_p9, nn_p10, nn_p20, nn_p21, nn_le, nn_lt, nn_eq, nn_cl, nn_in, nn_add, nn_mul, nn_en, nn_ne, nn_mn, nn_64] at c
      omega
  | succ r ih =>
    intro v i2 hv f2 R2
    have hK2 := mt_K_o hm hK f2 (by omega) hW
    have q2 := hK2.1.2
    obtain ⟨e5, e9⟩ := hb v (by omega)
    refine tMX4_votingAs_7 (d := d + 2) (n_a2 := 740) rfl ⟨m, hd, hm, fun c => ?_, fun _ => ⟨la_vp (by omega) (by omega), ?_⟩⟩
    · simp (disch := omega) only [q2, ↓nn_m3, nn_p0, nn_p1, nn_p2, nn_p3, nn_p4, nn_p5, nn_p6, nn_p7, nn_p8, nn_p9, nn_p10, nn_p20, nn_p21, nn_le, nn_lt, nn_eq, nn_cl, nn_in, nn_add, nn_mul, nn_en, nn_ne, nn_mn, nn_64] at c
      omega
    · rintro i4 rfl
      rw [nn_cl (by omega)]
      have fr1 : fr_o 161 164 i0 (ab_u i2 161 v 0) := fr_u f2 (by omega)
      rw [show ab_u i2 161 v 0 5 v = Int32.ofNat (p v) by rw [uu_k (by omega), f2 5 (by omega)]; exact e5]
      refine ⟨la_vp (by omega) (by omega), _, mt_openC (d := d + 1) (c := p v) (lk := 0) (ch := mt_c0) (by omega) ⟨uu_e, fun b hb => absurd hb (Nat.not_lt_zero b)⟩ (by decide), ?_⟩
      rintro i8 l9 dd10 x11 ⟨i3, ⟨⟩, f3, o3, c3⟩
      have fr3 := fr_t fr1 f3
      refine va_37 (d := d) hW hm hd (mt_K_o hm hK fr3 (by omega) hW) (fun v hv => by rw [fr3 5 (by omega)]; exact hb v hv) (by omega) ?_ (aS_ A v) 0 _ (by omega) fr_r mt_co_r c3
      intro i6 f6 o6 c6
      refine ih (v + 1) i6 (by omega) (fr_t fr3 f6) (fun u hu => ?_)
      by_cases e : u = v
      · rw [e]
        exact c6
      · have h3 : (va_cv A (aO_ A) p u).1 ≤ 3 := by
          have := (va_cs (A := A) (vt := aO_ A) (p := p) (v := u) (aS_ A u)).1
          unfold va_cv
          omega
        exact o6 _ u e h3 (o3 _ u e h3 (mt_co_u (i := i2) mt_co_r (by omega) _ u e h3 (R2 u (by omega))))
theorem mt_votedAs {A : mA_} {m : Nat} {p : Nat → Nat} (hW : mt_W A) (hm : ab_isM m) (hK : mt_K A m i) (hb : ∀ v, v < aV_ A → i 5 v = Int32.ofNat (p v) ∧ p v ≤ 9) : ab_Sp MX4_votingAs (d + 3) [.ref 160, .ref m, .ref 5] (i, l, dd, x) (ab_E0 sc) none (fun σ => ∃ i2, σ = (i2, l, ab_u dd 160 0 (.ref m), x) ∧ fr_o 161 164 i i2 ∧ rw_R (aV_ A) (va_cv A (aO_ A) p) i2) := by
  refine ab_ent (n := 2) okMX4_votingAs.1 (fun G => Nat.le_of_ble_eq_true rfl) (fun Q hQ => ?_)
  refine tMX4_votingAs_0 (d := d + 2) (n_a2 := 740) hm rfl ?_
  rintro dd1 rfl
  refine va_7 (i0 := i) hW hm uu_e hK hb ?_ (aV_ A) 0 i (by omega) fr_r (fun u hu => absurd hu (Nat.not_lt_zero u))
  intro i2 f2 R2
  exact hQ _ ⟨i2, rfl, f2, R2⟩
end TQK2
