/-! minutes -/
section TQL2
variable {d : Nat} {sc : Nat × (Nat → Int32)} {i : Nat → Nat → Int32} {l : Nat → Nat → Int64} {dd : Nat → Nat → Value} {x : Nat}
def cs_mi (A : mA_) (p : Nat → Nat) (v s : Nat) (b : Nat → Nat) : Nat := if b v = s then va_m A (aO_ A) p b * cs_al A b (aT_ A) else 0
def mi_cv (A : mA_) (p : Nat → Nat) (v s : Nat) : Nat → mC_ := gr_u (va_cv A (aO_ A) p) v (mt_ad mt_c0 9 (aL_ A v s))
def mi_l (A : mA_) (p : Nat → Nat) (v s w u t : Nat) : Nat := if (if w = v then decide (u = s) else decide (aO_ A w u = p w)) then aL_ A w u t else 0
theorem mi_gr {A : mA_} {p : Nat → Nat} {v s t : Nat} (hs : s < aS_ A v) : gr_r (aS_ A) (aV_ A) (mi_cv A p v s) t (gr_f (fun v _ => p v) v (fun _ => 9)) (fun w u => mi_l A p v s w u t) := by
  have h := gr_pin (A := A) (v := v) (s := s) (t := t) (vote := 9) hs (va_gr (A := A) (vt := aO_ A) (p := p) (t := t))
  have e : gr_f (fun v s => if aO_ A v s = p v then aL_ A v s t else 0) v (fun u => if u = s then aL_ A v u t else 0) = fun w u => mi_l A p v s w u t := by
    funext w u
    unfold gr_f mi_l
    by_cases c : w = v
    · subst c
      rw [if_pos rfl, if_pos rfl]
      by_cases c2 : u = s
      · simp [c2]
      · simp [c2]
    · rw [if_neg c, if_neg c]
      by_cases c2 : aO_ A w u = p w
      · simp [c2]
      · simp [c2]
  rw [e] at h
  exact h
theorem sm_4 {n a : Nat} {F : Nat → Nat → Nat} (hk : (ab_E0 sc).1 a = .inr (1, n)) (hn : 9 ≤ n ∧ n < 2 ^ 31) (hP : ∀ t e, t < 3 → e < 3 → l a (3 * t + e) = Int64.ofNat (F t e)) {Q : ab_Qt} (hQ : Q (some (some (.long (Int64.ofNat (pu_s (fun k => F (k / 3) (k % 3)) 9))))) (i, l, dd, x) (ab_E0 sc)) :
    ∀ r k : Nat, 9 = k + r → ab_Fr MX11_sumOf (d + 1) Q 4 [some (.ref a), some (.long (Int64.ofNat (pu_s (fun k => F (k / 3) (k % 3)) k))), none, some (.int (Int32.ofNat k))] [] (0, 0) (i, l, dd, x) (ab_E0 sc) := by
  intro r
  induction r with
  | zero =>
    intro k hk2
    refine tMX11_sumOf_4 hk ⟨fun _ => by rw [show k = 9 by omega]; exact hQ, fun c => ?_⟩
    simp (disch := omega) only [↓nn_m3, nn_p0, nn_p1, nn_p2, nn_p3, nn_p4, nn_p5, nn_p6, nn_p7, nn_p8, nn_p9, nn_p10, nn_p20, nn_p21, nn_le, nn_lt, nn_eq, nn_cl, nn_in, nn_add, nn_mul, nn_en, nn_ne, nn_mn, nn_64] at c
    omega
  | succ r ih =>
    intro k hk2
    have ek : 3 * (k / 3) + k % 3 = k := Nat.div_add_mod k 3
    have e1 := hP (k / 3) (k % 3) (by omega) (by omega)
    rw [ek] at e1
    refine tMX11_sumOf_4 hk ⟨fun c => ?_, fun _ => ?_⟩
    · simp (disch := omega) only [↓nn_m3, nn_p0, nn_p1, nn_p2, nn_p3, nn_p4, nn_p5, nn_p6, nn_p7, nn_p8, nn_p9, nn_p10, nn_p20, nn_p21, nn_le, nn_lt, nn_eq, nn_cl, nn_in, nn_add, nn_mul, nn_en, nn_ne, nn_mn, nn_64] at c
      omega
    · simp (disch := omega) only [e1, ↓nn_m3, nn_p0, nn_p1, nn_p2, nn_p3, nn_p4, nn_p5, nn_p6, nn_p7, nn_p8, nn_p9, nn_p10, nn_p20, nn_p21, nn_le, nn_lt, nn_eq, nn_cl, nn_in, nn_add, nn_mul, nn_en, nn_ne, nn_mn, nn_64, nl_p0, nl_p1, nl_p20, nl_add, nl_mul]
      exact ⟨trivial, ih (k + 1) (by omega)⟩
theorem mt_sumOf {n a : Nat} {F : Nat → Nat → Nat} (hk : (ab_E0 sc).1 a = .inr (1, n)) (hn : 9 ≤ n ∧ n < 2 ^ 31) (hP : ∀ t e, t < 3 → e < 3 → l a (3 * t + e) = Int64.ofNat (F t e)) : ab_Sp MX11_sumOf (d + 1) [.ref a] (i, l, dd, x) (ab_E0 sc) (some (.long (Int64.ofNat (pu_s (fun t => pu_s (fun e => F t e) 3) 3)))) (fun σ => σ = (i, l, dd, x)) := by
  refine ab_ent (n := 1) okMX11_sumOf.1 (fun G => Nat.le_of_ble_eq_true rfl) (fun Q hQ => ?_)
  have e : pu_s (fun k => F (k / 3) (k % 3)) 9 = pu_s (fun t => pu_s (fun e => F t e) 3) 3 := by
    rw [show (9 : Nat) = 3 * 3 from rfl, pu_sx]
    refine pu_sc (fun t ht => pu_sc (fun e he => ?_))
    rw [show (t * 3 + e) / 3 = t by omega, show (t * 3 + e) % 3 = e by omega]
  have h := hQ _ rfl
  rw [← e] at h
  exact tMX11_sumOf_0 hk (sm_4 hk hn hP h 9 0 (by omega))
theorem mi_sum {A : mA_} {p : Nat → Nat} {v s : Nat} (hW : mt_W A) (hp : 0 < aV_ A) (hv : v < aV_ A) (hvs : aO_ A v s = p v) : pu_s (fun t => pu_s (fun e => cs_w A (gr_f (fun v _ => p v) v (fun _ => 9)) (mi_l A p v s) t e) 3) 3 = pu_n (aS_ A) (aV_ A) (cs_mi A p v s) := by
  have e1 : ∀ t, pu_s (fun e => cs_w A (gr_f (fun v _ => p v) v (fun _ => 9)) (mi_l A p v s) t e) 3 = pu_n (aS_ A) (aV_ A) (fun b => if b v = s then va_m A (aO_ A) p b * mt_pa A b t else 0) := fun t => by
    unfold cs_w
    rw [← pu_ns]
    refine pu_nc (fun b _ => ?_)
    rw [pu_sc (g := fun e => if e = mt_db A (fun w => gr_f (fun v _ => p v) v (fun _ => 9) w (b w)) then pu_p (aC_ A t) (fun w => mi_l A p v s w (b w) t) (aV_ A) else 0) (fun e _ => by
      by_cases c : mt_db A (fun w => gr_f (fun v _ => p v) v (fun _ => 9) w (b w)) = e
      · rw [if_pos c, if_pos c.symm]
      · rw [if_neg c, if_neg (fun q => c q.symm)]), pu_s1 (f := fun _ => pu_p (aC_ A t) (fun w => mi_l A p v s w (b w) t) (aV_ A)), if_pos (by
      have := cs_db_lt (p := fun w => gr_f (fun v _ => p v) v (fun _ => 9) w (b w)) hW hp
      have := hW.1
      omega)]
    unfold mi_l
    rw [pu_pi (f := fun w => aL_ A w (b w) t) (P := fun w => if w = v then decide (b w = s) else decide (aO_ A w (b w) = p w))]
    unfold va_m
    by_cases c : b v = s
    · rw [if_pos c]
      by_cases c2 : ∀ w, w < aV_ A → aO_ A w (b w) = p w
      · rw [if_pos c2, if_pos (fun w hw => by
          by_cases e : w = v
          · rw [if_pos e, e]
            exact decide_eq_true c
          · rw [if_neg e]
            exact decide_eq_true (c2 w hw)), Nat.one_mul]
        rfl
      · rw [if_neg c2, if_neg (fun q => c2 (fun w hw => by
          by_cases e : w = v
          · rw [e, c]
            exact hvs
          · have h := q w hw
            rw [if_neg e] at h
            exact of_decide_eq_true h)), Nat.zero_mul]
    · rw [if_neg c, if_neg (fun q => c (by
        have h := q v hv
        rw [if_pos rfl] at h
        exact of_decide_eq_true h))]
  rw [pu_sc (fun t _ => e1 t), pu_s3 hW.1 (fun t ht => pu_nz (fun b _ => by rw [mt_pa0 hW ht, Nat.mul_zero]; split <;> rfl)), ← pu_ns]
  refine pu_nc (fun b _ => ?_)
  unfold cs_mi cs_al
  by_cases c : b v = s
  · rw [if_pos c, ← pu_sm]
    exact pu_sc (fun t _ => if_pos c)
  · rw [if_neg c]
    exact pu_sz (fun t _ => if_neg c)
theorem md_mi36 {A : mA_} {p : Nat → Nat} {v s : Nat} (hW : mt_W A) (hM : mt_M A i l) (hb : ∀ v, v < aV_ A → i 206 v = Int32.ofNat (p v) ∧ p v ≤ 255) (hv : v < aV_ A) (hs : s < aS_ A v) {Q : ab_Qt} (hQ : Q (some (some (.long (Int64.ofNat (pu_n (aS_ A) (aV_ A) (cs_mi A p v s)))))) (i, l, dd, x) (ab_E0 sc)) :
    ∀ (n r : Nat), mt_rad (aS_ A) (aV_ A) = r + n → ab_Fr MX12_minutes (d + 3) Q 36 [some (.ref 205), some (.int (Int32.ofNat v)), some (.int (Int32.ofNat s)), some (.long (Int64.ofNat (pu_s (fun r => cs_mi A p v s (pu_g (aS_ A) (aV_ A) r)) r))), none, some (.int (Int32.ofNat r))] [] (0, 0) (i, l, dd, x) (ab_E0 sc) := by
  intro n
  have hR := (mt_rows hW).1
  have w1 := hW.1
  have hS := hW.2.2.2.2.2.2.1 v hv
  have r3 := hM.1.2.2 (by omega)
  induction n with
  | zero =>
    intro r hr
    refine tMX12_minutes_36 (d := d + 2) ⟨fun _ => ?_, fun c => ?_⟩
    · rw [show r = mt_rad (aS_ A) (aV_ A) by omega, cs_rows (G := cs_mi A p v s) hW]
      exact hQ
    · simp (disch := omega) only [r3, ↓nn_m3, nn_p0, nn_p1, nn_p2, nn_p3, nn_p4, nn_p5, nn_p6, nn_p7, nn_p8, nn_p9, nn_p10, nn_p20, nn_p21, nn_le, nn_lt, nn_eq, nn_cl, nn_in, nn_add, nn_mul, nn_en, nn_ne, nn_mn, nn_64] at c
      omega
  | succ n ih =>
    intro r hr
    have hgl := (pu_gt (S := aS_ A) (k := aV_ A) (r := r) (fun v hv => by have := (hW.2.2.2.2.2.2.1 v hv).1; omega)).1 v hv
    have ih2 := ih (r + 1) (by omega)
    have ess : ∀ z, cs_mi A p v s (pu_g (aS_ A) (aV_ A) r) = z → pu_s (fun r => cs_mi A p v s (pu_g (aS_ A) (aV_ A) r)) (r + 1) = pu_s (fun r => cs_mi A p v s (pu_g (aS_ A) (aV_ A) r)) r + z := fun z hz => by rw [← hz]; rfl
    refine tMX12_minutes_36 (d := d + 2) ⟨fun c => ?_, fun _ => ⟨_, _, mt_sg (d := d + 1) hW hM hv (by omega), ?_⟩⟩
    · simp (disch := omega) only [r3, ↓nn_m3, nn_p0, nn_p1, nn_p2, nn_p3, nn_p4, nn_p5, nn_p6, nn_p7, nn_p8, nn_p9, nn_p10, nn_p20, nn_p21, nn_le, nn_lt, nn_eq, nn_cl, nn_in, nn_add, nn_mul, nn_en, nn_ne, nn_mn, nn_64] at c
      omega
    · rintro i6 l7 dd8 x9 ⟨⟩
      rw [la_nx, nn_eq (by omega) (by omega)]
      refine ⟨fun c => ?_, fun c => ⟨_, _, tm_va (d := d) hW hW.2.2.2.2.2.2.2.2.2.2.1 hM (mt_MV hM) (by omega) hb, ?_⟩⟩
      · rw [ess 0 (if_neg c)] at ih2
        exact ih2
      · rintro i6 l7 dd8 x9 ⟨⟩
        have ec : cs_mi A p v s (pu_g (aS_ A) (aV_ A) r) = va_m A (aO_ A) p (pu_g (aS_ A) (aV_ A) r) * cs_al A (pu_g (aS_ A) (aV_ A) r) (aT_ A) := if_pos c
        rcases (show va_m A (aO_ A) p (pu_g (aS_ A) (aV_ A) r) = 0 ∨ va_m A (aO_ A) p (pu_g (aS_ A) (aV_ A) r) = 1 from by
          unfold va_m
          split
          · exact Or.inr rfl
          · exact Or.inl rfl) with c2 | c2
        · rw [ess 0 (by rw [ec, c2, Nat.zero_mul])] at ih2
          rw [c2]
          exact ⟨fun _ => ih2, fun z => absurd rfl z⟩
        · rw [ess (cs_al A (pu_g (aS_ A) (aV_ A) r) (aT_ A)) (by rw [ec, c2, Nat.one_mul])] at ih2
          rw [c2]
          refine ⟨fun z => absurd z (by decide), fun _ => ⟨_, _, md_all (d := d + 1) hW hM (by omega), ?_⟩⟩
          rintro i6 l7 dd8 x9 ⟨⟩
          rw [nl_add]
          exact ih2
/-- a call that may throw and empties the tape when it doesn't -/
theorem th_tk {R : ab_S → Prop} {M11 M12 : ab_M} {as : List Value} {σ : ab_S} (w : Int64) (J : ab_S → Prop) (hJ : ∀ σ w, J σ → J (la_o σ w)) (h1 : ab_CallX M11 1310 (.ref 3 :: as) σ (ab_E0 sc) (fun v σ1 E1 => E1 = (ab_E0 sc) ∧ v = some (some (.long w)) ∧ J σ1)) (h2 : ∀ σ1, J σ1 → ab_Sp M12 1311 (.ref 205 :: as) σ1 (ab_E0 sc) (some (.long w)) (fun σ2 => σ2.2.1 249 0 = σ1.2.1 249 0 ∧ la_I R σ2 ∧ σ2.1 205 0 = 0)) : th_c M11 M12 as sc (la_I R) σ := by
  refine ⟨some w, w, J, fun σ => la_I R σ ∧ σ.1 205 0 = 0, h1, hJ, h2, ?_, fun _ h => by cases h; rfl⟩
  rintro ⟨i3, l3, dd3, x3⟩ ⟨h, e⟩
  refine ⟨h, ?_⟩
  rw [if_neg (fun z => by cases z), ← e]
  exact mn_thrown (d := 1310)
end TQL2
