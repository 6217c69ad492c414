/-! settle: rounds of replies; the class -/
def st_v (A : mA_) (vt : Nat → Nat → Nat) (v : Nat) : Nat → Nat → Nat := gr_f vt v (fun s => if s < aS_ A v then rp_y A vt v s else vt v s)
/-- a round, voters before k -/
def st_r (A : mA_) (vt : Nat → Nat → Nat) : Nat → Nat → Nat → Nat
  | 0 => vt
  | k + 1 => st_v A (st_r A vt k) k
/-- whether it changed anything -/
def st_c (A : mA_) (vt : Nat → Nat → Nat) : Nat → Nat
  | 0 => 0
  | k + 1 => if (∀ s, s < aS_ A k → rp_y A (st_r A vt k) k s = st_r A vt k k s) then st_c A vt k else 1
/-- the votes after n rounds -/
def st_n (A : mA_) : Nat → Nat → Nat → Nat
  | 0 => aO_ A
  | n + 1 => st_r A (st_n A n) (aV_ A)
section TQG2
variable {d : Nat} {sc : Nat × (Nat → Int32)} {i : Nat → Nat → Int32} {l : Nat → Nat → Int64} {dd : Nat → Nat → Value} {x : Nat}
theorem st_v_t {A : mA_} {vt : Nat → Nat → Nat} {v : Nat} (hW : mt_W A) (h : mt_vt A vt) : mt_vt A (st_v A vt v) := fun u s hu hs => by
  unfold st_v gr_f
  by_cases e : u = v
  · subst e
    rw [if_pos rfl, if_pos hs]
    exact (rp_y9 hW).2
  · rw [if_neg e]
    exact h u s hu hs
theorem st_r_t {A : mA_} {vt : Nat → Nat → Nat} (hW : mt_W A) (h : mt_vt A vt) : ∀ k, mt_vt A (st_r A vt k) := by
  intro k
  induction k with
  | zero => exact h
  | succ k ih => exact st_v_t hW ih
theorem st_n_t {A : mA_} (hW : mt_W A) : ∀ n, mt_vt A (st_n A n) := by
  intro n
  induction n with
  | zero => exact hW.2.2.2.2.2.2.2.2.2.2.1
  | succ n ih => exact st_r_t hW ih _
theorem st_c01 {A : mA_} {vt : Nat → Nat → Nat} : ∀ k, st_c A vt k = 0 ∨ st_c A vt k = 1 := by
  intro k
  induction k with
  | zero => exact Or.inl rfl
  | succ k ih =>
    unfold st_c
    split
    · exact ih
    · exact Or.inr rfl
theorem vt_9 {A : mA_} {vt : Nat → Nat → Nat} (hW : mt_W A) (h : mt_vt A vt) : ∀ v s, v < aV_ A → s < aS_ A v → vt v s ≤ 9 := fun _ _ hv hs => mt_vt9 hW h hv hs
/-- cells that replies and the table on trial are -/
def st_o (i i2 : Nat → Nat → Int32) : Prop := ∀ k, ¬ (161 ≤ k ∧ k ≤ 168) → k ≠ 173 → i2 k = i k
theorem st_of {i2 : Nat → Nat → Int32} (h : st_o i i2) : fr_o 161 173 i i2 := fun k hk => h k (by omega) (by omega)
theorem st_ot {i2 i3 : Nat → Nat → Int32} (h1 : st_o i i2) (h2 : st_o i2 i3) : st_o i i3 := fun k a b => (h2 k a b).trans (h1 k a b)
theorem st_o8 {i2 : Nat → Nat → Int32} (h : fr_o 161 168 i i2) : st_o i i2 := fun k a _ => h k (by omega)
theorem st_o3 {i2 : Nat → Nat → Int32} (h : fr_o 173 173 i i2) : st_o i i2 := fun k _ b => h k (by omega)
theorem st_or : st_o i i := fun _ _ _ => rfl
/-- what a round of the class leaves -/
def st_P (m : Nat) (i : Nat → Nat → Int32) (l : Nat → Nat → Int64) (dd : Nat → Nat → Value) (i2 : Nat → Nat → Int32) (l2 : Nat → Nat → Int64) (d2 : Nat → Nat → Value) : Prop := st_o i i2 ∧ ho_h l l2 ∧ kp_d dd d2 ∧ (dd 169 1 = .ref m → d2 169 1 = .ref m)
theorem st_25 {A : mA_} {m v f : Nat} {vt : Nat → Nat → Nat} (hW : mt_W A) (ht : mt_vt A vt) (hm : ab_isM m) (hd2 : dd 169 1 = .ref m) (hv : v < aV_ A) (hf : f = 0 ∨ f = 1) {i0 : Nat → Nat → Int32} (hK : mt_K A m i0) (hV : mt_Vc A i0 173 vt) (hH : ∀ z t, z ≤ aT_ A → t < 3 → l 170 (3 * z + t) = Int64.ofNat (pu_n (rw_N (ho_cv A vt v)) (aV_ A) (ho_g A vt v z t))) {Q : ab_Qt} (hQ : ∀ i2, fr_o 173 173 i0 i2 → mt_Vc A i2 173 (st_v A vt v) → ab_Fr MX3_changesInRound (d + 3) Q 4 [some (.ref 169), some (.ref m), some (.int (Int32.ofNat (if (∀ s, s < aS_ A v → rp_y A vt v s = vt v s) then f else 1))), some (.int (Int32.ofNat (v + 1))), none, none] [] (0, 0) (i2, l, dd, x) (ab_E0 sc)) :
    ∀ (n s : Nat) (i2 : Nat → Nat → Int32), aS_ A v = s + n → fr_o 173 173 i0 i2 → (∀ u w, u < aV_ A → w < aS_ A u → i2 173 (3 * u + w) = Int32.ofNat (if u = v ∧ w < s then rp_y A vt v w else vt u w)) → ab_Fr MX3_changesInRound (d + 3) Q 25 [some (.ref 169), some (.ref m), some (.int (Int32.ofNat (if (∀ w, w < s → rp_y A vt v w = vt v w) then f else 1))), some (.int (Int32.ofNat v)), some (.int (Int32.ofNat s)), none] [] (0, 0) (i2, l, dd, x) (ab_E0 sc) := by
  intro n
  have w2 := hW.2.1
  have hS := hW.2.2.2.2.2.2.1 v hv
  induction n with
  | zero =>
    intro s i2 hs f2 z2
    have hs2 : s = aS_ A v := by omega
    have e0 := ((mt_K_o hm hK f2 (by omega) hW).2.2.2.2.1 v hv).1
    refine tMX3_changesInRound_25 (d := d + 2) hm ⟨la_vp (by omega) (by omega), fun _ => ?_, fun c => ?_⟩
    · rw [la_nx, hs2]
      refine hQ i2 f2 (fun u w hu hw => ?_)
      rw [z2 u w hu hw]
      unfold st_v gr_f
      by_cases e : u = v
      · subst e
        rw [if_pos ⟨rfl, by omega⟩, if_pos rfl, if_pos hw]
      · rw [if_neg (fun q => e q.1), if_neg e]
    · simp (disch := omega) only [e0, ↓nn_m3, nn_p0, nn_p1, nn_p2, nn_p3, nn_p4, nn_p5, nn_p6, nn_p7, nn_p8, nn_p9, nn_p10, nn_p20, nn_p21, nn_le, nn_lt, nn_eq, nn_cl, nn_in, nn_add, nn_mul, nn_en, nn_ne, nn_mn, nn_64] at c
      omega
  | succ n ih =>
    intro s i2 hs f2 z2
    have hK2 := mt_K_o hm hK f2 (by omega) hW
    have e0 := (hK2.2.2.2.2.1 v hv).1
    have ev := z2 v s hv (by omega)
    rw [if_neg (by omega)] at ev
    have h9 := vt_9 hW ht v s hv (by omega)
    have hy := (rp_y9 (vt := vt) (v := v) (s := s) hW).1
    refine tMX3_changesInRound_25 (d := d + 2) hm ⟨la_vp (by omega) (by omega), fun c => ?_, fun _ => ?_⟩
    · simp (disch := omega) only [e0, ↓nn_m3, nn_p0, nn_p1, nn_p2, nn_p3, nn_p4, nn_p5, nn_p6, nn_p7, nn_p8, nn_p9, nn_p10, nn_p20, nn_p21, nn_le, nn_lt, nn_eq, nn_cl, nn_in, nn_add, nn_mul, nn_en, nn_ne, nn_mn, nn_64] at c
      omega
    · rw [nn_m3, nn_mul, nn_add, nn_cl (by omega), ev]
      refine ⟨la_vp (by omega) (by omega), _, _, mt_best (d := d) hW hm hd2 hK2 hv (by omega) h9 hH, ?_⟩
      rintro i5 l6 dd7 x8 ⟨⟩
      refine ⟨la_vp (by omega) (by omega), ?_⟩
      rintro i11 rfl
      rw [uu_e, nn_eq (by omega) (by omega), la_nx]
      refine ⟨la_vp (by omega) (by omega), ?_⟩
      have ih2 : ab_Fr MX3_changesInRound (d + 3) Q 25 [some (.ref 169), some (.ref m), some (.int (Int32.ofNat (if (∀ w, w < s + 1 → rp_y A vt v w = vt v w) then f else 1))), some (.int (Int32.ofNat v)), some (.int (Int32.ofNat (s + 1))), none] [] (0, 0) (ab_u i2 173 (3 * v + s) (Int32.ofNat (rp_y A vt v s)), l, dd, x) (ab_E0 sc) := by
        refine ih (s + 1) _ (by omega) (fr_u f2 (by omega)) (fun u w hu hw => ?_)
        by_cases e : u = v ∧ w = s
        · obtain ⟨rfl, rfl⟩ := e
          rw [uu_e, if_pos ⟨rfl, by omega⟩]
        · have hw3 := hW.2.2.2.2.2.2.1 u hu
          rw [uu_j (by omega), z2 u w hu hw]
          by_cases c2 : u = v ∧ w < s
          · rw [if_pos c2, if_pos ⟨c2.1, by omega⟩]
          · rw [if_neg c2, if_neg (by omega)]
      have hor : ∀ p : Nat, (p = 0 ∨ p = 1) → (Int32.ofNat p ||| 0 = Int32.ofNat p) ∧ (Int32.ofNat p ||| 1 = Int32.ofNat 1) := fun p hp => by
        rcases hp with rfl | rfl <;> exact ⟨by decide, by decide⟩
      have hfl : (if (∀ w, w < s → rp_y A vt v w = vt v w) then f else 1) = 0 ∨ (if (∀ w, w < s → rp_y A vt v w = vt v w) then f else 1) = 1 := by
        split
        · exact hf
        · exact Or.inr rfl
      refine ⟨fun c => ?_, fun c => ?_⟩
      · rw [(hor _ hfl).1]
        by_cases c2 : ∀ w, w < s → rp_y A vt v w = vt v w
        · rw [if_pos (fun w hw => by
            by_cases e : w = s
            · rw [e]
              exact c
            · exact c2 w (by omega))] at ih2
          rw [if_pos c2]
          exact ih2
        · rw [if_neg (fun q => c2 (fun w hw => q w (by omega)))] at ih2
          rw [if_neg c2]
          exact ih2
      · rw [(hor _ hfl).2]
        rw [if_neg (fun q => c (q s (by omega)))] at ih2
        exact ih2
theorem st_4 {A : mA_} {m : Nat} {vt : Nat → Nat → Nat} (hW : mt_W A) (ht : mt_vt A vt) (hm : ab_isM m) {i0 : Nat → Nat → Int32} {l0 : Nat → Nat → Int64} {d0 : Nat → Nat → Value} (hK : mt_K A m i0) {Q : ab_Qt} (hQ : ∀ i2 l2 d2, st_P m i0 l0 d0 i2 l2 d2 → mt_Vc A i2 173 (st_r A vt (aV_ A)) → Q (some (some (.int (Int32.ofNat (st_c A vt (aV_ A)))))) (i2, l2, d2, x) (ab_E0 sc)) :
    ∀ (n v : Nat) (i2 : Nat → Nat → Int32) (l2 : Nat → Nat → Int64) (d2 : Nat → Nat → Value), aV_ A = v + n → st_P m i0 l0 d0 i2 l2 d2 → mt_Vc A i2 173 (st_r A vt v) → ab_Fr MX3_changesInRound (d + 5) Q 4 [some (.ref 169), some (.ref m), some (.int (Int32.ofNat (st_c A vt v))), some (.int (Int32.ofNat v)), none, none] [] (0, 0) (i2, l2, d2, x) (ab_E0 sc) := by
  intro n
  have w2 := hW.2.1
  induction n with
  | zero =>
    intro v i2 l2 d2 hv P2 V2
    have q2 := (mt_K_o hm hK (st_of P2.1) (by omega) hW).1.2
    have hv2 : v = aV_ A := by omega
    refine tMX3_changesInRound_4 (d := d + 4) hm ⟨fun _ => ⟨?_, ?_⟩, fun c => ?_⟩
    · rcases st_c01 (A := A) (vt := vt) v with z | z
      · rw [z]
        exact Or.inl rfl
      · rw [z]
        exact Or.inr rfl
    · rw [hv2] at V2 ⊢
      exact hQ i2 l2 d2 P2 V2
    · simp (disch := omega) only [q2, ↓nn_m3, nn_p0, nn_p1, nn_p2, nn_p3, nn_p4, nn_p5, nn_p6, nn_p7, nn_p8, nn_p9, nn_p10, nn_p20, nn_p21, nn_le, nn_lt, nn_eq, nn_cl, nn_in, nn_add, nn_mul, nn_en, nn_ne, nn_mn, nn_64] at c
      omega
  | succ n ih =>
    intro v i2 l2 d2 hv P2 V2
    have hK2 := mt_K_o hm hK (st_of P2.1) (by omega) hW
    have q2 := hK2.1.2
    have ht2 := st_r_t hW ht v
    refine tMX3_changesInRound_4 (d := d + 4) hm ⟨fun c => ?_, fun _ => ⟨_, mt_hear (d := d) (a := 173) (n := 21) hW hm hK2 rfl (by omega) (by omega) V2 (vt_9 hW ht2) (by omega), ?_⟩⟩
    · simp (disch := omega) only [q2, ↓nn_m3, nn_p0, nn_p1, nn_p2, nn_p3, nn_p4, nn_p5, nn_p6, nn_p7, nn_p8, nn_p9, nn_p10, nn_p20, nn_p21, nn_le, nn_lt, nn_eq, nn_cl, nn_in, nn_add, nn_mul, nn_en, nn_ne, nn_mn, nn_64] at c
      omega
    · rintro i5 l6 dd7 x8 ⟨i3, l3, ⟨⟩, f3, h3, z3⟩
      have V3 := mt_Vc_o V2 f3 (by omega)
      have key := st_25 (d := d + 2) (i0 := i5) (dd := ab_u (ab_u d2 169 1 (.ref m)) 160 0 (.ref m)) (x := x) (Q := Q) hW ht2 hm (by rw [uu_k (by decide)]; exact uu_e) (show v < aV_ A by omega) (st_c01 v) (mt_K_o hm hK2 f3 (by omega) hW) V3 z3 (fun i4 f4 V4 => ih (v + 1) i4 l6 _ (by omega) ⟨st_ot P2.1 (st_ot (st_o8 f3) (st_o3 f4)), fun q a b => (h3 q a b).trans (P2.2.1 q a b), fi_d hm P2.2.2.1⟩ V4) (aS_ A v) 0 i5 (by omega) fr_r (fun u w hu hw => by rw [if_neg (by omega)]; exact V3 u w hu hw)
      rw [if_pos (fun w hw => absurd hw (Nat.not_lt_zero w))] at key
      exact key
theorem mt_changes {A : mA_} {m : Nat} {vt : Nat → Nat → Nat} (hW : mt_W A) (ht : mt_vt A vt) (hm : ab_isM m) (hK : mt_K A m i) (hV : mt_Vc A i 173 vt) : ab_Sp MX3_changesInRound (d + 5) [.ref 169, .ref m] (i, l, dd, x) (ab_E0 sc) (some (.int (Int32.ofNat (st_c A vt (aV_ A))))) (fun σ => ∃ i2 l2 d2, σ = (i2, l2, d2, x) ∧ st_P m i l dd i2 l2 d2 ∧ mt_Vc A i2 173 (st_r A vt (aV_ A))) := by
  refine ab_ent (n := 1) okMX3_changesInRound.1 (fun G => Nat.le_of_ble_eq_true rfl) (fun Q hQ => ?_)
  refine tMX3_changesInRound_0 (d := d + 4) hm (st_4 (d := d) (i0 := i) (l0 := l) (d0 := dd) hW ht hm hK ?_ (aV_ A) 0 i l dd (by omega) ⟨st_or, fun _ _ _ => rfl, kp_dr, id⟩ hV)
  intro i2 l2 d2 P2 V2
  exact hQ _ ⟨i2, l2, d2, rfl, P2, V2⟩
end TQG2
