/-! fits: the class's noteReplies, areNoted -/
/-- digit y of (v, s) would stay -/
def nf_ (A : mA_) (vt : Nat → Nat → Nat) (v s y : Nat) : Bool := decide (mt_wx A (rp_c (rp_f A vt v s) (rp_now A (mt_wx A y)) (aT_ A + 1)) = mt_wx A y)
theorem nf_y {A : mA_} {vt : Nat → Nat → Nat} {v s y : Nat} (h : vt v s = mt_wx A y) : nf_ A vt v s y = decide (rp_y A vt v s = vt v s) := by
  unfold nf_ rp_y
  rw [h]
theorem rp_f_c {A : mA_} {vt v2 : Nat → Nat → Nat} {v s : Nat} (hW : mt_W A) (h : ∀ u w, u < aV_ A → u ≠ v → w < aS_ A u → v2 u w = vt u w) : rp_f A v2 v s = rp_f A vt v s := by
  funext z
  unfold rp_f
  congr 1
  refine pu_nc (fun b hb => ?_)
  unfold rp_lo
  by_cases c : b v = s
  · rw [if_pos c, if_pos c, mt_db_c (b := pu_u (fun w => v2 w (b w)) v (mt_wx A z)) (c := pu_u (fun w => vt w (b w)) v (mt_wx A z)) hW (fun u hu => ?_)]
    unfold pu_u
    by_cases e : u = v
    · rw [if_pos e, if_pos e]
    · rw [if_neg e, if_neg e]
      exact h u _ hu e (hb.1 u hu)
  · rw [if_neg c, if_neg c]
theorem nf_c {A : mA_} {vt v2 : Nat → Nat → Nat} {v s : Nat} (hW : mt_W A) (h : ∀ u w, u < aV_ A → u ≠ v → w < aS_ A u → v2 u w = vt u w) : nf_ A v2 v s = nf_ A vt v s := by
  funext y
  unfold nf_
  rw [rp_f_c hW h]
theorem ho_c {A : mA_} {vt : Nat → Nat → Nat} {v : Nat} {g : Nat → Nat} : ho_cv A (gr_f vt v g) v = ho_cv A vt v := by
  funext u
  unfold ho_cv gr_u
  by_cases e : u = v
  · rw [if_pos e, if_pos e]
  · rw [if_neg e, if_neg e]
    unfold gr_cv
    have hv : gr_f vt v g u = vt u := if_neg e
    have : ∀ s, mt_vc A (gr_f vt v g) u s = mt_vc A vt u s := by
      intro s
      induction s with
      | zero => rfl
      | succ s ih =>
        show mt_ad (mt_vc A (gr_f vt v g) u s) (gr_f vt v g u s) (aL_ A u s) = mt_ad (mt_vc A vt u s) (vt u s) (aL_ A u s)
        rw [ih, hv]
    exact this _
theorem nf_r {A : mA_} {vt : Nat → Nat → Nat} {v s y : Nat} (hW : mt_W A) : nf_ A vt v s y = decide (rp_y A (gr_f vt v (fun _ => mt_wx A y)) v s = mt_wx A y) := by
  have e : gr_f vt v (fun _ => mt_wx A y) v s = mt_wx A y := by
    unfold gr_f
    rw [if_pos rfl]
  rw [← nf_c (v2 := gr_f vt v (fun _ => mt_wx A y)) hW (fun u w _ hu _ => by
    unfold gr_f
    rw [if_neg hu]), nf_y e, e]
theorem nb_z {f : Nat → Bool} : nb_u 0 f = 0 := show nb_x false false false false = 0 by decide
section TQV2
variable {d : Nat} {sc : Nat × (Nat → Int32)} {i : Nat → Nat → Int32} {l : Nat → Nat → Int64} {dd : Nat → Nat → Value} {x : Nat}
theorem nr_wx9 {A : mA_} {y : Nat} (hW : mt_W A) : mt_wx A y ≤ 9 := by
  have w1 := hW.1
  unfold mt_wx
  split <;> omega
/-- what noteReplies leaves -/
def nr_o (i i2 : Nat → Nat → Int32) : Prop := ∀ k, ¬ (161 ≤ k ∧ k ≤ 168) → k ≠ 178 → i2 k = i k
theorem nr_K {A : mA_} {m : Nat} {i2 : Nat → Nat → Int32} (hW : mt_W A) (hm : ab_isM m) (hK : mt_K A m i) (h : nr_o i i2) : mt_K A m i2 :=
  mt_K_o (lo := 155) (hi := 178) hm hK (fun k hk => h k (by omega) (by omega)) (by omega) hW
theorem nr_40 {A : mA_} {m v s : Nat} {vt : Nat → Nat → Nat} (hW : mt_W A) (hm : ab_isM m) (hd2 : dd 169 1 = .ref m) {i0 : Nat → Nat → Int32} (hK : mt_K A m i0) (hv : v < aV_ A) (hs : s < aS_ A v) (hH : ∀ z t, z ≤ aT_ A → t < 3 → l 170 (3 * z + t) = Int64.ofNat (pu_n (rw_N (ho_cv A vt v)) (aV_ A) (ho_g A vt v z t))) {Q : ab_Qt} (hQ : ∀ i2, nr_o i0 i2 → (∀ j, j ≠ s → i2 178 j = i0 178 j) → i2 178 s = nb_u (aT_ A + 1) (nf_ A vt v s) → ab_Fr MX3_noteReplies (d + 3) Q 15 [some (.ref 169), some (.int (Int32.ofNat v)), some (.int (Int32.ofNat (s + 1))), none] [] (0, 0) (i2, l, dd, x) (ab_E0 sc)) :
    ∀ (r y : Nat) (i2 : Nat → Nat → Int32), aT_ A + 1 = y + r → nr_o i0 i2 → (∀ j, j ≠ s → i2 178 j = i0 178 j) → i2 178 s = nb_u y (nf_ A vt v s) → ab_Fr MX3_noteReplies (d + 3) Q 40 [some (.ref 169), some (.int (Int32.ofNat v)), some (.int (Int32.ofNat s)), some (.int (Int32.ofNat y))] [] (0, 0) (i2, l, dd, x) (ab_E0 sc) := by
  intro r
  have w1 := hW.1
  have w2 := hW.2.1
  have hS := hW.2.2.2.2.2.2.1 v hv
  induction r with
  | zero =>
    intro y i2 hy o2 j2 e2
    have q1 := (nr_K hW hm hK o2).1.1
    refine tMX3_noteReplies_40 (d := d + 2) ⟨m, hd2, hm, fun _ => ?_, fun c => ?_⟩
    · rw [la_nx]
      exact hQ i2 o2 j2 (by rw [e2, show y = aT_ A + 1 by omega])
    · simp (disch := omega) only [q1, ↓nn_m3, nn_p0, nn_p1, nn_p2, nn_p3, nn_p4, nn_p5, nn_p6, nn_p7, nn_p8, nn_p9, nn_p10, nn_p20, nn_p21, nn_le, nn_lt, nn_eq, nn_cl, nn_in, nn_add, nn_mul, nn_en, nn_ne, nn_mn, nn_64] at c
      omega
  | succ r ih =>
    intro y i2 hy o2 j2 e2
    have hK2 := nr_K hW hm hK o2
    have q1 := hK2.1.1
    have h9 := nr_wx9 (y := y) hW
    have e : gr_f vt v (fun _ => mt_wx A y) v s = mt_wx A y := by
      unfold gr_f
      rw [if_pos rfl]
    have hb := mt_best (d := d) (sc := sc) (l := l) (i := i2) (dd := dd) (x := x) (s := s) (vt := gr_f vt v (fun _ => mt_wx A y)) hW hm hd2 hK2 hv hs (by rw [e]; exact h9) (fun z t hz ht => by
      rw [hH z t hz ht]
      unfold ho_g
      rw [ho_c])
    rw [e] at hb
    have hy9 := (rp_y9 (vt := gr_f vt v (fun _ => mt_wx A y)) (v := v) (s := s) hW).1
    have hr := nf_r (vt := vt) (v := v) (s := s) (y := y) hW
    refine tMX3_noteReplies_40 (d := d + 2) ⟨m, hd2, hm, fun c => ?_, fun _ => ⟨_, _, mt_voteAt (d := d + 1) hW hm hd2 hK2 (by omega), ?_⟩⟩
    · simp (disch := omega) only [q1, ↓nn_m3, nn_p0, nn_p1, nn_p2, nn_p3, nn_p4, nn_p5, nn_p6, nn_p7, nn_p8, nn_p9, nn_p10, nn_p20, nn_p21, nn_le, nn_lt, nn_eq, nn_cl, nn_in, nn_add, nn_mul, nn_en, nn_ne, nn_mn, nn_64] at c
      omega
    · rintro i6 l7 dd8 x9 ⟨⟩
      refine ⟨_, _, hb, ?_⟩
      rintro i6 l7 dd8 x9 ⟨⟩
      refine ⟨_, _, mt_voteAt (d := d + 1) hW hm hd2 hK2 (by omega), ?_⟩
      rintro i6 l7 dd8 x9 ⟨⟩
      rw [nn_eq (by omega) (by omega), la_nx, nn_cl (by omega), e2]
      refine ⟨fun c => ih (y + 1) _ (by omega) o2 j2 ?_, fun c => ⟨la_vp (by omega) (by omega), la_vp (by omega) (by omega), ?_⟩⟩
      · rw [e2, nb_s0 (by omega) (by rw [hr]; exact decide_eq_false c)]
      · rintro i32 rfl
        refine ih (y + 1) _ (by omega) (fun k h1 h2 => (uu_f h2).trans (o2 k h1 h2)) (fun j hj => by rw [uu_j hj]; exact j2 j hj) ?_
        rw [uu_e, nb_s1 (by omega) (by rw [hr]; exact decide_eq_true c)]
theorem nr_15 {A : mA_} {m v : Nat} {vt : Nat → Nat → Nat} (hW : mt_W A) (hm : ab_isM m) (hd2 : dd 169 1 = .ref m) {i0 : Nat → Nat → Int32} (hK : mt_K A m i0) (hv : v < aV_ A) (hH : ∀ z t, z ≤ aT_ A → t < 3 → l 170 (3 * z + t) = Int64.ofNat (pu_n (rw_N (ho_cv A vt v)) (aV_ A) (ho_g A vt v z t))) {Q : ab_Qt} (hQ : ∀ i2, nr_o i0 i2 → (∀ s, s < aS_ A v → i2 178 s = nb_u (aT_ A + 1) (nf_ A vt v s)) → Q (some none) (i2, l, dd, x) (ab_E0 sc)) :
    ∀ (r s : Nat) (i2 : Nat → Nat → Int32), aS_ A v = s + r → nr_o i0 i2 → (∀ u, u < s → i2 178 u = nb_u (aT_ A + 1) (nf_ A vt v u)) → ab_Fr MX3_noteReplies (d + 3) Q 15 [some (.ref 169), some (.int (Int32.ofNat v)), some (.int (Int32.ofNat s)), none] [] (0, 0) (i2, l, dd, x) (ab_E0 sc) := by
  intro r
  have w1 := hW.1
  have w2 := hW.2.1
  have hS := hW.2.2.2.2.2.2.1 v hv
  induction r with
  | zero =>
    intro s i2 hs o2 z2
    have e0 := ((nr_K hW hm hK o2).2.2.2.2.1 v hv).1
    refine tMX3_noteReplies_15 (d := d + 2) ⟨m, hd2, hm, la_vp (by omega) (by omega), fun _ => hQ i2 o2 (fun u hu => z2 u (by omega)), fun c => ?_⟩
    simp (disch := omega) only [e0, ↓nn_m3, nn_p0, nn_p1, nn_p2, nn_p3, nn_p4, nn_p5, nn_p6, nn_p7, nn_p8, nn_p9, nn_p10, nn_p20, nn_p21, nn_le, nn_lt, nn_eq, nn_cl, nn_in, nn_add, nn_mul, nn_en, nn_ne, nn_mn, nn_64] at c
    omega
  | succ r ih =>
    intro s i2 hs o2 z2
    have hK2 := nr_K hW hm hK o2
    have e0 := (hK2.2.2.2.2.1 v hv).1
    refine tMX3_noteReplies_15 (d := d + 2) ⟨m, hd2, hm, la_vp (by omega) (by omega), fun c => ?_, fun _ => ⟨la_vp (by omega) (by omega), ?_⟩⟩
    · simp (disch := omega) only [e0, ↓nn_m3, nn_p0, nn_p1, nn_p2, nn_p3, nn_p4, nn_p5, nn_p6, nn_p7, nn_p8, nn_p9, nn_p10, nn_p20, nn_p21, nn_le, nn_lt, nn_eq, nn_cl, nn_in, nn_add, nn_mul, nn_en, nn_ne, nn_mn, nn_64] at c
      omega
    · rintro i4 rfl
      rw [nn_cl (by omega)]
      have o4 : nr_o i0 (ab_u i2 178 s 0) := fun k h1 h2 => (uu_f h2).trans (o2 k h1 h2)
      refine nr_40 (d := d) (vt := vt) (s := s) (i0 := ab_u i2 178 s 0) hW hm hd2 (nr_K hW hm hK o4) hv (by omega) hH (fun i3 o3 j3 e3 => ih (s + 1) i3 (by omega) (fun k h1 h2 => (o3 k h1 h2).trans (o4 k h1 h2)) (fun u hu => ?_)) (aT_ A + 1) 0 _ (by omega) (fun _ _ _ => rfl) (fun _ _ => rfl) (by rw [uu_e]; exact nb_z.symm)
      by_cases c : u = s
      · rw [c]
        exact e3
      · rw [j3 u c, uu_j c]
        exact z2 u (by omega)
theorem mt_note {A : mA_} {m v : Nat} {vt : Nat → Nat → Nat} (hW : mt_W A) (hm : ab_isM m) (hd2 : dd 169 1 = .ref m) (hK : mt_K A m i) (hV : mt_Vc A i 173 vt) (h9 : ∀ v s, v < aV_ A → s < aS_ A v → vt v s ≤ 9) (hv : v < aV_ A) : ab_Sp MX3_noteReplies (d + 5) [.ref 169, .int (Int32.ofNat v)] (i, l, dd, x) (ab_E0 sc) none (fun σ => ∃ i2 l2, σ = (i2, l2, ab_u (ab_u dd 169 1 (.ref m)) 160 0 (.ref m), x) ∧ nr_o i i2 ∧ ho_h l l2 ∧ ∀ s, s < aS_ A v → i2 178 s = nb_u (aT_ A + 1) (nf_ A vt v s)) := by
  refine ab_ent (n := 1) okMX3_noteReplies.1 (fun G => Nat.le_of_ble_eq_true rfl) (fun Q hQ => ?_)
  refine tMX3_noteReplies_0 (d := d + 4) ⟨m, hd2, hm, _, mt_hear (d := d) (n := 21) hW hm hK (show (ab_E0 sc).1 173 = .inr (0, 21) from rfl) (by omega) (by omega) hV h9 hv, ?_⟩
  rintro i7 l8 dd9 x10 ⟨i3, l3, ⟨⟩, f3, h3, z3⟩
  refine nr_15 (d := d + 2) (i0 := i7) hW hm (by rw [uu_k (by decide)]; exact uu_e) (mt_K_18 hW hm hK f3) hv z3 (fun i4 o4 z4 => hQ _ ⟨i4, l8, rfl, fun k h1 h2 => (o4 k h1 h2).trans (f3 k (by omega)), h3, z4⟩) (aS_ A v) 0 i7 (Nat.zero_add _).symm (fun _ _ _ => rfl) (fun u hu => absurd hu (Nat.not_lt_zero u))
/-- all noted -/
theorem an_2 {A : mA_} {m v : Nat} {g : Nat → Nat} {f : Nat → Nat → Bool} (hW : mt_W A) (hm : ab_isM m) (hd2 : dd 169 1 = .ref m) (hK : mt_K A m i) (hv : v < aV_ A) (hg : ∀ s, s < aS_ A v → g s ≤ aT_ A ∧ i 173 (3 * v + s) = Int32.ofNat (mt_wx A (g s))) (hf : ∀ s, s < aS_ A v → i 178 s = nb_u (aT_ A + 1) (f s)) {Q : ab_Qt} (h1 : (∀ s, s < aS_ A v → f s (g s) = true) → Q (some (some (.int 1))) (i, l, dd, x) (ab_E0 sc)) (h0 : (¬ ∀ s, s < aS_ A v → f s (g s) = true) → Q (some (some (.int 0))) (i, l, dd, x) (ab_E0 sc)) :
    ∀ r s : Nat, aS_ A v = s + r → (∀ u, u < s → f u (g u) = true) → ab_Fr MX3_areNoted (d + 2) Q 2 [some (.ref 169), some (.int (Int32.ofNat v)), some (.int (Int32.ofNat s)), none, none] [] (0, 0) (i, l, dd, x) (ab_E0 sc) := by
  intro r
  have w1 := hW.1
  have w2 := hW.2.1
  have hS := hW.2.2.2.2.2.2.1 v hv
  have e0 := (hK.2.2.2.2.1 v hv).1
  induction r with
  | zero =>
    intro s hs h
    refine tMX3_areNoted_2 (d := d + 1) ⟨m, hd2, hm, la_vp (by omega) (by omega), fun _ => h1 (fun u hu => h u (by omega)), fun c => ?_⟩
    simp (disch := omega) only [e0, ↓nn_m3, nn_p0, nn_p1, nn_p2, nn_p3, nn_p4, nn_p5, nn_p6, nn_p7, nn_p8, nn_p9, nn_p10, nn_p20, nn_p21, nn_le, nn_lt, nn_eq, nn_cl, nn_in, nn_add, nn_mul, nn_en, nn_ne, nn_mn, nn_64] at c
    omega
  | succ r ih =>
    intro s hs h
    obtain ⟨g1, g2⟩ := hg s (by omega)
    have g3 := hf s (by omega)
    have h9 := nr_wx9 (y := g s) hW
    have go : ab_Fr MX3_areNoted (d + 2) Q 51 [some (.ref 169), some (.int (Int32.ofNat v)), some (.int (Int32.ofNat s)), none, none] [.int (Int32.ofNat (g s))] (0, 0) (i, l, dd, x) (ab_E0 sc) := by
      refine tMX3_areNoted_51 (d := d + 1) ⟨la_vp (by omega) (by omega), ?_⟩
      rw [nn_cl (by omega), g3, nb_g (by omega) (by omega), la_nx]
      refine ⟨fun c => ih (s + 1) (by omega) (fun u hu => ?_), fun c => h0 (fun y => ?_)⟩
      · by_cases e : u = s
        · rw [e]
          cases hb : f s (g s) with
          | true => rfl
          | false => exact absurd hb c
        · exact h u (by omega)
      · rw [y s (by omega)] at c
        cases c
    refine tMX3_areNoted_2 (d := d + 1) ⟨m, hd2, hm, la_vp (by omega) (by omega), fun c => ?_, fun _ => ?_⟩
    · simp (disch := omega) only [e0, ↓nn_m3, nn_p0, nn_p1, nn_p2, nn_p3, nn_p4, nn_p5, nn_p6, nn_p7, nn_p8, nn_p9, nn_p10, nn_p20, nn_p21, nn_le, nn_lt, nn_eq, nn_cl, nn_in, nn_add, nn_mul, nn_en, nn_ne, nn_mn, nn_64] at c
      omega
    · rw [nn_m3, nn_mul, nn_add, nn_cl (by omega), g2]
      refine ⟨la_vp (by omega) (by omega), _, _, mt_hasT1 (d := d) hW hm hK, ?_⟩
      rintro i8 l9 dd10 x11 ⟨⟩
      rw [la_nat (by omega)]
      by_cases c : g s < aT_ A
      · have e : mt_wx A (g s) = g s := if_pos c
        rw [e, if_pos (by omega)]
        exact ⟨fun z => absurd z (by decide), fun _ => go⟩
      · have e : mt_wx A (g s) = 9 := if_neg c
        rw [e, if_neg (by omega)]
        refine ⟨fun _ => ⟨m, hd2, hm, ?_⟩, fun z => absurd rfl z⟩
        rw [hK.1.1, show aT_ A = g s by omega]
        exact go
theorem mt_noted {A : mA_} {m v : Nat} {g : Nat → Nat} {f : Nat → Nat → Bool} (hW : mt_W A) (hm : ab_isM m) (hd2 : dd 169 1 = .ref m) (hK : mt_K A m i) (hv : v < aV_ A) (hg : ∀ s, s < aS_ A v → g s ≤ aT_ A ∧ i 173 (3 * v + s) = Int32.ofNat (mt_wx A (g s))) (hf : ∀ s, s < aS_ A v → i 178 s = nb_u (aT_ A + 1) (f s)) : ab_Sp MX3_areNoted (d + 2) [.ref 169, .int (Int32.ofNat v)] (i, l, dd, x) (ab_E0 sc) (some (.int (if (∀ s, s < aS_ A v → f s (g s) = true) then 1 else 0))) (fun σ => σ = (i, l, dd, x)) := by
  refine ab_ent (n := 1) okMX3_areNoted.1 (fun G => Nat.le_of_ble_eq_true rfl) (fun Q hQ => ?_)
  refine tMX3_areNoted_0 (d := d + 1) ?_
  have hq := hQ _ rfl
  refine an_2 (d := d) hW hm hd2 hK hv hg hf (fun c => ?_) (fun c => ?_) (aS_ A v) 0 (Nat.zero_add _).symm (fun u hu => absurd hu (Nat.not_lt_zero u))
  · rw [if_pos c] at hq
    exact hq
  · rw [if_neg c] at hq
    exact hq
end TQV2
