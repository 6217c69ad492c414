/-! weighed: the class's sortByVoters -/
theorem vf_or {m v : Nat} (hv : v < 5) (hm : m < 2 ^ v) : (Int32.ofNat m ||| (1 <<< (Int32.ofNat v &&& 31))) = Int32.ofNat (m + 2 ^ v) := by
  have h : ∀ v : Fin 5, ∀ m : Fin 32, m.val < 2 ^ v.val → (Int32.ofNat m.val ||| (1 <<< (Int32.ofNat v.val &&& 31))) = Int32.ofNat (m.val + 2 ^ v.val) := by decide +kernel
  have h2 : 2 ^ v ≤ 2 ^ 4 := Nat.pow_le_pow_right (by omega) (by omega)
  have h3 : (2 : Nat) ^ 4 = 16 := rfl
  exact h ⟨v, hv⟩ ⟨m, by omega⟩ hm
theorem vf_31 {m : Nat} (hm : m < 32) : (Int32.ofNat m &&& 31) = Int32.ofNat m := by
  have h : ∀ m : Fin 32, (Int32.ofNat m.val &&& 31) = Int32.ofNat m.val := by decide +kernel
  exact h ⟨m, hm⟩
theorem p2_5 {V : Nat} (hV : V ≤ 5) : 2 ^ V ≤ 32 := by
  have h : 2 ^ V ≤ 2 ^ 5 := Nat.pow_le_pow_right (by omega) hV
  have e : (2 : Nat) ^ 5 = 32 := rfl
  omega
def sv_ (A : mA_) (t m e k : Nat) : Nat := pu_s (fun k => if mr_ A (pu_d (rw_N (gr_cv A (aO_ A))) (aV_ A) k) t (aV_ A) = m then kc_w A (pu_d (rw_N (gr_cv A (aO_ A))) (aV_ A) k) e else 0) k
def sl_v (l l2 : Nat → Nat → Int64) : Prop := ∀ k, k ≠ 165 → k ≠ 194 → l2 k = l k
theorem sv_all {A : mA_} {t m e : Nat} (hW : mt_W A) (ht : t < aT_ A) : sv_ A t m e (mt_rad (rw_N (gr_cv A (aO_ A))) (aV_ A)) = by_ A t m e := by
  rw [← by_k hW ht]
  exact pu_dn (G := fun c => if mr_ A c t (aV_ A) = m then kc_w A c e else 0) (fun v hv => ((gr_cb hW (mt_O9 hW)) v hv).1.1)
section TQO3
variable {d : Nat} {sc : Nat × (Nat → Int32)} {i : Nat → Nat → Int32} {l : Nat → Nat → Int64} {dd : Nat → Nat → Value} {x : Nat}
theorem rw_votersFor {A : mA_} {m t : Nat} {b : Nat → Nat} (hW : mt_W A) (hV : aV_ A ≤ 5) (hm : ab_isM m) (hd : dd 160 0 = .ref m) (hK : mt_K A m i) (hs : rw_s A (gr_cv A (aO_ A)) b i l) (hb : ∀ v, v < aV_ A → b v < (gr_cv A (aO_ A) v).1) (ht : t < 3) : ab_Sp MX4_votersFor (d + 1) [.ref 160, .int (Int32.ofNat t)] (i, l, dd, x) (ab_E0 sc) (some (.int (Int32.ofNat (mr_ A b t (aV_ A))))) (fun σ => σ = (i, l, dd, x)) := by
  have hc := gr_cb hW (mt_O9 hW)
  refine ab_ent (n := 1) okMX4_votersFor.1 (fun G => Nat.le_of_ble_eq_true rfl) (fun Q hQ => ?_)
  refine tMX4_votersFor_0 (d := d) ?_
  have go : ∀ n v : Nat, aV_ A = v + n → ab_Fr MX4_votersFor (d + 1) Q 4 [some (.ref 160), some (.int (Int32.ofNat t)), some (.int (Int32.ofNat (mr_ A b t v))), some (.int (Int32.ofNat v))] [] (0, 0) (i, l, dd, x) (ab_E0 sc) := by
    intro n
    induction n with
    | zero =>
      intro v hv
      refine tMX4_votersFor_4 (d := d) ⟨m, hd, hm, fun _ => ?_, fun c => ?_⟩
      · rw [show v = aV_ A by omega]
        exact hQ _ rfl
      · rw [hK.1.2, nn_le (by omega) (by omega)] at c
        omega
    | succ n ih =>
      intro v hv
      have ih2 := ih (v + 1) (by omega)
      have es : mr_ A b t (v + 1) = mr_ A b t v + (if rw_b (gr_cv A (aO_ A)) b v = t then 2 ^ v else 0) := rfl
      have h9 : rw_b (gr_cv A (aO_ A)) b v ≤ 9 := ((hc v (by omega)).2 _ (hb v (by omega))).1
      have hlt := mr_lt (A := A) (c := b) (t := t) v
      refine tMX4_votersFor_4 (d := d) ⟨m, hd, hm, fun c => ?_, fun _ => ?_⟩
      · rw [hK.1.2, nn_le (by omega) (by omega)] at c
        omega
      · rw [nn_cl (by omega), hs.2.2 v (by omega), nn_eq (by omega) (by omega), vf_or (by omega) hlt, la_nx]
        refine ⟨la_vp (by omega) (by omega), fun c => ?_, fun c => ?_⟩
        · rw [es, if_neg c, Nat.add_zero] at ih2
          exact ih2
        · rw [es, if_pos c] at ih2
          exact ih2
  exact go (aV_ A) 0 (Nat.zero_add _).symm
theorem sv_71 {A : mA_} {m t q : Nat} {b : Nat → Nat} {a2 a3 : Int32} {Z : Nat → Nat → Nat → Nat} (hW : mt_W A) (hm : ab_isM m) (hd : dd 160 0 = .ref m) (ht : t < aT_ A) (hq : q < 32) {l0 : Nat → Nat → Int64} (hK : mt_K A m i) (hs : rw_s A (gr_cv A (aO_ A)) b i l0) {Q : ab_Qt} (hQ : ∀ l2, fr_o 194 194 l0 l2 → (∀ y u e, y < aT_ A → u < 32 → e < aT_ A → l2 194 (3 * (y * 32 + u) + e) = Int64.ofNat (Z y u e + (if y = t ∧ u = q then kc_w A b e else 0))) → ab_Fr MX5_sortByVoters (d + 4) Q 37 [some (.ref 191), some (.ref m), some (.int a2), some (.int a3), some (.int (Int32.ofNat (t + 1))), none, none] [] (0, 0) (i, l2, dd, x) (ab_E0 sc)) :
    ∀ (n e : Nat) (l2 : Nat → Nat → Int64), aT_ A = e + n → fr_o 194 194 l0 l2 → (∀ y u z, y < aT_ A → u < 32 → z < aT_ A → l2 194 (3 * (y * 32 + u) + z) = Int64.ofNat (Z y u z + (if y = t ∧ u = q ∧ z < e then kc_w A b z else 0))) → ab_Fr MX5_sortByVoters (d + 4) Q 71 [some (.ref 191), some (.ref m), some (.int a2), some (.int a3), some (.int (Int32.ofNat t)), some (.int (Int32.ofNat (3 * (t * 32 + q)))), some (.int (Int32.ofNat e))] [] (0, 0) (i, l2, dd, x) (ab_E0 sc) := by
  intro n
  have w1 := hW.1
  induction n with
  | zero =>
    intro e l2 he g2 z2
    refine tMX5_sortByVoters_71 (d := d + 3) hm ⟨fun _ => ?_, fun c => ?_⟩
    · rw [la_nx]
      refine hQ l2 g2 (fun y u z hy hu hz => ?_)
      rw [z2 y u z hy hu hz]
      by_cases c : y = t ∧ u = q
      · rw [if_pos ⟨c.1, c.2, by omega⟩, if_pos c]
      · rw [if_neg (fun h => c ⟨h.1, h.2.1⟩), if_neg c]
    · rw [hK.1.1, nn_le (by omega) (by omega)] at c
      omega
  | succ n ih =>
    intro e l2 he g2 z2
    refine tMX5_sortByVoters_71 (d := d + 3) hm ⟨fun c => ?_, fun _ => ?_⟩
    · rw [hK.1.1, nn_le (by omega) (by omega)] at c
      omega
    · rw [nn_add, nn_cl (by omega)]
      refine ⟨la_vp (by omega) (by omega), _, _, rw_lostNow (d := d + 1) (e := e) hW hm hd hK (rw_s_l hs (g2 165 (by omega))) (by omega), ?_⟩
      rintro i6 l7 dd8 x9 ⟨⟩
      refine ⟨la_vp (by omega) (by omega), ?_⟩
      rintro l3 rfl
      rw [z2 t q e ht hq (by omega), if_neg (fun h => Nat.lt_irrefl e h.2.2), Nat.add_zero, nl_add, la_nx]
      refine ih (e + 1) _ (by omega) (fr_u g2 (by omega)) (fun y u z hy hu hz => ?_)
      by_cases c : y = t ∧ u = q ∧ z = e
      · obtain ⟨rfl, rfl, rfl⟩ := c
        rw [uu_e, if_pos ⟨rfl, rfl, by omega⟩, Nat.add_zero]
      · rw [uu_j (by omega), z2 y u z hy hu hz]
        by_cases c2 : y = t ∧ u = q ∧ z < e
        · rw [if_pos c2, if_pos ⟨c2.1, c2.2.1, by omega⟩]
        · rw [if_neg c2, if_neg (by omega)]
theorem sv_37 {A : mA_} {m k : Nat} {b : Nat → Nat} {a2 : Int32} {Z : Nat → Nat → Nat → Nat} (hW : mt_W A) (hV : aV_ A ≤ 5) (hm : ab_isM m) (hd : dd 160 0 = .ref m) {l0 : Nat → Nat → Int64} (hK : mt_K A m i) (hs : rw_s A (gr_cv A (aO_ A)) b i l0) (hb : ∀ v, v < aV_ A → b v < (gr_cv A (aO_ A) v).1) {Q : ab_Qt} (hQ : ∀ l2, fr_o 194 194 l0 l2 → (∀ y u e, y < aT_ A → u < 32 → e < aT_ A → l2 194 (3 * (y * 32 + u) + e) = Int64.ofNat (Z y u e + (if u = mr_ A b y (aV_ A) then kc_w A b e else 0))) → ∃ P3, ab_Sp MX4_step (d + 3) [.ref 160] (i, l2, dd, x) (ab_E0 sc) none P3 ∧ ∀ i6 l7 dd8 x9, P3 (i6, l7, dd8, x9) → ab_Fr MX5_sortByVoters (d + 4) Q 29 [some (.ref 191), some (.ref m), some (.int a2), some (.int (Int32.ofNat k + 1)), none, none, none] [] (0, 0) (i6, l7, dd8, x9) (ab_E0 sc)) :
    ∀ (n t : Nat) (l2 : Nat → Nat → Int64), aT_ A = t + n → fr_o 194 194 l0 l2 → (∀ y u e, y < aT_ A → u < 32 → e < aT_ A → l2 194 (3 * (y * 32 + u) + e) = Int64.ofNat (Z y u e + (if y < t ∧ u = mr_ A b y (aV_ A) then kc_w A b e else 0))) → ab_Fr MX5_sortByVoters (d + 4) Q 37 [some (.ref 191), some (.ref m), some (.int a2), some (.int (Int32.ofNat k)), some (.int (Int32.ofNat t)), none, none] [] (0, 0) (i, l2, dd, x) (ab_E0 sc) := by
  intro n
  have w1 := hW.1
  have h32 := p2_5 hV
  induction n with
  | zero =>
    intro t l2 ht g2 z2
    refine tMX5_sortByVoters_37 (d := d + 3) hm ⟨fun _ => ?_, fun c => ?_⟩
    · refine hQ l2 g2 (fun y u z hy hu hz => ?_)
      rw [z2 y u z hy hu hz]
      by_cases c : u = mr_ A b y (aV_ A)
      · rw [if_pos ⟨by omega, c⟩, if_pos c]
      · rw [if_neg (fun h => c h.2), if_neg c]
    · rw [hK.1.1, nn_le (by omega) (by omega)] at c
      omega
  | succ n ih =>
    intro t l2 ht g2 z2
    have hlt := mr_lt (A := A) (c := b) (t := t) (aV_ A)
    have hs2 := rw_s_l hs (g2 165 (by omega))
    refine tMX5_sortByVoters_37 (d := d + 3) hm ⟨fun c => ?_, fun _ => ⟨_, _, rw_votersFor (d := d + 2) (t := t) hW hV hm hd hK hs2 hb (by omega), ?_⟩⟩
    · rw [hK.1.1, nn_le (by omega) (by omega)] at c
      omega
    · rintro i6 l7 dd8 x9 ⟨⟩
      rw [vf_31 (by omega), nn_m3, show (32 : Int32) = Int32.ofNat 32 from rfl, nn_mul, nn_add, nn_mul]
      refine sv_71 (d := d) (Z := fun y u e => Z y u e + (if y < t ∧ u = mr_ A b y (aV_ A) then kc_w A b e else 0)) (l0 := l2) hW hm hd (by omega) (by omega) hK hs2 (fun l3 g3 z3 => ih (t + 1) l3 (by omega) (fr_t g2 g3) (fun y u e hy hu he => ?_)) _ 0 l2 (Nat.zero_add _).symm fr_r (fun y u e hy hu he => ?_)
      · rw [z3 y u e hy hu he]
        congr 1
        by_cases c : y < t
        · by_cases c2 : u = mr_ A b y (aV_ A)
          · rw [if_pos ⟨c, c2⟩, if_neg (by omega), if_pos ⟨by omega, c2⟩, Nat.add_zero]
          · rw [if_neg (fun h => c2 h.2), if_neg (by omega), if_neg (fun h => c2 h.2)]
        · rw [if_neg (fun h => c h.1), Nat.add_zero]
          by_cases c3 : y = t
          · subst c3
            by_cases c2 : u = mr_ A b y (aV_ A)
            · rw [if_pos ⟨rfl, c2⟩, if_pos ⟨by omega, c2⟩]
            · rw [if_neg (fun h => c2 h.2), if_neg (fun h => c2 h.2)]
          · rw [if_neg (fun h => c3 h.1), if_neg (by omega)]
      · have e0 : (if y = t ∧ u = mr_ A b t (aV_ A) ∧ e < 0 then kc_w A b e else 0) = 0 := if_neg (fun h => Nat.not_lt_zero e h.2.2)
        rw [e0, Nat.add_zero]
        exact z2 y u e hy hu he
theorem sv_29 {A : mA_} {m : Nat} {a2 : Int32} (hW : mt_W A) (hp : 0 < aV_ A) (hV : aV_ A ≤ 5) (hm : ab_isM m) (hd : dd 160 0 = .ref m) {i0 : Nat → Nat → Int32} {l0 : Nat → Nat → Int64} (hK : mt_K A m i0) (hR : rw_R (aV_ A) (gr_cv A (aO_ A)) i0) (h4 : a2 = Int32.ofNat (mt_rad (rw_N (gr_cv A (aO_ A))) (aV_ A))) {Q : ab_Qt} (hQ : ∀ i2 l2, rw_g i0 i2 → sl_v l0 l2 → (∀ y u e, y < aT_ A → u < 32 → e < aT_ A → l2 194 (3 * (y * 32 + u) + e) = Int64.ofNat (by_ A y u e)) → Q (some none) (i2, l2, dd, x) (ab_E0 sc)) :
    ∀ (n k : Nat) (i2 : Nat → Nat → Int32) (l2 : Nat → Nat → Int64), mt_rad (rw_N (gr_cv A (aO_ A))) (aV_ A) = k + n → rw_g i0 i2 → sl_v l0 l2 → (0 < n → rw_s A (gr_cv A (aO_ A)) (pu_d (rw_N (gr_cv A (aO_ A))) (aV_ A) k) i2 l2) → (∀ y u e, y < aT_ A → u < 32 → e < aT_ A → l2 194 (3 * (y * 32 + u) + e) = Int64.ofNat (sv_ A y u e k)) → ab_Fr MX5_sortByVoters (d + 4) Q 29 [some (.ref 191), some (.ref m), some (.int a2), some (.int (Int32.ofNat k)), none, none, none] [] (0, 0) (i2, l2, dd, x) (ab_E0 sc) := by
  subst h4
  intro n
  have w1 := hW.1
  have hc := gr_cb hW (mt_O9 hW)
  have hcnt := (rw_cnt hW hc (aV_ A) (Nat.le_refl _)).2
  induction n with
  | zero =>
    intro k i2 l2 hk g2 h2 s2 z2
    refine tMX5_sortByVoters_29 (d := d + 3) hm ⟨fun _ => hQ i2 l2 g2 h2 (fun y u e hy hu he => ?_), fun c => ?_⟩
    · rw [z2 y u e hy hu he, show k = mt_rad (rw_N (gr_cv A (aO_ A))) (aV_ A) by omega, sv_all hW hy]
    · rw [nn_le (by omega) (by omega)] at c
      omega
  | succ n ih =>
    intro k i2 l2 hk g2 h2 s2 z2
    have s2 := s2 (by omega)
    have hK2 := mt_K_o hm hK (rw_g_o g2) (by omega) hW
    refine tMX5_sortByVoters_29 (d := d + 3) hm ⟨fun c => ?_, fun _ => ?_⟩
    · rw [nn_le (by omega) (by omega)] at c
      omega
    · refine sv_37 (d := d) (Z := fun y u e => sv_ A y u e k) (l0 := l2) hW hV hm hd hK2 s2 (rw_dlt hc) (fun l3 g3 z3 => ⟨_, rw_step (d := d + 1) hW hp hm hd hK2 (rw_R_g hR g2) hc (rw_s_l s2 (g3 165 (by omega))) (rw_dlt hc), ?_⟩) _ 0 l2 (Nat.zero_add _).symm fr_r (fun y u e hy hu he => ?_)
      · rintro i6 l7 dd8 x9 ⟨i4, l4, ⟨⟩, f4, g4, s4⟩
        rw [la_nx]
        refine ih (k + 1) _ _ (by omega) (rw_g_t g2 (rw_g_f f4)) (fun q a b => ?_) (fun hn => by rw [← pu_ds (N := rw_N (gr_cv A (aO_ A))) (fun v hv => (hc v hv).1.1) (by omega)]; exact s4) (fun y u e hy hu he => ?_)
        · rw [g4 q (by omega), g3 q (by omega)]
          exact h2 q a b
        · rw [g4 194 (by omega), z3 y u e hy hu he]
          show Int64.ofNat _ = Int64.ofNat (sv_ A y u e k + (if mr_ A (pu_d (rw_N (gr_cv A (aO_ A))) (aV_ A) k) y (aV_ A) = u then kc_w A (pu_d (rw_N (gr_cv A (aO_ A))) (aV_ A) k) e else 0))
          by_cases c : mr_ A (pu_d (rw_N (gr_cv A (aO_ A))) (aV_ A) k) y (aV_ A) = u
          · rw [if_pos c, if_pos c.symm]
          · rw [if_neg c, if_neg (fun h => c h.symm)]
      · rw [z2 y u e hy hu he, if_neg (fun h => Nat.not_lt_zero y h.1), Nat.add_zero]
theorem mt_sortV {A : mA_} {m : Nat} (hW : mt_W A) (hp : 0 < aV_ A) (hV : aV_ A ≤ 5) (hm : ab_isM m) (hK : mt_K A m i) : ab_Sp MX5_sortByVoters (d + 4) [.ref 191, .ref m] (i, l, dd, x) (ab_E0 sc) none (fun σ => ∃ i2 l2, σ = (i2, l2, ab_u dd 160 0 (.ref m), x) ∧ kp_i i i2 ∧ (∀ k, k < 161 ∨ 168 < k → i2 k = i k) ∧ sl_v l l2 ∧ ∀ y u e, y < aT_ A → u < 32 → e < aT_ A → l2 194 (3 * (y * 32 + u) + e) = Int64.ofNat (by_ A y u e)) := by
  have w1 := hW.1
  refine ab_ent (n := 1) okMX5_sortByVoters.1 (fun G => Nat.le_of_ble_eq_true rfl) (fun Q hQ => ?_)
  refine tMX5_sortByVoters_0 (d := d + 3) hm ⟨_, mt_emptyL (d := d + 2) (a := 194) (n := 288) rfl (by omega), ?_⟩
  rintro i5 l6 dd7 x8 ⟨l2, ⟨⟩, f2, z2⟩
  refine ⟨_, mt_voting (d := d) hW hm hK (kd_47 hm) (by omega) (by rcases hm with rfl | rfl | rfl <;> omega) (mt_KV hK) (mt_O9 hW), ?_⟩
  rintro i5 l6 dd7 x8 ⟨i3, ⟨⟩, k3, R3⟩
  have hK3 := mt_K_kp hW hm hK (kp_fo k3 kp_c14)
  refine ⟨_, _, rw_first (d := d + 1) hW hm uu_e hK3 R3 (gr_cb hW (mt_O9 hW)), ?_⟩
  rintro i7 l8 dd9 x10 ⟨i4, l4, ⟨⟩, f4, g4, s4⟩
  refine sv_29 (d := d) (i0 := i7) (l0 := l8) hW hp hV hm uu_e (mt_K_o hm hK3 (rw_g_o (rw_g_f f4)) (by omega) hW) (rw_R_g R3 (rw_g_f f4)) rfl (fun i6 l9 g6 h6 z6 => hQ _ ⟨i6, l9, rfl, kp_it (kp_fo k3 kp_c14) (kp_it (kp_g (rw_g_f f4)) (kp_g g6)), fun k hk => ?_, fun q a b => ?_, z6⟩) _ 0 i7 l8 (Nat.zero_add _).symm (fun _ _ _ _ _ => rfl) (fun _ _ _ => rfl) (fun _ => by rw [pu_d0]; exact s4) (fun y u e hy hu he => ?_)
  · rw [g6 k (by omega) (by omega) (by omega) (by omega), f4 k (by omega) (by omega) (by omega), k3 k (by omega)]
  · rw [h6 q a b, g4 q (by omega), f2 q (by omega)]
  · rw [g4 194 (by omega), z2 _ (by omega)]
    rfl
end TQO3
