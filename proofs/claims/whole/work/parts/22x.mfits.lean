/-! fits: the model -/
theorem cs_lostB {A : mA_} {vt : Nat → Nat → Nat} (hW : mt_W A) : cs_lost A vt < 1000000000000000000 := by
  have w1 := hW.1
  have h1 : cs_lost A vt ≤ pu_n (aS_ A) (aV_ A) (fun b => pu_s (fun t => mt_pa A b t * 50) (aT_ A)) := pu_nle (fun b _ => pu_sle (fun t _ => Nat.mul_le_mul (Nat.le_refl _) (hW.2.2.2.2.2.2.2.2.2.1 7 t _)))
  rw [pu_ns (G := fun b t => mt_pa A b t * 50)] at h1
  have h2 : pu_s (fun a => pu_n (aS_ A) (aV_ A) (fun b => mt_pa A b a * 50)) (aT_ A) ≤ pu_s (fun _ => 25600000000 * 50) (aT_ A) := pu_sle (fun t _ => by
    rw [pu_nr (c := 50) (G := fun b => mt_pa A b t)]
    exact Nat.mul_le_mul (cs_paB hW) (Nat.le_refl _))
  have h3 : ∀ n, n ≤ 3 → pu_s (fun _ => 25600000000 * 50) n ≤ 25600000000 * 50 * 3 := fun n hn => by
    rcases (show n = 0 ∨ n = 1 ∨ n = 2 ∨ n = 3 by omega) with rfl | rfl | rfl | rfl <;> decide
  have := h3 _ w1
  omega
section TQX2
variable {d : Nat} {sc : Nat × (Nat → Int32)} {i : Nat → Nat → Int32} {l : Nat → Nat → Int64} {dd : Nat → Nat → Value} {x : Nat}
def mf_P (i : Nat → Nat → Int32) (l : Nat → Nat → Int64) (i2 : Nat → Nat → Int32) (l2 : Nat → Nat → Int64) : Prop := (∀ k, k ≠ 225 → k ≠ 226 → k ≠ 227 → k ≠ 247 → i2 k = i k) ∧ (∀ j, j < 21 → i2 225 j = i 225 j) ∧ fr_o 228 228 l l2
theorem mf_M {A : mA_} {i2 : Nat → Nat → Int32} {l2 : Nat → Nat → Int64} (hW : mt_W A) (hM : mt_M A i l) (h : mf_P i l i2 l2) : mt_M A i2 l2 :=
  mt_M_fr hM (fun j _ _ => by rw [h.1 205 (by omega) (by omega) (by omega) (by omega)]) (fun k _ _ => h.1 k (by omega) (by omega) (by omega) (by omega)) h.2.1 (h.2.2 224 (by omega)) hW
theorem mf_t {i2 i3 : Nat → Nat → Int32} {l2 l3 : Nat → Nat → Int64} (h1 : mf_P i l i2 l2) (h2 : mf_P i2 l2 i3 l3) : mf_P i l i3 l3 := ⟨fun k a b c e => (h2.1 k a b c e).trans (h1.1 k a b c e), fun j hj => (h2.2.1 j hj).trans (h1.2.1 j hj), fr_t h1.2.2 h2.2.2⟩
theorem mf_o {i2 : Nat → Nat → Int32} {l2 : Nat → Nat → Int64} (hf : fr_o 226 227 i i2) (hg : fr_o 228 228 l l2) : mf_P i l i2 l2 := ⟨fun k _ b c _ => hf k (by omega), fun j _ => by rw [hf 225 (by omega)], hg⟩
theorem mf_247 {j : Nat} {z : Int32} : mf_P i l (ab_u i 247 j z) l := ⟨fun k _ _ _ e => uu_f e, fun j _ => uu_k (by decide), fr_r⟩
theorem mf_225 {j : Nat} {z : Int32} (h : 21 ≤ j) : mf_P i l (ab_u i 225 j z) l := ⟨fun k a _ _ _ => uu_f a, fun b hb => uu_j (by omega), fr_r⟩
theorem mf_r : mf_P i l i l := ⟨fun _ _ _ _ _ => rfl, fun _ _ => rfl, fr_r⟩
theorem mf_115 {A : mA_} {c v n a2 : Nat} {lst : Int64} (hW : mt_W A) (hM : mt_M A i l) (hN : fb_N A ≤ 6) (hc : c < 2 ^ 20) (hv : v < aV_ A) {Q : ab_Qt} (hQ : ∀ i2, mf_P i l i2 l → i2 247 = i 247 → (∀ u w, v ≤ u → u < aV_ A → w < aS_ A u → i2 225 (21 + 3 * u + w) = Int32.ofNat (fb_v A c u w)) → ab_Fr MX12_fits (d + 1) Q 99 [some (.ref 205), none, some (.int (Int32.ofNat a2)), some (.int (Int32.ofNat n)), some (.long lst), none, some (.int (Int32.ofNat c)), some (.int (Int32.ofNat (c / (aT_ A + 1) ^ (fb_N A - fb_P A v)))), some (.int (Int32.ofNat v + (-1))), none, none] [] (0, 0) (i2, l, dd, x) (ab_E0 sc)) :
    ∀ (s : Nat) (i2 : Nat → Nat → Int32), s ≤ aS_ A v → mf_P i l i2 l → i2 247 = i 247 → (∀ u w, u < aV_ A → w < aS_ A u → (v < u ∨ u = v ∧ s ≤ w) → i2 225 (21 + 3 * u + w) = Int32.ofNat (fb_v A c u w)) → ab_Fr MX12_fits (d + 1) Q 115 [some (.ref 205), none, some (.int (Int32.ofNat a2)), some (.int (Int32.ofNat n)), some (.long lst), none, some (.int (Int32.ofNat c)), some (.int (Int32.ofNat (c / (aT_ A + 1) ^ (fb_N A - (fb_P A v + s))))), some (.int (Int32.ofNat v)), some (.int (Int32.ofNat s + (-1))), none] [] (0, 0) (i2, l, dd, x) (ab_E0 sc) := by
  intro s
  have w1 := hW.1
  have w2 := hW.2.1
  have hS := hW.2.2.2.2.2.2.1 v hv
  have hPN : fb_P A (v + 1) ≤ fb_N A := fb_mono (by omega)
  have hP1 : fb_P A (v + 1) = fb_P A v + aS_ A v := rfl
  induction s with
  | zero =>
    intro i2 hs P2 e7 z2
    refine tMX12_fits_115 ⟨fun _ => ?_, fun g => absurd (show (Int32.ofNat 0 + (-1)) < 0 by decide) g⟩
    exact hQ i2 P2 e7 (fun u w h1 h2 h3 => z2 u w h2 h3 (by omega))
  | succ s ih =>
    intro i2 hs P2 e7 z2
    have r1 := (mf_M hW hM P2).1.1
    have hcd := Nat.div_le_self c ((aT_ A + 1) ^ (fb_N A - (fb_P A v + (s + 1))))
    have hdg : c / (aT_ A + 1) ^ (fb_N A - (fb_P A v + (s + 1))) % (aT_ A + 1) = fb_d A c (fb_P A v + s) := by
      unfold fb_d
      rw [show fb_N A - 1 - (fb_P A v + s) = fb_N A - (fb_P A v + (s + 1)) by omega]
    have hdv : c / (aT_ A + 1) ^ (fb_N A - (fb_P A v + (s + 1))) / (aT_ A + 1) = c / (aT_ A + 1) ^ (fb_N A - (fb_P A v + s)) := by
      rw [show fb_N A - (fb_P A v + s) = fb_N A - (fb_P A v + (s + 1)) + 1 by omega, Nat.pow_succ, Nat.div_div_eq_div_mul]
    have hdl := fb_dl (A := A) (c := c) (p := fb_P A v + s)
    have hT0 : ¬ Int32.ofNat (aT_ A + 1) = 0 := fun z => by
      rw [nn_p0, nn_eq (by omega) (by omega)] at z
      omega
    rw [nn_m1 (by omega), show s + 1 - 1 = s by omega]
    refine tMX12_fits_115 ⟨fun g => absurd g (la_nn (by omega)).1, fun _ => ?_⟩
    rw [r1, la_nx, la_mod (by omega) (by omega), la_div (by omega) (by omega), hdg, hdv, nn_eq (by omega) (by omega), nn_p21, nn_p3, nn_mul, nn_add, nn_add, nn_cl (by omega)]
    have hw : ∀ z : Int32, z = Int32.ofNat (mt_wx A (fb_d A c (fb_P A v + s))) → ab_Fr MX12_fits (d + 1) Q 115 [some (.ref 205), none, some (.int (Int32.ofNat a2)), some (.int (Int32.ofNat n)), some (.long lst), none, some (.int (Int32.ofNat c)), some (.int (Int32.ofNat (c / (aT_ A + 1) ^ (fb_N A - (fb_P A v + s))))), some (.int (Int32.ofNat v)), some (.int (Int32.ofNat s + (-1))), none] [] (0, 0) (ab_u i2 225 (21 + 3 * v + s) z, l, dd, x) (ab_E0 sc) := by
      rintro z rfl
      refine ih _ (by omega) (mf_t P2 (mf_225 (by omega))) (by rw [uu_f (by decide)]; exact e7) (fun u w hu hw h => ?_)
      by_cases e : u = v ∧ w = s
      · obtain ⟨rfl, rfl⟩ := e
        exact uu_e
      · have hSu := hW.2.2.2.2.2.2.1 u hu
        rw [uu_j (by omega)]
        exact z2 u w hu hw (by omega)
    refine ⟨hT0, hT0, fun g => ⟨la_vp (by omega) (by omega), ?_⟩, fun g => ⟨la_vp (by omega) (by omega), ?_⟩⟩
    · rintro i3 rfl
      exact hw _ (by rw [show mt_wx A (fb_d A c (fb_P A v + s)) = fb_d A c (fb_P A v + s) from if_pos (by omega)])
    · rintro i5 rfl
      exact hw _ (by rw [show mt_wx A (fb_d A c (fb_P A v + s)) = 9 from if_neg (by omega)]; rfl)
theorem mf_99 {A : mA_} {c n a2 : Nat} {lst : Int64} (hW : mt_W A) {i0 : Nat → Nat → Int32} (hM : mt_M A i0 l) (hN : fb_N A ≤ 6) (hc : c < 2 ^ 20) {Q : ab_Qt} (hQ : ∀ i2 z, mf_P i0 l i2 l → i2 247 = i0 247 → mt_Vo A i2 1 (fb_v A c) → ab_Fr MX12_fits (d + 1) Q 99 [some (.ref 205), none, some (.int (Int32.ofNat a2)), some (.int (Int32.ofNat n)), some (.long lst), none, some (.int (Int32.ofNat c)), some (.int z), some (.int (Int32.ofNat 0 + (-1))), none, none] [] (0, 0) (i2, l, dd, x) (ab_E0 sc)) :
    ∀ (v : Nat) (i2 : Nat → Nat → Int32), v ≤ aV_ A → mf_P i0 l i2 l → i2 247 = i0 247 → (∀ u w, v ≤ u → u < aV_ A → w < aS_ A u → i2 225 (21 + 3 * u + w) = Int32.ofNat (fb_v A c u w)) → ab_Fr MX12_fits (d + 1) Q 99 [some (.ref 205), none, some (.int (Int32.ofNat a2)), some (.int (Int32.ofNat n)), some (.long lst), none, some (.int (Int32.ofNat c)), some (.int (Int32.ofNat (c / (aT_ A + 1) ^ (fb_N A - fb_P A v)))), some (.int (Int32.ofNat v + (-1))), none, none] [] (0, 0) (i2, l, dd, x) (ab_E0 sc) := by
  intro v
  have w2 := hW.2.1
  induction v with
  | zero =>
    intro i2 hv P2 e7 z2
    exact hQ i2 _ P2 e7 (fun u w hu hw => by
      rw [show 21 * 1 + 3 * u + w = 21 + 3 * u + w by omega]
      exact z2 u w (by omega) hu hw)
  | succ v ih =>
    intro i2 hv P2 e7 z2
    have hS := hW.2.2.2.2.2.2.1 v (by omega)
    have hM2 := mf_M hW hM P2
    have e0 := (hM2.2.2.2.1 v (by omega)).1
    rw [nn_m1 (by omega), show v + 1 - 1 = v by omega]
    refine tMX12_fits_99 ⟨fun g => absurd g (la_nn (by omega)).1, fun _ => ⟨la_vp (by omega) (by omega), ?_⟩⟩
    rw [nn_cl (by omega), e0, Int32.sub_eq_add_neg]
    exact mf_115 (d := d) hW hM2 hN hc (by omega) (fun i3 P3 e3 z3 => ih i3 (by omega) (mf_t P2 P3) (e3.trans e7) z3) (aS_ A v) i2 (Nat.le_refl _) mf_r rfl (fun u w hu hw h => z2 u w (by rcases h with h | ⟨rfl, h⟩ <;> omega) hu hw)
/-- kept of the model -/
def mf_k (A : mA_) (i0 i2 : Nat → Nat → Int32) (c : Nat) : Prop := (0 < (cf_ A c).1 → ∀ v s, v < aV_ A → s < aS_ A v → i2 247 (3 * v + s) = Int32.ofNat (fb_v A (cf_ A c).2 v s)) ∧ ((cf_ A c).1 = 0 → i2 247 = i0 247)
def mf_l (A : mA_) (c : Nat) : Int64 := if (cf_ A c).1 = 0 then 1000000000000000000 else Int64.ofNat (cs_lost A (fb_v A (cf_ A c).2))
theorem mf_224 {a2 n c : Nat} {lst : Int64} {i0 : Nat → Nat → Int32} {Q : ab_Qt} (hQ : ∀ i2, mf_P i0 l i2 l → i2 225 = i0 225 → (∀ j, j < 21 → i2 247 j = i0 225 (21 + j)) → ab_Fr MX12_fits (d + 1) Q 81 [some (.ref 205), none, some (.int (Int32.ofNat a2)), some (.int (Int32.ofNat n)), some (.long lst), none, some (.int (Int32.ofNat (c + 1))), none, none, none, none] [] (0, 0) (i2, l, dd, x) (ab_E0 sc)) :
    ∀ (r j : Nat) (i2 : Nat → Nat → Int32), 21 = j + r → mf_P i0 l i2 l → i2 225 = i0 225 → (∀ u, u < j → i2 247 u = i0 225 (21 + u)) → ab_Fr MX12_fits (d + 1) Q 224 [some (.ref 205), none, some (.int (Int32.ofNat a2)), some (.int (Int32.ofNat n)), some (.long lst), none, some (.int (Int32.ofNat c)), none, none, none, some (.int (Int32.ofNat j))] [] (0, 0) (i2, l, dd, x) (ab_E0 sc) := by
  intro r
  induction r with
  | zero =>
    intro j i2 hj P2 e2 z2
    refine tMX12_fits_224 ⟨fun _ => ?_, fun g => ?_⟩
    · rw [la_nx]
      exact hQ i2 P2 e2 (fun u hu => z2 u (by omega))
    · rw [nn_p21, nn_le (by omega) (by omega)] at g
      omega
  | succ r ih =>
    intro j i2 hj P2 e2 z2
    refine tMX12_fits_224 ⟨fun g => ?_, fun _ => ?_⟩
    · rw [nn_p21, nn_le (by omega) (by omega)] at g
      omega
    · rw [nn_p21, nn_add, nn_cl (by omega), nn_cl (by omega), la_nx]
      refine ⟨la_vp (by omega) (by omega), la_vp (by omega) (by omega), ?_⟩
      rintro i3 rfl
      refine ih (j + 1) _ (by omega) (mf_t P2 mf_247) ((uu_f (by decide)).trans e2) (fun u hu => ?_)
      by_cases e : u = j
      · rw [e, uu_e, e2]
      · rw [uu_j e]
        exact z2 u (by omega)
theorem mf_81 {A : mA_} (hW : mt_W A) (hp : 0 < aV_ A) (hN : fb_N A ≤ 6) {i0 : Nat → Nat → Int32} {l0 : Nat → Nat → Int64} (hM : mt_M A i0 l0) {Q : ab_Qt} (hQ : ∀ i2 l2 z, mf_P i0 l0 i2 l2 → mf_k A i0 i2 ((aT_ A + 1) ^ fb_N A) → ab_Fr MX12_fits (d + 5) Q 81 [some (.ref 205), none, some (.int (Int32.ofNat ((aT_ A + 1) ^ fb_N A))), some (.int (Int32.ofNat (cf_ A ((aT_ A + 1) ^ fb_N A)).1)), some (.long z), none, some (.int (Int32.ofNat ((aT_ A + 1) ^ fb_N A))), none, none, none, none] [] (0, 0) (i2, l2, dd, x) (ab_E0 sc)) :
    ∀ (r c : Nat) (i2 : Nat → Nat → Int32) (l2 : Nat → Nat → Int64), (aT_ A + 1) ^ fb_N A = c + r → mf_P i0 l0 i2 l2 → mf_k A i0 i2 c → ab_Fr MX12_fits (d + 5) Q 81 [some (.ref 205), none, some (.int (Int32.ofNat ((aT_ A + 1) ^ fb_N A))), some (.int (Int32.ofNat (cf_ A c).1)), some (.long (mf_l A c)), none, some (.int (Int32.ofNat c)), none, none, none, none] [] (0, 0) (i2, l2, dd, x) (ab_E0 sc) := by
  intro r
  have w1 := hW.1
  have w2 := hW.2.1
  have hT := fb_TN hW hN
  induction r with
  | zero =>
    intro c i2 l2 hc P2 k2
    have hq := hQ i2 l2 (mf_l A c) P2
    rw [show c = (aT_ A + 1) ^ fb_N A by omega] at k2 hq ⊢
    exact hq k2
  | succ r ih =>
    intro c i2 l2 hc P2 k2
    have hM2 := mf_M hW hM P2
    have hcl := cf_le (A := A) c
    have ht : mt_vt A (fb_v A c) := fb_vt
    have e1 : cf_ A (c + 1) = if cs_fit A (fb_v A c) = 0 then cf_ A c else ((cf_ A c).1 + 1, if (cf_ A c).1 = 0 then c else if Int64.ofNat (cs_lost A (fb_v A c)) < Int64.ofNat (cs_lost A (fb_v A (cf_ A c).2)) then c else (cf_ A c).2) := rfl
    refine tMX12_fits_81 (d := d + 4) ⟨fun g => ?_, fun _ => ?_⟩
    · rw [nn_le (by omega) (by omega)] at g
      omega
    · rw [hM2.1.2.1, Int32.sub_eq_add_neg]
      have h0 : c / (aT_ A + 1) ^ (fb_N A - fb_P A (aV_ A)) = c := by
        rw [show fb_N A - fb_P A (aV_ A) = 0 from Nat.sub_self _, Nat.pow_zero, Nat.div_one]
      have h99 := mf_99 (d := d + 4) (sc := sc) (dd := dd) (x := x) (c := c) (n := (cf_ A c).1) (a2 := (aT_ A + 1) ^ fb_N A) (lst := mf_l A c) (Q := Q) hW hM2 hN (by omega) (fun i3 z P3 e3 V3 => ?_) (aV_ A) i2 (Nat.le_refl _) mf_r rfl (fun u w h1 h2 _ => absurd h2 (by omega))
      · rw [h0] at h99
        exact h99
      · have hM3 := mf_M hW hM2 P3
        refine tMX12_fits_99 (d := d + 4) ⟨fun _ => ⟨_, _, md_isFit (d := d) (o := 1) hW ht (by omega) hM3 V3, ?_⟩, fun g => absurd (show (Int32.ofNat 0 + (-1)) < 0 by decide) g⟩
        rintro i6 l7 dd8 x9 ⟨i4, l4, ⟨⟩, f4, g4⟩
        have P4 : mf_P i0 l0 i6 l7 := mf_t P2 (mf_t P3 (mf_o f4 g4))
        have k4 : i6 247 = i2 247 := (f4 247 (by omega)).trans e3
        rcases cs_fit01 (A := A) (vt := fb_v A c) with y | y
        · rw [y]
          refine ⟨fun q => absurd rfl q, fun _ => ?_⟩
          rw [if_pos y] at e1
          rw [la_nx]
          have h := ih (c + 1) i6 l7 (by omega) P4
          unfold mf_k mf_l at h
          rw [e1, k4] at h
          exact h k2
        · rw [y]
          rw [if_neg (by omega)] at e1
          have V4 : mt_Vo A i6 1 (fb_v A c) := fun v s hv hs => by rw [f4 225 (by omega)]; exact V3 v s hv hs
          refine ⟨fun _ => ⟨_, _, md_lost (d := d + 1) (o := 1) hW hp (mf_M hW hM P4) (by omega) V4 ht, ?_⟩, fun q => absurd q (by decide)⟩
          rintro i16 l17 dd18 x19 ⟨i5, ⟨⟩, f5⟩
          have P5 : mf_P i0 l0 i16 l7 := mf_t P4 (mf_o f5 fr_r)
          have k5 : i16 247 = i2 247 := (f5 247 (by omega)).trans k4
          have V5 : mt_Vo A i16 1 (fb_v A c) := fun v s hv hs => by rw [f5 225 (by omega)]; exact V4 v s hv hs
          have hB := cs_lostB (vt := fb_v A c) hW
          have a1 : (cf_ A (c + 1)).1 = (cf_ A c).1 + 1 := by rw [e1]
          have e18 : (1000000000000000000 : Int64) = Int64.ofNat 1000000000000000000 := rfl
          rw [la_nx]
          refine ⟨fun g => ?_, fun g => ?_⟩
          · have a2 : (cf_ A (c + 1)).2 = c := by
              rw [e1]
              by_cases z0 : (cf_ A c).1 = 0
              · exact if_pos z0
              · unfold mf_l at g
                rw [if_neg z0] at g
                exact (if_neg z0).trans (if_pos g)
            refine mf_224 (d := d + 4) (i0 := i16) (fun i7 P7 e7 z7 => ?_) 21 0 i16 (by omega) mf_r rfl (fun u hu => absurd hu (Nat.not_lt_zero u))
            have h := ih (c + 1) i7 l7 (by omega) (mf_t P5 P7) ⟨fun _ v s hv hs => by
              have hS := hW.2.2.2.2.2.2.1 v hv
              have hV := V5 v s hv hs
              rw [show 21 * 1 + 3 * v + s = 21 + (3 * v + s) by omega] at hV
              rw [a2, z7 _ (by omega), hV], fun z0 => by omega⟩
            have el : mf_l A (c + 1) = Int64.ofNat (cs_lost A (fb_v A c)) := by
              unfold mf_l
              rw [a2, if_neg (by omega)]
            rw [el, a1] at h
            exact h
          · have z0 : ¬ (cf_ A c).1 = 0 := fun z0 => by
              unfold mf_l at g
              rw [if_pos z0, e18, nl_lt (by omega) (by omega)] at g
              omega
            have a2 : (cf_ A (c + 1)).2 = (cf_ A c).2 := by
              rw [e1]
              unfold mf_l at g
              rw [if_neg z0] at g
              exact (if_neg z0).trans (if_neg g)
            rw [la_nx]
            have h := ih (c + 1) i16 l7 (by omega) P5 ⟨fun _ v s hv hs => by rw [a2, k5]; exact k2.1 (by omega) v s hv hs, fun z0 => by omega⟩
            have el : mf_l A (c + 1) = mf_l A c := by
              unfold mf_l
              rw [a2, if_neg (by omega), if_neg z0]
            rw [el, a1] at h
            exact h
end TQX2
