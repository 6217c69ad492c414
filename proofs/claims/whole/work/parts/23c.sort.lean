/-! bar: sums by weight; the class sorts -/
theorem cd_dig {g : Nat → Nat} (h : ∀ v, g v < 4) : ∀ k v, v < k → cd_ g k / 4 ^ v % 4 = g v := by
  intro k
  induction k with
  | zero => intro v hv; exact absurd hv (Nat.not_lt_zero v)
  | succ k ih =>
    intro v hv
    show (cd_ g k + g k * 4 ^ k) / 4 ^ v % 4 = g v
    have hM : 0 < 4 ^ v := Nat.pow_pos (by omega)
    by_cases c : v = k
    · subst c
      rw [Nat.add_mul_div_right _ _ hM, Nat.div_eq_of_lt (cd_lt h v), Nat.zero_add, Nat.mod_eq_of_lt (h v)]
    · have e : g k * 4 ^ k = (g k * 4 ^ (k - v - 1) * 4) * 4 ^ v := by
        rw [Nat.mul_assoc, Nat.mul_assoc, ← Nat.pow_succ', ← Nat.pow_add, show k - v - 1 + (v + 1) = k by omega]
      rw [e, Nat.add_mul_div_right _ _ hM, Nat.add_mul_mod_self_right]
      exact ih v (by omega)
/-- the weight of a code for a truth -/
def cw_ (A : mA_) (t u : Nat) : Nat := pu_s (fun v => if u / 4 ^ v % 4 = t then aW_ A v else 0) (aV_ A)
theorem cw_k {A : mA_} {c : Nat → Nat} {t : Nat} (hW : mt_W A) (hc : pu_t (rw_N (gr_cv A (aO_ A))) (aV_ A) c) (ht : t < aT_ A) : cw_ A t (kc_ A c) = rw_w A (gr_cv A (aO_ A)) c (aV_ A) t := by
  have w1 := hW.1
  unfold cw_ rw_w mt_tl
  refine pu_sc (fun v hv => ?_)
  have h := cd_dig (kc_4 hW hc) (aV_ A) v hv
  rw [if_pos hv] at h
  have e : kc_ A c / 4 ^ v % 4 = cd_g (rw_b (gr_cv A (aO_ A)) c v) := h
  rw [e]
  have g := (kc_g hW hv (hc.1 v hv)).2
  have g2 : rw_b (gr_cv A (aO_ A)) c v < aT_ A ∨ rw_b (gr_cv A (aO_ A)) c v = 9 := g
  generalize rw_b (gr_cv A (aO_ A)) c v = y at *
  have e3 : cd_g y = t ↔ y = t := by
    unfold cd_g
    split <;> omega
  by_cases c2 : y = t
  · rw [if_pos (e3.mpr c2), if_pos c2]
  · rw [if_neg (fun q => c2 (e3.mp q)), if_neg c2]
/-- what is lost by verdict e where truth t has weight w -/
def bw_ (A : mA_) (t w e : Nat) : Nat := pu_s (fun u => if cw_ A t u = w then bv_ A u e else 0) (4 ^ aV_ A)
theorem bw_k {A : mA_} {t w e : Nat} (hW : mt_W A) (ht : t < aT_ A) : pu_n (rw_N (gr_cv A (aO_ A))) (aV_ A) (fun c => if rw_w A (gr_cv A (aO_ A)) c (aV_ A) t = w then kc_w A c e else 0) = bw_ A t w e := by
  unfold bw_
  rw [← bv_sum (X := fun u => if cw_ A t u = w then bv_ A u e else 0) hW (fun u h => by
    rw [h e]
    split <;> rfl)]
  refine pu_nc (fun c hc => ?_)
  rw [cw_k hW hc ht, bv_at hW hc]
theorem rw_wB {A : mA_} {c : Nat → Nat} {t : Nat} (hW : mt_W A) : rw_w A (gr_cv A (aO_ A)) c (aV_ A) t ≤ 63 := by
  have w2 := hW.2.1
  have h : ∀ k, k ≤ 7 → pu_s (fun v => if rw_b (gr_cv A (aO_ A)) c v = t then aW_ A v else 0) k ≤ 9 * k := by
    intro k
    induction k with
    | zero => intro _; exact Nat.le_refl 0
    | succ k ih =>
      intro hk
      have h1 := ih (by omega)
      have h2 := hW.2.2.2.2.2.2.2.2.2.2.2.1 k
      show _ + (if _ then aW_ A k else 0) ≤ 9 * (k + 1)
      split <;> omega
  have h2 := h (aV_ A) w2
  show pu_s (fun v => if rw_b (gr_cv A (aO_ A)) c v = t then aW_ A v else 0) (aV_ A) ≤ 63
  omega
section TQC3
variable {d : Nat} {sc : Nat × (Nat → Int32)} {i : Nat → Nat → Int32} {l : Nat → Nat → Int64} {dd : Nat → Nat → Value} {x : Nat}
theorem rw_lostNow {A : mA_} {m e : Nat} {b : Nat → Nat} (hW : mt_W A) (hm : ab_isM m) (hd : dd 160 0 = .ref m) (hK : mt_K A m i) (hs : rw_s A (gr_cv A (aO_ A)) b i l) (he : e < 3) : ab_Sp MX4_lostNow (d + 2) [.ref 160, .int (Int32.ofNat e)] (i, l, dd, x) (ab_E0 sc) (some (.long (Int64.ofNat (kc_w A b e)))) (fun σ => σ = (i, l, dd, x)) := by
  have w1 := hW.1
  have w2 := hW.2.1
  refine ab_ent (n := 1) okMX4_lostNow.1 (fun G => Nat.le_of_ble_eq_true rfl) (fun Q hQ => ?_)
  refine tMX4_lostNow_0 (d := d + 1) ⟨m, hd, hm, ?_⟩
  rw [hK.1.2, nn_m3, nn_mul]
  refine ⟨_, _, mt_lostAt (d := d) (fr := 3 * aV_ A) (n := 24) (e := e) (P := fun t => rw_p A (gr_cv A (aO_ A)) b (aV_ A) t) (K := aK_ A 7) (Or.inl ⟨m, hm, rfl⟩) rfl (mt_KLo hW hK) (fun t ht => (hs.2.1 (aV_ A) t (Nat.le_refl _) ht).1) (by omega) he, ?_⟩
  rintro i6 l7 dd8 x9 ⟨⟩
  rw [show pu_s (fun t => rw_p A (gr_cv A (aO_ A)) b (aV_ A) t * aK_ A 7 t e) 3 = kc_w A b e from pu_s3 (f := fun t => rw_p A (gr_cv A (aO_ A)) b (aV_ A) t * aK_ A 7 t e) w1 (fun t ht => by
    unfold rw_p
    rw [(hW.2.2.2.2.1 t).2 ht, pu_p0, Nat.zero_mul])]
  exact hQ _ rfl
end TQC3
