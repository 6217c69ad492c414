/-! THE MATTER is kept: the model's slot 0 -/
section TKR
variable {d : Nat} {sc : Nat × (Nat → Int32)} {i : Nat → Nat → Int32} {l : Nat → Nat → Int64} {dd : Nat → Nat → Value} {x : Nat}
def cp_ (k n j : Nat) (i i2 : Nat → Nat → Int32) : Prop := (∀ a, a < j → i2 k a = i k (n + a)) ∧ ∀ a b, ¬ (a = k ∧ b < j) → i2 a b = i a b
theorem cp_0 {k n : Nat} : cp_ k n 0 i i := ⟨fun a h => absurd h (Nat.not_lt_zero a), fun _ _ _ => rfl⟩
theorem cp_s {k n j : Nat} {i2 : Nat → Nat → Int32} (h : cp_ k n j i i2) (hj : j < n) : cp_ k n (j + 1) i (ab_u i2 k j (i2 k (n + j))) := ⟨fun a ha => by
  by_cases c : a = j
  · rw [c, uu_e, h.2 k (n + j) (by omega)]
  · rw [uu_j c]
    exact h.1 a (by omega), fun a b hab => by
  rw [show ab_u i2 k j (i2 k (n + j)) a b = i2 a b from if_neg (fun e => hab ⟨e.1, by have := e.2; omega⟩)]
  exact h.2 a b (fun e => hab ⟨e.1, by omega⟩)⟩
def c4_ (j : Nat) (i i2 : Nat → Nat → Int32) : Prop := (∀ k a, k = 212 ∨ k = 215 ∨ k = 216 ∨ k = 218 → a < j → i2 k a = i k (7 + a)) ∧ ∀ a b, ¬ ((a = 212 ∨ a = 215 ∨ a = 216 ∨ a = 218) ∧ b < j) → i2 a b = i a b
theorem c4_s {j : Nat} {i2 i3 i4 i5 i6 : Nat → Nat → Int32} (h : c4_ j i i2) (hj : j < 7) (h3 : i3 = ab_u i2 212 j (i2 212 (7 + j))) (h4 : i4 = ab_u i3 215 j (i3 215 (7 + j))) (h5 : i5 = ab_u i4 216 j (i4 216 (7 + j))) (h6 : i6 = ab_u i5 218 j (i5 218 (7 + j))) : c4_ (j + 1) i i6 := by
  subst h3 h4 h5 h6
  refine ⟨fun k a hk ha => ?_, fun a b hab => ?_⟩
  · by_cases c : a = j
    · rw [c]
      have h2 := h.2 k (7 + j) (by omega)
      rcases hk with rfl | rfl | rfl | rfl
      · rw [uu_k (by omega), uu_k (by omega), uu_k (by omega), uu_e]
        exact h2
      · rw [uu_k (by omega), uu_k (by omega), uu_e, uu_k (by omega)]
        exact h2
      · rw [uu_k (by omega), uu_e, uu_k (by omega), uu_k (by omega)]
        exact h2
      · rw [uu_e, uu_k (by omega), uu_k (by omega), uu_k (by omega)]
        exact h2
    · rw [uu_j c, uu_j c, uu_j c, uu_j c]
      exact h.1 k a hk (by omega)
  · have h2 := h.2 a b (fun e => hab ⟨e.1, by omega⟩)
    by_cases c : b = j
    · rw [uu_k (by omega), uu_k (by omega), uu_k (by omega), uu_k (by omega)]
      exact h2
    · rw [uu_j c, uu_j c, uu_j c, uu_j c]
      exact h2
theorem mk_74 {Q : ab_Qt} (hQ : ∀ i2, cp_ 211 3 3 i i2 → ab_Fr MX12_keep (d + 1) Q 101 [some (.ref 205), some (.int 0)] [] (0, 0) (i2, l, dd, x) (ab_E0 sc)) : ab_Fr MX12_keep (d + 1) Q 74 [some (.ref 205), some (.int 0)] [] (0, 0) (i, l, dd, x) (ab_E0 sc) := by
  have go : ∀ (n k : Nat) (i2 : Nat → Nat → Int32), 3 = k + n → cp_ 211 3 k i i2 → ab_Fr MX12_keep (d + 1) Q 74 [some (.ref 205), some (.int (Int32.ofNat k))] [] (0, 0) (i2, l, dd, x) (ab_E0 sc) := by
    intro n
    induction n with
    | zero =>
      intro k i2 hk h2
      refine tMX12_keep_74 (d := d) ⟨fun _ => hQ i2 (by rw [show k = 3 by omega] at h2; exact h2), fun y => ?_⟩
      rw [show (3 : Int32) = Int32.ofNat 3 from rfl, nn_le (by omega) (by omega)] at y
      omega
    | succ n ih =>
      intro k i2 hk h2
      refine tMX12_keep_74 (d := d) ⟨fun y => ?_, fun _ => ?_⟩
      · rw [show (3 : Int32) = Int32.ofNat 3 from rfl, nn_le (by omega) (by omega)] at y
        omega
      · rw [show (3 : Int32) = Int32.ofNat 3 from rfl, nn_add, nn_cl (by omega), nn_cl (by omega), la_nx]
        refine ⟨la_vp (by omega) (by omega), la_vp (by omega) (by omega), ?_⟩
        rintro i3 rfl
        exact ih (k + 1) _ (by omega) (cp_s h2 (by omega))
  exact go 3 0 i rfl cp_0
theorem mk_101 {Q : ab_Qt} (hQ : ∀ i2, cp_ 214 72 72 i i2 → ab_Fr MX12_keep (d + 1) Q 130 [some (.ref 205), some (.int 0)] [] (0, 0) (i2, l, dd, x) (ab_E0 sc)) : ab_Fr MX12_keep (d + 1) Q 101 [some (.ref 205), some (.int 0)] [] (0, 0) (i, l, dd, x) (ab_E0 sc) := by
  have go : ∀ (n k : Nat) (i2 : Nat → Nat → Int32), 72 = k + n → cp_ 214 72 k i i2 → ab_Fr MX12_keep (d + 1) Q 101 [some (.ref 205), some (.int (Int32.ofNat k))] [] (0, 0) (i2, l, dd, x) (ab_E0 sc) := by
    intro n
    induction n with
    | zero =>
      intro k i2 hk h2
      refine tMX12_keep_101 (d := d) ⟨fun _ => hQ i2 (by rw [show k = 72 by omega] at h2; exact h2), fun y => ?_⟩
      rw [show (72 : Int32) = Int32.ofNat 72 from rfl, nn_le (by omega) (by omega)] at y
      omega
    | succ n ih =>
      intro k i2 hk h2
      refine tMX12_keep_101 (d := d) ⟨fun y => ?_, fun _ => ?_⟩
      · rw [show (72 : Int32) = Int32.ofNat 72 from rfl, nn_le (by omega) (by omega)] at y
        omega
      · rw [show (72 : Int32) = Int32.ofNat 72 from rfl, nn_add, nn_cl (by omega), nn_cl (by omega), la_nx]
        refine ⟨la_vp (by omega) (by omega), la_vp (by omega) (by omega), ?_⟩
        rintro i3 rfl
        exact ih (k + 1) _ (by omega) (cp_s h2 (by omega))
  exact go 72 0 i rfl cp_0
theorem mk_130 {Q : ab_Qt} (hQ : ∀ i2, cp_ 213 63 63 i i2 → ab_Fr MX12_keep (d + 1) Q 159 [some (.ref 205), some (.int 0)] [] (0, 0) (i2, l, dd, x) (ab_E0 sc)) : ab_Fr MX12_keep (d + 1) Q 130 [some (.ref 205), some (.int 0)] [] (0, 0) (i, l, dd, x) (ab_E0 sc) := by
  have go : ∀ (n k : Nat) (i2 : Nat → Nat → Int32), 63 = k + n → cp_ 213 63 k i i2 → ab_Fr MX12_keep (d + 1) Q 130 [some (.ref 205), some (.int (Int32.ofNat k))] [] (0, 0) (i2, l, dd, x) (ab_E0 sc) := by
    intro n
    induction n with
    | zero =>
      intro k i2 hk h2
      refine tMX12_keep_130 (d := d) ⟨fun _ => hQ i2 (by rw [show k = 63 by omega] at h2; exact h2), fun y => ?_⟩
      rw [show (63 : Int32) = Int32.ofNat 63 from rfl, nn_le (by omega) (by omega)] at y
      omega
    | succ n ih =>
      intro k i2 hk h2
      refine tMX12_keep_130 (d := d) ⟨fun y => ?_, fun _ => ?_⟩
      · rw [show (63 : Int32) = Int32.ofNat 63 from rfl, nn_le (by omega) (by omega)] at y
        omega
      · rw [show (63 : Int32) = Int32.ofNat 63 from rfl, nn_add, nn_cl (by omega), nn_cl (by omega), la_nx]
        refine ⟨la_vp (by omega) (by omega), la_vp (by omega) (by omega), ?_⟩
        rintro i3 rfl
        exact ih (k + 1) _ (by omega) (cp_s h2 (by omega))
  exact go 63 0 i rfl cp_0
theorem mk_159 {Q : ab_Qt} (hQ : ∀ i2, cp_ 217 21 21 i i2 → ab_Fr MX12_keep (d + 1) Q 188 [some (.ref 205), some (.int 0)] [] (0, 0) (i2, l, dd, x) (ab_E0 sc)) : ab_Fr MX12_keep (d + 1) Q 159 [some (.ref 205), some (.int 0)] [] (0, 0) (i, l, dd, x) (ab_E0 sc) := by
  have go : ∀ (n k : Nat) (i2 : Nat → Nat → Int32), 21 = k + n → cp_ 217 21 k i i2 → ab_Fr MX12_keep (d + 1) Q 159 [some (.ref 205), some (.int (Int32.ofNat k))] [] (0, 0) (i2, l, dd, x) (ab_E0 sc) := by
    intro n
    induction n with
    | zero =>
      intro k i2 hk h2
      refine tMX12_keep_159 (d := d) ⟨fun _ => hQ i2 (by rw [show k = 21 by omega] at h2; exact h2), fun y => ?_⟩
      rw [show (21 : Int32) = Int32.ofNat 21 from rfl, nn_le (by omega) (by omega)] at y
      omega
    | succ n ih =>
      intro k i2 hk h2
      refine tMX12_keep_159 (d := d) ⟨fun y => ?_, fun _ => ?_⟩
      · rw [show (21 : Int32) = Int32.ofNat 21 from rfl, nn_le (by omega) (by omega)] at y
        omega
      · rw [show (21 : Int32) = Int32.ofNat 21 from rfl, nn_add, nn_cl (by omega), nn_cl (by omega), la_nx]
        refine ⟨la_vp (by omega) (by omega), la_vp (by omega) (by omega), ?_⟩
        rintro i3 rfl
        exact ih (k + 1) _ (by omega) (cp_s h2 (by omega))
  exact go 21 0 i rfl cp_0
theorem mk_188 {Q : ab_Qt} (hQ : ∀ i2, c4_ 7 i i2 → Q (some none) (i2, l, dd, x) (ab_E0 sc)) : ab_Fr MX12_keep (d + 1) Q 188 [some (.ref 205), some (.int 0)] [] (0, 0) (i, l, dd, x) (ab_E0 sc) := by
  have go : ∀ (n k : Nat) (i2 : Nat → Nat → Int32), 7 = k + n → c4_ k i i2 → ab_Fr MX12_keep (d + 1) Q 188 [some (.ref 205), some (.int (Int32.ofNat k))] [] (0, 0) (i2, l, dd, x) (ab_E0 sc) := by
    intro n
    induction n with
    | zero =>
      intro k i2 hk h2
      refine tMX12_keep_188 (d := d) ⟨fun _ => hQ i2 (by rw [show k = 7 by omega] at h2; exact h2), fun y => ?_⟩
      rw [show (7 : Int32) = Int32.ofNat 7 from rfl, nn_le (by omega) (by omega)] at y
      omega
    | succ n ih =>
      intro k i2 hk h2
      refine tMX12_keep_188 (d := d) ⟨fun y => ?_, fun _ => ?_⟩
      · rw [show (7 : Int32) = Int32.ofNat 7 from rfl, nn_le (by omega) (by omega)] at y
        omega
      · rw [show (7 : Int32) = Int32.ofNat 7 from rfl, nn_add, nn_cl (by omega), nn_cl (by omega), la_nx]
        refine ⟨la_vp (by omega) (by omega), la_vp (by omega) (by omega), ?_⟩
        intro i3 e3
        refine ⟨la_vp (by omega) (by omega), la_vp (by omega) (by omega), ?_⟩
        intro i4 e4
        refine ⟨la_vp (by omega) (by omega), la_vp (by omega) (by omega), ?_⟩
        intro i5 e5
        refine ⟨la_vp (by omega) (by omega), la_vp (by omega) (by omega), ?_⟩
        intro i6 e6
        exact ih (k + 1) _ (by omega) (c4_s h2 (by omega) e3 e4 e5 e6)
  exact go 7 0 i rfl ⟨fun k a _ h => absurd h (Nat.not_lt_zero a), fun _ _ _ => rfl⟩
/-- the draft where the model keeps it -/
def dS_ (st : ps_) (i : Nat → Nat → Int32) : Prop := (i 209 0 = Int32.ofNat (st 0 0) ∧ i 210 0 = Int32.ofNat (st 0 1)) ∧ (i 219 0 = Int32.ofNat (st 0 2) ∧ (0 < st 0 2 → i 220 0 = Int32.ofNat (st 0 3) ∧ i 221 0 = Int32.ofNat (st 0 4)) ∧ i 222 0 = mt_h (st 0 5)) ∧
  (∀ t, t < st 0 0 → i 211 t = Int32.ofNat (st 3 t)) ∧ (∀ w t e, w < st 0 1 ∨ w = 7 → t < 3 → e < 3 → i 214 (9 * w + 3 * t + e) = kt_ (st 6 (9 * w + 3 * t + e))) ∧
  (∀ v, v < st 0 1 → i 212 v = Int32.ofNat (st 4 v) ∧ i 218 v = Int32.ofNat (st 10 v) ∧ i 215 v = Int32.ofNat (st 7 v) ∧ (st 7 v = 2 → i 216 v = Int32.ofNat (st 8 v))) ∧
  (∀ v s t, v < st 0 1 → s < st 4 v → t < st 0 0 → i 213 (9 * v + 3 * s + t) = Int32.ofNat (st 5 (9 * v + 3 * s + t))) ∧
  ∀ v s, v < st 0 1 → st 7 v = 3 → s < st 4 v → i 217 (3 * v + s) = Int32.ofNat (st 9 (3 * v + s))
theorem dS_f {st : ps_} {i2 : Nat → Nat → Int32} (hR : dS_ st i) (h : ∀ k j, 209 ≤ k → k ≤ 222 → i2 k j = i k j) : dS_ st i2 := by
  obtain ⟨⟨r1, r1'⟩, ⟨r2, r2', r2''⟩, r3, r4, r5, r6, r7⟩ := hR
  refine ⟨⟨?_, ?_⟩, ⟨?_, fun y => ⟨?_, ?_⟩, ?_⟩, fun t ht => ?_, fun w t e hw ht he => ?_, fun u hu => ⟨?_, ?_, ?_, fun y => ?_⟩, fun u s t hu hs ht => ?_, fun u s hu h7 hs => ?_⟩
  · rw [h _ _ (by omega) (by omega)]; exact r1
  · rw [h _ _ (by omega) (by omega)]; exact r1'
  · rw [h _ _ (by omega) (by omega)]; exact r2
  · rw [h _ _ (by omega) (by omega)]; exact (r2' y).1
  · rw [h _ _ (by omega) (by omega)]; exact (r2' y).2
  · rw [h _ _ (by omega) (by omega)]; exact r2''
  · rw [h _ _ (by omega) (by omega)]; exact r3 t ht
  · rw [h _ _ (by omega) (by omega)]; exact r4 w t e hw ht he
  · rw [h _ _ (by omega) (by omega)]; exact (r5 u hu).1
  · rw [h _ _ (by omega) (by omega)]; exact (r5 u hu).2.1
  · rw [h _ _ (by omega) (by omega)]; exact (r5 u hu).2.2.1
  · rw [h _ _ (by omega) (by omega)]; exact (r5 u hu).2.2.2 y
  · rw [h _ _ (by omega) (by omega)]; exact r6 u s t hu hs ht
  · rw [h _ _ (by omega) (by omega)]; exact r7 u s hu h7 hs
theorem md_keep {st : ps_} (hI : PI_ st) (hR : dR_ st i l) : ab_Sp MX12_keep (d + 1) [.ref 205] (i, l, dd, x) (ab_E0 sc) none (fun σ => ∃ i2, σ = (i2, l, dd, x) ∧ (∀ k j, ¬ (209 ≤ k ∧ k ≤ 222) → i2 k j = i k j) ∧ dS_ st i2) := by
  obtain ⟨⟨a1, a2, -⟩, -, hC, -⟩ := hI
  obtain ⟨⟨r1, r1'⟩, ⟨r2, r2', r2''⟩, r3, r4, r5, r6, r7, -, -, -⟩ := hR
  refine ab_ent (n := 0) okMX12_keep.1 (fun G => Nat.le_of_ble_eq_true rfl) (fun Q hQ => ?_)
  refine tMX12_keep_0 (d := d) ?_
  intro i1 e1 i3 e3 i5 e5 i7 e7 i9 e9 i11 e11
  refine mk_74 (d := d) (fun iA hA => mk_101 (d := d) (fun iB hB => mk_130 (d := d) (fun iC hC2 => mk_159 (d := d) (fun iD hD => mk_188 (d := d) (fun iE hE => hQ _ ⟨iE, rfl, ?_, ?_⟩)))))
  · intro k j hk
    rw [hE.2 k j (by omega), hD.2 k j (by omega), hC2.2 k j (by omega), hB.2 k j (by omega), hA.2 k j (by omega), e11, uu_k (by omega), e9, uu_k (by omega), e7, uu_k (by omega), e5, uu_k (by omega), e3, uu_k (by omega), e1, uu_k (by omega)]
  · have f0 : ∀ k j, (k < 211 ∨ 218 < k) → iE k j = i11 k j := fun k j hk => by
      rw [hE.2 k j (by omega), hD.2 k j (by omega), hC2.2 k j (by omega), hB.2 k j (by omega), hA.2 k j (by omega)]
    have f1 : ∀ k j, 211 ≤ k → k ≤ 218 → i11 k j = i k j := fun k j h1 h2 => by
      rw [e11, uu_k (by omega), e9, uu_k (by omega), e7, uu_k (by omega), e5, uu_k (by omega), e3, uu_k (by omega), e1, uu_k (by omega)]
    have g4 : ∀ k a, k = 212 ∨ k = 215 ∨ k = 216 ∨ k = 218 → a < 7 → iE k a = i k (7 + a) := fun k a hk ha => by
      rw [hE.1 k a hk ha, hD.2 k _ (by omega), hC2.2 k _ (by omega), hB.2 k _ (by omega), hA.2 k _ (by omega), f1 k _ (by omega) (by omega)]
    refine ⟨⟨?_, ?_⟩, ⟨?_, fun y => ⟨?_, ?_⟩, ?_⟩, fun t ht => ?_, fun w t e hw ht he => ?_, fun u hu => ⟨?_, ?_, ?_, fun y => ?_⟩, fun u s t hu hs ht => ?_, fun u s hu h7 hs => ?_⟩
    · rw [f0 _ _ (by omega), e11, uu_k (by omega), e9, uu_k (by omega), e7, uu_k (by omega), e5, uu_k (by omega), e3, uu_k (by omega), e1, uu_e]
      exact r1
    · rw [f0 _ _ (by omega), e11, uu_k (by omega), e9, uu_k (by omega), e7, uu_k (by omega), e5, uu_k (by omega), e3, uu_e, e1, uu_k (by omega)]
      exact r1'
    · rw [f0 _ _ (by omega), e11, uu_k (by omega), e9, uu_k (by omega), e7, uu_k (by omega), e5, uu_e, e3, uu_k (by omega), e1, uu_k (by omega)]
      exact r2
    · rw [f0 _ _ (by omega), e11, uu_k (by omega), e9, uu_k (by omega), e7, uu_e, e5, uu_k (by omega), e3, uu_k (by omega), e1, uu_k (by omega)]
      exact (r2' y).1
    · rw [f0 _ _ (by omega), e11, uu_k (by omega), e9, uu_e, e7, uu_k (by omega), e5, uu_k (by omega), e3, uu_k (by omega), e1, uu_k (by omega)]
      exact (r2' y).2
    · rw [f0 _ _ (by omega), e11, uu_e, e9, uu_k (by omega), e7, uu_k (by omega), e5, uu_k (by omega), e3, uu_k (by omega), e1, uu_k (by omega)]
      exact r2''
    · rw [hE.2 _ _ (by omega), hD.2 _ _ (by omega), hC2.2 _ _ (by omega), hB.2 _ _ (by omega), hA.1 t (by omega), f1 _ _ (by omega) (by omega)]
      exact r3 t ht
    · rw [hE.2 _ _ (by omega), hD.2 _ _ (by omega), hC2.2 _ _ (by omega), hB.1 _ (by omega), hA.2 _ _ (by omega), f1 _ _ (by omega) (by omega), show 72 + (9 * w + 3 * t + e) = 72 + 9 * w + 3 * t + e by omega]
      exact r4 w t e hw ht he
    · rw [g4 _ _ (by omega) (by omega)]; exact (r5 u hu).1
    · rw [g4 _ _ (by omega) (by omega)]; exact (r5 u hu).2.1
    · rw [g4 _ _ (by omega) (by omega)]; exact (r5 u hu).2.2.1
    · rw [g4 _ _ (by omega) (by omega)]; exact (r5 u hu).2.2.2 y
    · have := (hC u hu).1
      rw [hE.2 _ _ (by omega), hD.2 _ _ (by omega), hC2.1 _ (by omega), hB.2 _ _ (by omega), hA.2 _ _ (by omega), f1 _ _ (by omega) (by omega), show 63 + (9 * u + 3 * s + t) = 63 + 9 * u + 3 * s + t by omega]
      exact r6 u s t hu hs ht
    · have := (hC u hu).1
      rw [hE.2 _ _ (by omega), hD.1 _ (by omega), hC2.2 _ _ (by omega), hB.2 _ _ (by omega), hA.2 _ _ (by omega), f1 _ _ (by omega) (by omega), show 21 + (3 * u + s) = 3 * (7 + u) + s by omega]
      exact r7 u s hu h7 hs
end TKR
