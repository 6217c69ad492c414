/-! replies: the model -/
theorem nn_s1 {a k : Nat} : Int32.ofNat a - Int32.ofNat (k + 1) = (Int32.ofNat a - Int32.ofNat k) + (-1) := by
  have e : -Int32.ofNat (k + 1) = -Int32.ofNat k + (-1) := by
    rw [Int32.ofNat_add, Int32.neg_add, Int32.sub_eq_add_neg]
    rfl
  rw [Int32.sub_eq_add_neg, e, ← Int32.add_assoc, Int32.sub_eq_add_neg (a := Int32.ofNat a) (b := Int32.ofNat k)]
section TQE2
variable {d : Nat} {sc : Nat × (Nat → Int32)} {i : Nat → Nat → Int32} {l : Nat → Nat → Int64} {dd : Nat → Nat → Value} {x : Nat}
theorem mt_M_2 {A : mA_} {i2 : Nat → Nat → Int32} {l2 : Nat → Nat → Int64} (hW : mt_W A) (hM : mt_M A i l) (hf : fr_o 226 227 i i2) (hg : fr_o 228 228 l l2) : mt_M A i2 l2 :=
  mt_M_fr hM (fun j _ _ => by rw [hf 205 (by omega)]) (fun k _ _ => hf k (by omega)) (fun j _ => by rw [hf 225 (by omega)]) (hg 224 (by omega)) hW
theorem mr_84 {A : mA_} {v s r o y e : Nat} {F : Nat → Nat} (hW : mt_W A) (hr : r < mt_rad (aS_ A) (aV_ A)) (hv : v < aV_ A) (hy : y < 4) (he : e < aT_ A) {l0 : Nat → Nat → Int64} (hM : mt_M A i l0) (hF : ∀ z, z < 4 → l0 228 z = Int64.ofNat (F z)) {Q : ab_Qt} (hQ : ∀ l2, fr_o 228 228 l0 l2 → (∀ z, z < 4 → l2 228 z = Int64.ofNat (F z + (if z = y then cs_l A v (pu_g (aS_ A) (aV_ A) r) e (aT_ A) else 0))) → ab_Fr MX12_replyBy (d + 2) Q 63 [some (.ref 205), some (.int (Int32.ofNat v)), some (.int (Int32.ofNat s)), some (.int (Int32.ofNat o)), some (.int (Int32.ofNat r)), some (.int (Int32.ofNat (y + 1))), none, none] [] (0, 0) (i, l2, dd, x) (ab_E0 sc)) :
    ∀ (n t : Nat) (l2 : Nat → Nat → Int64), aT_ A = t + n → fr_o 228 228 l0 l2 → (∀ z, z < 4 → l2 228 z = Int64.ofNat (F z + (if z = y then cs_l A v (pu_g (aS_ A) (aV_ A) r) e t else 0))) → ab_Fr MX12_replyBy (d + 2) Q 84 [some (.ref 205), some (.int (Int32.ofNat v)), some (.int (Int32.ofNat s)), some (.int (Int32.ofNat o)), some (.int (Int32.ofNat r)), some (.int (Int32.ofNat y)), some (.int (Int32.ofNat e)), some (.int (Int32.ofNat t))] [] (0, 0) (i, l2, dd, x) (ab_E0 sc) := by
  intro n
  have w1 := hW.1
  have hR := (mt_rows hW).1
  have r1 := hM.1.1
  induction n with
  | zero =>
    intro t l2 ht f2 z2
    refine tMX12_replyBy_84 (d := d + 1) ⟨fun _ => ?_, fun c => ?_⟩
    · rw [la_nx]
      exact hQ l2 f2 (by rw [show t = aT_ A by omega] at z2; exact z2)
    · simp (disch := omega) only [r1, ↓nn_m3, nn_p0, nn_p1, nn_p2, nn_p3, nn_p4, nn_p5, nn_p6, nn_p7, nn_p8, nn_p9, nn_p10, nn_p20, nn_p21, nn_le, nn_lt, nn_eq, nn_cl, nn_in, nn_add, nn_mul, nn_en, nn_ne, nn_mn, nn_64] at c
      omega
  | succ n ih =>
    intro t l2 ht f2 z2
    have hM2 := mt_M_2 hW hM fr_r f2
    have e12 := hM2.2.2.2.2.2.2.2 r t hr (by omega)
    have hK5 := hW.2.2.2.2.2.2.2.2.2.1 v t e
    have ey := z2 y hy
    rw [if_pos rfl] at ey
    refine tMX12_replyBy_84 (d := d + 1) ⟨fun c => ?_, fun _ => ⟨la_vp (by omega) (by omega), ?_⟩⟩
    · simp (disch := omega) only [r1, ↓nn_m3, nn_p0, nn_p1, nn_p2, nn_p3, nn_p4, nn_p5, nn_p6, nn_p7, nn_p8, nn_p9, nn_p10, nn_p20, nn_p21, nn_le, nn_lt, nn_eq, nn_cl, nn_in, nn_add, nn_mul, nn_en, nn_ne, nn_mn, nn_64] at c
      omega
    · rw [nn_p3, nn_mul, nn_add]
      refine ⟨la_vp (by omega) (by omega), _, _, mt_loss (d := d) (w := v) hW hM2 (Or.inl hv) (by omega) he, ?_⟩
      rintro i6 l7 dd8 x9 ⟨⟩
      refine ⟨la_vp (by omega) (by omega), ?_⟩
      rintro l11 rfl
      rw [nn_cl (by omega), nn_cl (by omega), e12, ey, nn_64 (by omega), nl_mul, nl_add, la_nx]
      refine ih (t + 1) _ (by omega) (fr_u f2 (by omega)) (fun z hz => ?_)
      by_cases c : z = y
      · rw [c, uu_e, if_pos rfl, Nat.add_assoc (F y)]
        rfl
      · rw [uu_j c, z2 z hz, if_neg c, if_neg c]
theorem mr_63 {A : mA_} {v s r o : Nat} {vt : Nat → Nat → Nat} {F : Nat → Nat} (hW : mt_W A) (hk : mt_vt A vt) (hr : r < mt_rad (aS_ A) (aV_ A)) (hv : v < aV_ A) (hs : pu_g (aS_ A) (aV_ A) r v = s) {i0 : Nat → Nat → Int32} {l0 : Nat → Nat → Int64} (hM : mt_M A i0 l0) {Q : ab_Qt} (hQ : ∀ i2 l2, fr_o 226 227 i0 i2 → fr_o 228 228 l0 l2 → (∀ z, z ≤ aT_ A → l2 228 z = Int64.ofNat (F z + rp_lo A vt v s z (pu_g (aS_ A) (aV_ A) r))) → (∀ z, z < 4 → aT_ A < z → l2 228 z = Int64.ofNat (F z)) → ab_Fr MX12_replyBy (d + 3) Q 29 [some (.ref 205), some (.int (Int32.ofNat v)), some (.int (Int32.ofNat s)), some (.int (Int32.ofNat o)), some (.int (Int32.ofNat (r + 1))), none, none, none] [] (0, 0) (i2, l2, dd, x) (ab_E0 sc)) :
    ∀ (n y : Nat) (i2 : Nat → Nat → Int32) (l2 : Nat → Nat → Int64), aT_ A + 1 = y + n → fr_o 226 227 i0 i2 → fr_o 228 228 l0 l2 → mt_ba A i2 (fun w => vt w (pu_g (aS_ A) (aV_ A) r w)) → (∀ z, z < 4 → l2 228 z = Int64.ofNat (F z + (if z < y then rp_lo A vt v s z (pu_g (aS_ A) (aV_ A) r) else 0))) → ab_Fr MX12_replyBy (d + 3) Q 63 [some (.ref 205), some (.int (Int32.ofNat v)), some (.int (Int32.ofNat s)), some (.int (Int32.ofNat o)), some (.int (Int32.ofNat r)), some (.int (Int32.ofNat y)), none, none] [] (0, 0) (i2, l2, dd, x) (ab_E0 sc) := by
  intro n
  have w1 := hW.1
  have hp : 0 < aV_ A := by omega
  induction n with
  | zero =>
    intro y i2 l2 hy f2 g2 b2 z2
    have r1 := (mt_M_2 hW hM f2 g2).1.1
    refine tMX12_replyBy_63 (d := d + 2) ⟨fun _ => ?_, fun c => ?_⟩
    · rw [la_nx]
      refine hQ i2 l2 f2 g2 (fun z hz => ?_) (fun z hz hz2 => ?_)
      · rw [z2 z (by omega), if_pos (by omega)]
      · rw [z2 z (by omega), if_neg (by omega), Nat.add_zero]
    · simp (disch := omega) only [r1, ↓nn_m3, nn_p0, nn_p1, nn_p2, nn_p3, nn_p4, nn_p5, nn_p6, nn_p7, nn_p8, nn_p9, nn_p10, nn_p20, nn_p21, nn_le, nn_lt, nn_eq, nn_cl, nn_in, nn_add, nn_mul, nn_en, nn_ne, nn_mn, nn_64] at c
      omega
  | succ n ih =>
    intro y i2 l2 hy f2 g2 b2 z2
    have hM2 := mt_M_2 hW hM f2 g2
    have r1 := hM2.1.1
    refine tMX12_replyBy_63 (d := d + 2) ⟨fun c => ?_, fun _ => ⟨_, _, mt_decideWith (d := d) (y := y) hW hp hM2 b2 (mt_row_bk hW hk) hv (by omega), ?_⟩⟩
    · simp (disch := omega) only [r1, ↓nn_m3, nn_p0, nn_p1, nn_p2, nn_p3, nn_p4, nn_p5, nn_p6, nn_p7, nn_p8, nn_p9, nn_p10, nn_p20, nn_p21, nn_le, nn_lt, nn_eq, nn_cl, nn_in, nn_add, nn_mul, nn_en, nn_ne, nn_mn, nn_64] at c
      omega
    · rintro i6 l7 dd8 x9 ⟨i3, ⟨⟩, f3, b3⟩
      have hM3 := mt_M_f hM2 f3 (by omega) hW
      refine mr_84 (d := d + 1) (l0 := l2) (F := fun z => F z + (if z < y then rp_lo A vt v s z (pu_g (aS_ A) (aV_ A) r) else 0)) hW hr hv (by omega) (cs_db_lt hW hp) hM3 z2 ?_ (aT_ A) 0 l2 (by omega) fr_r (fun z hz => by rw [z2 z hz]; congr 1; split <;> split <;> rfl)
      intro l4 g4 z4
      refine ih (y + 1) _ _ (by omega) (fr_t f2 f3) (fr_t g2 g4) b3 (fun z hz => ?_)
      rw [z4 z hz]
      by_cases c : z = y
      · rw [if_pos c, if_neg (by omega), if_pos (by omega), Nat.add_zero, c]
        rw [show rp_lo A vt v s y (pu_g (aS_ A) (aV_ A) r) = cs_l A v (pu_g (aS_ A) (aV_ A) r) (mt_db A (pu_u (fun w => vt w (pu_g (aS_ A) (aV_ A) r w)) v (mt_wx A y))) (aT_ A) from if_pos hs]
      · rw [if_neg c, Nat.add_zero]
        by_cases c2 : z < y
        · rw [if_pos c2, if_pos (by omega)]
        · rw [if_neg c2, if_neg (by omega)]
theorem mr_29 {A : mA_} {v s o : Nat} {vt : Nat → Nat → Nat} (hW : mt_W A) (hk : mt_vt A vt) (hv : v < aV_ A) (hs : s < aS_ A v) (ho : o < 2) {i0 : Nat → Nat → Int32} {l0 : Nat → Nat → Int64} (hM : mt_M A i0 l0) (hV : mt_Vo A i0 o vt) {Q : ab_Qt} (hQ : ∀ i2 l2, fr_o 226 227 i0 i2 → fr_o 228 228 l0 l2 → (∀ z, z ≤ aT_ A → l2 228 z = rp_f A vt v s z) → ab_Fr MX12_replyBy (d + 3) Q 177 [some (.ref 205), none, none, none, none, none, none, none] [.int (Int32.ofNat (rp_now A (vt v s)))] (0, 0) (i2, l2, dd, x) (ab_E0 sc)) :
    ∀ (n r : Nat) (i2 : Nat → Nat → Int32) (l2 : Nat → Nat → Int64), mt_rad (aS_ A) (aV_ A) = r + n → fr_o 226 227 i0 i2 → fr_o 228 228 l0 l2 → (∀ z, z ≤ aT_ A → l2 228 z = Int64.ofNat (pu_s (fun r => rp_lo A vt v s z (pu_g (aS_ A) (aV_ A) r)) r)) → (∀ z, z < 4 → aT_ A < z → l2 228 z = l0 228 z) → ab_Fr MX12_replyBy (d + 3) Q 29 [some (.ref 205), some (.int (Int32.ofNat v)), some (.int (Int32.ofNat s)), some (.int (Int32.ofNat o)), some (.int (Int32.ofNat r)), none, none, none] [] (0, 0) (i2, l2, dd, x) (ab_E0 sc) := by
  intro n
  have w1 := hW.1
  have w2 := hW.2.1
  have hR := (mt_rows hW).1
  have hp : 0 < aV_ A := by omega
  have hS := hW.2.2.2.2.2.2.1 v hv
  have hy := hk v s hv hs
  induction n with
  | zero =>
    intro r i2 l2 hr f2 g2 z2 y2
    have hM2 := mt_M_2 hW hM f2 g2
    have r3 := hM2.1.2.2 (by omega)
    have r1 := hM2.1.1
    have eV := mt_Vo_o hV f2 (by omega) v s hv hs
    have key := hQ i2 l2 f2 g2 (fun z hz => by
      rw [z2 z hz, show r = mt_rad (aS_ A) (aV_ A) by omega, cs_rows (G := rp_lo A vt v s z) hW]
      rfl)
    unfold rp_now at key
    refine tMX12_replyBy_29 (d := d + 2) ⟨fun _ => ?_, fun c => ?_⟩
    · simp (disch := omega) only [eV, r1, nn_p3, nn_p9, nn_p21, nn_add, nn_mul, nn_cl, nn_in, nn_eq]
      refine ⟨trivial, fun c => ?_, fun c => ?_⟩
      · rw [if_pos (by omega)] at key
        exact key
      · rw [if_neg (by omega)] at key
        exact key
    · simp (disch := omega) only [r3, ↓nn_m3, nn_p0, nn_p1, nn_p2, nn_p3, nn_p4, nn_p5, nn_p6, nn_p7, nn_p8, nn_p9, nn_p10, nn_p20, nn_p21, nn_le, nn_lt, nn_eq, nn_cl, nn_in, nn_add, nn_mul, nn_en, nn_ne, nn_mn, nn_64] at c
      omega
  | succ n ih =>
    intro r i2 l2 hr f2 g2 z2 y2
    have hM2 := mt_M_2 hW hM f2 g2
    have r3 := hM2.1.2.2 (by omega)
    have hgl := (pu_gt (S := aS_ A) (k := aV_ A) (r := r) (fun v hv => by have := (hW.2.2.2.2.2.2.1 v hv).1; omega)).1 v hv
    refine tMX12_replyBy_29 (d := d + 2) ⟨fun c => ?_, fun _ => ⟨_, _, mt_sg (d := d + 1) hW hM2 hv (by omega), ?_⟩⟩
    · simp (disch := omega) only [r3, ↓nn_m3, nn_p0, nn_p1, nn_p2, nn_p3, nn_p4, nn_p5, nn_p6, nn_p7, nn_p8, nn_p9, nn_p10, nn_p20, nn_p21, nn_le, nn_lt, nn_eq, nn_cl, nn_in, nn_add, nn_mul, nn_en, nn_ne, nn_mn, nn_64] at c
      omega
    · rintro i6 l7 dd8 x9 ⟨⟩
      rw [nn_eq (by omega) (by omega), la_nx]
      refine ⟨fun c => ⟨_, _, mt_decideRow (d := d) hW hp hM2 ho (mt_Vo_o hV f2 (by omega)) hk (by omega), ?_⟩, fun c => ?_⟩
      · rintro i6 l7 dd8 x9 ⟨i3, ⟨⟩, f3, b3⟩
        have ez : ∀ z, z < 4 → l2 228 z = Int64.ofNat (if z ≤ aT_ A then pu_s (fun r => rp_lo A vt v s z (pu_g (aS_ A) (aV_ A) r)) r else (l2 228 z).toBitVec.toNat) := fun z hz => by
          by_cases c2 : z ≤ aT_ A
          · rw [if_pos c2]
            exact z2 z c2
          · rw [if_neg c2]
            exact Int64.toBitVec.inj (BitVec.eq_of_toNat_eq (by simp))
        refine mr_63 (d := d) (r := r) (i0 := i6) (l0 := l2) (F := fun z => if z ≤ aT_ A then pu_s (fun r => rp_lo A vt v s z (pu_g (aS_ A) (aV_ A) r)) r else (l2 228 z).toBitVec.toNat) hW hk (by omega) hv c (mt_M_f hM2 f3 (by omega) hW) ?_ (aT_ A + 1) 0 i6 l2 (by omega) fr_r fr_r b3 (fun z hz => by rw [if_neg (Nat.not_lt_zero z), Nat.add_zero]; exact ez z hz)
        intro i4 l4 f4 g4 z4 y4
        refine ih (r + 1) _ _ (by omega) (fr_t f2 (fr_t f3 f4)) (fr_t g2 g4) (fun z hz => ?_) (fun z hz hz2 => ?_)
        · rw [z4 z hz, if_pos hz]
          rfl
        · rw [y4 z hz hz2, ← ez z hz]
          exact y2 z hz hz2
      · refine ih (r + 1) _ _ (by omega) f2 g2 (fun z hz => ?_) y2
        rw [z2 z hz]
        congr 1
        show _ = pu_s (fun r => rp_lo A vt v s z (pu_g (aS_ A) (aV_ A) r)) r + rp_lo A vt v s z (pu_g (aS_ A) (aV_ A) r)
        rw [show rp_lo A vt v s z (pu_g (aS_ A) (aV_ A) r) = 0 from if_neg c, Nat.add_zero]
theorem mr_189 {A : mA_} {now : Nat} {f : Nat → Int64} (hW : mt_W A) (hM : mt_M A i l) (hn : now ≤ aT_ A) (hf : ∀ z, z ≤ aT_ A → l 228 z = f z) {Q : ab_Qt} (hQ : Q (some (some (.int (Int32.ofNat (mt_wx A (rp_m f now (aT_ A) (aT_ A + 1))))))) (i, l, dd, x) (ab_E0 sc)) :
    ∀ n k : Nat, aT_ A + 1 = k + n → ab_Fr MX12_replyBy (d + 1) Q 189 [some (.ref 205), none, none, none, none, some (.int (Int32.ofNat (rp_m f now (aT_ A) k))), some (.int (Int32.ofNat now)), some (.int (Int32.ofNat (aT_ A) - Int32.ofNat k))] [] (0, 0) (i, l, dd, x) (ab_E0 sc) := by
  intro n
  have w1 := hW.1
  have r1 := hM.1.1
  have hle : ∀ k, k ≤ aT_ A + 1 → rp_m f now (aT_ A) k ≤ aT_ A := fun k hk => by
    obtain ⟨b1, b2, b3, b4⟩ := rp_m_s (f := f) (now := now) (T := aT_ A) k hk
    by_cases e : rp_m f now (aT_ A) k = now
    · omega
    · exact (b4 e).2.1
  induction n with
  | zero =>
    intro k hk
    have hk2 : k = aT_ A + 1 := by omega
    have hb := hle k (by omega)
    rw [hk2] at hb ⊢
    have eneg : Int32.ofNat (aT_ A) - Int32.ofNat (aT_ A + 1) = -1 := by
      rw [nn_s1, Int32.sub_self, Int32.zero_add]
    rw [eneg]
    refine tMX12_replyBy_189 ⟨fun _ => ?_, fun c => absurd (by decide) c⟩
    rw [r1, nn_eq (by omega) (by omega)]
    refine ⟨fun c => ?_, fun c => ?_⟩
    · rw [show mt_wx A (rp_m f now (aT_ A) (aT_ A + 1)) = rp_m f now (aT_ A) (aT_ A + 1) from if_pos (by omega)] at hQ
      exact hQ
    · rw [show mt_wx A (rp_m f now (aT_ A) (aT_ A + 1)) = 9 from if_neg (by omega)] at hQ
      exact hQ
  | succ n ih =>
    intro k hk
    have ih2 := ih (k + 1) (by omega)
    have hb := hle k (by omega)
    have e1 := hf (aT_ A - k) (by omega)
    have e2 := hf (rp_m f now (aT_ A) k) hb
    have en : Int32.ofNat (aT_ A) - Int32.ofNat (k + 1) = Int32.ofNat (aT_ A - k) + (-1) := by
      rw [nn_s1, nn_sub (by omega)]
    rw [en] at ih2
    unfold rp_m at ih2
    rw [nn_sub (by omega)]
    refine tMX12_replyBy_189 ⟨fun z => absurd z (la_nn (by omega)).1, fun _ => ⟨la_vp (by omega) (by omega), la_vp (by omega) (by omega), ?_⟩⟩
    rw [nn_cl (by omega), nn_cl (by omega), e1, e2]
    refine ⟨fun c => ?_, fun c => ⟨la_vp (by omega) (by omega), la_vp (by omega) (by omega), fun c2 => ?_, fun c2 => ?_⟩⟩
    · rw [if_pos c] at ih2
      exact ih2
    · rw [if_neg c, if_neg (fun q => c2 q.1)] at ih2
      exact ih2
    · rw [if_neg c] at ih2
      rw [nn_eq (by omega) (by omega)]
      refine ⟨fun c3 => ?_, fun c3 => ?_⟩
      · rw [if_neg (fun q => q.2 c3)] at ih2
        exact ih2
      · rw [if_pos ⟨c2, c3⟩] at ih2
        exact ih2
theorem mr_3 {A : mA_} {v s o : Nat} (hW : mt_W A) {l0 : Nat → Nat → Int64} (hM : mt_M A i l0) {Q : ab_Qt} (hQ : ∀ l2, fr_o 228 228 l0 l2 → (∀ z, z ≤ aT_ A → l2 228 z = Int64.ofNat 0) → ab_Fr MX12_replyBy (d + 1) Q 29 [some (.ref 205), some (.int (Int32.ofNat v)), some (.int (Int32.ofNat s)), some (.int (Int32.ofNat o)), some (.int (Int32.ofNat 0)), none, none, none] [] (0, 0) (i, l2, dd, x) (ab_E0 sc)) :
    ∀ (n k : Nat) (l2 : Nat → Nat → Int64), aT_ A + 1 = k + n → fr_o 228 228 l0 l2 → (∀ z, z < k → l2 228 z = Int64.ofNat 0) → ab_Fr MX12_replyBy (d + 1) Q 3 [some (.ref 205), some (.int (Int32.ofNat v)), some (.int (Int32.ofNat s)), some (.int (Int32.ofNat o)), some (.int (Int32.ofNat k)), none, none, none] [] (0, 0) (i, l2, dd, x) (ab_E0 sc) := by
  intro n
  have w1 := hW.1
  have r1 := hM.1.1
  induction n with
  | zero =>
    intro k l2 hk g2 z2
    refine tMX12_replyBy_3 ⟨fun _ => hQ l2 g2 (fun z hz => z2 z (by omega)), fun c => ?_⟩
    simp (disch := omega) only [r1, ↓nn_m3, nn_p0, nn_p1, nn_p2, nn_p3, nn_p4, nn_p5, nn_p6, nn_p7, nn_p8, nn_p9, nn_p10, nn_p20, nn_p21, nn_le, nn_lt, nn_eq, nn_cl, nn_in, nn_add, nn_mul, nn_en, nn_ne, nn_mn, nn_64] at c
    omega
  | succ n ih =>
    intro k l2 hk g2 z2
    refine tMX12_replyBy_3 ⟨fun c => ?_, fun _ => ?_⟩
    · simp (disch := omega) only [r1, ↓nn_m3, nn_p0, nn_p1, nn_p2, nn_p3, nn_p4, nn_p5, nn_p6, nn_p7, nn_p8, nn_p9, nn_p10, nn_p20, nn_p21, nn_le, nn_lt, nn_eq, nn_cl, nn_in, nn_add, nn_mul, nn_en, nn_ne, nn_mn, nn_64] at c
      omega
    · simp (disch := omega) only [↓nn_m3, nn_p0, nn_p1, nn_p2, nn_p3, nn_p4, nn_p5, nn_p6, nn_p7, nn_p8, nn_p9, nn_p10, nn_p20, nn_p21, nn_le, nn_lt, nn_eq, nn_cl, nn_in, nn_add, nn_mul, nn_en, nn_ne, nn_mn, nn_64]
      refine ⟨trivial, ?_⟩
      rintro l3 rfl
      refine ih (k + 1) _ (by omega) (fr_u g2 (by omega)) (fun z hz => ?_)
      by_cases e : z = k
      · rw [e]
        exact uu_e
      · rw [uu_j e]
        exact z2 z (by omega)
/-- the model's reply -/
theorem md_replyBy {A : mA_} {v s o : Nat} {vt : Nat → Nat → Nat} (hW : mt_W A) (hk : mt_vt A vt) (hM : mt_M A i l) (ho : o < 2) (hV : mt_Vo A i o vt) (hv : v < aV_ A) (hs : s < aS_ A v) : ab_Sp MX12_replyBy (d + 3) [.ref 205, .int (Int32.ofNat v), .int (Int32.ofNat s), .int (Int32.ofNat o)] (i, l, dd, x) (ab_E0 sc) (some (.int (Int32.ofNat (rp_y A vt v s)))) (fun σ => ∃ i2 l2, σ = (i2, l2, dd, x) ∧ fr_o 226 227 i i2 ∧ fr_o 228 228 l l2) := by
  refine ab_ent (n := 3) okMX12_replyBy.1 (fun G => Nat.le_of_ble_eq_true rfl) (fun Q hQ => ?_)
  refine tMX12_replyBy_0 (d := d + 2) (mr_3 (d := d + 2) (l0 := l) hW hM ?_ (aT_ A + 1) 0 l (by omega) fr_r (fun z hz => absurd hz (Nat.not_lt_zero z)))
  intro l2 g2 z2
  refine mr_29 (d := d) (i0 := i) (l0 := l2) hW hk hv hs ho (mt_M_2 hW hM fr_r g2) hV ?_ _ 0 i l2 (Nat.zero_add _).symm fr_r fr_r z2 (fun _ _ _ => rfl)
  intro i3 l3 f3 g3 z3
  have hM3 := mt_M_2 hW hM f3 (fr_t g2 g3)
  have r1 := hM3.1.1
  have h := hQ (i3, l3, dd, x) ⟨_, _, rfl, f3, fr_t g2 g3⟩
  unfold rp_y at h
  rw [← rp_mc rp_now_le] at h
  refine tMX12_replyBy_177 (d := d + 2) ?_
  rw [r1]
  have h2 := mr_189 (d := d + 2) (dd := dd) (x := x) hW hM3 (rp_now_le (y := vt v s)) z3 h (aT_ A + 1) 0 (by omega)
  rw [show Int32.ofNat (aT_ A) - Int32.ofNat 0 = Int32.ofNat (aT_ A) from Int32.sub_zero _] at h2
  exact h2
end TQE2
