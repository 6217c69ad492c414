/-! settle: the model; the call -/
section TQI2
variable {d : Nat} {sc : Nat × (Nat → Int32)} {i : Nat → Nat → Int32} {l : Nat → Nat → Int64} {dd : Nat → Nat → Value} {x : Nat}
/-- both: what the model's rounds leave -/
def ms_P (i : Nat → Nat → Int32) (l : Nat → Nat → Int64) (i2 : Nat → Nat → Int32) (l2 : Nat → Nat → Int64) : Prop := (∀ k, k ≠ 225 → k ≠ 226 → k ≠ 227 → k ≠ 231 → i2 k = i k) ∧ (∀ j, j < 21 → i2 225 j = i 225 j) ∧ fr_o 228 228 l l2
theorem ms_M {A : mA_} {i2 : Nat → Nat → Int32} {l2 : Nat → Nat → Int64} (hW : mt_W A) (hM : mt_M A i l) (h : ms_P i l i2 l2) : mt_M A i2 l2 :=
  mt_M_fr hM (fun j _ _ => by rw [h.1 205 (by decide) (by decide) (by decide) (by decide)]) (fun k _ _ => h.1 k (by omega) (by omega) (by omega) (by omega)) h.2.1 (h.2.2 224 (by omega)) hW
theorem ms_t {i2 i3 : Nat → Nat → Int32} {l2 l3 : Nat → Nat → Int64} (h1 : ms_P i l i2 l2) (h2 : ms_P i2 l2 i3 l3) : ms_P i l i3 l3 := ⟨fun k a b c e => (h2.1 k a b c e).trans (h1.1 k a b c e), fun j hj => (h2.2.1 j hj).trans (h1.2.1 j hj), fr_t h1.2.2 h2.2.2⟩
theorem ms_o {i2 : Nat → Nat → Int32} {l2 : Nat → Nat → Int64} (hf : fr_o 226 227 i i2) (hg : fr_o 228 228 l l2) : ms_P i l i2 l2 := ⟨fun k _ b c _ => hf k (by omega), fun j _ => by rw [hf 225 (by omega)], hg⟩
theorem ms_231 {j : Nat} {z : Int32} : ms_P i l (ab_u i 231 j z) l := ⟨fun k _ _ _ e => uu_f e, fun j _ => uu_k (by decide), fr_r⟩
theorem ms_225 {j : Nat} {z : Int32} (h : 21 ≤ j) : ms_P i l (ab_u i 225 j z) l := ⟨fun k a _ _ _ => uu_f a, fun b hb => uu_j (by omega), fr_r⟩
theorem ms_r : ms_P i l i l := ⟨fun _ _ _ _ _ => rfl, fun _ _ => rfl, fr_r⟩
theorem ms_41 {A : mA_} {v : Nat} {c0 f0 : Int32} {vt : Nat → Nat → Nat} (hW : mt_W A) (ht : mt_vt A vt) (hv : v < aV_ A) {i0 : Nat → Nat → Int32} {l0 : Nat → Nat → Int64} (hM : mt_M A i0 l0) (hV : mt_Vo A i0 1 vt) {Q : ab_Qt} (hQ : ∀ i2 l2, ms_P i0 l0 i2 l2 → mt_Vo A i2 1 vt → (∀ s, s < aS_ A v → i2 231 s = Int32.ofNat (rp_y A vt v s)) → ab_Fr MX12_settle (d + 4) Q 76 [some (.ref 205), some (.int c0), some (.int f0), some (.int (Int32.ofNat v)), some (.int (Int32.ofNat 0))] [] (0, 0) (i2, l2, dd, x) (ab_E0 sc)) :
    ∀ (n s : Nat) (i2 : Nat → Nat → Int32) (l2 : Nat → Nat → Int64), aS_ A v = s + n → ms_P i0 l0 i2 l2 → mt_Vo A i2 1 vt → (∀ u, u < s → i2 231 u = Int32.ofNat (rp_y A vt v u)) → ab_Fr MX12_settle (d + 4) Q 41 [some (.ref 205), some (.int c0), some (.int f0), some (.int (Int32.ofNat v)), some (.int (Int32.ofNat s))] [] (0, 0) (i2, l2, dd, x) (ab_E0 sc) := by
  intro n
  have w2 := hW.2.1
  have hS := hW.2.2.2.2.2.2.1 v hv
  induction n with
  | zero =>
    intro s i2 l2 hs P2 V2 z2
    have e0 := ((ms_M hW hM P2).2.2.2.1 v hv).1
    refine tMX12_settle_41 (d := d + 3) ⟨la_vp (by omega) (by omega), fun _ => hQ i2 l2 P2 V2 (fun u hu => z2 u (by omega)), fun c => ?_⟩
    simp (disch := omega) only [e0, ↓nn_m3, nn_p0, nn_p1, nn_p2, nn_p3, nn_p4, nn_p5, nn_p6, nn_p7, nn_p8, nn_p9, nn_p10, nn_p20, nn_p21, nn_le, nn_lt, nn_eq, nn_cl, nn_in, nn_add, nn_mul, nn_en, nn_ne, nn_mn, nn_64] at c
    omega
  | succ n ih =>
    intro s i2 l2 hs P2 V2 z2
    have hM2 := ms_M hW hM P2
    have e0 := (hM2.2.2.2.1 v hv).1
    refine tMX12_settle_41 (d := d + 3) ⟨la_vp (by omega) (by omega), fun c => ?_, fun _ => ⟨_, _, md_replyBy (d := d) (o := 1) hW ht hM2 (by omega) V2 hv (by omega), ?_⟩⟩
    · simp (disch := omega) only [e0, ↓nn_m3, nn_p0, nn_p1, nn_p2, nn_p3, nn_p4, nn_p5, nn_p6, nn_p7, nn_p8, nn_p9, nn_p10, nn_p20, nn_p21, nn_le, nn_lt, nn_eq, nn_cl, nn_in, nn_add, nn_mul, nn_en, nn_ne, nn_mn, nn_64] at c
      omega
    · rintro i6 l7 dd8 x9 ⟨i3, l3, ⟨⟩, f3, g3⟩
      refine ⟨la_vp (by omega) (by omega), ?_⟩
      rintro i11 rfl
      rw [nn_cl (by omega), la_nx]
      refine ih (s + 1) _ _ (by omega) (ms_t P2 (ms_t (ms_o f3 g3) ms_231)) (fun u w hu hw => ?_) (fun u hu => ?_)
      · rw [uu_k (by omega), f3 225 (by omega)]
        exact V2 u w hu hw
      · by_cases e : u = s
        · rw [e]
          exact uu_e
        · rw [uu_j e, f3 231 (by omega)]
          exact z2 u (by omega)
theorem ms_76 {A : mA_} {v f : Nat} {c0 : Int32} {vt : Nat → Nat → Nat} (hW : mt_W A) (ht : mt_vt A vt) (hv : v < aV_ A) (hf : f = 0 ∨ f = 1) {i0 : Nat → Nat → Int32} (hM : mt_M A i0 l) (hV : mt_Vo A i0 1 vt) (hR : ∀ s, s < aS_ A v → i0 231 s = Int32.ofNat (rp_y A vt v s)) {Q : ab_Qt} (hQ : ∀ i2, ms_P i0 l i2 l → mt_Vo A i2 1 (st_v A vt v) → ab_Fr MX12_settle (d + 4) Q 30 [some (.ref 205), some (.int c0), some (.int (Int32.ofNat (if (∀ s, s < aS_ A v → rp_y A vt v s = vt v s) then f else 1))), some (.int (Int32.ofNat (v + 1))), none] [] (0, 0) (i2, l, dd, x) (ab_E0 sc)) :
    ∀ (n s : Nat) (i2 : Nat → Nat → Int32), aS_ A v = s + n → ms_P i0 l i2 l → (∀ w, w < aS_ A v → i2 231 w = Int32.ofNat (rp_y A vt v w)) → (∀ u w, u < aV_ A → w < aS_ A u → i2 225 (21 + 3 * u + w) = Int32.ofNat (if u = v ∧ w < s then rp_y A vt v w else vt u w)) → ab_Fr MX12_settle (d + 4) Q 76 [some (.ref 205), some (.int c0), some (.int (Int32.ofNat (if (∀ w, w < s → rp_y A vt v w = vt v w) then f else 1))), some (.int (Int32.ofNat v)), some (.int (Int32.ofNat s))] [] (0, 0) (i2, l, dd, x) (ab_E0 sc) := by
  intro n
  have w2 := hW.2.1
  have hS := hW.2.2.2.2.2.2.1 v hv
  induction n with
  | zero =>
    intro s i2 hs P2 y2 z2
    have hs2 : s = aS_ A v := by omega
    have e0 := ((ms_M hW hM P2).2.2.2.1 v hv).1
    refine tMX12_settle_76 (d := d + 3) ⟨la_vp (by omega) (by omega), fun _ => ?_, fun c => ?_⟩
    · rw [la_nx, hs2]
      refine hQ i2 P2 (fun u w hu hw => ?_)
      rw [show 21 * 1 + 3 * u + w = 21 + 3 * u + w by omega, z2 u w hu hw]
      unfold st_v gr_f
      by_cases e : u = v
      · subst e
        rw [if_pos ⟨rfl, by omega⟩, if_pos rfl, if_pos hw]
      · rw [if_neg (fun q => e q.1), if_neg e]
    · simp (disch := omega) only [e0, ↓nn_m3, nn_p0, nn_p1, nn_p2, nn_p3, nn_p4, nn_p5, nn_p6, nn_p7, nn_p8, nn_p9, nn_p10, nn_p20, nn_p21, nn_le, nn_lt, nn_eq, nn_cl, nn_in, nn_add, nn_mul, nn_en, nn_ne, nn_mn, nn_64] at c
      omega
  | succ n ih =>
    intro s i2 hs P2 y2 z2
    have e0 := ((ms_M hW hM P2).2.2.2.1 v hv).1
    have ev := z2 v s hv (by omega)
    rw [if_neg (by omega)] at ev
    have er := y2 s (by omega)
    have h9 := vt_9 hW ht v s hv (by omega)
    have hy := (rp_y9 (vt := vt) (v := v) (s := s) hW).1
    have e21 : ((21 : Int32) + 3 * Int32.ofNat v + Int32.ofNat s) = Int32.ofNat (21 + 3 * v + s) := by
      rw [nn_p21, nn_p3, nn_mul, nn_add, nn_add]
    have ih2 : ab_Fr MX12_settle (d + 4) Q 76 [some (.ref 205), some (.int c0), some (.int (Int32.ofNat (if (∀ w, w < s + 1 → rp_y A vt v w = vt v w) then f else 1))), some (.int (Int32.ofNat v)), some (.int (Int32.ofNat (s + 1)))] [] (0, 0) (ab_u i2 225 (21 + 3 * v + s) (Int32.ofNat (rp_y A vt v s)), l, dd, x) (ab_E0 sc) := by
      refine ih (s + 1) _ (by omega) (ms_t P2 (ms_225 (by omega))) (fun w hw => by rw [uu_k (by omega)]; exact y2 w hw) (fun u w hu hw => ?_)
      by_cases e : u = v ∧ w = s
      · obtain ⟨rfl, rfl⟩ := e
        rw [uu_e, if_pos ⟨rfl, by omega⟩]
      · have hw3 := hW.2.2.2.2.2.2.1 u hu
        rw [uu_j (by omega), z2 u w hu hw]
        by_cases c2 : u = v ∧ w < s
        · rw [if_pos c2, if_pos ⟨c2.1, by omega⟩]
        · rw [if_neg c2, if_neg (by omega)]
    have fin : ∀ z : Nat, z = (if (∀ w, w < s + 1 → rp_y A vt v w = vt v w) then f else 1) → ab_Fr MX12_settle (d + 4) Q 113 [some (.ref 205), some (.int c0), some (.int (Int32.ofNat z)), some (.int (Int32.ofNat v)), some (.int (Int32.ofNat s))] [] (0, 0) (i2, l, dd, x) (ab_E0 sc) := by
      intro z hz
      refine tMX12_settle_113 (d := d + 3) ⟨la_vp (by omega) (by omega), ?_⟩
      rw [e21]
      refine ⟨la_vp (by omega) (by omega), ?_⟩
      rintro i1 rfl
      rw [nn_cl (by omega), nn_cl (by omega), er, la_nx, hz]
      exact ih2
    refine tMX12_settle_76 (d := d + 3) ⟨la_vp (by omega) (by omega), fun c => ?_, fun _ => ?_⟩
    · simp (disch := omega) only [e0, ↓nn_m3, nn_p0, nn_p1, nn_p2, nn_p3, nn_p4, nn_p5, nn_p6, nn_p7, nn_p8, nn_p9, nn_p10, nn_p20, nn_p21, nn_le, nn_lt, nn_eq, nn_cl, nn_in, nn_add, nn_mul, nn_en, nn_ne, nn_mn, nn_64] at c
      omega
    · rw [e21, nn_cl (by omega), nn_cl (by omega), ev, er, nn_eq (by omega) (by omega)]
      refine ⟨la_vp (by omega) (by omega), la_vp (by omega) (by omega), fun c => ?_, fun c => ?_⟩
      · refine fin _ ?_
        by_cases c2 : ∀ w, w < s → rp_y A vt v w = vt v w
        · rw [if_pos c2, if_pos (fun w hw => by
            by_cases e : w = s
            · rw [e]
              exact c.symm
            · exact c2 w (by omega))]
        · rw [if_neg c2, if_neg (fun q => c2 (fun w hw => q w (by omega)))]
      · exact fin 1 (by rw [if_neg (fun q => c (q s (by omega)).symm)])
theorem ms_30 {A : mA_} {c0 : Int32} {vt : Nat → Nat → Nat} (hW : mt_W A) (ht : mt_vt A vt) {i0 : Nat → Nat → Int32} {l0 : Nat → Nat → Int64} (hM : mt_M A i0 l0) {Q : ab_Qt} (hQ : ∀ i2 l2, ms_P i0 l0 i2 l2 → mt_Vo A i2 1 (st_r A vt (aV_ A)) → (st_c A vt (aV_ A) = 0 → ab_Fr MX12_settle (d + 4) Q 155 [some (.ref 205), some (.int c0), none, some (.int (Int32.ofNat 0)), none] [] (0, 0) (i2, l2, dd, x) (ab_E0 sc)) ∧ (¬ st_c A vt (aV_ A) = 0 → ab_Fr MX12_settle (d + 4) Q 20 [some (.ref 205), some (.int (c0 + 1)), none, none, none] [] (0, 0) (i2, l2, dd, x) (ab_E0 sc))) :
    ∀ (n v : Nat) (i2 : Nat → Nat → Int32) (l2 : Nat → Nat → Int64), aV_ A = v + n → ms_P i0 l0 i2 l2 → mt_Vo A i2 1 (st_r A vt v) → ab_Fr MX12_settle (d + 4) Q 30 [some (.ref 205), some (.int c0), some (.int (Int32.ofNat (st_c A vt v))), some (.int (Int32.ofNat v)), none] [] (0, 0) (i2, l2, dd, x) (ab_E0 sc) := by
  intro n
  have w2 := hW.2.1
  induction n with
  | zero =>
    intro v i2 l2 hv P2 V2
    have r2 := (ms_M hW hM P2).1.2.1
    have hv2 : v = aV_ A := by omega
    refine tMX12_settle_30 (d := d + 3) ⟨fun _ => ?_, fun c => ?_⟩
    · rw [hv2] at V2 ⊢
      obtain ⟨h1, h2⟩ := hQ i2 l2 P2 V2
      have h01 := st_c01 (A := A) (vt := vt) (aV_ A)
      rw [nn_p0, nn_eq (by omega) (by omega)]
      exact ⟨h1, h2⟩
    · simp (disch := omega) only [r2, ↓nn_m3, nn_p0, nn_p1, nn_p2, nn_p3, nn_p4, nn_p5, nn_p6, nn_p7, nn_p8, nn_p9, nn_p10, nn_p20, nn_p21, nn_le, nn_lt, nn_eq, nn_cl, nn_in, nn_add, nn_mul, nn_en, nn_ne, nn_mn, nn_64] at c
      omega
  | succ n ih =>
    intro v i2 l2 hv P2 V2
    have hM2 := ms_M hW hM P2
    have r2 := hM2.1.2.1
    have ht2 := st_r_t hW ht v
    refine tMX12_settle_30 (d := d + 3) ⟨fun c => ?_, fun _ => ?_⟩
    · simp (disch := omega) only [r2, ↓nn_m3, nn_p0, nn_p1, nn_p2, nn_p3, nn_p4, nn_p5, nn_p6, nn_p7, nn_p8, nn_p9, nn_p10, nn_p20, nn_p21, nn_le, nn_lt, nn_eq, nn_cl, nn_in, nn_add, nn_mul, nn_en, nn_ne, nn_mn, nn_64] at c
      omega
    · refine ms_41 (d := d) (i0 := i2) (l0 := l2) hW ht2 (show v < aV_ A by omega) hM2 V2 ?_ (aS_ A v) 0 i2 l2 (by omega) ms_r V2 (fun u hu => absurd hu (Nat.not_lt_zero u))
      intro i3 l3 P3 V3 R3
      have key := ms_76 (d := d) (c0 := c0) (dd := dd) (x := x) (Q := Q) (i0 := i3) hW ht2 (show v < aV_ A by omega) (st_c01 (A := A) (vt := vt) v) (ms_M hW hM2 P3) V3 R3 (fun i4 P4 V4 => ih (v + 1) i4 l3 (by omega) (ms_t P2 (ms_t P3 P4)) V4) (aS_ A v) 0 i3 (by omega) ms_r R3 (fun u w hu hw => by
        rw [if_neg (by omega), show 21 + 3 * u + w = 21 * 1 + 3 * u + w by omega]
        exact V3 u w hu hw)
      rw [if_pos (fun w hw => absurd hw (Nat.not_lt_zero w))] at key
      exact key
/-- what settle of the model leaves, settled in round r -/
def ms_Q (A : mA_) (i : Nat → Nat → Int32) (l : Nat → Nat → Int64) (i2 : Nat → Nat → Int32) (l2 : Nat → Nat → Int64) (vt : Nat → Nat → Nat) : Prop := (∀ k j, k ≠ 225 → k ≠ 226 → k ≠ 227 → k ≠ 229 → k ≠ 230 → k ≠ 231 → ¬ (k = 205 ∧ j = 41) → i2 k j = i k j) ∧ (∀ j, j < 21 → i2 225 j = i 225 j) ∧ (∀ v s, v < aV_ A → s < aS_ A v → i2 229 (3 * v + s) = Int32.ofNat (vt v s)) ∧ (∀ v, v < aV_ A → i2 230 v = Int32.ofNat (aS_ A v)) ∧ i2 205 41 = Int32.ofNat (aV_ A) ∧ (∀ k j, k ≠ 228 → ¬ (k = 205 ∧ (j = 42 ∨ j = 43)) → l2 k j = l k j) ∧ l2 205 42 = Int64.ofNat (cs_right A vt) ∧ l2 205 43 = Int64.ofNat (cs_lost A vt)
theorem ms_184 {A : mA_} {c0 : Int32} {vt : Nat → Nat → Nat} (hW : mt_W A) (hp : 0 < aV_ A) (ht : mt_vt A vt) {i0 : Nat → Nat → Int32} (hM : mt_M A i0 l) (hV : mt_Vo A i0 1 vt) (h229 : ∀ v s, v < aV_ A → s < aS_ A v → i0 229 (3 * v + s) = Int32.ofNat (vt v s)) {Q : ab_Qt} (hQ : ∀ i2 l2, ms_Q A i0 l i2 l2 vt → Q (some (some (.int c0))) (i2, l2, dd, x) (ab_E0 sc)) :
    ∀ (n v : Nat) (i2 : Nat → Nat → Int32), aV_ A = v + n → fr_o 230 230 i0 i2 → (∀ u, u < v → i2 230 u = Int32.ofNat (aS_ A u)) → ab_Fr MX12_settle (d + 4) Q 184 [some (.ref 205), some (.int c0), none, some (.int (Int32.ofNat v)), none] [] (0, 0) (i2, l, dd, x) (ab_E0 sc) := by
  intro n
  have w2 := hW.2.1
  induction n with
  | zero =>
    intro v i2 hv f2 z2
    have hM2 := mt_M_f hM f2 (by omega) hW
    have r2 := hM2.1.2.1
    refine tMX12_settle_184 (d := d + 3) ⟨fun _ => ?_, fun c => ?_⟩
    · rintro i3 rfl
      have hM3 : mt_M A (ab_u i2 205 41 (i2 205 30)) l := mt_M_fr hM2 (fun j _ _ => uu_j (by omega)) (fun k _ _ => uu_f (by omega)) (fun j _ => uu_k (by omega)) rfl hW
      have V3 : mt_Vo A (ab_u i2 205 41 (i2 205 30)) 1 vt := fun v s hv hs => by
        rw [uu_k (by omega), f2 225 (by omega)]
        exact hV v s hv hs
      refine ⟨_, _, md_right (d := d) (o := 1) hW hp hM3 (by omega) V3 ht, ?_⟩
      rintro i8 l9 dd10 x11 ⟨i4, ⟨⟩, f4⟩
      rintro l13 rfl
      refine ⟨_, _, md_lost (d := d) (o := 1) hW hp (mt_M_fr (mt_M_f hM3 f4 (by omega) hW) (fun _ _ _ => rfl) (fun _ _ _ => rfl) (fun _ _ => rfl) (uu_f (by omega)) hW) (by omega) (mt_Vo_o V3 f4 (by omega)) ht, ?_⟩
      rintro i19 l20 dd21 x22 ⟨i5, ⟨⟩, f5⟩
      rintro l24 rfl
      refine hQ _ _ ⟨fun k j a b c e g h q => ?_, fun j hj => ?_, fun v s hv hs => ?_, fun u hu => ?_, ?_, fun k j a b => ?_, ?_, uu_e⟩
      · rw [f5 k (by omega), f4 k (by omega)]
        unfold ab_u
        rw [if_neg q, f2 k (by omega)]
      · rw [f5 225 (by omega), f4 225 (by omega), uu_k (by omega), f2 225 (by omega)]
      · rw [f5 229 (by omega), f4 229 (by omega), uu_k (by omega), f2 229 (by omega)]
        exact h229 v s hv hs
      · rw [f5 230 (by omega), f4 230 (by omega), uu_k (by omega)]
        exact z2 u (by omega)
      · rw [f5 205 (by omega), f4 205 (by omega), uu_e, r2]
      · unfold ab_u
        rw [if_neg (fun z => b ⟨z.1, Or.inr z.2⟩), if_neg (fun z => b ⟨z.1, Or.inl z.2⟩)]
      · rw [uu_j (by omega)]
        exact uu_e
    · simp (disch := omega) only [r2, ↓nn_m3, nn_p0, nn_p1, nn_p2, nn_p3, nn_p4, nn_p5, nn_p6, nn_p7, nn_p8, nn_p9, nn_p10, nn_p20, nn_p21, nn_le, nn_lt, nn_eq, nn_cl, nn_in, nn_add, nn_mul, nn_en, nn_ne, nn_mn, nn_64] at c
      omega
  | succ n ih =>
    intro v i2 hv f2 z2
    have hM2 := mt_M_f hM f2 (by omega) hW
    have r2 := hM2.1.2.1
    have e0 := (hM2.2.2.2.1 v (by omega)).1
    refine tMX12_settle_184 (d := d + 3) ⟨fun c => ?_, fun _ => ⟨la_vp (by omega) (by omega), la_vp (by omega) (by omega), ?_⟩⟩
    · simp (disch := omega) only [r2, ↓nn_m3, nn_p0, nn_p1, nn_p2, nn_p3, nn_p4, nn_p5, nn_p6, nn_p7, nn_p8, nn_p9, nn_p10, nn_p20, nn_p21, nn_le, nn_lt, nn_eq, nn_cl, nn_in, nn_add, nn_mul, nn_en, nn_ne, nn_mn, nn_64] at c
      omega
    · rintro i3 rfl
      rw [nn_cl (by omega), e0, la_nx]
      refine ih (v + 1) _ (by omega) (fr_u f2 (by omega)) (fun u hu => ?_)
      by_cases e : u = v
      · rw [e]
        exact uu_e
      · rw [uu_j e]
        exact z2 u (by omega)
theorem ms_155 {A : mA_} {c0 : Int32} {vt : Nat → Nat → Nat} (hW : mt_W A) (hp : 0 < aV_ A) (ht : mt_vt A vt) {i0 : Nat → Nat → Int32} (hM : mt_M A i0 l) (hV : mt_Vo A i0 1 vt) {Q : ab_Qt} (hQ : ∀ i2 l2, ms_Q A i0 l i2 l2 vt → Q (some (some (.int c0))) (i2, l2, dd, x) (ab_E0 sc)) :
    ∀ (n k : Nat) (i2 : Nat → Nat → Int32), 21 = k + n → fr_o 229 229 i0 i2 → (∀ j, j < k → i2 229 j = i0 225 (21 + j)) → ab_Fr MX12_settle (d + 4) Q 155 [some (.ref 205), some (.int c0), none, some (.int (Int32.ofNat k)), none] [] (0, 0) (i2, l, dd, x) (ab_E0 sc) := by
  intro n
  have w2 := hW.2.1
  induction n with
  | zero =>
    intro k i2 hk f2 z2
    refine tMX12_settle_155 (d := d + 3) ⟨fun _ => ?_, fun c => ?_⟩
    · refine ms_184 (d := d) (i0 := i2) hW hp ht (mt_M_f hM f2 (by omega) hW) (mt_Vo_o hV f2 (by omega)) (fun v s hv hs => ?_) (fun i3 l3 h3 => hQ i3 l3 ?_) (aV_ A) 0 i2 (by omega) fr_r (fun u hu => absurd hu (Nat.not_lt_zero u))
      · have h7 := hW.2.2.2.2.2.2.1 v hv
        rw [z2 _ (by omega), show 21 + (3 * v + s) = 21 * 1 + 3 * v + s by omega]
        exact hV v s hv hs
      · obtain ⟨h1, h2, h4⟩ := h3
        refine ⟨fun k j a b c e g h q => ?_, fun j hj => ?_, h4⟩
        · rw [h1 k j a b c e g h q, f2 k (by omega)]
        · rw [h2 j hj, f2 225 (by omega)]
    · simp (disch := omega) only [↓nn_m3, nn_p0, nn_p1, nn_p2, nn_p3, nn_p4, nn_p5, nn_p6, nn_p7, nn_p8, nn_p9, nn_p10, nn_p20, nn_p21, nn_le, nn_lt, nn_eq, nn_cl, nn_in, nn_add, nn_mul, nn_en, nn_ne, nn_mn, nn_64] at c
      omega
  | succ n ih =>
    intro k i2 hk f2 z2
    refine tMX12_settle_155 (d := d + 3) ⟨fun c => ?_, fun _ => ?_⟩
    · simp (disch := omega) only [↓nn_m3, nn_p0, nn_p1, nn_p2, nn_p3, nn_p4, nn_p5, nn_p6, nn_p7, nn_p8, nn_p9, nn_p10, nn_p20, nn_p21, nn_le, nn_lt, nn_eq, nn_cl, nn_in, nn_add, nn_mul, nn_en, nn_ne, nn_mn, nn_64] at c
      omega
    · simp (disch := omega) only [↓nn_m3, nn_p0, nn_p1, nn_p2, nn_p3, nn_p4, nn_p5, nn_p6, nn_p7, nn_p8, nn_p9, nn_p10, nn_p20, nn_p21, nn_le, nn_lt, nn_eq, nn_cl, nn_in, nn_add, nn_mul, nn_en, nn_ne, nn_mn, nn_64]
      refine ⟨trivial, trivial, ?_⟩
      rintro i3 rfl
      refine ih (k + 1) _ (by omega) (fr_u f2 (by omega)) (fun j hj => ?_)
      by_cases e : j = k
      · rw [e, uu_e, f2 225 (by omega)]
      · rw [uu_j e]
        exact z2 j (by omega)
theorem ms_Qt {A : mA_} {i2 i3 : Nat → Nat → Int32} {l2 l3 : Nat → Nat → Int64} {vt : Nat → Nat → Nat} (h1 : ms_P i l i2 l2) (h2 : ms_Q A i2 l2 i3 l3 vt) : ms_Q A i l i3 l3 vt := by
  obtain ⟨a1, a2, a3, a4, a5, a6, a7⟩ := h2
  refine ⟨fun k j a b c e g h q => ?_, fun j hj => (a2 j hj).trans (h1.2.1 j hj), a3, a4, a5, fun k j a b => ?_, a7⟩
  · rw [a1 k j a b c e g h q, h1.1 k a b c h]
  · rw [a6 k j a b, h1.2.2 k (by omega)]
theorem ms_20 {A : mA_} {F : Option Nat} (hW : mt_W A) (hp : 0 < aV_ A) {i0 : Nat → Nat → Int32} {l0 : Nat → Nat → Int64} (hM : mt_M A i0 l0) {Q : ab_Qt} (hN : ∀ i2 l2, F = none → ms_P i0 l0 i2 l2 → Q (some (some (.int (-1)))) (i2, l2, dd, x) (ab_E0 sc)) (hS : ∀ r i2 l2, F = some r → ms_Q A i0 l0 i2 l2 (st_n A r) → Q (some (some (.int (Int32.ofNat r)))) (i2, l2, dd, x) (ab_E0 sc)) :
    ∀ (n k : Nat) (i2 : Nat → Nat → Int32) (l2 : Nat → Nat → Int64), 50 = k + n → F = st_f A n k → ms_P i0 l0 i2 l2 → mt_Vo A i2 1 (st_n A k) → ab_Fr MX12_settle (d + 4) Q 20 [some (.ref 205), some (.int (Int32.ofNat (k + 1))), none, none, none] [] (0, 0) (i2, l2, dd, x) (ab_E0 sc) := by
  intro n
  induction n with
  | zero =>
    intro k i2 l2 hk he P2 V2
    refine tMX12_settle_20 (d := d + 3) ⟨fun _ => hN i2 l2 he P2, fun c => ?_⟩
    rw [show (50 : Int32) = Int32.ofNat 50 from rfl, nn_lt (by omega) (by omega)] at c
    omega
  | succ n ih =>
    intro k i2 l2 hk he P2 V2
    have hM2 := ms_M hW hM P2
    unfold st_f at he
    refine tMX12_settle_20 (d := d + 3) ⟨fun c => ?_, fun _ => ?_⟩
    · rw [show (50 : Int32) = Int32.ofNat 50 from rfl, nn_lt (by omega) (by omega)] at c
      omega
    · refine ms_30 (d := d) (i0 := i2) (l0 := l2) (vt := st_n A k) hW (st_n_t hW k) hM2 (fun i3 l3 P3 V3 => ⟨fun z => ?_, fun z => ?_⟩) (aV_ A) 0 i2 l2 (by omega) ms_r V2
      · rw [if_pos z] at he
        exact ms_155 (d := d) (i0 := i3) (vt := st_n A (k + 1)) hW hp (st_n_t hW (k + 1)) (ms_M hW hM2 P3) V3 (fun i4 l4 h4 => hS (k + 1) i4 l4 he (ms_Qt (ms_t P2 P3) h4)) 21 0 i3 (by omega) fr_r (fun j hj => absurd hj (Nat.not_lt_zero j))
      · rw [if_neg z] at he
        rw [la_nx]
        exact ih (k + 1) i3 l3 (by omega) he (ms_t P2 P3) V3
end TQI2
