/-! codes of votes; the model's layByVotes -/
def cd_ (g : Nat → Nat) : Nat → Nat
  | 0 => 0
  | k + 1 => cd_ g k + g k * 4 ^ k
theorem cd_lt {g : Nat → Nat} (h : ∀ v, g v < 4) : ∀ k, cd_ g k < 4 ^ k := by
  intro k
  induction k with
  | zero => exact Nat.zero_lt_one
  | succ k ih =>
    show cd_ g k + g k * 4 ^ k < 4 ^ (k + 1)
    have h2 : g k * 4 ^ k ≤ 3 * 4 ^ k := Nat.mul_le_mul_right _ (by have := h k; omega)
    rw [Nat.pow_succ]
    omega
theorem cd_7 {V : Nat} (hV : V ≤ 7) : 4 ^ V ≤ 16384 := by
  have h : 4 ^ V ≤ 4 ^ 7 := Nat.pow_le_pow_right (by omega) hV
  have e : (4 : Nat) ^ 7 = 16384 := rfl
  omega
theorem cd_sh {V : Nat} (hV : V ≤ 7) : (1 : Int32) <<< ((2 * Int32.ofNat V) &&& 31) = Int32.ofNat (4 ^ V) := by
  have : ∀ v : Fin 8, (1 : Int32) <<< ((2 * Int32.ofNat v.val) &&& 31) = Int32.ofNat (4 ^ v.val) := by decide
  exact this ⟨V, by omega⟩
/-- a vote as a digit -/
def cd_g (y : Nat) : Nat := if y = 9 then 3 else y
def cd_r (A : mA_) (b : Nat → Nat) : Nat := cd_ (fun v => if v < aV_ A then cd_g (aO_ A v (b v)) else 0) (aV_ A)
theorem cd_gl {A : mA_} {v s : Nat} (hW : mt_W A) (hv : v < aV_ A) (hs : s < aS_ A v) : cd_g (aO_ A v s) < 4 := by
  have w1 := hW.1
  have h := hW.2.2.2.2.2.2.2.2.2.2.1 v s hv hs
  unfold cd_g
  split <;> omega
theorem cd_rl {A : mA_} {b : Nat → Nat} (hW : mt_W A) (hb : ∀ v, v < aV_ A → b v < aS_ A v) : cd_r A b < 4 ^ aV_ A := by
  refine cd_lt (fun v => ?_) _
  by_cases c : v < aV_ A
  · rw [if_pos c]
    exact cd_gl hW c (hb v c)
  · rw [if_neg c]
    omega
/-- what is lost by a verdict in the cases with these votes -/
def bv_ (A : mA_) (c e : Nat) : Nat := pu_n (aS_ A) (aV_ A) (fun b => if cd_r A b = c then cs_l A 7 b e (aT_ A) else 0)
/-- rows before r -/
def bv_r (A : mA_) (c e r : Nat) : Nat := pu_s (fun r => if cd_r A (pu_g (aS_ A) (aV_ A) r) = c then cs_l A 7 (pu_g (aS_ A) (aV_ A) r) e (aT_ A) else 0) r
section TQZ2
variable {d : Nat} {sc : Nat × (Nat → Int32)} {i : Nat → Nat → Int32} {l : Nat → Nat → Int64} {dd : Nat → Nat → Value} {x : Nat}
theorem pg_lt {A : mA_} {r v : Nat} (hW : mt_W A) (hv : v < aV_ A) : pu_g (aS_ A) (aV_ A) r v < aS_ A v := (pu_gt (fun v hv => by have := (hW.2.2.2.2.2.2.1 v hv).1; omega)).1 v hv
theorem md_votesOf {A : mA_} {r : Nat} (hW : mt_W A) (hM : mt_M A i l) (hr : r < mt_rad (aS_ A) (aV_ A)) : ab_Sp MX12_votesOf (d + 2) [.ref 205, .int (Int32.ofNat r)] (i, l, dd, x) (ab_E0 sc) (some (.int (Int32.ofNat (cd_r A (pu_g (aS_ A) (aV_ A) r))))) (fun σ => σ = (i, l, dd, x)) := by
  have w1 := hW.1
  have w2 := hW.2.1
  have hR := (mt_rows hW).1
  refine ab_ent (n := 1) okMX12_votesOf.1 (fun G => Nat.le_of_ble_eq_true rfl) (fun Q hQ => ?_)
  refine tMX12_votesOf_0 (d := d + 1) ?_
  rw [hM.1.2.1, Int32.sub_eq_add_neg]
  have go : ∀ v acc : Nat, v ≤ aV_ A → acc * 4 ^ v + cd_ (fun v => if v < aV_ A then cd_g (aO_ A v (pu_g (aS_ A) (aV_ A) r v)) else 0) v = cd_r A (pu_g (aS_ A) (aV_ A) r) → ab_Fr MX12_votesOf (d + 2) Q 9 [some (.ref 205), some (.int (Int32.ofNat r)), some (.int (Int32.ofNat acc)), some (.int (Int32.ofNat v + (-1))), none] [] (0, 0) (i, l, dd, x) (ab_E0 sc) := by
    intro v
    induction v with
    | zero =>
      intro acc hv he
      refine tMX12_votesOf_9 (d := d + 1) ⟨fun _ => ?_, fun c => absurd (show (Int32.ofNat 0 + (-1)) < 0 by decide) c⟩
      have e : acc = cd_r A (pu_g (aS_ A) (aV_ A) r) := by
        rw [← he, Nat.pow_zero, Nat.mul_one]
        rfl
      rw [e]
      exact hQ _ rfl
    | succ v ih =>
      intro acc hv he
      have hs := pg_lt (r := r) hW (show v < aV_ A by omega)
      have hS := hW.2.2.2.2.2.2.1 v (by omega)
      have hO := hW.2.2.2.2.2.2.2.2.2.2.1 v _ (by omega) hs
      have eV := hM.2.2.2.2.2.2.1 v _ (by omega) hs
      have he2 : (4 * acc + cd_g (aO_ A v (pu_g (aS_ A) (aV_ A) r v))) * 4 ^ v + cd_ (fun v => if v < aV_ A then cd_g (aO_ A v (pu_g (aS_ A) (aV_ A) r v)) else 0) v = cd_r A (pu_g (aS_ A) (aV_ A) r) := by
        rw [← he]
        show _ = acc * 4 ^ (v + 1) + (cd_ _ v + (if v < aV_ A then cd_g (aO_ A v (pu_g (aS_ A) (aV_ A) r v)) else 0) * 4 ^ v)
        rw [if_pos (by omega), Nat.add_mul, Nat.pow_succ, Nat.mul_comm (4 ^ v) 4, ← Nat.mul_assoc, Nat.mul_comm acc 4]
        omega
      have h := ih _ (by omega) he2
      rw [nn_m1 (by omega), show v + 1 - 1 = v by omega]
      refine tMX12_votesOf_9 (d := d + 1) ⟨fun c => absurd c (la_nn (by omega)).1, fun _ => ⟨_, _, mt_sg (d := d) hW hM (by omega) (by omega), ?_⟩⟩
      rintro i6 l7 dd8 x9 ⟨⟩
      rw [nn_p3, nn_mul, nn_add, nn_cl (by omega), eV, nn_p9, nn_eq (by omega) (by omega), nn_p4, nn_mul, nn_add]
      refine ⟨la_vp (by omega) (by omega), fun c => ?_, fun c => ?_⟩
      · rw [show cd_g (aO_ A v (pu_g (aS_ A) (aV_ A) r v)) = aO_ A v (pu_g (aS_ A) (aV_ A) r v) from if_neg c] at h
        exact h
      · rw [show cd_g (aO_ A v (pu_g (aS_ A) (aV_ A) r v)) = 3 from if_pos c] at h
        rw [nn_add]
        exact h
  refine go (aV_ A) 0 (Nat.le_refl _) ?_
  rw [Nat.zero_mul, Nat.zero_add]
  rfl
/-- votes laid out -/
def bv_o (i i2 : Nat → Nat → Int32) (l l2 : Nat → Nat → Int64) : Prop := fr_o 242 242 i i2 ∧ fr_o 241 241 l l2
theorem bv_M {A : mA_} {i2 : Nat → Nat → Int32} {l2 : Nat → Nat → Int64} (hW : mt_W A) (hM : mt_M A i l) (h : bv_o i i2 l l2) : mt_M A i2 l2 :=
  mt_M_fr hM (fun j _ _ => by rw [h.1 205 (by omega)]) (fun k _ _ => h.1 k (by omega)) (fun j _ => by rw [h.1 225 (by omega)]) (h.2 224 (by omega)) hW
theorem bv_t {i2 i3 : Nat → Nat → Int32} {l2 l3 : Nat → Nat → Int64} (h1 : bv_o i i2 l l2) (h2 : bv_o i2 i3 l2 l3) : bv_o i i3 l l3 := ⟨fr_t h1.1 h2.1, fr_t h1.2 h2.2⟩
theorem bv_76 {A : mA_} {r c : Nat} {Z : Nat → Nat → Nat} (hW : mt_W A) {l0 : Nat → Nat → Int64} (hM : mt_M A i l0) (hr : r < mt_rad (aS_ A) (aV_ A)) (hc : c < 4 ^ aV_ A) (hZ : ∀ u e, u < 4 ^ aV_ A → e < aT_ A → l0 241 (3 * u + e) = Int64.ofNat (Z u e)) {Q : ab_Qt} (hQ : ∀ l2, fr_o 241 241 l0 l2 → (∀ u e, u < 4 ^ aV_ A → e < aT_ A → l2 241 (3 * u + e) = Int64.ofNat (Z u e + (if c = u then cs_l A 7 (pu_g (aS_ A) (aV_ A) r) e (aT_ A) else 0))) → ab_Fr MX12_layByVotes (d + 3) Q 53 [some (.ref 205), some (.int (Int32.ofNat (r + 1))), none, none] [] (0, 0) (i, l2, dd, x) (ab_E0 sc)) :
    ∀ (n e : Nat) (l2 : Nat → Nat → Int64), aT_ A = e + n → fr_o 241 241 l0 l2 → (∀ u y, u < 4 ^ aV_ A → y < aT_ A → l2 241 (3 * u + y) = Int64.ofNat (Z u y + (if c = u ∧ y < e then cs_l A 7 (pu_g (aS_ A) (aV_ A) r) y (aT_ A) else 0))) → ab_Fr MX12_layByVotes (d + 3) Q 76 [some (.ref 205), some (.int (Int32.ofNat r)), some (.int (Int32.ofNat c)), some (.int (Int32.ofNat e))] [] (0, 0) (i, l2, dd, x) (ab_E0 sc) := by
  intro n
  have w1 := hW.1
  have w2 := hW.2.1
  have h7 := cd_7 w2
  have hR := (mt_rows hW).1
  have r1 := hM.1.1
  induction n with
  | zero =>
    intro e l2 he g2 z2
    refine tMX12_layByVotes_76 (d := d + 2) ⟨fun _ => ?_, fun g => ?_⟩
    · rw [la_nx]
      refine hQ l2 g2 (fun u y hu hy => ?_)
      rw [z2 u y hu hy]
      by_cases q : c = u
      · rw [if_pos ⟨q, by omega⟩, if_pos q]
      · rw [if_neg (fun h => q h.1), if_neg q]
    · simp (disch := omega) only [r1, ↓nn_m3, nn_p0, nn_p1, nn_p2, nn_p3, nn_p4, nn_p5, nn_p6, nn_p7, nn_p8, nn_p9, nn_p10, nn_p20, nn_p21, nn_le, nn_lt, nn_eq, nn_cl, nn_in, nn_add, nn_mul, nn_en, nn_ne, nn_mn, nn_64] at g
      omega
  | succ n ih =>
    intro e l2 he g2 z2
    have hM2 : mt_M A i l2 := bv_M hW hM ⟨fr_r, g2⟩
    refine tMX12_layByVotes_76 (d := d + 2) ⟨fun g => ?_, fun _ => ?_⟩
    · simp (disch := omega) only [r1, ↓nn_m3, nn_p0, nn_p1, nn_p2, nn_p3, nn_p4, nn_p5, nn_p6, nn_p7, nn_p8, nn_p9, nn_p10, nn_p20, nn_p21, nn_le, nn_lt, nn_eq, nn_cl, nn_in, nn_add, nn_mul, nn_en, nn_ne, nn_mn, nn_64] at g
      omega
    · rw [nn_p3, nn_mul, nn_add, nn_cl (by omega), z2 c e hc (by omega), if_neg (fun h => Nat.lt_irrefl e h.2), Nat.add_zero]
      refine ⟨la_vp (by omega) (by omega), _, _, md_commonly (d := d) hW hM2 hr (by omega), ?_⟩
      rintro i6 l7 dd8 x9 ⟨⟩
      refine ⟨la_vp (by omega) (by omega), ?_⟩
      rintro l11 rfl
      rw [nl_add, la_nx]
      refine ih (e + 1) _ (by omega) (fr_u g2 (by omega)) (fun u y hu hy => ?_)
      by_cases q : u = c ∧ y = e
      · obtain ⟨rfl, rfl⟩ := q
        rw [uu_e, if_pos ⟨rfl, by omega⟩, Nat.add_zero]
      · rw [uu_j (by omega), z2 u y hu hy]
        by_cases q2 : c = u ∧ y < e
        · rw [if_pos q2, if_pos ⟨q2.1, by omega⟩]
        · rw [if_neg q2, if_neg (by omega)]
theorem bv_53 {A : mA_} (hW : mt_W A) (hp : 0 < aV_ A) {i0 : Nat → Nat → Int32} {l0 : Nat → Nat → Int64} (hM : mt_M A i0 l0) {Q : ab_Qt} (hQ : ∀ i2 l2, bv_o i0 i2 l0 l2 → (∀ u, u < 4 ^ aV_ A → i2 242 u = if (∃ r, r < mt_rad (aS_ A) (aV_ A) ∧ cd_r A (pu_g (aS_ A) (aV_ A) r) = u) then 1 else 0) → (∀ u e, u < 4 ^ aV_ A → e < aT_ A → l2 241 (3 * u + e) = Int64.ofNat (bv_ A u e)) → Q (some none) (i2, l2, dd, x) (ab_E0 sc)) :
    ∀ (n r : Nat) (i2 : Nat → Nat → Int32) (l2 : Nat → Nat → Int64), mt_rad (aS_ A) (aV_ A) = r + n → bv_o i0 i2 l0 l2 → (∀ u, u < 4 ^ aV_ A → i2 242 u = if (∃ q, q < r ∧ cd_r A (pu_g (aS_ A) (aV_ A) q) = u) then 1 else 0) → (∀ u e, u < 4 ^ aV_ A → e < aT_ A → l2 241 (3 * u + e) = Int64.ofNat (bv_r A u e r)) → ab_Fr MX12_layByVotes (d + 3) Q 53 [some (.ref 205), some (.int (Int32.ofNat r)), none, none] [] (0, 0) (i2, l2, dd, x) (ab_E0 sc) := by
  intro n
  have w1 := hW.1
  have w2 := hW.2.1
  have h7 := cd_7 w2
  have hR := (mt_rows hW).1
  induction n with
  | zero =>
    intro r i2 l2 hr o2 f2 z2
    have r3 := (bv_M hW hM o2).1.2.2 (by omega)
    refine tMX12_layByVotes_53 (d := d + 2) ⟨fun _ => hQ i2 l2 o2 (fun u hu => by rw [f2 u hu, show r = mt_rad (aS_ A) (aV_ A) by omega]) (fun u e hu he => ?_), fun g => ?_⟩
    · rw [z2 u e hu he, show r = mt_rad (aS_ A) (aV_ A) by omega]
      exact congrArg Int64.ofNat (cs_rows (G := fun b => if cd_r A b = u then cs_l A 7 b e (aT_ A) else 0) hW)
    · simp (disch := omega) only [r3, ↓nn_m3, nn_p0, nn_p1, nn_p2, nn_p3, nn_p4, nn_p5, nn_p6, nn_p7, nn_p8, nn_p9, nn_p10, nn_p20, nn_p21, nn_le, nn_lt, nn_eq, nn_cl, nn_in, nn_add, nn_mul, nn_en, nn_ne, nn_mn, nn_64] at g
      omega
  | succ n ih =>
    intro r i2 l2 hr o2 f2 z2
    have hM2 := bv_M hW hM o2
    have r3 := hM2.1.2.2 (by omega)
    have hcl : cd_r A (pu_g (aS_ A) (aV_ A) r) < 4 ^ aV_ A := cd_rl hW (fun v hv => pg_lt hW hv)
    refine tMX12_layByVotes_53 (d := d + 2) ⟨fun g => ?_, fun _ => ⟨_, _, md_votesOf (d := d) hW hM2 (by omega), ?_⟩⟩
    · simp (disch := omega) only [r3, ↓nn_m3, nn_p0, nn_p1, nn_p2, nn_p3, nn_p4, nn_p5, nn_p6, nn_p7, nn_p8, nn_p9, nn_p10, nn_p20, nn_p21, nn_le, nn_lt, nn_eq, nn_cl, nn_in, nn_add, nn_mul, nn_en, nn_ne, nn_mn, nn_64] at g
      omega
    · rintro i6 l7 dd8 x9 ⟨⟩
      rw [nn_cl (by omega)]
      refine ⟨la_vp (by omega) (by omega), ?_⟩
      rintro i11 rfl
      have o3 : bv_o i2 (ab_u i2 242 (cd_r A (pu_g (aS_ A) (aV_ A) r)) 1) l2 l2 := ⟨fr_u fr_r (by omega), fr_r⟩
      refine bv_76 (d := d) (Z := fun u e => bv_r A u e r) (l0 := l2) hW (bv_M hW hM2 o3) (by omega) hcl z2 (fun l3 g3 z3 => ih (r + 1) _ l3 (by omega) (bv_t o2 ⟨o3.1, g3⟩) (fun u hu => ?_) (fun u e hu he => ?_)) _ 0 l2 (Nat.zero_add _).symm fr_r (fun u e hu he => ?_)
      · by_cases q : u = cd_r A (pu_g (aS_ A) (aV_ A) r)
        · rw [q, uu_e, if_pos ⟨r, by omega, rfl⟩]
        · rw [uu_j q, f2 u hu]
          by_cases q2 : ∃ y, y < r ∧ cd_r A (pu_g (aS_ A) (aV_ A) y) = u
          · obtain ⟨y, h1, h2⟩ := q2
            rw [if_pos ⟨y, h1, h2⟩, if_pos ⟨y, by omega, h2⟩]
          · rw [if_neg q2, if_neg (fun ⟨y, h1, h2⟩ => q2 ⟨y, by
              by_cases e : y = r
              · rw [e] at h2
                exact absurd h2.symm q
              · omega, h2⟩)]
      · rw [z3 u e hu he]
        rfl
      · rw [z2 u e hu he, if_neg (fun h => Nat.not_lt_zero e h.2), Nat.add_zero]
theorem bv_2 {A : mA_} (hW : mt_W A) {i0 : Nat → Nat → Int32} {l0 : Nat → Nat → Int64} (hM : mt_M A i0 l0) {Q : ab_Qt} (hQ : ∀ i2 l2, bv_o i0 i2 l0 l2 → (∀ u, u < 4 ^ aV_ A → i2 242 u = 0 ∧ ∀ e, e < 3 → l2 241 (3 * u + e) = 0) → ab_Fr MX12_layByVotes (d + 1) Q 53 [some (.ref 205), some (.int 0), none, none] [] (0, 0) (i2, l2, dd, x) (ab_E0 sc)) :
    ∀ (n c : Nat) (i2 : Nat → Nat → Int32) (l2 : Nat → Nat → Int64), 4 ^ aV_ A = c + n → bv_o i0 i2 l0 l2 → (∀ u, u < c → i2 242 u = 0 ∧ ∀ e, e < 3 → l2 241 (3 * u + e) = 0) → ab_Fr MX12_layByVotes (d + 1) Q 2 [some (.ref 205), some (.int (Int32.ofNat c)), none, none] [] (0, 0) (i2, l2, dd, x) (ab_E0 sc) := by
  intro n
  have w2 := hW.2.1
  have h7 := cd_7 w2
  induction n with
  | zero =>
    intro c i2 l2 hc o2 z2
    have r2 := (bv_M hW hM o2).1.2.1
    refine tMX12_layByVotes_2 ⟨fun _ => hQ i2 l2 o2 (fun u hu => z2 u (by omega)), fun g => ?_⟩
    rw [r2, cd_sh w2, nn_le (by omega) (by omega)] at g
    omega
  | succ n ih =>
    intro c i2 l2 hc o2 z2
    have r2 := (bv_M hW hM o2).1.2.1
    refine tMX12_layByVotes_2 ⟨fun g => ?_, fun _ => ?_⟩
    · rw [r2, cd_sh w2, nn_le (by omega) (by omega)] at g
      omega
    · rw [nn_cl (by omega)]
      refine ⟨la_vp (by omega) (by omega), ?_⟩
      rintro i3 rfl
      have go : ∀ (k e : Nat) (l3 : Nat → Nat → Int64), 3 = e + k → fr_o 241 241 l2 l3 → (∀ u y, u < c ∨ (u = c ∧ y < e) → y < 3 → l3 241 (3 * u + y) = 0) → ab_Fr MX12_layByVotes (d + 1) Q 23 [some (.ref 205), some (.int (Int32.ofNat c)), some (.int (Int32.ofNat e)), none] [] (0, 0) (ab_u i2 242 c 0, l3, dd, x) (ab_E0 sc) := by
        intro k
        induction k with
        | zero =>
          intro e l3 he g3 z3
          refine tMX12_layByVotes_23 ⟨fun _ => ?_, fun g => ?_⟩
          · rw [la_nx]
            refine ih (c + 1) _ l3 (by omega) (bv_t o2 ⟨fr_u fr_r (by omega), g3⟩) (fun u hu => ⟨?_, fun y hy => z3 u y (by omega) hy⟩)
            by_cases q : u = c
            · rw [q]
              exact uu_e
            · rw [uu_j q]
              exact (z2 u (by omega)).1
          · rw [nn_p3, nn_le (by omega) (by omega)] at g
            omega
        | succ k ihk =>
          intro e l3 he g3 z3
          refine tMX12_layByVotes_23 ⟨fun g => ?_, fun _ => ?_⟩
          · rw [nn_p3, nn_le (by omega) (by omega)] at g
            omega
          · rw [nn_p3, nn_mul, nn_add, nn_cl (by omega), la_nx]
            refine ⟨la_vp (by omega) (by omega), ?_⟩
            rintro l4 rfl
            refine ihk (e + 1) _ (by omega) (fr_u g3 (by omega)) (fun u y h hy => ?_)
            by_cases q : 3 * u + y = 3 * c + e
            · rw [q]
              exact uu_e
            · rw [uu_j q]
              exact z3 u y (by omega) hy
      exact go 3 0 l2 rfl fr_r (fun u y h hy => (z2 u (by omega)).2 y hy)
theorem md_byVotes {A : mA_} (hW : mt_W A) (hp : 0 < aV_ A) (hM : mt_M A i l) : ab_Sp MX12_layByVotes (d + 3) [.ref 205] (i, l, dd, x) (ab_E0 sc) none (fun σ => ∃ i2 l2, σ = (i2, l2, dd, x) ∧ bv_o i i2 l l2 ∧ (∀ u, u < 4 ^ aV_ A → i2 242 u = if (∃ r, r < mt_rad (aS_ A) (aV_ A) ∧ cd_r A (pu_g (aS_ A) (aV_ A) r) = u) then 1 else 0) ∧ ∀ u e, u < 4 ^ aV_ A → e < aT_ A → l2 241 (3 * u + e) = Int64.ofNat (bv_ A u e)) := by
  have w1 := hW.1
  refine ab_ent (n := 0) okMX12_layByVotes.1 (fun G => Nat.le_of_ble_eq_true rfl) (fun Q hQ => ?_)
  refine tMX12_layByVotes_0 (d := d + 2) ?_
  refine bv_2 (d := d + 2) (i0 := i) (l0 := l) hW hM (fun i2 l2 o2 z2 => ?_) (4 ^ aV_ A) 0 i l (Nat.zero_add _).symm ⟨fr_r, fr_r⟩ (fun u hu => absurd hu (Nat.not_lt_zero u))
  refine bv_53 (d := d) (i0 := i) (l0 := l) hW hp hM (fun i3 l3 o3 f3 z3 => hQ _ ⟨i3, l3, rfl, o3, f3, z3⟩) _ 0 i2 l2 (Nat.zero_add _).symm o2 (fun u hu => ?_) (fun u e hu he => (z2 u hu).2 e (by omega))
  rw [(z2 u hu).1, if_neg (fun ⟨y, h1, _⟩ => Nat.not_lt_zero y h1)]
end TQZ2
