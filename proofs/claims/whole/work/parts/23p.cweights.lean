/-! weighed: the class's takeWeights and addWeights -/
theorem p2_1 {v : Nat} (hv : v < 5) : (1 : Int32) <<< (Int32.ofNat v &&& 31) = Int32.ofNat (2 ^ v) := by
  have h : ∀ v : Fin 5, (1 : Int32) <<< (Int32.ofNat v.val &&& 31) = Int32.ofNat (2 ^ v.val) := by decide +kernel
  exact h ⟨v, hv⟩
theorem p2_2 {v : Nat} (hv : v < 5) : (2 : Int32) <<< (Int32.ofNat v &&& 31) = Int32.ofNat (2 ^ (v + 1)) := by
  have h : ∀ v : Fin 5, (2 : Int32) <<< (Int32.ofNat v.val &&& 31) = Int32.ofNat (2 ^ (v.val + 1)) := by decide +kernel
  exact h ⟨v, hv⟩
theorem p2_V {V : Nat} (hV : V ≤ 5) : (1 : Int32) <<< (Int32.ofNat V &&& 31) = Int32.ofNat (2 ^ V) := by
  have h : ∀ v : Fin 6, (1 : Int32) <<< (Int32.ofNat v.val &&& 31) = Int32.ofNat (2 ^ v.val) := by decide +kernel
  exact h ⟨V, by omega⟩
theorem sm_0 {w : Nat → Nat} : ∀ V, sm_ w V 0 = 0 := by
  intro V
  induction V with
  | zero => rfl
  | succ V ih =>
    show (if 0 < 2 ^ V then sm_ w V 0 else sm_ w V (0 - 2 ^ V) + w V) = 0
    rw [if_pos (Nat.pow_pos (by omega)), ih]
def tw_f (i i2 : Nat → Nat → Int32) : Prop := ∀ k, k ≠ 195 → k ≠ 197 → i2 k = i k
section TQP3
variable {d : Nat} {sc : Nat × (Nat → Int32)} {i : Nat → Nat → Int32} {l : Nat → Nat → Int64} {dd : Nat → Nat → Value} {x : Nat}
theorem tw_34 {w : Nat → Nat} {v : Nat} {a1 a2 : Int32} (hv : v < 5) {i0 : Nat → Nat → Int32} (h197 : i0 197 v = Int32.ofNat (w v)) {Q : ab_Qt} (hQ : ∀ i2, fr_o 195 195 i0 i2 → (∀ u, u < 2 ^ (v + 1) → i2 195 u = Int32.ofNat (sm_ w (v + 1) u)) → ab_Fr MX5_takeWeights (d + 1) Q 2 [some (.ref 191), some (.int a1), some (.int a2), some (.int (Int32.ofNat (v + 1))), none] [] (0, 0) (i2, l, dd, x) (ab_E0 sc)) :
    ∀ (n u : Nat) (i2 : Nat → Nat → Int32), 2 ^ (v + 1) = u + n → 2 ^ v ≤ u → fr_o 195 195 i0 i2 → (∀ y, y < u → i2 195 y = Int32.ofNat (sm_ w (v + 1) y)) → ab_Fr MX5_takeWeights (d + 1) Q 34 [some (.ref 191), some (.int a1), some (.int a2), some (.int (Int32.ofNat v)), some (.int (Int32.ofNat u))] [] (0, 0) (i2, l, dd, x) (ab_E0 sc) := by
  have h32 := p2_5 (V := v + 1) (by omega)
  have hp : 0 < 2 ^ v := Nat.pow_pos (by omega)
  have hpp : 2 ^ (v + 1) = 2 ^ v * 2 := Nat.pow_succ 2 v
  have es : ∀ m, sm_ w (v + 1) m = if m < 2 ^ v then sm_ w v m else sm_ w v (m - 2 ^ v) + w v := fun _ => rfl
  intro n
  induction n with
  | zero =>
    intro u i2 hu hl g2 z2
    refine tMX5_takeWeights_34 ⟨fun _ => ?_, fun c => ?_⟩
    · rw [la_nx]
      exact hQ i2 g2 (fun y hy => z2 y (by omega))
    · rw [p2_2 hv, nn_le (by omega) (by omega)] at c
      omega
  | succ n ih =>
    intro u i2 hu hl g2 z2
    refine tMX5_takeWeights_34 ⟨fun c => ?_, fun _ => ?_⟩
    · rw [p2_2 hv, nn_le (by omega) (by omega)] at c
      omega
    · rw [p2_1 hv, nn_sub hl, nn_cl (by omega), nn_cl (by omega), nn_cl (by omega), z2 (u - 2 ^ v) (by omega), g2 197 (by omega), h197, nn_add]
      refine ⟨la_vp (by omega) (by omega), la_vp (by omega) (by omega), la_vp (by omega) (by omega), ?_⟩
      rintro i3 rfl
      rw [la_nx]
      refine ih (u + 1) _ (by omega) (by omega) (fr_u g2 (by omega)) (fun y hy => ?_)
      by_cases c : y = u
      · subst c
        rw [uu_e, es y, if_neg (by omega), es (y - 2 ^ v), if_pos (by omega)]
      · rw [uu_j c]
        exact z2 y (by omega)
theorem mt_takeW {V q : Nat} (hV : V ≤ 5) (hq : q < 4 ^ V) (h0 : i 195 0 = 0) : ab_Sp MX5_takeWeights (d + 1) [.ref 191, .int (Int32.ofNat q), .int (Int32.ofNat V)] (i, l, dd, x) (ab_E0 sc) none (fun σ => ∃ i2, σ = (i2, l, dd, x) ∧ tw_f i i2 ∧ (∀ v, v < V → i2 197 v = Int32.ofNat (wt_ V q v)) ∧ ∀ u, u < 2 ^ V → i2 195 u = Int32.ofNat (sm_ (wt_ V q) V u)) := by
  have h7 := cd_7 (V := V) (by omega)
  refine ab_ent (n := 2) okMX5_takeWeights.1 (fun G => Nat.le_of_ble_eq_true rfl) (fun Q hQ => ?_)
  refine tMX5_takeWeights_0 ?_
  have go : ∀ (n v : Nat) (i2 : Nat → Nat → Int32), V = v + n → tw_f i i2 → (∀ y, y < v → i2 197 y = Int32.ofNat (wt_ V q y)) → (∀ u, u < 2 ^ v → i2 195 u = Int32.ofNat (sm_ (wt_ V q) v u)) → ab_Fr MX5_takeWeights (d + 1) Q 2 [some (.ref 191), some (.int (Int32.ofNat q)), some (.int (Int32.ofNat V)), some (.int (Int32.ofNat v)), none] [] (0, 0) (i2, l, dd, x) (ab_E0 sc) := by
    intro n
    induction n with
    | zero =>
      intro v i2 hv g2 w2 z2
      refine tMX5_takeWeights_2 ⟨fun _ => ?_, fun c => ?_⟩
      · rw [show v = V by omega] at w2 z2
        exact hQ _ ⟨i2, rfl, g2, w2, z2⟩
      · rw [nn_le (by omega) (by omega)] at c
        omega
    | succ n ih =>
      intro v i2 hv g2 w2 z2
      refine tMX5_takeWeights_2 ⟨fun c => ?_, fun _ => ⟨fun c => ?_, fun _ => ?_⟩⟩
      · rw [nn_le (by omega) (by omega)] at c
        omega
      · rw [show (5 : Int32) = Int32.ofNat 5 from rfl, nn_le (by omega) (by omega)] at c
        omega
      · rw [nn_p1, nn_sub (by omega), nn_sub (by omega), cd_dg (by omega) (by omega), nn_cl (by omega), show q / 4 ^ (V - 1 - v) % 4 = wt_ V q v from rfl, ← nn_p1, p2_1 (by omega)]
        refine ⟨la_vp (by omega) (by omega), ?_⟩
        rintro i3 rfl
        have hp : 2 ^ (v + 1) = 2 ^ v * 2 := Nat.pow_succ 2 v
        refine tw_34 (d := d) (w := wt_ V q) (i0 := ab_u i2 197 v (Int32.ofNat (wt_ V q v))) (by omega) uu_e (fun i4 g4 z4 => ih (v + 1) i4 (by omega) (fun k a b => by rw [g4 k (by omega), uu_f b]; exact g2 k a b) (fun y hy => ?_) z4) (2 ^ v) (2 ^ v) _ (by omega) (Nat.le_refl _) fr_r (fun y hy => ?_)
        · rw [g4 197 (by omega)]
          by_cases c : y = v
          · rw [c, uu_e]
          · rw [uu_j c]
            exact w2 y (by omega)
        · rw [uu_k (by decide), z2 y hy]
          show _ = Int32.ofNat (if y < 2 ^ v then sm_ (wt_ V q) v y else sm_ (wt_ V q) v (y - 2 ^ v) + wt_ V q v)
          rw [if_pos hy]
  refine go V 0 i (Nat.zero_add _).symm (fun _ _ _ => rfl) (fun y hy => absurd hy (Nat.not_lt_zero y)) (fun u hu => ?_)
  rw [show u = 0 by have : (2 : Nat) ^ 0 = 1 := rfl; omega, h0, sm_0]
  rfl
theorem aw_70 {A : mA_} {m t u s : Nat} {a2 : Int32} {Z : Nat → Nat → Nat → Nat} (hW : mt_W A) (hm : ab_isM m) (ht : t < aT_ A) (hu : u < 32) (hs : s < 16) {l0 : Nat → Nat → Int64} (h194 : ∀ y u e, y < aT_ A → u < 32 → e < aT_ A → l0 194 (3 * (y * 32 + u) + e) = Int64.ofNat (by_ A y u e)) {Q : ab_Qt} (hQ : ∀ l2, fr_o 196 196 l0 l2 → (∀ y z e, y < aT_ A → z < 16 → e < aT_ A → l2 196 (3 * (y * 16 + z) + e) = Int64.ofNat (Z y z e + (if y = t ∧ z = s then by_ A t u e else 0))) → ab_Fr MX5_addWeights (d + 1) Q 27 [some (.ref 191), some (.ref m), some (.int a2), some (.int (Int32.ofNat t)), some (.int (Int32.ofNat (u + 1))), none, none, none] [] (0, 0) (i, l2, dd, x) (ab_E0 sc)) :
    ∀ (n e : Nat) (l2 : Nat → Nat → Int64), 3 = e + n → fr_o 196 196 l0 l2 → (∀ y z k, y < aT_ A → z < 16 → k < aT_ A → l2 196 (3 * (y * 16 + z) + k) = Int64.ofNat (Z y z k + (if y = t ∧ z = s ∧ k < e then by_ A t u k else 0))) → ab_Fr MX5_addWeights (d + 1) Q 70 [some (.ref 191), some (.ref m), some (.int a2), some (.int (Int32.ofNat t)), some (.int (Int32.ofNat u)), some (.int (Int32.ofNat (3 * (t * 32 + u)))), some (.int (Int32.ofNat (3 * (t * 16 + s)))), some (.int (Int32.ofNat e))] [] (0, 0) (i, l2, dd, x) (ab_E0 sc) := by
  intro n
  have w1 := hW.1
  induction n with
  | zero =>
    intro e l2 he g2 z2
    refine tMX5_addWeights_70 hm ⟨fun _ => ?_, fun c => ?_⟩
    · rw [la_nx]
      refine hQ l2 g2 (fun y z k hy hz hk => ?_)
      rw [z2 y z k hy hz hk]
      by_cases c : y = t ∧ z = s
      · rw [if_pos ⟨c.1, c.2, by omega⟩, if_pos c]
      · rw [if_neg (fun h => c ⟨h.1, h.2.1⟩), if_neg c]
    · rw [nn_p3, nn_le (by omega) (by omega)] at c
      omega
  | succ n ih =>
    intro e l2 he g2 z2
    refine tMX5_addWeights_70 hm ⟨fun c => ?_, fun _ => ?_⟩
    · rw [nn_p3, nn_le (by omega) (by omega)] at c
      omega
    · rw [nn_add, nn_add, nn_cl (by omega), nn_cl (by omega), la_nx]
      refine ⟨la_vp (by omega) (by omega), la_vp (by omega) (by omega), la_vp (by omega) (by omega), ?_⟩
      rintro l3 rfl
      refine ih (e + 1) _ (by omega) (fr_u g2 (by omega)) (fun y z k hy hz hk => ?_)
      by_cases c : y = t ∧ z = s ∧ k = e
      · obtain ⟨rfl, rfl, rfl⟩ := c
        rw [uu_e, z2 y z k hy hz hk, if_neg (fun h => Nat.lt_irrefl k h.2.2), Nat.add_zero, if_pos ⟨rfl, rfl, by omega⟩, g2 194 (by omega), h194 y u k hy hu hk, nl_add]
      · rw [uu_j (by omega), z2 y z k hy hz hk]
        by_cases c2 : y = t ∧ z = s ∧ k < e
        · rw [if_pos c2, if_pos ⟨c2.1, c2.2.1, by omega⟩]
        · rw [if_neg c2, if_neg (by omega)]
theorem aw_27 {A : mA_} {g : Nat → Nat} {m t : Nat} {Z : Nat → Nat → Nat → Nat} (hW : mt_W A) (hV : aV_ A ≤ 5) (hg : ∀ v, g v ≤ 3) (hm : ab_isM m) (ht : t < aT_ A) {l0 : Nat → Nat → Int64} (h194 : ∀ y u e, y < aT_ A → u < 32 → e < aT_ A → l0 194 (3 * (y * 32 + u) + e) = Int64.ofNat (by_ A y u e)) (h195 : ∀ u, u < 2 ^ aV_ A → i 195 u = Int32.ofNat (sm_ g (aV_ A) u)) {Q : ab_Qt} (hQ : ∀ l2, fr_o 196 196 l0 l2 → (∀ y z e, y < aT_ A → z < 16 → e < aT_ A → l2 196 (3 * (y * 16 + z) + e) = Int64.ofNat (if y = t then bx_ A g t z e else Z y z e)) → ab_Fr MX5_addWeights (d + 1) Q 115 [some (.ref 191), some (.ref m), some (.int (Int32.ofNat (2 ^ aV_ A))), some (.int (Int32.ofNat t)), some (.int 44), none, none, none] [] (0, 0) (i, l2, dd, x) (ab_E0 sc)) :
    ∀ (n u : Nat) (l2 : Nat → Nat → Int64), 2 ^ aV_ A = u + n → fr_o 196 196 l0 l2 → (∀ y z e, y < aT_ A → z < 16 → e < aT_ A → l2 196 (3 * (y * 16 + z) + e) = Int64.ofNat (if y = t then pu_s (fun m => if sm_ g (aV_ A) m = z then by_ A t m e else 0) u else Z y z e)) → ab_Fr MX5_addWeights (d + 1) Q 27 [some (.ref 191), some (.ref m), some (.int (Int32.ofNat (2 ^ aV_ A))), some (.int (Int32.ofNat t)), some (.int (Int32.ofNat u)), none, none, none] [] (0, 0) (i, l2, dd, x) (ab_E0 sc) := by
  intro n
  have w1 := hW.1
  have h32 := p2_5 hV
  induction n with
  | zero =>
    intro u l2 hu g2 z2
    refine tMX5_addWeights_27 hm ⟨fun _ => ?_, fun c => ?_⟩
    · refine tMX5_addWeights_111 hm (hQ l2 g2 (fun y z e hy hz he => ?_))
      rw [z2 y z e hy hz he, show u = 2 ^ aV_ A by omega, by_bx]
    · rw [nn_le (by omega) (by omega)] at c
      omega
  | succ n ih =>
    intro u l2 hu g2 z2
    have hB := sm_B hg (aV_ A) u
    refine tMX5_addWeights_27 hm ⟨fun c => ?_, fun _ => ⟨fun c => ?_, fun _ => ⟨la_vp (by omega) (by omega), ?_⟩⟩⟩
    · rw [nn_le (by omega) (by omega)] at c
      omega
    · rw [show (32 : Int32) = Int32.ofNat 32 from rfl, nn_le (by omega) (by omega)] at c
      omega
    · rw [nn_cl (by omega), h195 u (by omega), nn_m3, nn_m3, show (32 : Int32) = Int32.ofNat 32 from rfl, show (16 : Int32) = Int32.ofNat 16 from rfl, nn_mul, nn_mul, nn_add, nn_add, nn_mul, nn_mul]
      refine aw_70 (d := d) (Z := fun y z e => if y = t then pu_s (fun m => if sm_ g (aV_ A) m = z then by_ A t m e else 0) u else Z y z e) (l0 := l2) hW hm ht (by omega) (by omega) (fun y u e hy hu he => by rw [g2 194 (by omega)]; exact h194 y u e hy hu he) (fun l3 g3 z3 => ih (u + 1) l3 (by omega) (fr_t g2 g3) (fun y z e hy hz he => ?_)) 3 0 l2 rfl fr_r (fun y z e hy hz he => ?_)
      · rw [z3 y z e hy hz he]
        congr 1
        by_cases c : y = t
        · rw [if_pos c, if_pos c]
          show pu_s _ u + (if _ then _ else 0) = pu_s _ u + (if sm_ g (aV_ A) u = z then by_ A t u e else 0)
          by_cases c2 : sm_ g (aV_ A) u = z
          · rw [if_pos ⟨c, c2.symm⟩, if_pos c2]
          · rw [if_neg (fun h => c2 h.2.symm), if_neg c2]
        · rw [if_neg c, if_neg c, if_neg (fun h => c h.1), Nat.add_zero]
      · have e0 : (if y = t ∧ z = sm_ g (aV_ A) u ∧ e < 0 then by_ A t u e else 0) = 0 := if_neg (fun h => Nat.not_lt_zero e h.2.2)
        rw [e0, Nat.add_zero]
        exact z2 y z e hy hz he
theorem aw_115 {A : mA_} {g : Nat → Nat} {m t : Nat} {a2 : Int32} {Z : Nat → Nat → Nat → Nat} (hW : mt_W A) (hB : ∀ u, cx_ A g t u ≤ 15) (hm : ab_isM m) (ht : t < aT_ A) {l0 : Nat → Nat → Int64} {Q : ab_Qt} (hQ : ∀ l2, fr_o 196 196 l0 l2 → (∀ y z e, y < aT_ A → z < 16 → e < aT_ A → l2 196 (3 * (y * 16 + z) + e) = Int64.ofNat (if y = t then av_ A g t z e else Z y z e)) → ab_Fr MX5_addWeights (d + 1) Q 16 [some (.ref 191), some (.ref m), some (.int a2), some (.int (Int32.ofNat (t + 1))), none, none, none, none] [] (0, 0) (i, l2, dd, x) (ab_E0 sc)) :
    ∀ (n : Nat) (l2 : Nat → Nat → Int64), n ≤ 45 → fr_o 196 196 l0 l2 → (∀ y z e, y < aT_ A → z < 16 → e < aT_ A → l2 196 (3 * (y * 16 + z) + e) = Int64.ofNat (if y = t then (if n ≤ 3 * z + e then av_ A g t z e else bx_ A g t z e) else Z y z e)) → ab_Fr MX5_addWeights (d + 1) Q 115 [some (.ref 191), some (.ref m), some (.int a2), some (.int (Int32.ofNat t)), some (.int (Int32.ofNat n + (-1))), none, none, none] [] (0, 0) (i, l2, dd, x) (ab_E0 sc) := by
  intro n
  have w1 := hW.1
  induction n with
  | zero =>
    intro l2 hn g2 z2
    refine tMX5_addWeights_115 hm ⟨fun _ => ?_, fun c => absurd (show (Int32.ofNat 0 + (-1)) < 0 by decide) c⟩
    rw [la_nx]
    refine hQ l2 g2 (fun y z e hy hz he => ?_)
    rw [z2 y z e hy hz he, if_pos (Nat.zero_le (3 * z + e))]
  | succ n ih =>
    intro l2 hn g2 z2
    rw [nn_m1 (by omega), show n + 1 - 1 = n by omega]
    refine tMX5_addWeights_115 hm ⟨fun c => absurd c (la_nn (by omega)).1, fun _ => ?_⟩
    rw [nn_m3, show (16 : Int32) = Int32.ofNat 16 from rfl, nn_p3, nn_mul, nn_mul, nn_add, nn_add, nn_cl (by omega), nn_cl (by omega)]
    refine ⟨la_vp (by omega) (by omega), la_vp (by omega) (by omega), la_vp (by omega) (by omega), ?_⟩
    rintro l3 rfl
    refine ih _ (by omega) (fr_u g2 (by omega)) (fun y z e hy hz he => ?_)
    by_cases c : y = t ∧ 3 * z + e = n
    · obtain ⟨rfl, c⟩ := c
      have e1 := z2 y z e hy hz he
      have e2 := z2 y (z + 1) e hy (by omega) he
      rw [if_pos rfl, if_neg (by omega), show 3 * (y * 16 + z) + e = 3 * (y * 16) + n by omega] at e1
      rw [if_pos rfl, if_pos (by omega), show 3 * (y * 16 + (z + 1)) + e = 3 * (y * 16) + n + 3 by omega] at e2
      rw [show 3 * (y * 16 + z) + e = 3 * (y * 16) + n by omega, uu_e, if_pos rfl, if_pos (by omega), e1, e2, nl_add, av_s]
    · rw [uu_j (by omega), z2 y z e hy hz he]
      congr 1
      by_cases c2 : y = t
      · rw [if_pos c2, if_pos c2]
        by_cases c3 : n ≤ 3 * z + e
        · rw [if_pos c3, if_pos (by omega)]
        · rw [if_neg c3, if_neg (by omega)]
      · rw [if_neg c2, if_neg c2]
theorem mt_addW {A : mA_} {g : Nat → Nat} {m : Nat} (hW : mt_W A) (hV : aV_ A ≤ 5) (hg : ∀ v, g v ≤ 3) (hm : ab_isM m) (hK : mt_K A m i) (h194 : ∀ y u e, y < aT_ A → u < 32 → e < aT_ A → l 194 (3 * (y * 32 + u) + e) = Int64.ofNat (by_ A y u e)) (h195 : ∀ u, u < 2 ^ aV_ A → i 195 u = Int32.ofNat (sm_ g (aV_ A) u)) : ab_Sp MX5_addWeights (d + 2) [.ref 191, .ref m] (i, l, dd, x) (ab_E0 sc) none (fun σ => ∃ l2, σ = (i, l2, dd, x) ∧ fr_o 196 196 l l2 ∧ ∀ y z e, y < aT_ A → z < 16 → e < aT_ A → l2 196 (3 * (y * 16 + z) + e) = Int64.ofNat (av_ A g y z e)) := by
  have w1 := hW.1
  have h32 := p2_5 hV
  have hB : ∀ t u, cx_ A g t u ≤ 15 := fun t u => cx_B hV hg
  refine ab_ent (n := 1) okMX5_addWeights.1 (fun G => Nat.le_of_ble_eq_true rfl) (fun Q hQ => ?_)
  refine tMX5_addWeights_0 (d := d + 1) hm ⟨_, mt_emptyL (d := d) (a := 196) (n := 144) rfl (by omega), ?_⟩
  rintro i5 l6 dd7 x8 ⟨l2, ⟨⟩, f2, z2⟩
  rw [hK.1.2, p2_V hV]
  have go : ∀ (n t : Nat) (l3 : Nat → Nat → Int64), aT_ A = t + n → fr_o 196 196 l l3 → (∀ y z e, y < aT_ A → z < 16 → e < aT_ A → l3 196 (3 * (y * 16 + z) + e) = Int64.ofNat (if y < t then av_ A g y z e else 0)) → ab_Fr MX5_addWeights (d + 2) Q 16 [some (.ref 191), some (.ref m), some (.int (Int32.ofNat (2 ^ aV_ A))), some (.int (Int32.ofNat t)), none, none, none, none] [] (0, 0) (i, l3, dd, x) (ab_E0 sc) := by
    intro n
    induction n with
    | zero =>
      intro t l3 ht g3 z3
      refine tMX5_addWeights_16 (d := d + 1) hm ⟨fun _ => hQ _ ⟨l3, rfl, g3, fun y z e hy hz he => ?_⟩, fun c => ?_⟩
      · rw [z3 y z e hy hz he, if_pos (by omega)]
      · rw [hK.1.1, nn_le (by omega) (by omega)] at c
        omega
    | succ n ih =>
      intro t l3 ht g3 z3
      refine tMX5_addWeights_16 (d := d + 1) hm ⟨fun c => ?_, fun _ => ?_⟩
      · rw [hK.1.1, nn_le (by omega) (by omega)] at c
        omega
      · refine aw_27 (d := d + 1) (g := g) (t := t) (Z := fun y z e => if y < t then av_ A g y z e else 0) (l0 := l3) hW hV hg hm (by omega) (fun y u e hy hu he => by rw [g3 194 (by omega)]; exact h194 y u e hy hu he) h195 (fun l4 g4 z4 => ?_) _ 0 l3 (Nat.zero_add _).symm fr_r (fun y z e hy hz he => ?_)
        · refine aw_115 (d := d + 1) (g := g) (t := t) (Z := fun y z e => if y < t then av_ A g y z e else 0) (l0 := l4) hW (hB t) hm (by omega) (fun l5 g5 z5 => ih (t + 1) l5 (by omega) (fr_t g3 (fr_t g4 g5)) (fun y z e hy hz he => ?_)) 45 l4 (Nat.le_refl _) fr_r (fun y z e hy hz he => ?_)
          · rw [z5 y z e hy hz he]
            congr 1
            by_cases c : y = t
            · rw [if_pos c, if_pos (by omega), c]
            · rw [if_neg c]
              by_cases c2 : y < t
              · rw [if_pos c2, if_pos (by omega)]
              · rw [if_neg c2, if_neg (by omega)]
          · rw [z4 y z e hy hz he]
            congr 1
            by_cases c : y = t
            · rw [if_pos c, if_pos c]
              by_cases c2 : 45 ≤ 3 * z + e
              · rw [if_pos c2]
                have h := av_s (A := A) (w := g) (t := t) (s := z) (e := e)
                rw [show z + 1 = 16 by omega, av_16 (hB t), Nat.add_zero] at h
                exact h
              · rw [if_neg c2]
            · rw [if_neg c, if_neg c]
        · rw [z3 y z e hy hz he]
          congr 1
          by_cases c : y = t
          · rw [if_pos c, if_neg (by omega)]
            rfl
          · rw [if_neg c]
  refine go _ 0 l6 (Nat.zero_add _).symm f2 (fun y z e hy hz he => ?_)
  rw [z2 _ (by omega), if_neg (Nat.not_lt_zero y)]
end TQP3
