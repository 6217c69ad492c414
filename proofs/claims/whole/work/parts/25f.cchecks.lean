/-! LINES, the class: checks -/
section TKF
variable {d : Nat} {sc : Nat × (Nat → Int32)} {i : Nat → Nat → Int32} {l : Nat → Nat → Int64} {dd : Nat → Nat → Value} {x : Nat}
def kt_ (k : Nat) : Int32 := if k = 99 then -1 else Int32.ofNat k
/-- a common loss, resolved -/
def kr_ (K : Nat → Nat) (t e : Nat) : Nat := if K (63 + 3 * t + e) = 99 then (if t = e then 0 else 1) else K (63 + 3 * t + e)
/-- the class's draft in cell m and its names -/
def cR_ (st : ps_) (m : Nat) (i : Nat → Nat → Int32) (l : Nat → Nat → Int64) : Prop := (i m 0 = Int32.ofNat (st 0 0) ∧ i m 1 = Int32.ofNat (st 0 1)) ∧ (i m 2 = Int32.ofNat (st 0 2) ∧ (0 < st 0 2 → i m 3 = Int32.ofNat (st 0 3) ∧ i m 4 = Int32.ofNat (st 0 4)) ∧ i m 5 = mt_h (st 0 5)) ∧
  (∀ t, t < 3 → i (m + 1) t = if t < st 0 0 then Int32.ofNat (st 3 t) else 0) ∧ (∀ t e, t < 3 → e < 3 → i (m + 3) (3 * t + e) = Int32.ofNat (kr_ (st 6) t e)) ∧
  (∀ v, v < st 0 1 → i (m + 5 + 6 * v) 0 = Int32.ofNat (st 4 v) ∧ i (m + 5 + 6 * v) 1 = Int32.ofNat (st 10 v) ∧ i (m + 5 + 6 * v) 2 = Int32.ofNat (st 7 v) ∧ (st 7 v = 2 → i (m + 5 + 6 * v) 3 = Int32.ofNat (st 8 v))) ∧
  (∀ v s t, v < st 0 1 → s < st 4 v → t < 3 → i (m + 5 + 6 * v + 1) (3 * t + s) = if t < st 0 0 then Int32.ofNat (st 5 (9 * v + 3 * s + t)) else 0) ∧
  (∀ v t e, v < st 0 1 → t < 3 → e < 3 → i (m + 5 + 6 * v + 2) (3 * t + e) = kt_ (st 6 (9 * v + 3 * t + e))) ∧
  (∀ v s, v < st 0 1 → st 7 v = 3 → s < st 4 v → i (m + 5 + 6 * v + 5) s = Int32.ofNat (st 9 (3 * v + s))) ∧
  (∀ t, t < st 0 0 → l 158 t = Int64.ofNat (st 1 t)) ∧ (∀ v, v < st 0 1 → l 159 v = Int64.ofNat (st 2 v)) ∧ i 157 3 = Int32.ofNat (st 0 6)
theorem cR_f {st : ps_} {m : Nat} {i2 : Nat → Nat → Int32} {l2 : Nat → Nat → Int64} (hR : cR_ st m i l) (hV : st 0 1 ≤ 7) (hi : ∀ k, m ≤ k → k ≤ m + 46 → i2 k = i k) (h3 : i2 157 3 = i 157 3) (hl : l2 158 = l 158 ∧ l2 159 = l 159) : cR_ st m i2 l2 := by
  unfold cR_
  rw [hi m (by omega) (by omega), hi (m + 1) (by omega) (by omega), hi (m + 3) (by omega) (by omega), hl.1, hl.2, h3]
  obtain ⟨r1, r2, r3, r4, r5, r6, r7, r8, r9, r10, r11⟩ := hR
  refine ⟨r1, r2, r3, r4, fun v hv => ?_, fun v s t hv hs ht => ?_, fun v t e hv ht he => ?_, fun v s hv h7 hs => ?_, r9, r10, r11⟩
  · rw [hi (m + 5 + 6 * v) (by omega) (by omega)]
    exact r5 v hv
  · rw [hi (m + 5 + 6 * v + 1) (by omega) (by omega)]
    exact r6 v s t hv hs ht
  · rw [hi (m + 5 + 6 * v + 2) (by omega) (by omega)]
    exact r7 v t e hv ht he
  · rw [hi (m + 5 + 6 * v + 5) (by omega) (by omega)]
    exact r8 v s hv h7 hs
/-- what a check changes -/
def sf_ (i i2 : Nat → Nat → Int32) (l l2 : Nat → Nat → Int64) : Prop := (∀ k j, ¬ (k = 157 ∧ (j = 0 ∨ 4 ≤ j)) → i2 k j = i k j) ∧ ∀ k j, ¬ (k = 157 ∧ j = 7) → l2 k j = l k j
theorem sf_r : sf_ i i l l := ⟨fun _ _ _ => rfl, fun _ _ _ => rfl⟩
theorem sf_t {i2 i3 : Nat → Nat → Int32} {l2 l3 : Nat → Nat → Int64} (h1 : sf_ i i2 l l2) (h2 : sf_ i2 i3 l2 l3) : sf_ i i3 l l3 := ⟨fun k j h => (h2.1 k j h).trans (h1.1 k j h), fun k j h => (h2.2 k j h).trans (h1.2 k j h)⟩
theorem sf_of {i2 : Nat → Nat → Int32} {l2 : Nat → Nat → Int64} (h : rf_ i i2 l l2) : sf_ i i2 l l2 := ⟨fun k j hk => h.1 k j (by omega), h.2⟩
theorem sf_u {i2 : Nat → Nat → Int32} {l2 : Nat → Nat → Int64} {q : Nat} {v : Int32} (h1 : sf_ i i2 l l2) (h : q = 0 ∨ 4 ≤ q) : sf_ i (ab_u i2 157 q v) l l2 := ⟨fun k j hk => by
  rw [show ab_u i2 157 q v k j = i2 k j from if_neg (fun e => hk ⟨e.1, by omega⟩)]
  exact h1.1 k j hk, h1.2⟩
theorem sf_z {z : (Nat → Nat) × Nat} {i2 : Nat → Nat → Int32} {l2 : Nat → Nat → Int64} (hT : ct_z z i) (h : sf_ i i2 l l2) : ct_z z i2 := rf_z hT (fun k j hk => h.1 k j (by omega))
theorem cR_s {st : ps_} {m : Nat} {i2 : Nat → Nat → Int32} {l2 : Nat → Nat → Int64} (hm : ab_isM m) (hR : cR_ st m i l) (hV : st 0 1 ≤ 7) (h : sf_ i i2 l l2) : cR_ st m i2 l2 := by
  refine cR_f hR hV (fun k h1 h2 => funext fun j => h.1 k j ?_) (h.1 157 3 (by omega)) ⟨funext fun j => h.2 158 j (by omega), funext fun j => h.2 159 j (by omega)⟩
  rcases hm with rfl | rfl | rfl <;> omega
theorem kx_e {a k : Nat} (hk : k < 16) (ha : a ≤ 16) : (kx_ a = Int32.ofNat k) = (a = k) := by
  unfold kx_
  by_cases c : a = 16
  · rw [if_pos c, nn_me (by omega)]
    exact (eq_false (by omega)).symm
  · rw [if_neg c, nn_eq (by omega) (by omega)]
theorem ct_fail {c : Int32} : ab_Sp MX2_fail (d + 1) [.ref 157, .int c] (i, l, dd, x) (ab_E0 sc) (some (.int 0)) (fun σ => σ = (ab_u i 157 0 c, l, dd, x)) := by
  refine ab_ent (n := 1) okMX2_fail.1 (fun G => Nat.le_of_ble_eq_true rfl) (fun Q hQ => ?_)
  refine tMX2_fail_0 (d := d) ?_
  rintro i1 rfl
  exact hQ _ rfl
def rc_ (c : Nat) : Int32 := if c = 0 then 1 else 0
/-- the end of a check of the token at p -/
def cc_ (z : (Nat → Nat) × Nat) (c p : Nat) (i : Nat → Nat → Int32) (l : Nat → Nat → Int64) (dd : Nat → Nat → Value) (x : Nat) (σ : ab_S) : Prop := ∃ i2 l2, σ = (i2, l2, dd, x) ∧ sf_ i i2 l l2 ∧ (c = 0 → i2 157 0 = i 157 0 ∧ ck_ z p i2 l2 ∧ i2 157 10 = i 157 10 ∧ i2 157 11 = i 157 11) ∧ (c ≠ 0 → i2 157 0 = Int32.ofNat c ∧ i2 157 4 = Int32.ofNat (z_p z p))
theorem cc_y {z : (Nat → Nat) × Nat} {p : Nat} {i2 : Nat → Nat → Int32} {l2 : Nat → Nat → Int64} (f : rf_ i i2 l l2) (k : ck_ z p i2 l2) : cc_ z 0 p i l dd x (i2, l2, dd, x) := ⟨i2, l2, rfl, sf_of f, fun _ => ⟨f.1 157 0 (by omega), k, f.1 157 10 (by omega), f.1 157 11 (by omega)⟩, fun h => absurd rfl h⟩
theorem cc_n {z : (Nat → Nat) × Nat} {c p : Nat} {i2 : Nat → Nat → Int32} {l2 : Nat → Nat → Int64} (hc : c ≠ 0) (f : rf_ i i2 l l2) (k : ck_ z p i2 l2) : cc_ z c p i l dd x (ab_u i2 157 0 (Int32.ofNat c), l2, dd, x) := ⟨_, l2, rfl, sf_u (sf_of f) (Or.inl rfl), fun h => absurd h hc, fun _ => ⟨uu_e, by rw [uu_j (by omega)]; exact k.1⟩⟩
theorem ct_num {z : (Nat → Nat) × Nat} {a b p : Nat} (hT : ct_z z i) (hp : p ≤ z.2) (h5 : i 157 5 = Int32.ofNat p) (ha : a ≤ 100) (hb : b ≤ 100) : ab_Sp MX2_someNumber (d + 3) [.ref 157, .int (Int32.ofNat a), .int (Int32.ofNat b)] (i, l, dd, x) (ab_E0 sc) (some (.int (rc_ (c_num z a b p)))) (cc_ z (c_num z a b p) p i l dd x) := by
  refine ab_ent (n := 2) okMX2_someNumber.1 (fun G => Nat.le_of_ble_eq_true rfl) (fun Q hQ => ?_)
  refine tMX2_someNumber_0 (d := d + 2) ⟨_, ct_tok (d := d) hT hp h5, ?_⟩
  rintro i5 l6 dd7 x8 ⟨i2, l2, ⟨⟩, f, k⟩
  have hk := z_kl (z := z) (p := p)
  rw [k.2.1, nn_p1, nn_eq (by omega) (by omega)]
  refine ⟨fun c => ?_, fun c => ⟨_, _, ct_fail (d := d + 1), ?_⟩⟩
  · have hv := z_vl hp c
    have hf : ¬ (a ≤ z_v z p ∧ z_v z p ≤ b) → ab_Fr MX2_someNumber (d + 3) Q 34 [some (.ref 157), none, none] [] (0, 0) (i5, l6, dd, x) (ab_E0 sc) := fun y => by
      rw [show c_num z a b p = 2 by unfold c_num; rw [if_pos c, if_neg y]] at hQ
      refine tMX2_someNumber_34 (d := d + 2) ⟨_, _, ct_fail (d := d + 1), ?_⟩
      rintro i7 l8 dd9 x10 ⟨⟩
      exact ⟨fun _ => hQ _ (cc_n (by omega) f k), fun y => absurd rfl y⟩
    rw [k.2.2.2.2.2 c, nn_lt (by omega) (by omega), nn_le (by omega) (by omega)]
    refine ⟨fun c2 => hf (by omega), fun c2 => ⟨fun c3 => ?_, fun c3 => hf (by omega)⟩⟩
    rw [show c_num z a b p = 0 by unfold c_num; rw [if_pos c, if_pos ⟨by omega, c3⟩]] at hQ
    exact hQ _ (cc_y f k)
  · rintro i7 l8 dd9 x10 ⟨⟩
    rw [show c_num z a b p = 1 by unfold c_num; rw [if_neg c]] at hQ
    exact ⟨Or.inl rfl, hQ _ (cc_n (by omega) f k)⟩
theorem ct_key {z : (Nat → Nat) × Nat} {w p : Nat} (hT : ct_z z i) (hp : p ≤ z.2) (h5 : i 157 5 = Int32.ofNat p) (hw : w < 16) : ab_Sp MX2_someKeyword (d + 3) [.ref 157, .int (Int32.ofNat w)] (i, l, dd, x) (ab_E0 sc) (some (.int (rc_ (c_key z w p)))) (cc_ z (c_key z w p) p i l dd x) := by
  refine ab_ent (n := 1) okMX2_someKeyword.1 (fun G => Nat.le_of_ble_eq_true rfl) (fun Q hQ => ?_)
  refine tMX2_someKeyword_0 (d := d + 2) ⟨_, ct_tok (d := d) hT hp h5, ?_⟩
  rintro i5 l6 dd7 x8 ⟨i2, l2, ⟨⟩, f, k⟩
  rw [k.2.2.2.1, kx_e hw z_xl]
  refine ⟨fun c => ?_, fun c => ⟨_, _, ct_fail (d := d + 1), ?_⟩⟩
  · rw [show c_key z w p = 0 from if_pos c] at hQ
    exact hQ _ (cc_y f k)
  · rintro i7 l8 dd9 x10 ⟨⟩
    rw [show c_key z w p = 1 from if_neg c] at hQ
    exact ⟨fun _ => hQ _ (cc_n (by omega) f k), fun y => absurd rfl y⟩
theorem ct_stop {z : (Nat → Nat) × Nat} {p : Nat} (hT : ct_z z i) (hp : p ≤ z.2) (h5 : i 157 5 = Int32.ofNat p) : ab_Sp MX2_stop (d + 3) [.ref 157] (i, l, dd, x) (ab_E0 sc) (some (.int (rc_ (c_stop z p)))) (cc_ z (c_stop z p) p i l dd x) := by
  refine ab_ent (n := 0) okMX2_stop.1 (fun G => Nat.le_of_ble_eq_true rfl) (fun Q hQ => ?_)
  refine tMX2_stop_0 (d := d + 2) ⟨_, ct_tok (d := d) hT hp h5, ?_⟩
  rintro i5 l6 dd7 x8 ⟨i2, l2, ⟨⟩, f, k⟩
  have hk := z_kl (z := z) (p := p)
  rw [k.2.1, nn_p2, nn_eq (by omega) (by omega)]
  refine ⟨fun c => ?_, fun c => ⟨_, _, ct_fail (d := d + 1), ?_⟩⟩
  · rw [show c_stop z p = 0 from if_pos c] at hQ
    exact hQ _ (cc_y f k)
  · rintro i7 l8 dd9 x10 ⟨⟩
    rw [show c_stop z p = 1 from if_neg c] at hQ
    exact ⟨fun _ => hQ _ (cc_n (by omega) f k), fun y => absurd rfl y⟩
/-- names -/
def fx_ (n k : Nat) : Int32 := if k < n then Int32.ofNat k else -1
def c_nam (z : (Nat → Nat) × Nat) (st : ps_) (s p : Nat) : Nat := if zN_ z p then (if (s = 1 ∧ fT_ z st p = st 0 0 ∧ fV_ z st p = st 0 1) ∨ ((s = 2 ∨ s = 6) ∧ fT_ z st p < st 0 0) ∨ ((s = 4 ∨ s = 6) ∧ fV_ z st p < st 0 1) then 0 else 3) else 1
theorem c_nam1 {z : (Nat → Nat) × Nat} {st : ps_} {p : Nat} : c_nam z st 1 p = c_new z st p := by
  unfold c_nam c_new
  by_cases c : zN_ z p
  · rw [if_pos c, if_pos c]
    by_cases c2 : fT_ z st p = st 0 0 ∧ fV_ z st p = st 0 1
    · rw [if_pos c2, if_pos (Or.inl ⟨rfl, c2⟩)]
    · rw [if_neg c2, if_neg (by rintro (h | h | h) <;> omega)]
  · rw [if_neg c, if_neg c]
theorem c_nam2 {z : (Nat → Nat) × Nat} {st : ps_} {p : Nat} : c_nam z st 2 p = c_tr z st p := by
  unfold c_nam c_tr
  by_cases c : zN_ z p
  · rw [if_pos c, if_pos c]
    by_cases c2 : fT_ z st p < st 0 0
    · rw [if_pos c2, if_pos (Or.inr (Or.inl ⟨Or.inl rfl, c2⟩))]
    · rw [if_neg c2, if_neg (by rintro (h | h | h) <;> omega)]
  · rw [if_neg c, if_neg c]
theorem c_nam4 {z : (Nat → Nat) × Nat} {st : ps_} {p : Nat} : c_nam z st 4 p = c_vo z st p := by
  unfold c_nam c_vo
  by_cases c : zN_ z p
  · rw [if_pos c, if_pos c]
    by_cases c2 : fV_ z st p < st 0 1
    · rw [if_pos c2, if_pos (Or.inr (Or.inr ⟨Or.inl rfl, c2⟩))]
    · rw [if_neg c2, if_neg (by rintro (h | h | h) <;> omega)]
  · rw [if_neg c, if_neg c]
def cn_ (z : (Nat → Nat) × Nat) (st : ps_) (c p : Nat) (i : Nat → Nat → Int32) (l : Nat → Nat → Int64) (dd : Nat → Nat → Value) (x : Nat) (σ : ab_S) : Prop := ∃ i2 l2, σ = (i2, l2, dd, x) ∧ sf_ i i2 l l2 ∧ (c = 0 → i2 157 0 = i 157 0 ∧ ck_ z p i2 l2 ∧ i2 157 10 = fx_ (st 0 0) (fT_ z st p) ∧ i2 157 11 = fx_ (st 0 1) (fV_ z st p)) ∧ (c ≠ 0 → i2 157 0 = Int32.ofNat c ∧ i2 157 4 = Int32.ofNat (z_p z p))
/-- what the names need -/
def cN_ (st : ps_) (m : Nat) (i : Nat → Nat → Int32) (l : Nat → Nat → Int64) : Prop := (st 0 0 ≤ 3 ∧ st 0 1 ≤ 7 ∧ i m 0 = Int32.ofNat (st 0 0) ∧ i m 1 = Int32.ofNat (st 0 1)) ∧ (∀ t, t < st 0 0 → l 158 t = Int64.ofNat (st 1 t)) ∧ (∀ v, v < st 0 1 → l 159 v = Int64.ofNat (st 2 v)) ∧ PB_ (st 0 0) (st 0 1) (st 1) (st 2)
theorem ck_u {z : (Nat → Nat) × Nat} {p q : Nat} {v : Int32} (k : ck_ z p i l) (hq : q = 10 ∨ q = 11) : ck_ z p (ab_u i 157 q v) l := by
  obtain ⟨k1, k2, k3, k4, k5, k6⟩ := k
  refine ⟨?_, ?_, fun h => ?_, ?_, k5, fun h => ?_⟩
  · rw [uu_j (by omega)]
    exact k1
  · rw [uu_j (by omega)]
    exact k2
  · rw [uu_j (by omega)]
    exact k3 h
  · rw [uu_j (by omega)]
    exact k4
  · rw [uu_j (by omega)]
    exact k6 h
theorem ct_isName {z : (Nat → Nat) × Nat} {st : ps_} {m p s : Nat} (hp : p ≤ z.2) (hm : ab_isM m) (hd : dd 157 2 = .ref m) (hN : cN_ st m i l) (k : ck_ z p i l) (hs : s = 1 ∨ s = 2 ∨ s = 4 ∨ s = 6) : ab_Sp MX2_isName (d + 2) [.ref 157, .int (Int32.ofNat s)] (i, l, dd, x) (ab_E0 sc) (some (.int (rc_ (c_nam z st s p)))) (cn_ z st (c_nam z st s p) p i l dd x) := by
  obtain ⟨⟨a1, a2, m0, m1⟩, nt, nv, n1, n2, n3, n4, n5⟩ := hN
  have hm7 : m ≠ 157 := by rcases hm with rfl | rfl | rfl <;> omega
  have hk := z_kl (z := z) (p := p)
  refine ab_ent (n := 1) okMX2_isName.1 (fun G => Nat.le_of_ble_eq_true rfl) (fun Q hQ => ?_)
  have hno : ¬ zN_ z p → ab_Fr MX2_isName (d + 2) Q 15 [some (.ref 157), none, none, none] [] (0, 0) (i, l, dd, x) (ab_E0 sc) := fun c => by
    rw [show c_nam z st s p = 1 from if_neg c] at hQ
    refine tMX2_isName_15 (d := d + 1) ⟨_, _, ct_fail (d := d), ?_⟩
    rintro i5 l6 dd7 x8 ⟨⟩
    exact ⟨Or.inl rfl, hQ _ ⟨_, l, rfl, sf_u sf_r (Or.inl rfl), fun y => absurd y (by decide), fun _ => ⟨uu_e, by rw [uu_j (by omega)]; exact k.1⟩⟩⟩
  refine tMX2_isName_0 (d := d + 1) ?_
  rw [k.2.1, k.2.2.2.1, nn_p0, nn_eq (by omega) (by omega)]
  refine ⟨fun c => hno (fun y => c y.1), fun c => ⟨fun c2 => ?_, fun c2 => hno (fun y => c2 (by rw [y.2]; rfl))⟩⟩
  have hz : zN_ z p := ⟨c, Classical.byContradiction (fun y => by
    have e : kx_ (z_x z p) = Int32.ofNat (z_x z p) := if_neg y
    have := z_xl (z := z) (p := p)
    rw [e, nn_em (by omega)] at c2
    exact c2)⟩
  obtain ⟨g1, g2, g3⟩ := z_wk hp c
  have hW : l 157 7 = Int64.ofNat (z_w z p) := k.2.2.2.2.1 c
  obtain ⟨fv1, fv2, fv3⟩ := fi_l (f := st 2) (w := z_w z p) (st 0 1)
  obtain ⟨ft1, ft2, ft3⟩ := fi_l (f := st 1) (w := z_w z p) (st 0 0)
  rintro i3 rfl
  -- the voters
  have go2 : ∀ (n j : Nat) (i2 : Nat → Nat → Int32), st 0 1 = j + n → sf_ i i2 l l → ck_ z p i2 l → i2 157 0 = i 157 0 → i2 157 10 = fx_ (st 0 0) (fT_ z st p) → i2 157 11 = fx_ j (fi_ (st 2) (z_w z p) j) → ab_Fr MX2_isName (d + 2) Q 75 [some (.ref 157), some (.int (Int32.ofNat s)), some (.int (if fi_ (st 2) (z_w z p) j < j then 4 else if fT_ z st p < st 0 0 then 2 else 1)), some (.int (Int32.ofNat j))] [] (0, 0) (i2, l, dd, x) (ab_E0 sc) := by
    intro n
    induction n with
    | zero =>
      intro j i2 hj f2 k2 h0 h10 h11
      have e1 : i2 m 1 = Int32.ofNat (st 0 1) := by rw [f2.1 m 1 (by omega)]; exact m1
      rw [show j = st 0 1 by omega] at h11 ⊢
      refine tMX2_isName_75 (d := d + 1) ⟨m, hd, hm, fun _ => ?_, fun c3 => ?_⟩
      · have hx : fT_ z st p < st 0 0 → ¬ fV_ z st p < st 0 1 := fun y1 y2 => n5 _ _ y1 y2 ((ft2 y1).trans (fv2 y2).symm)
        have hyes : ((s = 1 ∧ fT_ z st p = st 0 0 ∧ fV_ z st p = st 0 1) ∨ ((s = 2 ∨ s = 6) ∧ fT_ z st p < st 0 0) ∨ ((s = 4 ∨ s = 6) ∧ fV_ z st p < st 0 1)) → Q (some (some (.int 1))) (i2, l, dd, x) (ab_E0 sc) := fun y => by
          rw [show c_nam z st s p = 0 by unfold c_nam; rw [if_pos hz, if_pos y]] at hQ
          exact hQ _ ⟨i2, l, rfl, f2, fun _ => ⟨h0, k2, h10, h11⟩, fun h => absurd rfl h⟩
        have hnot : ¬ ((s = 1 ∧ fT_ z st p = st 0 0 ∧ fV_ z st p = st 0 1) ∨ ((s = 2 ∨ s = 6) ∧ fT_ z st p < st 0 0) ∨ ((s = 4 ∨ s = 6) ∧ fV_ z st p < st 0 1)) → ∃ (r5 : Int32) (P6 : ab_S → Prop), ab_Sp MX2_fail (d + 1) [.ref 157, .int 3] (i2, l, dd, x) (ab_E0 sc) (some (.int r5)) P6 ∧ ∀ i9 l10 dd11 x12, P6 (i9, l10, dd11, x12) → ((r5 = 0 → Q (some (some (.int 0))) (i9, l10, dd11, x12) (ab_E0 sc)) ∧ (¬ r5 = 0 → Q (some (some (.int 1))) (i9, l10, dd11, x12) (ab_E0 sc))) := fun y => by
          rw [show c_nam z st s p = 3 by unfold c_nam; rw [if_pos hz, if_neg y]] at hQ
          refine ⟨_, _, ct_fail (d := d), ?_⟩
          rintro i9 l10 dd11 x12 ⟨⟩
          exact ⟨fun _ => hQ _ ⟨_, l, rfl, sf_u f2 (Or.inl rfl), fun y => absurd y (by decide), fun _ => ⟨uu_e, by rw [uu_j (by omega)]; exact k2.1⟩⟩, fun y => absurd rfl y⟩
        by_cases d1 : fV_ z st p < st 0 1
        · have d2 : ¬ fT_ z st p < st 0 0 := fun y => hx y d1
          rw [show (if fi_ (st 2) (z_w z p) (st 0 1) < st 0 1 then (4 : Int32) else if fT_ z st p < st 0 0 then 2 else 1) = 4 from if_pos d1]
          rcases hs with rfl | rfl | rfl | rfl
          · exact ⟨fun y => absurd rfl y, fun _ => hnot (by omega)⟩
          · exact ⟨fun y => absurd rfl y, fun _ => hnot (by omega)⟩
          · exact ⟨fun _ => hyes (by omega), fun y => absurd y (by decide)⟩
          · exact ⟨fun _ => hyes (by omega), fun y => absurd y (by decide)⟩
        · rw [show (if fi_ (st 2) (z_w z p) (st 0 1) < st 0 1 then (4 : Int32) else if fT_ z st p < st 0 0 then 2 else 1) = if fT_ z st p < st 0 0 then 2 else 1 from if_neg d1]
          have d1' : fV_ z st p = st 0 1 := by unfold fV_ at d1 ⊢; omega
          by_cases d2 : fT_ z st p < st 0 0
          · rw [if_pos d2]
            rcases hs with rfl | rfl | rfl | rfl
            · exact ⟨fun y => absurd rfl y, fun _ => hnot (by omega)⟩
            · exact ⟨fun _ => hyes (by omega), fun y => absurd y (by decide)⟩
            · exact ⟨fun y => absurd rfl y, fun _ => hnot (by omega)⟩
            · exact ⟨fun _ => hyes (by omega), fun y => absurd y (by decide)⟩
          · rw [if_neg d2]
            have d2' : fT_ z st p = st 0 0 := by unfold fT_ at d2 ⊢; omega
            rcases hs with rfl | rfl | rfl | rfl
            · exact ⟨fun _ => hyes (by omega), fun y => absurd y (by decide)⟩
            · exact ⟨fun y => absurd rfl y, fun _ => hnot (by omega)⟩
            · exact ⟨fun y => absurd rfl y, fun _ => hnot (by omega)⟩
            · exact ⟨fun y => absurd rfl y, fun _ => hnot (by omega)⟩
      · rw [e1, nn_le (by omega) (by omega)] at c3
        omega
    | succ n ih =>
      intro j i2 hj f2 k2 h0 h10 h11
      have e1 : i2 m 1 = Int32.ofNat (st 0 1) := by rw [f2.1 m 1 (by omega)]; exact m1
      have e : fi_ (st 2) (z_w z p) (j + 1) = if fi_ (st 2) (z_w z p) j < j then fi_ (st 2) (z_w z p) j else if st 2 j = z_w z p then j else j + 1 := rfl
      obtain ⟨u1, u2, u3⟩ := fi_l (f := st 2) (w := z_w z p) j
      refine tMX2_isName_75 (d := d + 1) ⟨m, hd, hm, fun c3 => ?_, fun _ => ⟨la_vp (by omega) (by omega), ?_⟩⟩
      · rw [e1, nn_le (by omega) (by omega)] at c3
        omega
      · rw [nn_cl (by omega), nv j (by omega), hW, nl_eq (n2 j (by omega)).2 g2, la_nx]
        refine ⟨fun c4 => ?_, fun c4 => ?_⟩
        · have hi := ih (j + 1) i2 (by omega) f2 k2 h0 h10
          rw [e] at hi
          by_cases c5 : fi_ (st 2) (z_w z p) j < j
          · rw [if_pos c5] at hi ⊢
            rw [if_pos (by omega)] at hi
            exact hi (by rw [h11]; unfold fx_; rw [if_pos c5, if_pos (by omega)])
          · rw [if_neg c5, if_neg c4] at hi
            rw [if_neg c5]
            rw [if_neg (by omega)] at hi
            exact hi (by rw [h11]; unfold fx_; rw [if_neg c5, if_neg (by omega)])
        · rintro i16 rfl
          have c5 : ¬ fi_ (st 2) (z_w z p) j < j := fun y => by
            have := n4 _ _ (by omega) (by omega) ((u2 y).trans c4.symm)
            omega
          have hi := ih (j + 1) (ab_u i2 157 11 (Int32.ofNat j)) (by omega) (sf_u f2 (by omega)) (ck_u k2 (Or.inr rfl)) (by rw [uu_j (by omega)]; exact h0) (by rw [uu_j (by omega)]; exact h10)
          rw [e, if_neg c5, if_pos c4, if_pos (by omega)] at hi
          exact hi (by rw [uu_e]; unfold fx_; rw [if_pos (by omega)])
  have go1 : ∀ (n j : Nat) (i2 : Nat → Nat → Int32), st 0 0 = j + n → sf_ i i2 l l → ck_ z p i2 l → i2 157 0 = i 157 0 → i2 157 10 = fx_ j (fi_ (st 1) (z_w z p) j) → ab_Fr MX2_isName (d + 2) Q 30 [some (.ref 157), some (.int (Int32.ofNat s)), some (.int (if fi_ (st 1) (z_w z p) j < j then 2 else 1)), some (.int (Int32.ofNat j))] [] (0, 0) (i2, l, dd, x) (ab_E0 sc) := by
    intro n
    induction n with
    | zero =>
      intro j i2 hj f2 k2 h0 h10
      have e1 : i2 m 0 = Int32.ofNat (st 0 0) := by rw [f2.1 m 0 (by omega)]; exact m0
      rw [show j = st 0 0 by omega] at h10 ⊢
      refine tMX2_isName_30 (d := d + 1) ⟨m, hd, hm, fun _ => ?_, fun c3 => ?_⟩
      · rintro i4 rfl
        exact go2 (st 0 1) 0 _ (Nat.zero_add _).symm (sf_u f2 (by omega)) (ck_u k2 (Or.inr rfl)) (by rw [uu_j (by omega)]; exact h0) (by rw [uu_j (by omega)]; exact h10) uu_e
      · rw [e1, nn_le (by omega) (by omega)] at c3
        omega
    | succ n ih =>
      intro j i2 hj f2 k2 h0 h10
      have e1 : i2 m 0 = Int32.ofNat (st 0 0) := by rw [f2.1 m 0 (by omega)]; exact m0
      have e : fi_ (st 1) (z_w z p) (j + 1) = if fi_ (st 1) (z_w z p) j < j then fi_ (st 1) (z_w z p) j else if st 1 j = z_w z p then j else j + 1 := rfl
      obtain ⟨u1, u2, u3⟩ := fi_l (f := st 1) (w := z_w z p) j
      refine tMX2_isName_30 (d := d + 1) ⟨m, hd, hm, fun c3 => ?_, fun _ => ⟨la_vp (by omega) (by omega), ?_⟩⟩
      · rw [e1, nn_le (by omega) (by omega)] at c3
        omega
      · rw [nn_cl (by omega), nt j (by omega), hW, nl_eq (n1 j (by omega)).2 g2, la_nx]
        refine ⟨fun c4 => ?_, fun c4 => ?_⟩
        · have hi := ih (j + 1) i2 (by omega) f2 k2 h0
          rw [e] at hi
          by_cases c5 : fi_ (st 1) (z_w z p) j < j
          · rw [if_pos c5] at hi ⊢
            rw [if_pos (by omega)] at hi
            exact hi (by rw [h10]; unfold fx_; rw [if_pos c5, if_pos (by omega)])
          · rw [if_neg c5, if_neg c4] at hi
            rw [if_neg c5]
            rw [if_neg (by omega)] at hi
            exact hi (by rw [h10]; unfold fx_; rw [if_neg c5, if_neg (by omega)])
        · rintro i16 rfl
          have c5 : ¬ fi_ (st 1) (z_w z p) j < j := fun y => by
            have := n3 _ _ (by omega) (by omega) ((u2 y).trans c4.symm)
            omega
          have hi := ih (j + 1) (ab_u i2 157 10 (Int32.ofNat j)) (by omega) (sf_u f2 (by omega)) (ck_u k2 (Or.inl rfl)) (by rw [uu_j (by omega)]; exact h0)
          rw [e, if_neg c5, if_pos c4, if_pos (by omega)] at hi
          exact hi (by rw [uu_e]; unfold fx_; rw [if_pos (by omega)])
  exact go1 (st 0 0) 0 _ (Nat.zero_add _).symm (sf_u sf_r (by omega)) (ck_u k (Or.inl rfl)) (by rw [uu_j (by omega)]) uu_e
theorem cN_s {st : ps_} {m : Nat} {i2 : Nat → Nat → Int32} {l2 : Nat → Nat → Int64} (hm : ab_isM m) (hN : cN_ st m i l) (h : sf_ i i2 l l2) : cN_ st m i2 l2 := by
  have hm7 : m ≠ 157 := by rcases hm with rfl | rfl | rfl <;> omega
  obtain ⟨⟨a1, a2, m0, m1⟩, nt, nv, hB⟩ := hN
  refine ⟨⟨a1, a2, ?_, ?_⟩, fun t ht => ?_, fun v hv => ?_, hB⟩
  · rw [h.1 m 0 (by omega)]
    exact m0
  · rw [h.1 m 1 (by omega)]
    exact m1
  · rw [h.2 158 t (by omega)]
    exact nt t ht
  · rw [h.2 159 v (by omega)]
    exact nv v hv
theorem ct_name {z : (Nat → Nat) × Nat} {st : ps_} {m p s : Nat} (hT : ct_z z i) (hp : p ≤ z.2) (h5 : i 157 5 = Int32.ofNat p) (hm : ab_isM m) (hd : dd 157 2 = .ref m) (hN : cN_ st m i l) (hs : s = 1 ∨ s = 2 ∨ s = 4 ∨ s = 6) : ab_Sp MX2_someName (d + 3) [.ref 157, .int (Int32.ofNat s)] (i, l, dd, x) (ab_E0 sc) (some (.int (rc_ (c_nam z st s p)))) (cn_ z st (c_nam z st s p) p i l dd x) := by
  refine ab_ent (n := 1) okMX2_someName.1 (fun G => Nat.le_of_ble_eq_true rfl) (fun Q hQ => ?_)
  refine tMX2_someName_0 (d := d + 2) ⟨_, ct_tok (d := d) hT hp h5, ?_⟩
  rintro i5 l6 dd7 x8 ⟨i2, l2, ⟨⟩, f, k⟩
  refine ⟨_, _, ct_isName (d := d) (st := st) hp hm hd (cN_s hm hN (sf_of f)) k hs, ?_⟩
  rintro i9 l10 dd11 x12 ⟨i3, l3, ⟨⟩, f3, y3, n3⟩
  refine ⟨?_, hQ _ ⟨i9, l10, rfl, sf_t (sf_of f) f3, fun c => ?_, n3⟩⟩
  · unfold rc_
    split
    · exact Or.inr rfl
    · exact Or.inl rfl
  · obtain ⟨q1, q2, q3, q4⟩ := y3 c
    exact ⟨q1.trans (f.1 157 0 (by omega)), q2, q3, q4⟩
end TKF
