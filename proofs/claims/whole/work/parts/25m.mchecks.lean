/-! LINES, the model: checks -/
section TKM
variable {d : Nat} {sc : Nat × (Nat → Int32)} {i : Nat → Nat → Int32} {l : Nat → Nat → Int64} {dd : Nat → Nat → Value} {x : Nat}
theorem cv_b : ∀ k W, gw_ k W → cv_ k W < 27 ^ k := by
  intro k
  induction k with
  | zero => intro W _; exact Nat.zero_lt_one
  | succ k ih =>
    intro W h
    by_cases c : W = 0
    · rw [c, cv_0]
      exact Nat.pow_pos (by omega)
    · rcases h with h | ⟨h1, h2, h3⟩
      · exact absurd h c
      · have := ih _ h3
        rw [show cv_ (k + 1) W = 27 * cv_ k (W / 256) + W % 256 - 96 from if_neg c, Nat.pow_succ]
        omega
theorem cv_6 {W : Nat} (h : gw_ 6 W) : cv_ 6 W < 2 ^ 63 := by
  have h1 := cv_b 6 W h
  have e : (27 : Nat) ^ 6 = 387420489 := rfl
  omega
theorem mkk_2 {z : (Nat → Nat) × Nat} {k : Nat} : mkk z k = 2 ↔ k = 0 := by
  unfold mkk
  (repeat' split) <;> omega
theorem mkk_3 {z : (Nat → Nat) × Nat} {k : Nat} : mkk z k = 3 ↔ k = 1 := by
  unfold mkk
  (repeat' split) <;> omega
theorem mkk_4 {z : (Nat → Nat) × Nat} {k : Nat} : mkk z k = 4 ↔ k = 2 := by
  unfold mkk
  (repeat' split) <;> omega
theorem z_xk {z : (Nat → Nat) × Nat} {p w : Nat} (hw : w < 16) : z_x z p = w ↔ z_k z p = 0 ∧ kwN w = z_w z p := by
  refine ⟨fun h => ?_, fun h => ?_⟩
  · have k := z_x0 (show z_x z p < 16 by omega)
    refine ⟨k, ?_⟩
    unfold z_x at h
    rw [if_pos k] at h
    exact (kwi_i 16 (Nat.le_refl _) hw).mp h
  · unfold z_x
    rw [if_pos h.1]
    exact (kwi_i 16 (Nat.le_refl _) hw).mpr h.2
/-- a keyword of the model -/
def kq_ (w : Nat) : Int64 := Int64.ofNat (cv_ 6 (kwN w))
theorem md_isKey {z : (Nat → Nat) × Nat} {p w : Nat} (hp : p ≤ z.2) (hw : w < 16) (k : dk_ z p i l) : ab_Sp MX12_isKey (d + 1) [.ref 205, .long (kq_ w)] (i, l, dd, x) (ab_E0 sc) (some (.int (if z_x z p = w then 1 else 0))) (fun σ => σ = (i, l, dd, x)) := by
  have hm := mkk_l (z := z) (k := z_k z p)
  obtain ⟨-, -, kg⟩ := kw_e hw
  refine ab_ent (n := 1) okMX12_isKey.1 (fun G => Nat.le_of_ble_eq_true rfl) (fun Q hQ => ?_)
  refine tMX12_isKey_0 (d := d) ?_
  rw [k.2.1, nn_p2, nn_eq (by omega) (by omega), mkk_2]
  refine ⟨fun c => ?_, fun c => ?_⟩
  · rw [if_neg (fun y => c ((z_xk hw).mp y).1)] at hQ
    exact hQ _ rfl
  · obtain ⟨g1, g2, g3⟩ := z_wk hp c
    rw [k.2.2.2.1 c]
    unfold kq_
    rw [nl_eq (cv_6 g1) (cv_6 kg)]
    refine ⟨fun c2 => ?_, fun c2 => ?_⟩
    · rw [if_neg (fun y => c2 (by rw [((z_xk hw).mp y).2]))] at hQ
      exact hQ _ rfl
    · rw [if_pos ((z_xk hw).mpr ⟨c, (cv_inj 6 _ _ g1 kg c2).symm⟩)] at hQ
      exact hQ _ rfl
def sp3 (a b c : Int32) : Int64 := ((27 * (((27 * (a.toInt64 - 96)) + b.toInt64) - 96)) + c.toInt64) - 96
def sp4 (a b c e : Int32) : Int64 := if e ≤ 0 then sp3 a b c else ((27 * sp3 a b c) + e.toInt64) - 96
def sp5 (a b c e f : Int32) : Int64 := if f ≤ 0 then sp4 a b c e else ((27 * sp4 a b c e) + f.toInt64) - 96
theorem md_spelt {a b c e f : Int32} : ab_Sp MX12_spelt (d + 1) [.int a, .int b, .int c, .int e, .int f] (i, l, dd, x) (ab_E0 sc) (some (.long (sp5 a b c e f))) (fun σ => σ = (i, l, dd, x)) := by
  refine ab_ent (n := 5) okMX12_spelt.1 (fun G => Nat.le_of_ble_eq_true rfl) (fun Q hQ => ?_)
  have h49 : ab_Fr MX12_spelt (d + 1) Q 49 [none, none, none, none, some (.int f), some (.long (sp4 a b c e)), none] [] (0, 0) (i, l, dd, x) (ab_E0 sc) := by
    refine tMX12_spelt_49 (d := d) ⟨fun y => ?_, fun y => ?_⟩
    · rw [show sp5 a b c e f = sp4 a b c e from if_pos y] at hQ
      exact hQ _ rfl
    · rw [show sp5 a b c e f = ((27 * sp4 a b c e) + f.toInt64) - 96 from if_neg y] at hQ
      exact hQ _ rfl
  refine tMX12_spelt_0 (d := d) ⟨fun y => ?_, fun y => ?_⟩
  · rw [show sp4 a b c e = sp3 a b c from if_pos y] at h49
    exact h49
  · rw [show sp4 a b c e = ((27 * sp3 a b c) + e.toInt64) - 96 from if_neg y] at h49
    exact h49
theorem md_six {a b c e f g : Int32} : ab_Sp MX12_six (d + 2) [.int a, .int b, .int c, .int e, .int f, .int g] (i, l, dd, x) (ab_E0 sc) (some (.long (((27 * sp5 a b c e f) + g.toInt64) - 96))) (fun σ => σ = (i, l, dd, x)) := by
  refine ab_ent (n := 6) okMX12_six.1 (fun G => Nat.le_of_ble_eq_true rfl) (fun Q hQ => ?_)
  refine tMX12_six_0 (d := d + 1) ⟨_, _, md_spelt (d := d), ?_⟩
  rintro i5 l6 dd7 x8 ⟨⟩
  exact hQ _ rfl
theorem md_k5 {z : (Nat → Nat) × Nat} {p w : Nat} {a b c e f : Int32} {G : Int32 → (Nat → Nat → Int32) → (Nat → Nat → Int64) → (Nat → Nat → Value) → Nat → Prop} (hp : p ≤ z.2) (hw : w < 16) (k : dk_ z p i l) (hk : sp5 a b c e f = kq_ w) (hG : G (if z_x z p = w then 1 else 0) i l dd x) : ∃ (r1 : Int64) (P2 : ab_S → Prop), ab_Sp MX12_spelt (d + 1) [.int a, .int b, .int c, .int e, .int f] (i, l, dd, x) (ab_E0 sc) (some (.long r1)) P2 ∧ ∀ i5 l6 dd7 x8, P2 (i5, l6, dd7, x8) → ∃ (r10 : Int32) (P11 : ab_S → Prop), ab_Sp MX12_isKey (d + 1) [.ref 205, .long r1] (i5, l6, dd7, x8) (ab_E0 sc) (some (.int r10)) P11 ∧ ∀ i14 l15 dd16 x17, P11 (i14, l15, dd16, x17) → G r10 i14 l15 dd16 x17 := by
  refine ⟨_, _, md_spelt (d := d), ?_⟩
  rintro i5 l6 dd7 x8 ⟨⟩
  rw [hk]
  refine ⟨_, _, md_isKey (d := d) hp hw k, ?_⟩
  rintro i5 l6 dd7 x8 ⟨⟩
  exact hG
theorem md_k6 {z : (Nat → Nat) × Nat} {p w : Nat} {a b c e f g : Int32} {G : Int32 → (Nat → Nat → Int32) → (Nat → Nat → Int64) → (Nat → Nat → Value) → Nat → Prop} (hp : p ≤ z.2) (hw : w < 16) (k : dk_ z p i l) (hk : ((27 * sp5 a b c e f) + g.toInt64) - 96 = kq_ w) (hG : G (if z_x z p = w then 1 else 0) i l dd x) : ∃ (r1 : Int64) (P2 : ab_S → Prop), ab_Sp MX12_six (d + 2) [.int a, .int b, .int c, .int e, .int f, .int g] (i, l, dd, x) (ab_E0 sc) (some (.long r1)) P2 ∧ ∀ i5 l6 dd7 x8, P2 (i5, l6, dd7, x8) → ∃ (r10 : Int32) (P11 : ab_S → Prop), ab_Sp MX12_isKey (d + 2) [.ref 205, .long r1] (i5, l6, dd7, x8) (ab_E0 sc) (some (.int r10)) P11 ∧ ∀ i14 l15 dd16 x17, P11 (i14, l15, dd16, x17) → G r10 i14 l15 dd16 x17 := by
  refine ⟨_, _, md_six (d := d), ?_⟩
  rintro i5 l6 dd7 x8 ⟨⟩
  rw [hk]
  refine ⟨_, _, md_isKey (d := d + 1) hp hw k, ?_⟩
  rintro i5 l6 dd7 x8 ⟨⟩
  exact hG
theorem md_none : ab_Sp MX12_none (d + 2) [] (i, l, dd, x) (ab_E0 sc) (some (.long (kq_ 11))) (fun σ => σ = (i, l, dd, x)) := by
  refine ab_ent (n := 0) okMX12_none.1 (fun G => Nat.le_of_ble_eq_true rfl) (fun Q hQ => ?_)
  refine tMX12_none_0 (d := d + 1) ⟨_, _, md_spelt (d := d), ?_⟩
  rintro i5 l6 dd7 x8 ⟨⟩
  rw [show sp5 110 111 110 101 0 = kq_ 11 by decide +kernel]
  exact hQ _ rfl
theorem md_chair : ab_Sp MX12_chair (d + 2) [] (i, l, dd, x) (ab_E0 sc) (some (.long (kq_ 13))) (fun σ => σ = (i, l, dd, x)) := by
  refine ab_ent (n := 0) okMX12_chair.1 (fun G => Nat.le_of_ble_eq_true rfl) (fun Q hQ => ?_)
  refine tMX12_chair_0 (d := d + 1) ⟨_, _, md_spelt (d := d), ?_⟩
  rintro i5 l6 dd7 x8 ⟨⟩
  rw [show sp5 99 104 97 105 114 = kq_ 13 by decide +kernel]
  exact hQ _ rfl
theorem md_other : ab_Sp MX12_other (d + 2) [] (i, l, dd, x) (ab_E0 sc) (some (.long (kq_ 15))) (fun σ => σ = (i, l, dd, x)) := by
  refine ab_ent (n := 0) okMX12_other.1 (fun G => Nat.le_of_ble_eq_true rfl) (fun Q hQ => ?_)
  refine tMX12_other_0 (d := d + 1) ⟨_, _, md_spelt (d := d), ?_⟩
  rintro i5 l6 dd7 x8 ⟨⟩
  rw [show sp5 101 108 115 101 0 = kq_ 15 by decide +kernel]
  exact hQ _ rfl
theorem if10 {p : Prop} [Decidable p] : ((if p then (1 : Int32) else 0) = 0) = ¬ p := by
  by_cases h : p
  · rw [if_pos h]
    exact propext ⟨fun y => absurd y (by decide), fun y => absurd h y⟩
  · rw [if_neg h]
    exact propext ⟨fun _ => h, fun _ => rfl⟩
theorem md_line {z : (Nat → Nat) × Nat} {p : Nat} (hp : p ≤ z.2) (k : dk_ z p i l) : ab_Sp MX12_lineAtHand (d + 3) [.ref 205] (i, l, dd, x) (ab_E0 sc) (some (.int (if z_x z p ≤ 5 then Int32.ofNat (z_x z p) else -1))) (fun σ => σ = (i, l, dd, x)) := by
  refine ab_ent (n := 0) okMX12_lineAtHand.1 (fun G => Nat.le_of_ble_eq_true rfl) (fun Q hQ => ?_)
  have hy : ∀ w : Nat, w ≤ 5 → z_x z p = w → Q (some (some (.int (Int32.ofNat w)))) (i, l, dd, x) (ab_E0 sc) := fun w hw e => by
    rw [if_pos (by omega), e] at hQ
    exact hQ _ rfl
  refine tMX12_lineAtHand_0 (d := d + 2) (md_k5 (d := d + 1) (w := 0) hp (by omega) k (by decide +kernel) ?_)
  rw [if10]
  refine ⟨fun c0 => ?_, fun c => hy 0 (by omega) (Classical.byContradiction (fun y => c y))⟩
  refine md_k5 (d := d + 1) (w := 1) hp (by omega) k (by decide +kernel) ?_
  rw [if10]
  refine ⟨fun c1 => ?_, fun c => hy 1 (by omega) (Classical.byContradiction (fun y => c y))⟩
  refine md_k5 (d := d + 1) (w := 2) hp (by omega) k (by decide +kernel) ?_
  rw [if10]
  refine ⟨fun c2 => ?_, fun c => hy 2 (by omega) (Classical.byContradiction (fun y => c y))⟩
  refine md_k5 (d := d + 1) (w := 3) hp (by omega) k (by decide +kernel) ?_
  rw [if10]
  refine ⟨fun c3 => ?_, fun c => hy 3 (by omega) (Classical.byContradiction (fun y => c y))⟩
  refine md_k6 (d := d) (w := 4) hp (by omega) k (by decide +kernel) ?_
  rw [if10]
  refine ⟨fun c4 => ?_, fun c => hy 4 (by omega) (Classical.byContradiction (fun y => c y))⟩
  refine md_k5 (d := d + 1) (w := 5) hp (by omega) k (by decide +kernel) ?_
  rw [if10]
  refine ⟨fun c5 => ?_, fun c => hy 5 (by omega) (Classical.byContradiction (fun y => c y))⟩
  rw [if_neg (by omega)] at hQ
  exact hQ _ rfl
theorem md_wayAt {z : (Nat → Nat) × Nat} {p : Nat} (hp : p ≤ z.2) (k : dk_ z p i l) : ab_Sp MX12_wayAtHand (d + 3) [.ref 205] (i, l, dd, x) (ab_E0 sc) (some (.int (if 7 ≤ z_x z p ∧ z_x z p ≤ 10 then Int32.ofNat (z_x z p - 7) else -1))) (fun σ => σ = (i, l, dd, x)) := by
  refine ab_ent (n := 0) okMX12_wayAtHand.1 (fun G => Nat.le_of_ble_eq_true rfl) (fun Q hQ => ?_)
  have hy : ∀ w : Nat, w ≤ 3 → z_x z p = w + 7 → Q (some (some (.int (Int32.ofNat w)))) (i, l, dd, x) (ab_E0 sc) := fun w hw e => by
    rw [if_pos (by omega), show z_x z p - 7 = w by omega] at hQ
    exact hQ _ rfl
  refine tMX12_wayAtHand_0 (d := d + 2) (md_k6 (d := d) (w := 7) hp (by omega) k (by decide +kernel) ?_)
  rw [if10]
  refine ⟨fun c0 => ?_, fun c => hy 0 (by omega) (Classical.byContradiction (fun y => c y))⟩
  refine md_k5 (d := d + 1) (w := 8) hp (by omega) k (by decide +kernel) ?_
  rw [if10]
  refine ⟨fun c1 => ?_, fun c => hy 1 (by omega) (Classical.byContradiction (fun y => c y))⟩
  refine md_k5 (d := d + 1) (w := 9) hp (by omega) k (by decide +kernel) ?_
  rw [if10]
  refine ⟨fun c2 => ?_, fun c => hy 2 (by omega) (Classical.byContradiction (fun y => c y))⟩
  refine md_k5 (d := d + 1) (w := 10) hp (by omega) k (by decide +kernel) ?_
  rw [if10]
  refine ⟨fun c3 => ?_, fun c => hy 3 (by omega) (Classical.byContradiction (fun y => c y))⟩
  rw [if_neg (by omega)] at hQ
  exact hQ _ rfl
theorem md_isName {z : (Nat → Nat) × Nat} {p : Nat} (hp : p ≤ z.2) (k : dk_ z p i l) : ab_Sp MX12_isName (d + 4) [.ref 205] (i, l, dd, x) (ab_E0 sc) (some (.int (if zN_ z p then 1 else 0))) (fun σ => σ = (i, l, dd, x)) := by
  have hm := mkk_l (z := z) (k := z_k z p)
  have hx := z_xl (z := z) (p := p)
  refine ab_ent (n := 0) okMX12_isName.1 (fun G => Nat.le_of_ble_eq_true rfl) (fun Q hQ => ?_)
  have hno : z_x z p ≠ 16 → Q (some (some (.int 0))) (i, l, dd, x) (ab_E0 sc) := fun c => by
    rw [if_neg (fun y => c y.2)] at hQ
    exact hQ _ rfl
  refine tMX12_isName_0 (d := d + 3) ?_
  rw [k.2.1, nn_p2, nn_eq (by omega) (by omega), mkk_2]
  refine ⟨fun c => ?_, fun c => ⟨_, _, md_line (d := d) hp k, ?_⟩⟩
  · rw [if_neg (fun y => c y.1)] at hQ
    exact hQ _ rfl
  · rintro i6 l7 dd8 x9 ⟨⟩
    by_cases c5 : z_x z p ≤ 5
    · rw [if_pos c5, nn_em (by omega)]
      exact ⟨fun _ => hno (by omega), fun y => y.elim⟩
    · rw [if_neg c5]
      refine ⟨fun y => absurd rfl y, fun _ => ⟨_, _, md_wayAt (d := d) hp k, ?_⟩⟩
      rintro i6 l7 dd8 x9 ⟨⟩
      by_cases c7 : 7 ≤ z_x z p ∧ z_x z p ≤ 10
      · rw [if_pos c7, nn_em (by omega)]
        exact ⟨fun y => y.elim, fun _ => hno (by omega)⟩
      · rw [if_neg c7]
        refine ⟨fun _ => ?_, fun y => absurd rfl y⟩
        refine md_k5 (d := d + 2) (w := 6) hp (by omega) k (by decide +kernel) ?_
        rw [if10]
        refine ⟨fun y => hno (by omega), fun c6 => ⟨_, _, md_none (d := d + 1), ?_⟩⟩
        rintro i6 l7 dd8 x9 ⟨⟩
        refine ⟨_, _, md_isKey (d := d + 2) hp (by omega) k, ?_⟩
        rintro i6 l7 dd8 x9 ⟨⟩
        rw [if10]
        refine ⟨fun y => hno (by omega), fun c11 => ⟨_, _, md_chair (d := d + 1), ?_⟩⟩
        rintro i6 l7 dd8 x9 ⟨⟩
        refine ⟨_, _, md_isKey (d := d + 2) hp (by omega) k, ?_⟩
        rintro i6 l7 dd8 x9 ⟨⟩
        rw [if10]
        refine ⟨fun y => hno (by omega), fun c13 => ⟨_, _, md_other (d := d + 1), ?_⟩⟩
        rintro i6 l7 dd8 x9 ⟨⟩
        refine ⟨_, _, md_isKey (d := d + 2) hp (by omega) k, ?_⟩
        rintro i6 l7 dd8 x9 ⟨⟩
        rw [if10]
        refine ⟨fun c15 => ?_, fun y => hno (by omega)⟩
        refine md_k5 (d := d + 2) (w := 12) hp (by omega) k (by decide +kernel) ?_
        rw [if10]
        refine ⟨fun y => hno (by omega), fun c12 => ?_⟩
        refine md_k5 (d := d + 2) (w := 14) hp (by omega) k (by decide +kernel) ?_
        rw [if10]
        refine ⟨fun y => hno (by omega), fun c14 => ?_⟩
        rw [if_pos ⟨c, by omega⟩] at hQ
        exact hQ _ rfl
/-- what a check of the model changes -/
def hf_ (i i2 : Nat → Nat → Int32) (l l2 : Nat → Nat → Int64) : Prop := (∀ k j, ¬ (k = 205 ∧ (4 ≤ j ∧ j ≤ 9 ∨ j = 28)) → i2 k j = i k j) ∧ ∀ k j, ¬ (k = 205 ∧ j = 10) → l2 k j = l k j
theorem hf_r : hf_ i i l l := ⟨fun _ _ _ => rfl, fun _ _ _ => rfl⟩
theorem hf_t {i2 i3 : Nat → Nat → Int32} {l2 l3 : Nat → Nat → Int64} (h1 : hf_ i i2 l l2) (h2 : hf_ i2 i3 l2 l3) : hf_ i i3 l l3 := ⟨fun k j h => (h2.1 k j h).trans (h1.1 k j h), fun k j h => (h2.2 k j h).trans (h1.2 k j h)⟩
theorem hf_of {i2 : Nat → Nat → Int32} {l2 : Nat → Nat → Int64} (h : gf_ i i2 l l2) : hf_ i i2 l l2 := ⟨fun k j hk => h.1 k j (by omega), h.2⟩
theorem hf_u {i2 : Nat → Nat → Int32} {l2 : Nat → Nat → Int64} {q : Nat} {v : Int32} (h1 : hf_ i i2 l l2) (h : 4 ≤ q ∧ q ≤ 9 ∨ q = 28) : hf_ i (ab_u i2 205 q v) l l2 := ⟨fun k j hk => by
  rw [show ab_u i2 205 q v k j = i2 k j from if_neg (fun e => hk ⟨e.1, by omega⟩)]
  exact h1.1 k j hk, h1.2⟩
theorem hf_z {z : (Nat → Nat) × Nat} {i2 : Nat → Nat → Int32} {l2 : Nat → Nat → Int64} (hT : dt_z z i) (h : hf_ i i2 l l2) : dt_z z i2 := gf_z hT (fun k j hk => h.1 k j (by omega))
theorem dk_u {z : (Nat → Nat) × Nat} {p k j : Nat} {v : Int32} (h : dk_ z p i l) (hk : ¬ (k = 205 ∧ 4 ≤ j ∧ j ≤ 7)) : dk_ z p (ab_u i k j v) l := by
  have e : ∀ q, 4 ≤ q → q ≤ 7 → ab_u i k j v 205 q = i 205 q := fun q h1 h2 => if_neg (by omega)
  obtain ⟨k1, k2, k3, k4, k5⟩ := h
  refine ⟨?_, ?_, fun y => ?_, k4, fun y => ?_⟩
  · rw [e 5 (by omega) (by omega)]; exact k1
  · rw [e 6 (by omega) (by omega)]; exact k2
  · rw [e 4 (by omega) (by omega)]; exact k3 y
  · rw [e 7 (by omega) (by omega)]; exact k5 y
theorem dk_l {z : (Nat → Nat) × Nat} {p k j : Nat} {v : Int64} (h : dk_ z p i l) (hk : k ≠ 205) : dk_ z p i (ab_u l k j v) := by
  obtain ⟨k1, k2, k3, k4, k5⟩ := h
  refine ⟨k1, k2, k3, fun y => ?_, k5⟩
  rw [uu_k (by omega)]
  exact k4 y
theorem md_bad {z : (Nat → Nat) × Nat} {p c : Nat} (k : dk_ z p i l) (hc : c = 1 ∨ z_k z p ≤ 2) : ab_Sp MX12_bad (d + 1) [.ref 205, .int (Int32.ofNat c)] (i, l, dd, x) (ab_E0 sc) (some (.int 0)) (fun σ => σ = (ab_u (ab_u i 205 8 (Int32.ofNat c)) 205 9 (Int32.ofNat (z_p z p)), l, dd, x)) := by
  have hm := mkk_l (z := z) (k := z_k z p)
  refine ab_ent (n := 1) okMX12_bad.1 (fun G => Nat.le_of_ble_eq_true rfl) (fun Q hQ => ?_)
  refine tMX12_bad_0 (d := d) ?_
  rw [k.2.1, nn_p1, nn_eq (by omega) (by omega)]
  refine ⟨fun y => ?_, fun y => ?_⟩
  · rintro i2 rfl i4 rfl
    rw [uu_j (by omega), k.1]
    exact hQ _ rfl
  · have e1 : c = 1 := by
      rcases hc with h | h
      · exact h
      · unfold mkk at y
        split at y
        · omega
        · split at y
          · omega
          · split at y <;> omega
    rintro i6 rfl i8 rfl
    rw [uu_j (by omega), k.1]
    rw [e1] at hQ
    exact hQ _ rfl
/-- the end of a check at p that takes its token -/
def dc_ (z : (Nat → Nat) × Nat) (c p t : Nat) (i : Nat → Nat → Int32) (l : Nat → Nat → Int64) (dd : Nat → Nat → Value) (x : Nat) (σ : ab_S) : Prop := ∃ i2 l2, σ = (i2, l2, dd, x) ∧ hf_ i i2 l l2 ∧ (c = 0 → i2 205 8 = i 205 8 ∧ dk_ z (z_e z p) i2 l2 ∧ i2 205 28 = Int32.ofNat t) ∧ (c ≠ 0 → i2 205 8 = Int32.ofNat c ∧ i2 205 9 = Int32.ofNat (z_p z p))
theorem dc_n {z : (Nat → Nat) × Nat} {c p t : Nat} {i2 : Nat → Nat → Int32} (hc : c ≠ 0) (f : hf_ i i2 l l) : dc_ z c p t i l dd x (ab_u (ab_u i2 205 8 (Int32.ofNat c)) 205 9 (Int32.ofNat (z_p z p)), l, dd, x) := ⟨_, l, rfl, hf_u (hf_u f (by omega)) (by omega), fun h => absurd h hc, fun _ => ⟨by rw [uu_j (by omega), uu_e], uu_e⟩⟩
theorem md_num {z : (Nat → Nat) × Nat} {a b p : Nat} (hT : dt_z z i) (hp : p ≤ z.2) (k : dk_ z p i l) (ha : a ≤ 100) (hb : b ≤ 100) : ab_Sp MX12_readNumber (d + 3) [.ref 205, .int (Int32.ofNat a), .int (Int32.ofNat b)] (i, l, dd, x) (ab_E0 sc) (some (.int (rc_ (c_num z a b p)))) (dc_ z (c_num z a b p) p (z_v z p) i l dd x) := by
  have hm := mkk_l (z := z) (k := z_k z p)
  refine ab_ent (n := 2) okMX12_readNumber.1 (fun G => Nat.le_of_ble_eq_true rfl) (fun Q hQ => ?_)
  refine tMX12_readNumber_0 (d := d + 2) ?_
  rw [k.2.1, nn_p3, nn_eq (by omega) (by omega), mkk_3]
  refine ⟨fun c => ?_, fun c => ⟨_, _, md_bad (d := d + 1) (c := 1) k (Or.inl rfl), ?_⟩⟩
  · have hv := z_vl hp c
    have g1 := g_e hp (show z_k z p < 3 by omega)
    rw [k.2.2.2.2 c]
    have hin : ab_Sp MX12_isIn (d + 2) [.int (Int32.ofNat (z_v z p)), .int (Int32.ofNat a), .int (Int32.ofNat b)] (i, l, dd, x) (ab_E0 sc) (some (.int (if a ≤ z_v z p ∧ z_v z p ≤ b then 1 else 0))) (fun σ => σ = (i, l, dd, x)) := by
      refine ab_ent (n := 3) okMX12_isIn.1 (fun G => Nat.le_of_ble_eq_true rfl) (fun Q hQ => ?_)
      refine tMX12_isIn_0 (d := d + 1) ?_
      rw [nn_lt (by omega) (by omega), nn_lt (by omega) (by omega)]
      refine ⟨fun y => ?_, fun y => ⟨fun y2 => ?_, fun y2 => ?_⟩⟩
      · rw [if_neg (by omega)] at hQ
        exact hQ _ rfl
      · rw [if_neg (by omega)] at hQ
        exact hQ _ rfl
      · rw [if_pos (by omega)] at hQ
        exact hQ _ rfl
    refine ⟨_, _, hin, ?_⟩
    rintro i6 l7 dd8 x9 ⟨⟩
    rw [if10]
    refine ⟨fun c2 => ?_, fun c2 => ⟨_, _, md_bad (d := d + 1) (c := 2) k (Or.inr (by omega)), ?_⟩⟩
    · have c2' : a ≤ z_v z p ∧ z_v z p ≤ b := Classical.byContradiction (fun y => c2 y)
      rw [show c_num z a b p = 0 by unfold c_num; rw [if_pos c, if_pos c2']] at hQ
      rintro i12 rfl
      refine ⟨_, md_tok (d := d) (hf_z (l := l) (l2 := l) hT (hf_u hf_r (Or.inr rfl))) g1.2 (by rw [uu_j (by omega)]; exact k.2.2.1 (by omega)), ?_⟩
      rintro i18 l19 dd20 x21 ⟨i2, l2, ⟨⟩, f2, k2⟩
      refine hQ _ ⟨i18, l19, rfl, hf_t (hf_u hf_r (Or.inr rfl)) (hf_of f2), fun _ => ⟨?_, k2, ?_⟩, fun h => absurd rfl h⟩
      · rw [f2.1 205 8 (by omega), uu_j (by omega)]
      · rw [f2.1 205 28 (by omega), uu_e]
        exact k.2.2.2.2 c
    · rw [show c_num z a b p = 2 by unfold c_num; rw [if_pos c, if_neg c2]] at hQ
      rintro i27 l28 dd29 x30 ⟨⟩
      exact ⟨Or.inl rfl, hQ _ (dc_n (by omega) hf_r)⟩
  · rw [show c_num z a b p = 1 by unfold c_num; rw [if_neg c]] at hQ
    rintro i36 l37 dd38 x39 ⟨⟩
    exact ⟨Or.inl rfl, hQ _ (dc_n (by omega) hf_r)⟩
/-- a keyword taken; told stays -/
theorem md_key {z : (Nat → Nat) × Nat} {w p : Nat} (hT : dt_z z i) (hp : p ≤ z.2) (k : dk_ z p i l) (hw : w < 16) : ab_Sp MX12_readKey (d + 3) [.ref 205, .long (kq_ w)] (i, l, dd, x) (ab_E0 sc) (some (.int (rc_ (c_key z w p)))) (fun σ => ∃ i2 l2, σ = (i2, l2, dd, x) ∧ hf_ i i2 l l2 ∧ (c_key z w p = 0 → i2 205 8 = i 205 8 ∧ dk_ z (z_e z p) i2 l2) ∧ (c_key z w p ≠ 0 → i2 205 8 = Int32.ofNat (c_key z w p) ∧ i2 205 9 = Int32.ofNat (z_p z p))) := by
  refine ab_ent (n := 1) okMX12_readKey.1 (fun G => Nat.le_of_ble_eq_true rfl) (fun Q hQ => ?_)
  refine tMX12_readKey_0 (d := d + 2) ⟨_, _, md_isKey (d := d + 1) hp hw k, ?_⟩
  rintro i5 l6 dd7 x8 ⟨⟩
  rw [if10]
  refine ⟨fun c => ?_, fun c => ⟨_, _, md_bad (d := d + 1) (c := 1) k (Or.inl rfl), ?_⟩⟩
  · have c' : z_x z p = w := Classical.byContradiction (fun y => c y)
    have k0 := z_x0 (show z_x z p < 16 by omega)
    have g1 := g_e hp (show z_k z p < 3 by omega)
    have ec : c_key z w p = 0 := if_pos c'
    rw [ec] at hQ
    refine ⟨_, md_tok (d := d) hT g1.2 (k.2.2.1 (by omega)), ?_⟩
    rintro i15 l16 dd17 x18 ⟨i2, l2, ⟨⟩, f2, k2⟩
    exact hQ _ ⟨i15, l16, rfl, hf_of f2, fun _ => ⟨f2.1 205 8 (by omega), k2⟩, fun h => absurd rfl h⟩
  · have ec : c_key z w p = 1 := if_neg c
    rw [ec] at hQ
    rintro i24 l25 dd26 x27 ⟨⟩
    exact ⟨Or.inl rfl, hQ _ ⟨_, l, rfl, hf_u (hf_u hf_r (by omega)) (by omega), fun h => absurd h (by decide), fun _ => ⟨by rw [uu_j (by omega), uu_e], uu_e⟩⟩⟩
/-- what the names need -/
def dN_ (st : ps_) (i : Nat → Nat → Int32) (l : Nat → Nat → Int64) : Prop := (st 0 0 ≤ 3 ∧ st 0 1 ≤ 7 ∧ i 209 1 = Int32.ofNat (st 0 0) ∧ i 210 1 = Int32.ofNat (st 0 1)) ∧ (∀ t, t < st 0 0 → l 207 (3 + t) = Int64.ofNat (cv_ 6 (st 1 t))) ∧ (∀ v, v < st 0 1 → l 208 (7 + v) = Int64.ofNat (cv_ 6 (st 2 v))) ∧ PB_ (st 0 0) (st 0 1) (st 1) (st 2)
theorem dN_h {st : ps_} {i2 : Nat → Nat → Int32} {l2 : Nat → Nat → Int64} (hN : dN_ st i l) (h : hf_ i i2 l l2) : dN_ st i2 l2 := by
  obtain ⟨⟨a1, a2, m0, m1⟩, nt, nv, hB⟩ := hN
  refine ⟨⟨a1, a2, ?_, ?_⟩, fun t ht => ?_, fun v hv => ?_, hB⟩
  · rw [h.1 209 1 (by omega)]; exact m0
  · rw [h.1 210 1 (by omega)]; exact m1
  · rw [h.2 207 _ (by omega)]; exact nt t ht
  · rw [h.2 208 _ (by omega)]; exact nv v hv
theorem md_findT {z : (Nat → Nat) × Nat} {st : ps_} {p : Nat} (hp : p ≤ z.2) (hN : dN_ st i l) (k : dk_ z p i l) (h0 : z_k z p = 0) : ab_Sp MX12_findTruth (d + 1) [.ref 205] (i, l, dd, x) (ab_E0 sc) (some (.int (fx_ (st 0 0) (fT_ z st p)))) (fun σ => σ = (i, l, dd, x)) := by
  obtain ⟨⟨a1, a2, m0, m1⟩, nt, nv, n1, n2, n3, n4, n5⟩ := hN
  obtain ⟨g1, g2, g3⟩ := z_wk hp h0
  refine ab_ent (n := 0) okMX12_findTruth.1 (fun G => Nat.le_of_ble_eq_true rfl) (fun Q hQ => ?_)
  refine tMX12_findTruth_0 (d := d) ?_
  have go : ∀ n j : Nat, st 0 0 = j + n → (∀ u, u < j → st 1 u ≠ z_w z p) → ab_Fr MX12_findTruth (d + 1) Q 2 [some (.ref 205), some (.int (Int32.ofNat j))] [] (0, 0) (i, l, dd, x) (ab_E0 sc) := by
    intro n
    induction n with
    | zero =>
      intro j hj hu
      refine tMX12_findTruth_2 (d := d) ⟨fun _ => ?_, fun y => ?_⟩
      · have e : fT_ z st p = st 0 0 := fi_n (fun u h => hu u (by omega))
        rw [e, show fx_ (st 0 0) (st 0 0) = -1 from if_neg (Nat.lt_irrefl _)] at hQ
        exact hQ _ rfl
      · rw [m0, nn_le (by omega) (by omega)] at y
        omega
    | succ n ih =>
      intro j hj hu
      refine tMX12_findTruth_2 (d := d) ⟨fun y => ?_, fun _ => ?_⟩
      · rw [m0, nn_le (by omega) (by omega)] at y
        omega
      · rw [nn_p3, nn_add, nn_cl (by omega), nt j (by omega), k.2.2.2.1 h0, nl_eq (cv_6 (n1 j (by omega)).1) (cv_6 g1), la_nx]
        refine ⟨la_vp (by omega) (by omega), fun c => ih (j + 1) (by omega) (fun u h => ?_), fun c => ?_⟩
        · by_cases e : u = j
          · rw [e]
            exact fun y => c (by rw [y])
          · exact hu u (by omega)
        · have e : fT_ z st p = j := fi_e (by omega) (cv_inj 6 _ _ (n1 j (by omega)).1 g1 c) hu
          rw [e, fx_y (by omega)] at hQ
          exact hQ _ rfl
  exact go (st 0 0) 0 (Nat.zero_add _).symm (fun u h => absurd h (Nat.not_lt_zero u))
theorem md_findV {z : (Nat → Nat) × Nat} {st : ps_} {p : Nat} (hp : p ≤ z.2) (hN : dN_ st i l) (k : dk_ z p i l) (h0 : z_k z p = 0) : ab_Sp MX12_findVoter (d + 1) [.ref 205] (i, l, dd, x) (ab_E0 sc) (some (.int (fx_ (st 0 1) (fV_ z st p)))) (fun σ => σ = (i, l, dd, x)) := by
  obtain ⟨⟨a1, a2, m0, m1⟩, nt, nv, n1, n2, n3, n4, n5⟩ := hN
  obtain ⟨g1, g2, g3⟩ := z_wk hp h0
  refine ab_ent (n := 0) okMX12_findVoter.1 (fun G => Nat.le_of_ble_eq_true rfl) (fun Q hQ => ?_)
  refine tMX12_findVoter_0 (d := d) ?_
  have go : ∀ n j : Nat, st 0 1 = j + n → (∀ u, u < j → st 2 u ≠ z_w z p) → ab_Fr MX12_findVoter (d + 1) Q 2 [some (.ref 205), some (.int (Int32.ofNat j))] [] (0, 0) (i, l, dd, x) (ab_E0 sc) := by
    intro n
    induction n with
    | zero =>
      intro j hj hu
      refine tMX12_findVoter_2 (d := d) ⟨fun _ => ?_, fun y => ?_⟩
      · have e : fV_ z st p = st 0 1 := fi_n (fun u h => hu u (by omega))
        rw [e, show fx_ (st 0 1) (st 0 1) = -1 from if_neg (Nat.lt_irrefl _)] at hQ
        exact hQ _ rfl
      · rw [m1, nn_le (by omega) (by omega)] at y
        omega
    | succ n ih =>
      intro j hj hu
      refine tMX12_findVoter_2 (d := d) ⟨fun y => ?_, fun _ => ?_⟩
      · rw [m1, nn_le (by omega) (by omega)] at y
        omega
      · rw [nn_p7, nn_add, nn_cl (by omega), nv j (by omega), k.2.2.2.1 h0, nl_eq (cv_6 (n2 j (by omega)).1) (cv_6 g1), la_nx]
        refine ⟨la_vp (by omega) (by omega), fun c => ih (j + 1) (by omega) (fun u h => ?_), fun c => ?_⟩
        · by_cases e : u = j
          · rw [e]
            exact fun y => c (by rw [y])
          · exact hu u (by omega)
        · have e : fV_ z st p = j := fi_e (by omega) (cv_inj 6 _ _ (n2 j (by omega)).1 g1 c) hu
          rw [e, fx_y (by omega)] at hQ
          exact hQ _ rfl
  exact go (st 0 1) 0 (Nat.zero_add _).symm (fun u h => absurd h (Nat.not_lt_zero u))
theorem md_rTruth {z : (Nat → Nat) × Nat} {st : ps_} {p : Nat} (hT : dt_z z i) (hp : p ≤ z.2) (hN : dN_ st i l) (k : dk_ z p i l) : ab_Sp MX12_readTruth (d + 5) [.ref 205] (i, l, dd, x) (ab_E0 sc) (some (.int (rc_ (c_tr z st p)))) (dc_ z (c_tr z st p) p (fT_ z st p) i l dd x) := by
  obtain ⟨f1, f2', f3'⟩ := fi_l (f := st 1) (w := z_w z p) (st 0 0)
  have hT3 := hN.1.1
  refine ab_ent (n := 0) okMX12_readTruth.1 (fun G => Nat.le_of_ble_eq_true rfl) (fun Q hQ => ?_)
  refine tMX12_readTruth_0 (d := d + 4) ⟨_, _, md_isName (d := d) hp k, ?_⟩
  rintro i5 l6 dd7 x8 ⟨⟩
  rw [if10]
  refine ⟨fun c => ?_, fun c => ⟨_, _, md_bad (d := d + 3) (c := 1) k (Or.inl rfl), ?_⟩⟩
  · have c' : zN_ z p := Classical.byContradiction (fun y => c y)
    have g1 := g_e hp (show z_k z p < 3 by have := c'.1; omega)
    refine ⟨_, _, md_findT (d := d + 3) (st := st) hp hN k c'.1, ?_⟩
    rintro i5 l6 dd7 x8 ⟨⟩
    rintro i20 rfl
    rw [uu_e]
    have hF : hf_ i (ab_u i 205 28 (fx_ (st 0 0) (fT_ z st p))) l l := hf_u hf_r (Or.inr rfl)
    have k2 : dk_ z p (ab_u i 205 28 (fx_ (st 0 0) (fT_ z st p))) l := dk_u k (by omega)
    by_cases c2 : fT_ z st p < st 0 0
    · have ec : c_tr z st p = 0 := by unfold c_tr; rw [if_pos c', if_pos c2]
      rw [ec] at hQ
      refine ⟨fun _ => ⟨_, md_tok (d := d + 2) (hf_z hT hF) g1.2 (k2.2.2.1 (by have := c'.1; omega)), ?_⟩, fun y => ?_⟩
      · rintro i27 l28 dd29 x30 ⟨i2, l2, ⟨⟩, f2, k3⟩
        refine hQ _ ⟨i27, l28, rfl, hf_t hF (hf_of f2), fun _ => ⟨?_, k3, ?_⟩, fun h => absurd rfl h⟩
        · rw [f2.1 205 8 (by omega), uu_j (by omega)]
        · rw [f2.1 205 28 (by omega), uu_e, fx_y c2]
      · rw [fx_y c2, nn_em (by omega)] at y
        exact y.elim
    · have ec : c_tr z st p = 3 := by unfold c_tr; rw [if_pos c', if_neg c2]
      rw [ec] at hQ
      rw [show fx_ (st 0 0) (fT_ z st p) = -1 from if_neg c2] at hF k2 ⊢
      refine ⟨fun y => absurd rfl y, fun _ => ⟨_, _, md_bad (d := d + 3) (c := 3) k2 (Or.inr (by have := c'.1; omega)), ?_⟩⟩
      rintro i36 l37 dd38 x39 ⟨⟩
      exact ⟨Or.inl rfl, hQ _ (dc_n (by omega) hF)⟩
  · have ec : c_tr z st p = 1 := if_neg c
    rw [ec] at hQ
    rintro i45 l46 dd47 x48 ⟨⟩
    exact ⟨Or.inl rfl, hQ _ (dc_n (by omega) hf_r)⟩
theorem md_rVoter {z : (Nat → Nat) × Nat} {st : ps_} {p : Nat} (hT : dt_z z i) (hp : p ≤ z.2) (hN : dN_ st i l) (k : dk_ z p i l) : ab_Sp MX12_readVoter (d + 5) [.ref 205] (i, l, dd, x) (ab_E0 sc) (some (.int (rc_ (c_vo z st p)))) (dc_ z (c_vo z st p) p (fV_ z st p) i l dd x) := by
  obtain ⟨f1, f2', f3'⟩ := fi_l (f := st 2) (w := z_w z p) (st 0 1)
  have hV7 := hN.1.2.1
  refine ab_ent (n := 0) okMX12_readVoter.1 (fun G => Nat.le_of_ble_eq_true rfl) (fun Q hQ => ?_)
  refine tMX12_readVoter_0 (d := d + 4) ⟨_, _, md_isName (d := d) hp k, ?_⟩
  rintro i5 l6 dd7 x8 ⟨⟩
  rw [if10]
  refine ⟨fun c => ?_, fun c => ⟨_, _, md_bad (d := d + 3) (c := 1) k (Or.inl rfl), ?_⟩⟩
  · have c' : zN_ z p := Classical.byContradiction (fun y => c y)
    have g1 := g_e hp (show z_k z p < 3 by have := c'.1; omega)
    refine ⟨_, _, md_findV (d := d + 3) (st := st) hp hN k c'.1, ?_⟩
    rintro i5 l6 dd7 x8 ⟨⟩
    rintro i20 rfl
    rw [uu_e]
    have hF : hf_ i (ab_u i 205 28 (fx_ (st 0 1) (fV_ z st p))) l l := hf_u hf_r (Or.inr rfl)
    have k2 : dk_ z p (ab_u i 205 28 (fx_ (st 0 1) (fV_ z st p))) l := dk_u k (by omega)
    by_cases c2 : fV_ z st p < st 0 1
    · have ec : c_vo z st p = 0 := by unfold c_vo; rw [if_pos c', if_pos c2]
      rw [ec] at hQ
      refine ⟨fun _ => ⟨_, md_tok (d := d + 2) (hf_z hT hF) g1.2 (k2.2.2.1 (by have := c'.1; omega)), ?_⟩, fun y => ?_⟩
      · rintro i27 l28 dd29 x30 ⟨i2, l2, ⟨⟩, f2, k3⟩
        refine hQ _ ⟨i27, l28, rfl, hf_t hF (hf_of f2), fun _ => ⟨?_, k3, ?_⟩, fun h => absurd rfl h⟩
        · rw [f2.1 205 8 (by omega), uu_j (by omega)]
        · rw [f2.1 205 28 (by omega), uu_e, fx_y c2]
      · rw [fx_y c2, nn_em (by omega)] at y
        exact y.elim
    · have ec : c_vo z st p = 3 := by unfold c_vo; rw [if_pos c', if_neg c2]
      rw [ec] at hQ
      rw [show fx_ (st 0 1) (fV_ z st p) = -1 from if_neg c2] at hF k2 ⊢
      refine ⟨fun y => absurd rfl y, fun _ => ⟨_, _, md_bad (d := d + 3) (c := 3) k2 (Or.inr (by have := c'.1; omega)), ?_⟩⟩
      rintro i36 l37 dd38 x39 ⟨⟩
      exact ⟨Or.inl rfl, hQ _ (dc_n (by omega) hF)⟩
  · have ec : c_vo z st p = 1 := if_neg c
    rw [ec] at hQ
    rintro i45 l46 dd47 x48 ⟨⟩
    exact ⟨Or.inl rfl, hQ _ (dc_n (by omega) hf_r)⟩
/-- a new name: its token stays at hand -/
theorem md_new {z : (Nat → Nat) × Nat} {st : ps_} {p : Nat} (hp : p ≤ z.2) (hN : dN_ st i l) (k : dk_ z p i l) : ab_Sp MX12_readNew (d + 5) [.ref 205] (i, l, dd, x) (ab_E0 sc) (some (.int (rc_ (c_new z st p)))) (fun σ => ∃ i2, σ = (i2, l, dd, x) ∧ hf_ i i2 l l ∧ (c_new z st p = 0 → i2 = i) ∧ (c_new z st p ≠ 0 → i2 205 8 = Int32.ofNat (c_new z st p) ∧ i2 205 9 = Int32.ofNat (z_p z p))) := by
  obtain ⟨f1, -, -⟩ := fi_l (f := st 1) (w := z_w z p) (st 0 0)
  obtain ⟨f2, -, -⟩ := fi_l (f := st 2) (w := z_w z p) (st 0 1)
  have hT3 := hN.1.1
  have hV7 := hN.1.2.1
  refine ab_ent (n := 0) okMX12_readNew.1 (fun G => Nat.le_of_ble_eq_true rfl) (fun Q hQ => ?_)
  refine tMX12_readNew_0 (d := d + 4) ⟨_, _, md_isName (d := d) hp k, ?_⟩
  rintro i5 l6 dd7 x8 ⟨⟩
  rw [if10]
  refine ⟨fun c => ?_, fun c => ⟨_, _, md_bad (d := d + 3) (c := 1) k (Or.inl rfl), ?_⟩⟩
  · have c' : zN_ z p := Classical.byContradiction (fun y => c y)
    have h29 : ¬ (fT_ z st p = st 0 0 ∧ fV_ z st p = st 0 1) → ab_Fr MX12_readNew (d + 5) Q 29 [some (.ref 205)] [] (0, 0) (i, l, dd, x) (ab_E0 sc) := fun y => by
      have ec : c_new z st p = 3 := by unfold c_new; rw [if_pos c', if_neg y]
      rw [ec] at hQ
      refine tMX12_readNew_29 (d := d + 4) ⟨_, _, md_bad (d := d + 3) (c := 3) k (Or.inr (by have := c'.1; omega)), ?_⟩
      rintro i5 l6 dd7 x8 ⟨⟩
      exact ⟨fun _ => hQ _ ⟨_, rfl, hf_u (hf_u hf_r (by omega)) (by omega), fun h => absurd h (by decide), fun _ => ⟨by rw [uu_j (by omega), uu_e], uu_e⟩⟩, fun y => absurd rfl y⟩
    refine ⟨_, _, md_findT (d := d + 3) (st := st) hp hN k c'.1, ?_⟩
    rintro i5 l6 dd7 x8 ⟨⟩
    by_cases c2 : fT_ z st p < st 0 0
    · rw [fx_y c2, nn_em (by omega)]
      exact ⟨fun _ => h29 (by omega), fun y => y.elim⟩
    · rw [show fx_ (st 0 0) (fT_ z st p) = -1 from if_neg c2]
      refine ⟨fun y => absurd rfl y, fun _ => ⟨_, _, md_findV (d := d + 3) (st := st) hp hN k c'.1, ?_⟩⟩
      rintro i5 l6 dd7 x8 ⟨⟩
      by_cases c3 : fV_ z st p < st 0 1
      · rw [fx_y c3, nn_em (by omega)]
        exact ⟨fun y => y.elim, fun _ => h29 (by omega)⟩
      · rw [show fx_ (st 0 1) (fV_ z st p) = -1 from if_neg c3]
        have ec : c_new z st p = 0 := by
          unfold c_new
          rw [if_pos c', if_pos ⟨by unfold fT_ at c2 ⊢; omega, by unfold fV_ at c3 ⊢; omega⟩]
        rw [ec] at hQ
        exact ⟨fun _ => hQ _ ⟨i, rfl, hf_r, fun _ => rfl, fun h => absurd rfl h⟩, fun y => absurd rfl y⟩
  · have ec : c_new z st p = 1 := if_neg c
    rw [ec] at hQ
    rintro i35 l36 dd37 x38 ⟨⟩
    exact ⟨Or.inl rfl, hQ _ ⟨_, rfl, hf_u (hf_u hf_r (by omega)) (by omega), fun h => absurd h (by decide), fun _ => ⟨by rw [uu_j (by omega), uu_e], uu_e⟩⟩⟩
end TKM
