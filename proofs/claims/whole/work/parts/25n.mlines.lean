/-! LINES, the model -/
section TKN
variable {d : Nat} {sc : Nat × (Nat → Int32)} {i : Nat → Nat → Int32} {l : Nat → Nat → Int64} {dd : Nat → Nat → Value} {x : Nat}
/-- the model's draft (slot 1) -/
def dR_ (st : ps_) (i : Nat → Nat → Int32) (l : Nat → Nat → Int64) : Prop := (i 209 1 = Int32.ofNat (st 0 0) ∧ i 210 1 = Int32.ofNat (st 0 1)) ∧ (i 219 1 = Int32.ofNat (st 0 2) ∧ (0 < st 0 2 → i 220 1 = Int32.ofNat (st 0 3) ∧ i 221 1 = Int32.ofNat (st 0 4)) ∧ i 222 1 = mt_h (st 0 5)) ∧
  (∀ t, t < st 0 0 → i 211 (3 + t) = Int32.ofNat (st 3 t)) ∧ (∀ w t e, w < st 0 1 ∨ w = 7 → t < 3 → e < 3 → i 214 (72 + 9 * w + 3 * t + e) = kt_ (st 6 (9 * w + 3 * t + e))) ∧
  (∀ v, v < st 0 1 → i 212 (7 + v) = Int32.ofNat (st 4 v) ∧ i 218 (7 + v) = Int32.ofNat (st 10 v) ∧ i 215 (7 + v) = Int32.ofNat (st 7 v) ∧ (st 7 v = 2 → i 216 (7 + v) = Int32.ofNat (st 8 v))) ∧
  (∀ v s t, v < st 0 1 → s < st 4 v → t < st 0 0 → i 213 (63 + 9 * v + 3 * s + t) = Int32.ofNat (st 5 (9 * v + 3 * s + t))) ∧
  (∀ v s, v < st 0 1 → st 7 v = 3 → s < st 4 v → i 217 (3 * (7 + v) + s) = Int32.ofNat (st 9 (3 * v + s))) ∧
  (∀ t, t < st 0 0 → l 207 (3 + t) = Int64.ofNat (cv_ 6 (st 1 t))) ∧ (∀ v, v < st 0 1 → l 208 (7 + v) = Int64.ofNat (cv_ 6 (st 2 v))) ∧ i 205 27 = Int32.ofNat (st 0 7)
theorem dR_i {st : ps_} {i2 : Nat → Nat → Int32} {l2 : Nat → Nat → Int64} (hR : dR_ st i l) (hi : ∀ k j, 209 ≤ k → k ≤ 222 → i2 k j = i k j) (h27 : i2 205 27 = i 205 27) (hl : ∀ k j, k = 207 ∨ k = 208 → l2 k j = l k j) : dR_ st i2 l2 := by
  obtain ⟨⟨r1, r1'⟩, ⟨r2, r2', r2''⟩, r3, r4, r5, r6, r7, r8, r9, r10⟩ := hR
  refine ⟨⟨?_, ?_⟩, ⟨?_, fun y => ⟨?_, ?_⟩, ?_⟩, fun t ht => ?_, fun w t e hw ht he => ?_, fun v hv => ⟨?_, ?_, ?_, fun y => ?_⟩, fun v s t hv hs ht => ?_, fun v s hv h7 hs => ?_, fun t ht => ?_, fun v hv => ?_, ?_⟩
  · rw [hi _ _ (by omega) (by omega)]; exact r1
  · rw [hi _ _ (by omega) (by omega)]; exact r1'
  · rw [hi _ _ (by omega) (by omega)]; exact r2
  · rw [hi _ _ (by omega) (by omega)]; exact (r2' y).1
  · rw [hi _ _ (by omega) (by omega)]; exact (r2' y).2
  · rw [hi _ _ (by omega) (by omega)]; exact r2''
  · rw [hi _ _ (by omega) (by omega)]; exact r3 t ht
  · rw [hi _ _ (by omega) (by omega)]; exact r4 w t e hw ht he
  · rw [hi _ _ (by omega) (by omega)]; exact (r5 v hv).1
  · rw [hi _ _ (by omega) (by omega)]; exact (r5 v hv).2.1
  · rw [hi _ _ (by omega) (by omega)]; exact (r5 v hv).2.2.1
  · rw [hi _ _ (by omega) (by omega)]; exact (r5 v hv).2.2.2 y
  · rw [hi _ _ (by omega) (by omega)]; exact r6 v s t hv hs ht
  · rw [hi _ _ (by omega) (by omega)]; exact r7 v s hv h7 hs
  · rw [hl _ _ (by omega)]; exact r8 t ht
  · rw [hl _ _ (by omega)]; exact r9 v hv
  · rw [h27]; exact r10
theorem dR_hf {st : ps_} {i2 : Nat → Nat → Int32} {l2 : Nat → Nat → Int64} (hR : dR_ st i l) (h : hf_ i i2 l l2) : dR_ st i2 l2 := dR_i hR (fun k j _ _ => h.1 k j (by omega)) (h.1 205 27 (by omega)) (fun k j hk => h.2 k j (by omega))
theorem dN_of {st : ps_} (hR : dR_ st i l) (hT : st 0 0 ≤ 3) (hV : st 0 1 ≤ 7) (hB : PB_ (st 0 0) (st 0 1) (st 1) (st 2)) : dN_ st i l := ⟨⟨hT, hV, hR.1.1, hR.1.2⟩, hR.2.2.2.2.2.2.2.1, hR.2.2.2.2.2.2.2.2.1, hB⟩
/-- what a line of the model changes -/
def nqP (k j : Nat) : Prop := (k = 205 ∧ (4 ≤ j ∧ j ≤ 9 ∨ j = 27 ∨ j = 28)) ∨ ((k = 209 ∨ k = 210 ∨ 219 ≤ k ∧ k ≤ 222) ∧ j = 1) ∨ (k = 211 ∧ 3 ≤ j) ∨ (k = 212 ∧ 7 ≤ j) ∨ (k = 213 ∧ 63 ≤ j) ∨ (k = 214 ∧ 72 ≤ j) ∨ ((k = 215 ∨ k = 216 ∨ k = 218) ∧ 7 ≤ j) ∨ (k = 217 ∧ 21 ≤ j)
def nq_ (i i2 : Nat → Nat → Int32) (l l2 : Nat → Nat → Int64) : Prop := (∀ k j, ¬ nqP k j → i2 k j = i k j) ∧ ∀ k j, ¬ ((k = 205 ∧ j = 10) ∨ k = 207 ∨ k = 208) → l2 k j = l k j
theorem nq_r : nq_ i i l l := ⟨fun _ _ _ => rfl, fun _ _ _ => rfl⟩
theorem nq_t {i2 i3 : Nat → Nat → Int32} {l2 l3 : Nat → Nat → Int64} (h1 : nq_ i i2 l l2) (h2 : nq_ i2 i3 l2 l3) : nq_ i i3 l l3 := ⟨fun k j h => (h2.1 k j h).trans (h1.1 k j h), fun k j h => (h2.2 k j h).trans (h1.2 k j h)⟩
theorem nq_h {i2 : Nat → Nat → Int32} {l2 : Nat → Nat → Int64} (h : hf_ i i2 l l2) : nq_ i i2 l l2 := ⟨fun k j hk => h.1 k j (fun y => hk (Or.inl (by omega))), fun k j hk => h.2 k j (fun y => hk (Or.inl y))⟩
theorem nq_u {i2 : Nat → Nat → Int32} {l2 : Nat → Nat → Int64} {k j : Nat} {v : Int32} (h1 : nq_ i i2 l l2) (h : nqP k j) : nq_ i (ab_u i2 k j v) l l2 := ⟨fun a b hk => by
  rw [show ab_u i2 k j v a b = i2 a b from if_neg (fun e => hk (by rw [e.1, e.2]; exact h))]
  exact h1.1 a b hk, h1.2⟩
theorem nq_l {i2 : Nat → Nat → Int32} {l2 : Nat → Nat → Int64} {k j : Nat} {v : Int64} (h1 : nq_ i i2 l l2) (h : k = 207 ∨ k = 208) : nq_ i i2 l (ab_u l2 k j v) := ⟨h1.1, fun a b hk => by
  rw [uu_k (show a ≠ k by omega)]
  exact h1.2 a b hk⟩
theorem nq_z {z : (Nat → Nat) × Nat} {i2 : Nat → Nat → Int32} {l2 : Nat → Nat → Int64} (hT : dt_z z i) (h : nq_ i i2 l l2) : dt_z z i2 := gf_z hT (fun k j hk => h.1 k j (by unfold nqP; omega))
/-- the end of a line's body -/
def db_ (z : (Nat → Nat) × Nat) (r : rs_) (i : Nat → Nat → Int32) (l : Nat → Nat → Int64) (dd : Nat → Nat → Value) (x : Nat) (σ : ab_S) : Prop := ∃ i2 l2, σ = (i2, l2, dd, x) ∧ nq_ i i2 l l2 ∧ (r.1 = 0 → i2 205 8 = 0 ∧ dk_ z r.2.1 i2 l2 ∧ dR_ r.2.2 i2 l2) ∧ (r.1 ≠ 0 → i2 205 8 = Int32.ofNat r.1 ∧ i2 205 9 = Int32.ofNat r.2.1)
theorem ch_y {c pl : Nat} {st : ps_} {r : rs_} (h : c = 0) : ch_ c pl st r = r := if_pos h
theorem dl_no {z : (Nat → Nat) × Nat} {c pl : Nat} {st : ps_} {r : rs_} {i2 : Nat → Nat → Int32} {l2 : Nat → Nat → Int64} (hc : c ≠ 0) (hf : nq_ i i2 l l2) (h : i2 205 8 = Int32.ofNat c ∧ i2 205 9 = Int32.ofNat pl) {Q : ab_Qt} (hQ : ∀ σ, db_ z (ch_ c pl st r) i l dd x σ → Q (some (some (.int (rc_ (ch_ c pl st r).1)))) σ (ab_E0 sc)) : Q (some (some (.int 0))) (i2, l2, dd, x) (ab_E0 sc) := by
  rw [show ch_ c pl st r = (c, pl, st) from if_neg hc, rc_n hc] at hQ
  exact hQ _ ⟨i2, l2, rfl, hf, fun h => absurd h hc, fun _ => h⟩
theorem dl_yes {z : (Nat → Nat) × Nat} {q : Nat} {st : ps_} {i2 : Nat → Nat → Int32} {l2 : Nat → Nat → Int64} (hf : nq_ i i2 l l2) (h0 : i2 205 8 = 0) (hk : dk_ z q i2 l2) (hR : dR_ st i2 l2) {Q : ab_Qt} (hQ : ∀ σ, db_ z (0, q, st) i l dd x σ → Q (some (some (.int (rc_ (0 : Nat))))) σ (ab_E0 sc)) : Q (some (some (.int 1))) (i2, l2, dd, x) (ab_E0 sc) := hQ _ ⟨i2, l2, rfl, hf, fun _ => ⟨h0, hk, hR⟩, fun h => absurd rfl h⟩
theorem mb_bad {z : (Nat → Nat) × Nat} {c pl p : Nat} {st : ps_} {r : rs_} {i2 : Nat → Nat → Int32} {l2 : Nat → Nat → Int64} (hc : c ≠ 0) (hf : nq_ i i2 l l2) (k : dk_ z p i2 l2) (hpl : pl = z_p z p) (h1 : c = 1 ∨ z_k z p ≤ 2) {Q : ab_Qt} (hQ : ∀ σ, db_ z (ch_ c pl st r) i l dd x σ → Q (some (some (.int (rc_ (ch_ c pl st r).1)))) σ (ab_E0 sc)) : ∃ (r1 : Int32) (P2 : ab_S → Prop), ab_Sp MX12_bad (d + 1) [.ref 205, .int (Int32.ofNat c)] (i2, l2, dd, x) (ab_E0 sc) (some (.int r1)) P2 ∧ ∀ i5 l6 dd7 x8, P2 (i5, l6, dd7, x8) → (r1 = 0 ∨ r1 = 1) ∧ Q (some (some (.int r1))) (i5, l6, dd7, x8) (ab_E0 sc) := by
  refine ⟨_, _, md_bad (d := d) k h1, ?_⟩
  rintro i5 l6 dd7 x8 ⟨⟩
  exact ⟨Or.inl rfl, dl_no hc (nq_t hf (nq_h (hf_u (hf_u hf_r (by omega)) (by omega)))) ⟨by rw [uu_j (by omega), uu_e], by rw [uu_e, hpl]⟩ hQ⟩
theorem mb_truth {z : (Nat → Nat) × Nat} {st : ps_} {p : Nat} (hT : dt_z z i) (hp : p ≤ z.2) (hk : z_k z p < 3) (hI : PI_ st) (hl : st 0 7 ≤ 740) (hR : dR_ st i l) (h0 : i 205 8 = 0) (k : dk_ z p i l) : ab_Sp MX12_readTruthLine (d + 6) [.ref 205] (i, l, dd, x) (ab_E0 sc) (some (.int (rc_ (b_truth z st p).1))) (db_ z (b_truth z st p) i l dd x) := by
  obtain ⟨⟨a1, a2, a3, a4, a5, a6, a7⟩, hB, hC, hD, e1, e2, e3⟩ := hI
  obtain ⟨⟨r1, r1'⟩, ⟨r2, r2', r2''⟩, r3, r4, r5, r6, r7, r8, r9, r10⟩ := id hR
  have g1 := g_e hp hk
  have hN := dN_of hR a1 a2 hB
  refine ab_ent (n := 0) okMX12_readTruthLine.1 (fun G => Nat.le_of_ble_eq_true rfl) (fun Q hQ => ?_)
  unfold b_truth at hQ
  have h23 : ¬ (st 0 6 = 0 ∧ st 0 0 < 3) → ab_Fr MX12_readTruthLine (d + 6) Q 23 [some (.ref 205)] [] (0, 0) (i, l, dd, x) (ab_E0 sc) := fun c => by
    rw [if_neg c] at hQ
    exact tMX12_readTruthLine_23 (d := d + 5) (mb_bad (d := d + 4) (c := 4) (by omega) nq_r k rfl (Or.inr (by omega)) hQ)
  refine tMX12_readTruthLine_0 (d := d + 5) ?_
  rw [r1, r10, nn_p3, nn_eq (by omega) (by omega), nn_le (by omega) (by omega)]
  refine ⟨fun c => h23 (by omega), fun c => ⟨fun c2 => ?_, fun c2 => h23 (fun y => c2 (by have := a5 y.1; omega))⟩⟩
  have hb : st 0 6 = 0 := by
    rcases Nat.eq_zero_or_pos (st 0 6) with y | y
    · exact y
    · have := a6 (by omega)
      omega
  rw [ch_y (if_pos ⟨hb, by omega⟩)] at hQ
  have hV0 : st 0 1 = 0 := by
    rcases Nat.eq_zero_or_pos (st 0 1) with g | g
    · exact g
    · have := a4 g
      omega
  refine ⟨_, md_tok (d := d + 3) hT g1.2 (k.2.2.1 hk), ?_⟩
  rintro i7 l8 dd9 x10 ⟨i2, l2, ⟨⟩, f2, k2⟩
  have hF2 := hf_of f2
  refine ⟨_, _, md_new (d := d) (st := st) g1.2 (dN_h hN hF2) k2, ?_⟩
  rintro i16 l17 dd18 x19 ⟨i3, ⟨⟩, f3, y3, n3⟩
  by_cases c3 : c_new z st (z_e z p) = 0
  · rw [ch_y c3] at hQ
    rw [c3]
    have e3' := y3 c3
    subst e3'
    obtain ⟨k1, x1, t1, v1⟩ := c_new0 c3
    have g2 := g_e g1.2 (show z_k z (z_e z p) < 3 by omega)
    have e209 : i16 209 1 = Int32.ofNat (st 0 0) := by rw [hF2.1 209 1 (by omega)]; exact r1
    refine ⟨fun _ => ?_, fun y => absurd y rc_y⟩
    rw [e209, nn_add, nn_cl (by omega)]
    refine ⟨la_vp (by omega) (by omega), ?_⟩
    rintro l22 rfl
    rw [k2.2.2.2.1 k1]
    have hFl : nq_ i i16 l (ab_u l8 207 (3 + st 0 0) (Int64.ofNat (cv_ 6 (z_w z (z_e z p))))) := nq_l (nq_h hF2) (Or.inl rfl)
    refine ⟨_, md_tok (d := d + 3) (nq_z hT hFl) g2.2 (k2.2.2.1 (by omega)), ?_⟩
    rintro i28 l29 dd30 x31 ⟨i4, l4, ⟨⟩, f4, k4⟩
    have hF4 : nq_ i i28 l l29 := nq_t hFl (nq_h (hf_of f4))
    refine ⟨_, _, md_num (d := d + 2) (a := 1) (b := 19) (nq_z hT hF4) g2.2 k4 (by omega) (by omega), ?_⟩
    rintro i37 l38 dd39 x40 ⟨i5, l5, ⟨⟩, f5, y5, n5⟩
    have hF5 : nq_ i i37 l l38 := nq_t hF4 (nq_h f5)
    by_cases c5 : c_num z 1 19 (z_e z (z_e z p)) = 0
    · rw [ch_y c5] at hQ
      rw [c5]
      obtain ⟨y50, y51, y52⟩ := y5 c5
      have hi : ∀ a j, 209 ≤ a → i37 a j = i a j := fun a j ha => by rw [f5.1 a j (by omega), f4.1 a j (by omega), f2.1 a j (by omega)]
      refine ⟨fun _ => ?_, fun y => absurd y rc_y⟩
      rw [hi 209 1 (by omega), r1, nn_add, nn_cl (by omega), y52]
      refine ⟨la_vp (by omega) (by omega), ?_⟩
      rintro i43 rfl i45 rfl
      rw [uu_k (by omega), hi 209 1 (by omega), r1, la_nx]
      refine dl_yes (nq_u (nq_u hF5 (by unfold nqP; omega)) (by unfold nqP; omega)) ?_ (dk_u (dk_u y51 (by omega)) (by omega)) ?_ hQ
      · rw [uu_k (by omega), uu_k (by omega), y50, f4.1 205 8 (by omega), f2.1 205 8 (by omega)]
        exact h0
      · refine ⟨⟨uu_e, ?_⟩, ⟨?_, fun y => ⟨?_, ?_⟩, ?_⟩, fun t ht => ?_, fun w t e hw ht he => ?_, fun v hv => ?_, fun v s t hv => ?_, fun v s hv => ?_, fun t ht => ?_, fun v hv => ?_, ?_⟩
        · rw [uu_k (by omega), uu_k (by omega), hi _ _ (by omega)]; exact r1'
        · rw [uu_k (by omega), uu_k (by omega), hi _ _ (by omega)]; exact r2
        · rw [uu_k (by omega), uu_k (by omega), hi _ _ (by omega)]; exact (r2' y).1
        · rw [uu_k (by omega), uu_k (by omega), hi _ _ (by omega)]; exact (r2' y).2
        · rw [uu_k (by omega), uu_k (by omega), hi _ _ (by omega)]; exact r2''
        · show _ = Int32.ofNat (ab_u (ab_u st 1 (st 0 0) (z_w z (z_e z p))) 3 (st 0 0) (z_v z (z_e z (z_e z p))) 3 t)
          have ht : t < st 0 0 + 1 := ht
          rw [uu_k (by omega)]
          by_cases e : t = st 0 0
          · rw [e, uu_e, uu_e]
          · rw [uu_j (by omega), uu_j e, hi _ _ (by omega), uu_k (by omega)]
            exact r3 t (by omega)
        · rw [uu_k (by omega), uu_k (by omega), hi _ _ (by omega)]
          exact r4 w t e hw ht he
        · exact absurd (show v < st 0 1 from hv) (by omega)
        · exact absurd (show v < st 0 1 from hv) (by omega)
        · exact absurd (show v < st 0 1 from hv) (by omega)
        · show l38 207 (3 + t) = Int64.ofNat (cv_ 6 (ab_u st 1 (st 0 0) (z_w z (z_e z p)) 1 t))
          have ht : t < st 0 0 + 1 := ht
          rw [f5.2 207 _ (by omega), f4.2 207 _ (by omega)]
          by_cases e : t = st 0 0
          · rw [e, uu_e, uu_e]
          · rw [uu_j (by omega), uu_j e, f2.2 207 _ (by omega)]
            exact r8 t (by omega)
        · exact absurd (show v < st 0 1 from hv) (by omega)
        · rw [uu_k (by omega), uu_k (by omega), f5.1 205 27 (by omega), f4.1 205 27 (by omega), f2.1 205 27 (by omega)]
          exact r10
    · rw [rc_n c5]
      exact ⟨fun y => absurd rfl y, fun _ => dl_no c5 hF5 (n5 c5) hQ⟩
  · rw [rc_n c3]
    exact ⟨fun y => absurd rfl y, fun _ => dl_no c3 (nq_h (hf_t hF2 f3)) (n3 c3) hQ⟩
/-- one voter's weight -/
theorem dR_w {st : ps_} {v w : Nat} (hv : v < st 0 1) (hR : dR_ st i l) : dR_ (ab_u st 10 v w) (ab_u i 218 (7 + v) (Int32.ofNat w)) l := by
  obtain ⟨⟨r1, r1'⟩, ⟨r2, r2', r2''⟩, r3, r4, r5, r6, r7, r8, r9, r10⟩ := hR
  have hi : ∀ k j, k ≠ 218 → ab_u i 218 (7 + v) (Int32.ofNat w) k j = i k j := fun k j h => uu_k h
  refine ⟨⟨?_, ?_⟩, ⟨?_, fun y => ⟨?_, ?_⟩, ?_⟩, fun t ht => ?_, fun w t e hw ht he => ?_, fun u hu => ⟨?_, ?_, ?_, fun y => ?_⟩, fun v s t hv hs ht => ?_, fun v s hv h7 hs => ?_, r8, r9, ?_⟩
  · rw [hi _ _ (by omega)]; exact r1
  · rw [hi _ _ (by omega)]; exact r1'
  · rw [hi _ _ (by omega)]; exact r2
  · rw [hi _ _ (by omega)]; exact (r2' y).1
  · rw [hi _ _ (by omega)]; exact (r2' y).2
  · rw [hi _ _ (by omega)]; exact r2''
  · rw [hi _ _ (by omega)]; exact r3 t ht
  · rw [hi _ _ (by omega)]; exact r4 w t e hw ht he
  · rw [hi _ _ (by omega)]; exact (r5 u hu).1
  · show _ = Int32.ofNat (ab_u st 10 v w 10 u)
    by_cases e : u = v
    · rw [e, uu_e, uu_e]
    · rw [uu_j (by omega), uu_j e]
      exact (r5 u hu).2.1
  · rw [hi _ _ (by omega)]; exact (r5 u hu).2.2.1
  · rw [hi _ _ (by omega)]; exact (r5 u hu).2.2.2 y
  · rw [hi _ _ (by omega)]; exact r6 v s t hv hs ht
  · rw [hi _ _ (by omega)]; exact r7 v s hv h7 hs
  · rw [hi _ _ (by omega)]; exact r10
theorem mb_weight {z : (Nat → Nat) × Nat} {st : ps_} {p : Nat} {a1 : Int32} (hT : dt_z z i) (hp : p ≤ z.2) (hk : z_k z p < 3) (hJ : PJ_ st) (hR : dR_ st i l) (h0 : i 205 8 = 0) (k : dk_ z p i l) {Q : ab_Qt} (hQ : ∀ i2 l2, nq_ i i2 l l2 → ((b_weight z st p).1 = 0 → i2 205 8 = 0 ∧ dk_ z (b_weight z st p).2.1 i2 l2 ∧ dR_ (b_weight z st p).2.2 i2 l2) → ((b_weight z st p).1 ≠ 0 → i2 205 8 = Int32.ofNat (b_weight z st p).1 ∧ i2 205 9 = Int32.ofNat (b_weight z st p).2.1) → ab_Fr MX12_readLine (d + 7) Q 163 [some (.ref 205), none, some (.int (rc_ (b_weight z st p).1)), none] [] (0, 0) (i2, l2, dd, x) (ab_E0 sc)) : ∃ (P48 : ab_S → Prop), ab_Sp MX12_go (d + 6) [.ref 205] (i, l, dd, x) (ab_E0 sc) none P48 ∧ ∀ i51 l52 dd53 x54, P48 (i51, l52, dd53, x54) → ∃ (r56 : Int32) (P57 : ab_S → Prop), ab_Sp MX12_readVoter (d + 6) [.ref 205] (i51, l52, dd53, x54) (ab_E0 sc) (some (.int r56)) P57 ∧ ∀ i60 l61 dd62 x63, P57 (i60, l61, dd62, x63) → ((r56 = 0 → ab_Fr MX12_readLine (d + 7) Q 138 [some (.ref 205), none, some (.int r56), some (.int (i60 205 28))] [] (0, 0) (i60, l61, dd62, x63) (ab_E0 sc)) ∧ (¬ r56 = 0 → (∃ (r66 : Int32) (P67 : ab_S → Prop), ab_Sp MX12_readNumber (d + 6) [.ref 205, .int 0, .int 9] (i60, l61, dd62, x63) (ab_E0 sc) (some (.int r66)) P67 ∧ ∀ i70 l71 dd72 x73, P67 (i70, l71, dd72, x73) → ab_Fr MX12_readLine (d + 7) Q 138 [some (.ref 205), none, some (.int r66), some (.int (i60 205 28))] [] (0, 0) (i70, l71, dd72, x73) (ab_E0 sc)))) := by
  obtain ⟨⟨a1, a2, a3, a4, a5, a6, a7⟩, hB, hC, hD, hE⟩ := hJ
  have g1 := g_e hp hk
  have hN := dN_of hR a1 a2 hB
  unfold b_weight at hQ
  refine ⟨_, md_tok (d := d + 4) hT g1.2 (k.2.2.1 hk), ?_⟩
  rintro i7 l8 dd9 x10 ⟨i2, l2, ⟨⟩, f2, k2⟩
  have hF2 := hf_of f2
  refine ⟨_, _, md_rVoter (d := d + 1) (st := st) (hf_z hT hF2) g1.2 (dN_h hN hF2) k2, ?_⟩
  rintro i16 l17 dd18 x19 ⟨i3, l3, ⟨⟩, f3, y3, n3⟩
  have hF3 := hf_t hF2 f3
  by_cases c3 : c_vo z st (z_e z p) = 0
  · rw [ch_y c3] at hQ
    rw [c3]
    obtain ⟨k1, x1, t1⟩ := c_vo0 c3
    obtain ⟨y30, y31, y32⟩ := y3 c3
    have g2 := g_e g1.2 (show z_k z (z_e z p) < 3 by omega)
    refine ⟨fun y => absurd y rc_y, fun _ => ⟨_, _, md_num (d := d + 3) (a := 0) (b := 9) (hf_z hT hF3) g2.2 y31 (by omega) (by omega), ?_⟩⟩
    rintro i70 l71 dd72 x73 ⟨i4, l4, ⟨⟩, f4, y4, n4⟩
    have hF4 := hf_t hF3 f4
    rw [y32]
    by_cases c4 : c_num z 0 9 (z_e z (z_e z p)) = 0
    · rw [ch_y c4] at hQ
      rw [c4]
      obtain ⟨y40, y41, y42⟩ := y4 c4
      refine tMX12_readLine_138 (d := d + 6) ⟨fun y => absurd y rc_y, fun _ => ?_⟩
      rw [nn_p7, nn_add, nn_cl (by omega), y42]
      refine ⟨la_vp (by omega) (by omega), ?_⟩
      rintro i5 rfl
      refine hQ _ l71 (nq_u (nq_h hF4) (by unfold nqP; omega)) (fun _ => ⟨?_, dk_u y41 (by omega), dR_w t1 (dR_hf hR hF4)⟩) (fun h => absurd rfl h)
      rw [uu_k (by omega), y40, y30, f2.1 205 8 (by omega)]
      exact h0
    · rw [show ch_ (c_num z 0 9 (z_e z (z_e z p))) (z_p z (z_e z (z_e z p))) st (0, z_e z (z_e z (z_e z p)), ab_u st 10 (fV_ z st (z_e z p)) (z_v z (z_e z (z_e z p)))) = (c_num z 0 9 (z_e z (z_e z p)), z_p z (z_e z (z_e z p)), st) from if_neg c4] at hQ
      have h3 := hQ i70 l71 (nq_h hF4) (fun h => absurd h c4) (fun _ => n4 c4)
      exact tMX12_readLine_138 (d := d + 6) ⟨fun _ => h3, fun y => absurd (rc_n c4) y⟩
  · rw [show ch_ (c_vo z st (z_e z p)) (z_p z (z_e z p)) st (ch_ (c_num z 0 9 (z_e z (z_e z p))) (z_p z (z_e z (z_e z p))) st (0, z_e z (z_e z (z_e z p)), ab_u st 10 (fV_ z st (z_e z p)) (z_v z (z_e z (z_e z p))))) = (c_vo z st (z_e z p), z_p z (z_e z p), st) from if_neg c3] at hQ
    have h3 := hQ i16 l17 (nq_h hF3) (fun h => absurd h c3) (fun _ => n3 c3)
    exact ⟨fun _ => tMX12_readLine_138 (d := d + 6) ⟨fun _ => h3, fun y => absurd (rc_n c3) y⟩, fun y => absurd (rc_n c3) y⟩
/-- a loss told -/
theorem dR_o {st : ps_} {who t0 e0 w : Nat} (ht0 : t0 < 3) (he0 : e0 < 3) (hw5 : w ≤ 50) (hR : dR_ st i l) : dR_ (ab_u st 6 (9 * who + 3 * t0 + e0) w) (ab_u i 214 (72 + 9 * who + 3 * t0 + e0) (Int32.ofNat w)) l := by
  obtain ⟨⟨r1, r1'⟩, ⟨r2, r2', r2''⟩, r3, r4, r5, r6, r7, r8, r9, r10⟩ := hR
  have hi : ∀ k j, k ≠ 214 → ab_u i 214 (72 + 9 * who + 3 * t0 + e0) (Int32.ofNat w) k j = i k j := fun k j h => uu_k h
  refine ⟨⟨?_, ?_⟩, ⟨?_, fun y => ⟨?_, ?_⟩, ?_⟩, fun t ht => ?_, fun u t e hu ht he => ?_, fun u hu => ⟨?_, ?_, ?_, fun y => ?_⟩, fun v s t hv hs ht => ?_, fun v s hv h7 hs => ?_, r8, r9, ?_⟩
  · rw [hi _ _ (by omega)]; exact r1
  · rw [hi _ _ (by omega)]; exact r1'
  · rw [hi _ _ (by omega)]; exact r2
  · rw [hi _ _ (by omega)]; exact (r2' y).1
  · rw [hi _ _ (by omega)]; exact (r2' y).2
  · rw [hi _ _ (by omega)]; exact r2''
  · rw [hi _ _ (by omega)]; exact r3 t ht
  · show _ = kt_ (ab_u st 6 (9 * who + 3 * t0 + e0) w 6 (9 * u + 3 * t + e))
    by_cases c : 9 * u + 3 * t + e = 9 * who + 3 * t0 + e0
    · rw [c, uu_e, show 72 + 9 * u + 3 * t + e = 72 + 9 * who + 3 * t0 + e0 by omega, uu_e]
      exact (if_neg (by omega)).symm
    · rw [uu_j (by omega), uu_j c]
      exact r4 u t e hu ht he
  · rw [hi _ _ (by omega)]; exact (r5 u hu).1
  · rw [hi _ _ (by omega)]; exact (r5 u hu).2.1
  · rw [hi _ _ (by omega)]; exact (r5 u hu).2.2.1
  · rw [hi _ _ (by omega)]; exact (r5 u hu).2.2.2 y
  · rw [hi _ _ (by omega)]; exact r6 v s t hv hs ht
  · rw [hi _ _ (by omega)]; exact r7 v s hv h7 hs
  · rw [hi _ _ (by omega)]; exact r10
theorem mb_loss {z : (Nat → Nat) × Nat} {st : ps_} {p : Nat} (hT : dt_z z i) (hp : p ≤ z.2) (hk : z_k z p < 3) (hJ : PJ_ st) (hR : dR_ st i l) (h0 : i 205 8 = 0) (k : dk_ z p i l) : ab_Sp MX12_readLoss (d + 6) [.ref 205] (i, l, dd, x) (ab_E0 sc) (some (.int (rc_ (b_loss z st p).1))) (db_ z (b_loss z st p) i l dd x) := by
  obtain ⟨⟨a1, a2, a3, a4, a5, a6, a7⟩, hB, hC, hD, hE⟩ := hJ
  have g1 := g_e hp hk
  have hN := dN_of hR a1 a2 hB
  obtain ⟨fv1, fv2, fv3⟩ := fi_l (f := st 2) (w := z_w z (z_e z p)) (st 0 1)
  refine ab_ent (n := 0) okMX12_readLoss.1 (fun G => Nat.le_of_ble_eq_true rfl) (fun Q hQ => ?_)
  unfold b_loss at hQ
  refine tMX12_readLoss_0 (d := d + 5) ⟨_, md_tok (d := d + 3) hT g1.2 (k.2.2.1 hk), ?_⟩
  rintro i5 l6 dd7 x8 ⟨i2, l2, ⟨⟩, f2, k2⟩
  have hF2 := hf_of f2
  refine ⟨_, _, md_isName (d := d + 1) g1.2 k2, ?_⟩
  rintro i14 l15 dd16 x17 ⟨⟩
  rw [if10]
  -- the truths and the number
  have h37 : ∀ (who q : Nat) (i3 : Nat → Nat → Int32) (l3 : Nat → Nat → Int64), (who < st 0 1 ∨ who = 7) → q ≤ z.2 → hf_ i i3 l l3 → i3 205 8 = 0 → dk_ z q i3 l3 → (∀ σ, db_ z (l_2 z st who q) i l dd x σ → Q (some (some (.int (rc_ (l_2 z st who q).1)))) σ (ab_E0 sc)) → ab_Fr MX12_readLoss (d + 6) Q 37 [some (.ref 205), some (.int (Int32.ofNat who)), none, none] [] (0, 0) (i3, l3, dd, x) (ab_E0 sc) := by
    intro who q i3 l3 hw hq F3 h03 k3 hQ
    unfold l_2 at hQ
    refine tMX12_readLoss_37 (d := d + 5) ⟨_, _, md_rTruth (d := d) (st := st) (hf_z hT F3) hq (dN_h hN F3) k3, ?_⟩
    rintro i5 l6 dd7 x8 ⟨i4, l4, ⟨⟩, f4, y4, n4⟩
    have F4 := hf_t F3 f4
    by_cases c4 : c_tr z st q = 0
    · rw [ch_y c4] at hQ
      rw [c4]
      obtain ⟨q1, q2, t4⟩ := c_tr0 c4
      obtain ⟨y40, y41, y42⟩ := y4 c4
      have g4 := g_e hq (show z_k z q < 3 by omega)
      refine ⟨fun _ => ⟨_, _, md_rTruth (d := d) (st := st) (hf_z hT F4) g4.2 (dN_h hN F4) y41, ?_⟩, fun y => absurd y rc_y⟩
      rintro i15 l16 dd17 x18 ⟨i6, l6', ⟨⟩, f6, y6, n6⟩
      have F6 := hf_t F4 f6
      by_cases c6 : c_tr z st (z_e z q) = 0
      · rw [ch_y c6] at hQ
        rw [c6]
        obtain ⟨q3, q4, t6⟩ := c_tr0 c6
        obtain ⟨y60, y61, y62⟩ := y6 c6
        have g6 := g_e g4.2 (show z_k z (z_e z q) < 3 by omega)
        refine ⟨fun _ => ⟨_, _, md_num (d := d + 2) (a := 0) (b := 50) (hf_z hT F6) g6.2 y61 (by omega) (by omega), ?_⟩, fun y => absurd y rc_y⟩
        rintro i25 l26 dd27 x28 ⟨i8, l8', ⟨⟩, f8, y8, n8⟩
        have F8 := hf_t F6 f8
        by_cases c8 : c_num z 0 50 (z_e z (z_e z q)) = 0
        · rw [ch_y c8] at hQ
          rw [c8]
          obtain ⟨q5, w1, w2⟩ := c_num0 c8
          obtain ⟨y80, y81, y82⟩ := y8 c8
          refine ⟨fun _ => ?_, fun y => absurd y rc_y⟩
          rw [y42, y62, y82, show (72 : Int32) = Int32.ofNat 72 from rfl, nn_p9, nn_p3, nn_mul, nn_mul, nn_add, nn_add, nn_add, nn_cl (by omega)]
          refine ⟨la_vp (by omega) (by omega), ?_⟩
          rintro i31 rfl
          refine dl_yes (nq_u (nq_h F8) (by unfold nqP; omega)) ?_ (dk_u y81 (by omega)) (dR_o (by omega) (by omega) w2 (dR_hf hR F8)) hQ
          rw [uu_k (by omega), y80, y60, y40]
          exact h03
        · rw [rc_n c8]
          exact ⟨fun y => absurd rfl y, fun _ => dl_no c8 (nq_h F8) (n8 c8) hQ⟩
      · rw [rc_n c6]
        exact ⟨fun y => absurd rfl y, fun _ => dl_no c6 (nq_h F6) (n6 c6) hQ⟩
    · rw [rc_n c4]
      exact ⟨fun y => absurd rfl y, fun _ => dl_no c4 (nq_h F4) (n4 c4) hQ⟩
  have h02 : i5 205 8 = 0 := by rw [f2.1 205 8 (by omega)]; exact h0
  refine ⟨fun c => ?_, fun c => ?_⟩
  · have c' : zN_ z (z_e z p) := Classical.byContradiction (fun y => c y)
    rw [ch_y (if_pos c')] at hQ
    have g2 := g_e g1.2 (show z_k z (z_e z p) < 3 by have := c'.1; omega)
    refine ⟨_, _, md_findV (d := d + 4) (st := st) g1.2 (dN_h hN hF2) k2 c'.1, ?_⟩
    rintro i24 l25 dd26 x27 ⟨⟩
    by_cases c2 : fV_ z st (z_e z p) < st 0 1
    · rw [if_pos c2] at hQ
      rw [fx_y c2, nn_em (by omega)]
      refine ⟨fun y => y.elim, fun _ => ⟨_, md_tok (d := d + 3) (hf_z hT hF2) g2.2 (k2.2.2.1 (by have := c'.1; omega)), ?_⟩⟩
      rintro i34 l35 dd36 x37 ⟨i3, l3, ⟨⟩, f3, k3⟩
      exact h37 _ _ i34 l35 (Or.inl c2) g2.2 (hf_t hF2 (hf_of f3)) (by rw [f3.1 205 8 (by omega)]; exact h02) k3 hQ
    · rw [if_neg c2] at hQ
      rw [show fx_ (st 0 1) (fV_ z st (z_e z p)) = -1 from if_neg c2]
      exact ⟨fun _ => h37 7 _ i5 l6 (Or.inr rfl) g1.2 hF2 h02 k2 hQ, fun y => absurd rfl y⟩
  · rw [if_neg c] at hQ
    exact mb_bad (d := d + 4) (c := 1) (by omega) (nq_h hF2) k2 rfl (Or.inl rfl) hQ
end TKN
