/-! TOKENS, the model -/
section TKC
variable {d : Nat} {sc : Nat × (Nat → Int32)} {i : Nat → Nat → Int32} {l : Nat → Nat → Int64} {dd : Nat → Nat → Value} {x : Nat}
def dt_z (z : (Nat → Nat) × Nat) (i : Nat → Nat → Int32) : Prop := z.2 ≤ 740 ∧ i 205 3 = Int32.ofNat z.2 ∧ ∀ j, j < z.2 → i 206 j = Int32.ofNat (z.1 j) ∧ z.1 j ≤ 255
def gf_ (i i2 : Nat → Nat → Int32) (l l2 : Nat → Nat → Int64) : Prop := (∀ k j, ¬ (k = 205 ∧ 4 ≤ j ∧ j ≤ 7) → i2 k j = i k j) ∧ ∀ k j, ¬ (k = 205 ∧ j = 10) → l2 k j = l k j
theorem gf_r : gf_ i i l l := ⟨fun _ _ _ => rfl, fun _ _ _ => rfl⟩
theorem gf_t {i2 i3 : Nat → Nat → Int32} {l2 l3 : Nat → Nat → Int64} (h1 : gf_ i i2 l l2) (h2 : gf_ i2 i3 l2 l3) : gf_ i i3 l l3 := ⟨fun k j h => (h2.1 k j h).trans (h1.1 k j h), fun k j h => (h2.2 k j h).trans (h1.2 k j h)⟩
theorem gf_ui {i2 : Nat → Nat → Int32} {l2 : Nat → Nat → Int64} {q : Nat} {v : Int32} (h1 : gf_ i i2 l l2) (h : 4 ≤ q ∧ q ≤ 7) : gf_ i (ab_u i2 205 q v) l l2 := ⟨fun k j hk => by
  rw [show ab_u i2 205 q v k j = i2 k j from if_neg (fun e => hk ⟨e.1, by omega⟩)]
  exact h1.1 k j hk, h1.2⟩
theorem gf_ul {i2 : Nat → Nat → Int32} {l2 : Nat → Nat → Int64} {v : Int64} (h1 : gf_ i i2 l l2) : gf_ i i2 l (ab_u l2 205 10 v) := ⟨h1.1, fun k j hk => by
  rw [show ab_u l2 205 10 v k j = l2 k j from if_neg hk]
  exact h1.2 k j hk⟩
theorem gf_z {z : (Nat → Nat) × Nat} {i2 : Nat → Nat → Int32} (hT : dt_z z i) (h : ∀ k j, (k = 205 ∧ j = 3) ∨ k = 206 → i2 k j = i k j) : dt_z z i2 := ⟨hT.1, by rw [h 205 3 (Or.inl ⟨rfl, rfl⟩)]; exact hT.2.1, fun j hj => by rw [h 206 j (Or.inr rfl)]; exact hT.2.2 j hj⟩
theorem gf_zz {z : (Nat → Nat) × Nat} {i2 : Nat → Nat → Int32} {l2 : Nat → Nat → Int64} (hT : dt_z z i) (h : gf_ i i2 l l2) : dt_z z i2 := gf_z hT (fun k j hk => h.1 k j (by omega))
theorem md_letter {c : Nat} (hc : c ≤ 255) : ab_Sp MX12_isLetter (d + 1) [.int (Int32.ofNat c)] (i, l, dd, x) (ab_E0 sc) (some (.int (if zL c then 1 else 0))) (fun σ => σ = (i, l, dd, x)) := by
  refine ab_ent (n := 1) okMX12_isLetter.1 (fun G => Nat.le_of_ble_eq_true rfl) (fun Q hQ => ?_)
  refine tMX12_isLetter_0 (d := d) ?_
  rw [nk_97, nk_122, nn_lt (by omega) (by omega), nn_lt (by omega) (by omega)]
  by_cases c1 : zL c
  · rw [if_pos c1] at hQ
    exact ⟨fun y => by omega, fun _ => ⟨fun y => by omega, fun _ => hQ _ rfl⟩⟩
  · rw [if_neg c1] at hQ
    exact ⟨fun _ => hQ _ rfl, fun y => ⟨fun _ => hQ _ rfl, fun y2 => absurd ⟨by omega, by omega⟩ c1⟩⟩
theorem md_digit {c : Nat} (hc : c ≤ 255) : ab_Sp MX12_isDigit (d + 1) [.int (Int32.ofNat c)] (i, l, dd, x) (ab_E0 sc) (some (.int (if zD c then 1 else 0))) (fun σ => σ = (i, l, dd, x)) := by
  refine ab_ent (n := 1) okMX12_isDigit.1 (fun G => Nat.le_of_ble_eq_true rfl) (fun Q hQ => ?_)
  refine tMX12_isDigit_0 (d := d) ?_
  rw [nk_48, nk_57, nn_lt (by omega) (by omega), nn_lt (by omega) (by omega)]
  by_cases c1 : zD c
  · rw [if_pos c1] at hQ
    exact ⟨fun y => by omega, fun _ => ⟨fun y => by omega, fun _ => hQ _ rfl⟩⟩
  · rw [if_neg c1] at hQ
    exact ⟨fun _ => hQ _ rfl, fun y => ⟨fun _ => hQ _ rfl, fun y2 => absurd ⟨by omega, by omega⟩ c1⟩⟩
def zc_ (z : (Nat → Nat) × Nat) (p : Nat) : Nat := if p < z.2 then z.1 p else 0
theorem zc_l {z : (Nat → Nat) × Nat} {p : Nat} (hT : dt_z z i) : zc_ z p ≤ 255 := by
  unfold zc_
  split
  · rename_i h
    exact (hT.2.2 p h).2
  · omega
theorem md_byteAt {z : (Nat → Nat) × Nat} {p : Nat} (hT : dt_z z i) (hp : p ≤ 740) : ab_Sp MX12_byteAt (d + 1) [.ref 205, .int (Int32.ofNat p)] (i, l, dd, x) (ab_E0 sc) (some (.int (Int32.ofNat (zc_ z p)))) (fun σ => σ = (i, l, dd, x)) := by
  have hN := hT.1
  refine ab_ent (n := 1) okMX12_byteAt.1 (fun G => Nat.le_of_ble_eq_true rfl) (fun Q hQ => ?_)
  refine tMX12_byteAt_0 (d := d) ?_
  rw [hT.2.1, nn_le (by omega) (by omega)]
  refine ⟨fun c => ?_, fun c => ⟨la_vp (by omega) (by omega), ?_⟩⟩
  · rw [show zc_ z p = 0 from if_neg (by omega)] at hQ
    exact hQ _ rfl
  · rw [show zc_ z p = z.1 p from if_pos (by omega)] at hQ
    rw [nn_cl (by omega), (hT.2.2 p (by omega)).1]
    exact hQ _ rfl
/-- chars of the other sort than the first -/
def zo_ (f : Nat) (z : (Nat → Nat) × Nat) (q j : Nat) : Nat := if f = 1 then zd_ z q j else zl_ z q j
def zk_ (f : Nat) (z : (Nat → Nat) × Nat) (q j : Nat) : Nat := if zo_ f z q j = 0 ∧ j ≤ (if f = 1 then 6 else 2) then (if f = 1 then 2 else 3) else 1
theorem mg_177 {z : (Nat → Nat) × Nat} {q f : Nat} {i0 : Nat → Nat → Int32} {l0 : Nat → Nat → Int64} (hT : dt_z z i0) (hf : f < 2) {Q : ab_Qt} (hQ : ∀ j i2 l2, z_len z q = j → gf_ i0 i2 l0 l2 → i2 205 5 = Int32.ofNat q → i2 205 4 = Int32.ofNat (q + j) → i2 205 6 = Int32.ofNat (zk_ f z q j) → (zd_ z q j = 0 → j ≤ 6 → l2 205 10 = Int64.ofNat (z27 z q j)) → (zl_ z q j = 0 → j ≤ 2 → i2 205 7 = Int32.ofNat (zn_ z q j)) → Q (some none) (i2, l2, dd, x) (ab_E0 sc)) :
    ∀ (n j : Nat) (i2 : Nat → Nat → Int32) (l2 : Nat → Nat → Int64), z.2 = q + j + n → (∀ k, k < j → zD (z.1 (q + k)) ∨ zL (z.1 (q + k))) → gf_ i0 i2 l0 l2 → i2 205 5 = Int32.ofNat q → i2 205 4 = Int32.ofNat (q + j) → (zd_ z q j = 0 → j ≤ 6 → l2 205 10 = Int64.ofNat (z27 z q j)) → (zl_ z q j = 0 → j ≤ 2 → i2 205 7 = Int32.ofNat (zn_ z q j)) → ab_Fr MX12_go (d + 2) Q 177 [some (.ref 205), none, some (.int (Int32.ofNat f)), some (.int (if zo_ f z q j = 0 then 1 else 0)), none] [] (0, 0) (i2, l2, dd, x) (ab_E0 sc) := by
  intro n
  have hN := hT.1
  -- the end of the run
  have hend : ∀ j i2 l2, z_len z q = j → q + j ≤ z.2 → gf_ i0 i2 l0 l2 → i2 205 5 = Int32.ofNat q → i2 205 4 = Int32.ofNat (q + j) → (zd_ z q j = 0 → j ≤ 6 → l2 205 10 = Int64.ofNat (z27 z q j)) → (zl_ z q j = 0 → j ≤ 2 → i2 205 7 = Int32.ofNat (zn_ z q j)) → (((if zo_ f z q j = 0 then (1 : Int32) else 0) = 0 → (∀ i40, i40 = ab_u i2 205 6 1 → Q (some none) (i40, l2, dd, x) (ab_E0 sc))) ∧ (¬ (if zo_ f z q j = 0 then (1 : Int32) else 0) = 0 → ((Int32.ofNat f = 0 → ab_Fr MX12_go (d + 2) Q 336 [none, none, some (.int (Int32.ofNat f)), none, none] [.int 2, .int ((i2 205 4) - (i2 205 5)), .ref 205] (0, 0) (i2, l2, dd, x) (ab_E0 sc)) ∧ (¬ Int32.ofNat f = 0 → ab_Fr MX12_go (d + 2) Q 336 [none, none, some (.int (Int32.ofNat f)), none, none] [.int 6, .int ((i2 205 4) - (i2 205 5)), .ref 205] (0, 0) (i2, l2, dd, x) (ab_E0 sc))))) := by
    intro j i2 l2 hj hjN f2 h5 h4 h10 h7
    have hset : ∀ k, k = zk_ f z q j → Q (some none) (ab_u i2 205 6 (Int32.ofNat k), l2, dd, x) (ab_E0 sc) := fun k hk => by
      refine hQ j _ l2 hj (gf_ui f2 (by omega)) ?_ ?_ ?_ h10 (fun a b => ?_)
      · rw [uu_j (by omega)]
        exact h5
      · rw [uu_j (by omega)]
        exact h4
      · rw [uu_e, hk]
      · rw [uu_j (by omega)]
        exact h7 a b
    have hw : ∀ s, s = (if f = 1 then 6 else 2) → zo_ f z q j = 0 → ab_Fr MX12_go (d + 2) Q 336 [none, none, some (.int (Int32.ofNat f)), none, none] [.int (Int32.ofNat s), .int ((i2 205 4) - (i2 205 5)), .ref 205] (0, 0) (i2, l2, dd, x) (ab_E0 sc) := fun s hs c0 => by
      refine tMX12_go_336 (d := d + 1) ?_
      have hs6 : s ≤ 6 := by
        rw [hs]
        split <;> omega
      rw [h4, h5, nn_sub (by omega), show q + j - q = j by omega, nn_le (by omega) (by omega), nn_p0, nn_eq (by omega) (by omega)]
      refine ⟨fun c => ⟨fun c1 => ?_, fun c1 => ?_⟩, fun c => ?_⟩
      · rintro i3 rfl
        refine hset 3 ?_
        unfold zk_
        rw [if_pos ⟨c0, by rw [← hs]; exact c⟩, if_neg (by omega)]
      · rintro i3 rfl
        refine hset 2 ?_
        unfold zk_
        rw [if_pos ⟨c0, by rw [← hs]; exact c⟩, if_pos (by omega)]
      · rintro i3 rfl
        refine hset 1 ?_
        unfold zk_
        rw [if_neg (fun y => c (by rw [hs]; exact y.2))]
    by_cases c0 : zo_ f z q j = 0
    · rw [if_pos c0, nn_p0, nn_eq (by omega) (by omega)]
      refine ⟨fun y => absurd y (by decide), fun _ => ⟨fun c => hw 2 (by rw [if_neg (by omega)]) c0, fun c => hw 6 (by rw [if_pos (by omega)]) c0⟩⟩
    · rw [if_neg c0]
      refine ⟨fun _ => ?_, fun y => absurd rfl y⟩
      rintro i40 rfl
      refine hset 1 ?_
      unfold zk_
      rw [if_neg (fun y => c0 y.1)]
  induction n with
  | zero =>
    intro j i2 l2 hj hr f2 h5 h4 h10 h7
    have hT2 := gf_zz hT f2
    have ec : zc_ z (q + j) = 0 := if_neg (by omega)
    refine tMX12_go_177 (d := d + 1) ?_
    rw [h4]
    refine ⟨_, _, md_byteAt (d := d) hT2 (by omega), ?_⟩
    rintro i5 l6 dd7 x8 ⟨⟩
    refine ⟨_, _, md_letter (d := d) (zc_l hT2), ?_⟩
    rintro i5 l6 dd7 x8 ⟨⟩
    rw [ec, if_neg (by omega)]
    refine ⟨fun y => absurd rfl y, fun _ => ?_⟩
    rw [h4]
    refine ⟨_, _, md_byteAt (d := d) hT2 (by omega), ?_⟩
    rintro i5 l6 dd7 x8 ⟨⟩
    refine ⟨_, _, md_digit (d := d) (zc_l hT2), ?_⟩
    rintro i5 l6 dd7 x8 ⟨⟩
    rw [ec, if_neg (show ¬ zD 0 by omega)]
    exact ⟨fun _ => hend j i2 l2 (z_lenj j q hr (by omega) (Or.inl (by omega))) (by omega) f2 h5 h4 h10 h7, fun y => absurd rfl y⟩
  | succ n ih =>
    intro j i2 l2 hj hr f2 h5 h4 h10 h7
    have hT2 := gf_zz hT f2
    obtain ⟨eb, hb⟩ := hT2.2.2 (q + j) (by omega)
    have ec : zc_ z (q + j) = z.1 (q + j) := if_pos (by omega)
    have el : zl_ z q (j + 1) = zl_ z q j + (if zL (z.1 (q + j)) then 1 else 0) := rfl
    have ed : zd_ z q (j + 1) = zd_ z q j + (if zD (z.1 (q + j)) then 1 else 0) := rfl
    have en : zn_ z q (j + 1) = if zD (z.1 (q + j)) then zn_ z q j * 10 + z.1 (q + j) - 48 else zn_ z q j := rfl
    have e27 : z27 z q (j + 1) = 27 * z27 z q j + z.1 (q + j) - 96 := rfl
    have h205 : (zD (z.1 (q + j)) ∨ zL (z.1 (q + j))) → ab_Fr MX12_go (d + 2) Q 205 [some (.ref 205), none, some (.int (Int32.ofNat f)), some (.int (if zo_ f z q j = 0 then 1 else 0)), none] [] (0, 0) (i2, l2, dd, x) (ab_E0 sc) := fun hrun => by
      have hr2 : ∀ k, k < j + 1 → zD (z.1 (q + k)) ∨ zL (z.1 (q + k)) := fun k hk => by
        by_cases e : k = j
        · rw [e]
          exact hrun
        · exact hr k (by omega)
      have h269 : ∀ l3, gf_ i0 i2 l0 l3 → (zd_ z q (j + 1) = 0 → j + 1 ≤ 6 → l3 205 10 = Int64.ofNat (z27 z q (j + 1))) → ab_Fr MX12_go (d + 2) Q 269 [some (.ref 205), none, some (.int (Int32.ofNat f)), some (.int (if zo_ f z q (j + 1) = 0 then 1 else 0)), some (.int (Int32.ofNat (z.1 (q + j))))] [] (0, 0) (i2, l3, dd, x) (ab_E0 sc) := fun l3 f3 h10' => by
        refine tMX12_go_269 (d := d + 1) ?_
        rw [h4, h5, nn_sub (by omega), show q + j - q = j by omega, nn_p2, nn_le (by omega) (by omega), la_nx]
        refine ⟨fun c => ?_, fun c => ?_⟩
        · rintro i3 rfl
          exact ih (j + 1) _ l3 (by omega) hr2 (gf_ui f3 (by omega)) (by rw [uu_j (by omega)]; exact h5) uu_e h10' (fun a b => by omega)
        · rintro i4 rfl i6 rfl
          rw [uu_j (by omega), h4, la_nx]
          refine ih (j + 1) _ l3 (by omega) hr2 (gf_ui (gf_ui f3 (by omega)) (by omega)) (by rw [uu_j (by omega), uu_j (by omega)]; exact h5) uu_e h10' (fun a b => ?_)
          rw [el] at a
          have hD : zD (z.1 (q + j)) := by
            rcases hrun with h | h
            · exact h
            · rw [if_pos h] at a
              omega
          rw [uu_j (by omega), uu_e, h7 (by omega) (by omega), en, if_pos hD, nn_p10, nk_48, nn_mul, nn_add, nn_sub (by omega), Nat.mul_comm]
      have h234 : ab_Fr MX12_go (d + 2) Q 234 [some (.ref 205), none, some (.int (Int32.ofNat f)), none, some (.int (Int32.ofNat (z.1 (q + j))))] [.int (if zo_ f z q (j + 1) = 0 then 1 else 0)] (0, 0) (i2, l2, dd, x) (ab_E0 sc) := by
        refine tMX12_go_234 (d := d + 1) ?_
        rw [h4, h5, nn_sub (by omega), show q + j - q = j by omega, nn_p6, nn_le (by omega) (by omega)]
        refine ⟨fun c => h269 l2 f2 (fun a b => by omega), fun c => ?_⟩
        rintro l3 rfl
        refine h269 _ (gf_ul f2) (fun a b => ?_)
        rw [ed] at a
        have hL : zL (z.1 (q + j)) := by
          rcases hrun with h | h
          · rw [if_pos h] at a
            omega
          · exact h
        rw [uu_e, h10 (by omega) (by omega), e27, nn_64 (by omega), show (27 : Int64) = Int64.ofNat 27 from rfl, show (96 : Int64) = Int64.ofNat 96 from rfl, nl_mul, nl_add, nl_sub (by omega)]
      refine tMX12_go_205 (d := d + 1) ?_
      rw [h4, nn_cl (by omega), eb]
      refine ⟨la_vp (by omega) (by omega), fun c => tMX12_go_233 (d := d + 1) ?_, fun c => ⟨_, _, md_letter (d := d) hb, ?_⟩⟩
      · have c0 : ¬ zo_ f z q j = 0 := fun y => by
          rw [if_pos y] at c
          exact absurd c (by decide)
        have c1 : ¬ zo_ f z q (j + 1) = 0 := fun y => c0 (by
          unfold zo_ at y ⊢
          split <;> rename_i h
          · rw [if_pos h, ed] at y
            omega
          · rw [if_neg h, el] at y
            omega)
        rw [if_neg c1] at h234
        exact h234
      · rintro i6 l7 dd8 x9 ⟨⟩
        have c0 : zo_ f z q j = 0 := Classical.byContradiction (fun y => c (if_neg y))
        have e1 : (if zL (z.1 (q + j)) then (1 : Int32) else 0) = Int32.ofNat (if zL (z.1 (q + j)) then 1 else 0) := by
          split <;> rfl
        rw [e1, nn_eq (by split <;> omega) (by omega)]
        refine ⟨fun c2 => tMX12_go_233 (d := d + 1) ?_, fun c2 => ?_⟩
        · have c1 : ¬ zo_ f z q (j + 1) = 0 := fun y => c2 (by
            unfold zo_ at y
            split at y <;> rename_i h
            · rw [ed] at y
              rcases hrun with g | g
              · rw [if_pos g] at y
                omega
              · rw [if_pos g, h]
            · rw [el] at y
              rcases hrun with g | g
              · rw [if_neg (by omega)]
                omega
              · rw [if_pos g] at y
                omega)
          rw [if_neg c1] at h234
          exact h234
        · have c1 : zo_ f z q (j + 1) = 0 := by
            unfold zo_ at c0 ⊢
            split at c0 <;> rename_i h
            · rw [if_pos h, ed]
              by_cases g : zL (z.1 (q + j))
              · rw [if_neg (by omega)]
                omega
              · rw [if_neg g] at c2
                omega
            · rw [if_neg h, el]
              by_cases g : zL (z.1 (q + j))
              · rw [if_pos g] at c2
                omega
              · rw [if_neg g]
                omega
          rw [if_pos c1] at h234
          exact h234
    refine tMX12_go_177 (d := d + 1) ?_
    rw [h4]
    refine ⟨_, _, md_byteAt (d := d) hT2 (by omega), ?_⟩
    rintro i5 l6 dd7 x8 ⟨⟩
    refine ⟨_, _, md_letter (d := d) (zc_l hT2), ?_⟩
    rintro i5 l6 dd7 x8 ⟨⟩
    rw [ec]
    by_cases cL : zL (z.1 (q + j))
    · rw [if_pos cL]
      exact ⟨fun _ => h205 (Or.inr cL), fun y => absurd y (by decide)⟩
    · rw [if_neg cL]
      refine ⟨fun y => absurd rfl y, fun _ => ?_⟩
      rw [h4]
      refine ⟨_, _, md_byteAt (d := d) hT2 (by omega), ?_⟩
      rintro i5 l6 dd7 x8 ⟨⟩
      refine ⟨_, _, md_digit (d := d) (zc_l hT2), ?_⟩
      rintro i5 l6 dd7 x8 ⟨⟩
      rw [ec]
      by_cases cD : zD (z.1 (q + j))
      · rw [if_pos cD]
        exact ⟨fun y => absurd y (by decide), fun _ => h205 (Or.inl cD)⟩
      · rw [if_neg cD]
        exact ⟨fun _ => hend j i2 l2 (z_lenj j q hr (by omega) (Or.inr (fun y => y.elim cD cL))) (by omega) f2 h5 h4 h10 h7, fun y => absurd rfl y⟩
def mkk (z : (Nat → Nat) × Nat) (k : Nat) : Nat := if k = 0 then 2 else if k = 1 then 3 else if k = 2 then 4 else if k = 3 ∧ ¬ 700 < z.2 then 0 else 1
theorem mkk_l {z : (Nat → Nat) × Nat} {k : Nat} : mkk z k ≤ 4 := by
  unfold mkk
  repeat' split
  all_goals omega
/-- the model has the token at p at hand -/
def dk_ (z : (Nat → Nat) × Nat) (p : Nat) (i : Nat → Nat → Int32) (l : Nat → Nat → Int64) : Prop := i 205 5 = Int32.ofNat (z_p z p) ∧ i 205 6 = Int32.ofNat (mkk z (z_k z p)) ∧ (z_k z p < 3 → i 205 4 = Int32.ofNat (z_e z p)) ∧ (z_k z p = 0 → l 205 10 = Int64.ofNat (cv_ 6 (z_w z p))) ∧ (z_k z p = 1 → i 205 7 = Int32.ofNat (z_v z p))
theorem md_tok {z : (Nat → Nat) × Nat} {p : Nat} (hT : dt_z z i) (hp : p ≤ z.2) (h4 : i 205 4 = Int32.ofNat p) : ab_Sp MX12_go (d + 2) [.ref 205] (i, l, dd, x) (ab_E0 sc) none (fun σ => ∃ i2 l2, σ = (i2, l2, dd, x) ∧ gf_ i i2 l l2 ∧ dk_ z p i2 l2) := by
  have hN := hT.1
  have hq := z_ql (z := z) (z.2 - p) p (by omega)
  refine ab_ent (n := 0) okMX12_go.1 (fun G => Nat.le_of_ble_eq_true rfl) (fun Q hQ => ?_)
  -- behind the blanks
  have h52 : ∀ i2, gf_ i i2 l l → i2 205 4 = Int32.ofNat (z_q z p) → ab_Fr MX12_go (d + 2) Q 52 [some (.ref 205), none, none, none, none] [] (0, 0) (i2, l, dd, x) (ab_E0 sc) := by
    intro i2 f2 h42
    have hT2 := gf_zz hT f2
    have h93 : ¬ (700 < z.2 ∧ 700 ≤ z_q z p) → ab_Fr MX12_go (d + 2) Q 93 [some (.ref 205), none, none, none, none] [] (0, 0) (ab_u i2 205 5 (Int32.ofNat (z_q z p)), l, dd, x) (ab_E0 sc) := by
      intro hn
      have f3 : gf_ i (ab_u i2 205 5 (Int32.ofNat (z_q z p))) l l := gf_ui f2 (by omega)
      have hT3 := gf_zz hT f3
      have h43 : (ab_u i2 205 5 (Int32.ofNat (z_q z p))) 205 4 = Int32.ofNat (z_q z p) := by rw [uu_j (by omega)]; exact h42
      refine tMX12_go_93 (d := d + 1) ?_
      rw [h43, hT3.2.1, nn_lt (by omega) (by omega), nn_cl (by omega)]
      refine ⟨fun c => ⟨la_vp (by omega) (by omega), ?_⟩, fun c => ?_⟩
      · obtain ⟨eb, hb⟩ := hT3.2.2 (z_q z p) c
        rw [eb]
        have hnp : ¬ (z.2 ≤ z_q z p ∨ 700 ≤ z_q z p) := by omega
        have ep : z_p z p = z_q z p := if_neg hnp
        have ek0 : z_k z p = if z.1 (z_q z p) = 59 then 2 else z_r z (z_q z p) := if_neg hnp
        have hr := z_lrun (z := z) (z.2 - z_q z p) (z_q z p) (by omega)
        have hzz := zl_zd _ hr
        have hdef : z_r z (z_q z p) = if zd_ z (z_q z p) (z_len z (z_q z p)) = 0 ∧ 1 ≤ zl_ z (z_q z p) (z_len z (z_q z p)) ∧ zl_ z (z_q z p) (z_len z (z_q z p)) ≤ 6 then 0 else if zl_ z (z_q z p) (z_len z (z_q z p)) = 0 ∧ 1 ≤ zd_ z (z_q z p) (z_len z (z_q z p)) ∧ zd_ z (z_q z p) (z_len z (z_q z p)) ≤ 2 then 1 else 4 := rfl
        have h160 : ∀ f, f < 2 → (f = 1 ↔ zL (z.1 (z_q z p))) → (zD (z.1 (z_q z p)) ∨ zL (z.1 (z_q z p))) → ab_Fr MX12_go (d + 2) Q 160 [some (.ref 205), some (.int (Int32.ofNat (z.1 (z_q z p)))), none, none, none] [] (0, 0) (ab_u i2 205 5 (Int32.ofNat (z_q z p)), l, dd, x) (ab_E0 sc) := by
          intro f hf hfL hrun
          rw [if_neg (by omega)] at ek0
          have hl1 := z_len1 (z := z) (q := z_q z p) c
          rw [if_pos hrun] at hl1
          refine tMX12_go_160 (d := d + 1) ⟨_, _, md_letter (d := d) hb, ?_⟩
          rintro i5 l6 dd7 x8 ⟨⟩
          rintro l10 rfl i12 rfl
          have e1 : (if zL (z.1 (z_q z p)) then (1 : Int32) else 0) = Int32.ofNat f := by
            by_cases g : zL (z.1 (z_q z p))
            · rw [if_pos g, hfL.mpr g]
              rfl
            · rw [if_neg g, show f = 0 from by
                have : f ≠ 1 := fun y => g (hfL.mp y)
                omega]
              rfl
          rw [e1]
          have hgo := mg_177 (d := d) (z := z) (q := z_q z p) (f := f) (i0 := i) (l0 := l) (dd := dd) (x := x) (sc := sc) (Q := Q) hT hf (fun j i4 l4 hj f4 k5 k4 k6 k10 k7 => ?_) (z.2 - z_q z p) 0 (ab_u (ab_u i2 205 5 (Int32.ofNat (z_q z p))) 205 7 0) (ab_u l 205 10 0) (by omega) (fun k hk => absurd hk (Nat.not_lt_zero k)) (gf_ul (gf_ui f3 (by omega))) (by rw [uu_j (by omega), uu_e]) (by rw [uu_j (by omega)]; exact h43) (fun _ _ => uu_e) (fun _ _ => uu_e)
          · rw [show (if zo_ f z (z_q z p) 0 = 0 then (1 : Int32) else 0) = 1 from if_pos (by unfold zo_; split <;> rfl)] at hgo
            exact hgo
          · rw [hj] at hl1 hr hzz hdef
            have hdl : f = 1 → zd_ z (z_q z p) j < j := fun y => by
              have g := hfL.mp y
              have : ∀ m, 1 ≤ m → (∀ k, k < m → zD (z.1 (z_q z p + k)) ∨ zL (z.1 (z_q z p + k))) → zd_ z (z_q z p) m < m := by
                intro m
                induction m with
                | zero => intro h; omega
                | succ m ihm =>
                  intro _ hm
                  have e : zd_ z (z_q z p) (m + 1) = zd_ z (z_q z p) m + (if zD (z.1 (z_q z p + m)) then 1 else 0) := rfl
                  rw [e]
                  by_cases e0 : m = 0
                  · rw [e0, Nat.add_zero, if_neg (by omega)]
                    show 0 + 0 < 0 + 1
                    omega
                  · have := ihm (by omega) (fun k hk => hm k (by omega))
                    split <;> omega
              exact this j (by omega) hr
            have hll : f = 0 → zl_ z (z_q z p) j < j := fun y => by
              have g : ¬ zL (z.1 (z_q z p)) := fun y2 => by
                have := hfL.mpr y2
                omega
              have : ∀ m, 1 ≤ m → zl_ z (z_q z p) m < m := by
                intro m
                induction m with
                | zero => intro h; omega
                | succ m ihm =>
                  intro _
                  have e : zl_ z (z_q z p) (m + 1) = zl_ z (z_q z p) m + (if zL (z.1 (z_q z p + m)) then 1 else 0) := rfl
                  rw [e]
                  by_cases e0 : m = 0
                  · rw [e0, Nat.add_zero, if_neg g]
                    show 0 + 0 < 0 + 1
                    omega
                  · have := ihm (by omega)
                    split <;> omega
              exact this j (by omega)
            have ekk : zk_ f z (z_q z p) j = mkk z (z_k z p) := by
              rw [ek0]
              by_cases hf1 : f = 1
              · have := hdl hf1
                by_cases g : zd_ z (z_q z p) j = 0 ∧ j ≤ 6
                · have e0 : z_r z (z_q z p) = 0 := by
                    rw [hdef]
                    exact if_pos (by omega)
                  rw [e0]
                  unfold zk_ zo_
                  rw [if_pos hf1, if_pos hf1, if_pos hf1, if_pos g]
                  rfl
                · have e0 : z_r z (z_q z p) = 4 := by
                    rw [hdef, if_neg (by omega)]
                    exact if_neg (by omega)
                  rw [e0]
                  unfold zk_ zo_
                  rw [if_pos hf1, if_pos hf1, if_pos hf1, if_neg g]
                  rfl
              · have := hll (by omega)
                by_cases g : zl_ z (z_q z p) j = 0 ∧ j ≤ 2
                · have e0 : z_r z (z_q z p) = 1 := by
                    rw [hdef, if_neg (by omega)]
                    exact if_pos (by omega)
                  rw [e0]
                  unfold zk_ zo_
                  rw [if_neg hf1, if_neg hf1, if_neg hf1, if_pos g]
                  rfl
                · have e0 : z_r z (z_q z p) = 4 := by
                    rw [hdef, if_neg (by omega)]
                    exact if_neg (by omega)
                  rw [e0]
                  unfold zk_ zo_
                  rw [if_neg hf1, if_neg hf1, if_neg hf1, if_neg g]
                  rfl
            refine hQ _ ⟨i4, l4, rfl, f4, by rw [ep]; exact k5, by rw [← ekk]; exact k6, fun _ => ?_, fun y => ?_, fun y => ?_⟩
            · rw [k4, show z_e z p = z_q z p + z_len z (z_q z p) from if_neg (by omega), hj]
            · obtain ⟨-, -, y3⟩ := z_wk hp y
              rw [y3, hj]
              rw [ek0, hdef] at y
              split at y
              · rename_i h1
                exact k10 h1.1 (by omega)
              · split at y <;> omega
            · rw [ek0, hdef] at y
              split at y
              · omega
              · split at y
                · rename_i h1 h2
                  rw [k7 h2.1 (by omega), show z_v z p = zn_ z (z_q z p) (z_len z (z_q z p)) from rfl, hj]
                · omega
        have h146 : ∀ s, s = mkk z (z_k z p) → (z_k z p < 3 → z_e z p = z_q z p + 1) → z_k z p ≠ 0 → z_k z p ≠ 1 → ab_Fr MX12_go (d + 2) Q 146 [some (.ref 205), none, none, none, none] [.int (Int32.ofNat s), .ref 205] (0, 0) (ab_u i2 205 5 (Int32.ofNat (z_q z p)), l, dd, x) (ab_E0 sc) := fun s hs he h0 h1 => by
          refine tMX12_go_146 (d := d + 1) ?_
          rintro i3 rfl i5 rfl
          rw [uu_j (by omega), h43, la_nx]
          refine hQ _ ⟨_, _, rfl, gf_ui (gf_ui f3 (by omega)) (by omega), ?_, ?_, fun y => ?_, fun y => absurd y h0, fun y => absurd y h1⟩
          · rw [uu_j (by omega), uu_j (by omega), uu_e, ep]
          · rw [uu_j (by omega), uu_e, hs]
          · rw [uu_e, he y]
        refine ⟨_, _, md_letter (d := d) hb, ?_⟩
        rintro i6 l7 dd8 x9 ⟨⟩
        by_cases cL : zL (z.1 (z_q z p))
        · rw [if_pos cL]
          exact ⟨fun _ => h160 1 (by omega) ⟨fun _ => cL, fun _ => rfl⟩ (Or.inr cL), fun y => absurd y (by decide)⟩
        · rw [if_neg cL]
          refine ⟨fun y => absurd rfl y, fun _ => ⟨_, _, md_digit (d := d) hb, ?_⟩⟩
          rintro i6 l7 dd8 x9 ⟨⟩
          by_cases cD : zD (z.1 (z_q z p))
          · rw [if_pos cD]
            exact ⟨fun _ => h160 0 (by omega) ⟨fun y => by omega, fun y => absurd y cL⟩ (Or.inl cD), fun y => absurd y (by decide)⟩
          · rw [if_neg cD]
            refine ⟨fun y => absurd rfl y, fun _ => ?_⟩
            rw [nk_59, nn_eq (by omega) (by omega)]
            have hl1 := z_len1 (z := z) (q := z_q z p) c
            rw [if_neg (fun y => y.elim cD cL)] at hl1
            refine ⟨fun c3 => ?_, fun c3 => ?_⟩
            · rw [if_neg c3, hdef, hl1] at ek0
              have e4 : z_k z p = 4 := ek0
              exact h146 1 (by rw [e4]; rfl) (fun y => by omega) (by omega) (by omega)
            · rw [if_pos c3] at ek0
              exact h146 4 (by rw [ek0]; rfl) (fun _ => if_pos c3) (by omega) (by omega)
      · rintro i23 rfl
        have ek : z_k z p = 3 := if_pos (Or.inl (by omega))
        have ep : z_p z p = if 700 < z.2 then 700 else z.2 := if_pos (Or.inl (by omega))
        rw [if_neg (by omega)] at ep
        refine hQ _ ⟨_, _, rfl, gf_ui f3 (by omega), ?_, ?_, fun y => by omega, fun y => by omega, fun y => by omega⟩
        · rw [uu_j (by omega), uu_e, ep, show z_q z p = z.2 by omega]
        · rw [uu_e, ek]
          unfold mkk
          rw [if_neg (by omega), if_neg (by omega), if_neg (by omega), if_pos (by omega)]
          rfl
    refine tMX12_go_52 (d := d + 1) ?_
    rintro i1 rfl
    rw [uu_j (by omega), hT2.2.1, uu_e, h42, nk_700, nn_le (by omega) (by omega), nn_lt (by omega) (by omega)]
    refine ⟨fun c => h93 (by omega), fun c => ⟨fun c2 => h93 (by omega), fun c2 => ?_⟩⟩
    rintro i5 rfl i7 rfl
    have ek : z_k z p = 3 := if_pos (Or.inr (by omega))
    have ep : z_p z p = if 700 < z.2 then 700 else z.2 := if_pos (Or.inr (by omega))
    rw [if_pos (by omega)] at ep
    refine hQ _ ⟨_, _, rfl, gf_ui (gf_ui (gf_ui f2 (by omega)) (by omega)) (by omega), ?_, ?_, fun y => by omega, fun y => by omega, fun y => by omega⟩
    · rw [uu_j (by omega), uu_e, ep]
    · rw [uu_e, ek]
      unfold mkk
      rw [if_neg (by omega), if_neg (by omega), if_neg (by omega), if_neg (by omega)]
      rfl
  have go : ∀ (n a : Nat) (i2 : Nat → Nat → Int32), z.2 = a + n → z_q z p = z_q z a → gf_ i i2 l l → i2 205 4 = Int32.ofNat a → ab_Fr MX12_go (d + 2) Q 0 [some (.ref 205), none, none, none, none] [] (0, 0) (i2, l, dd, x) (ab_E0 sc) := by
    intro n
    induction n with
    | zero =>
      intro a i2 ha ea f2 h42
      have hT2 := gf_zz hT f2
      rw [z_q0 (show z.2 ≤ a by omega)] at ea
      refine tMX12_go_0 (d := d + 1) ⟨fun _ => h52 i2 f2 (by rw [ea]; exact h42), fun c => ?_⟩
      rw [hT2.2.1, h42, nn_le (by omega) (by omega)] at c
      omega
    | succ n ih =>
      intro a i2 ha ea f2 h42
      have hT2 := gf_zz hT f2
      obtain ⟨eb, hb⟩ := hT2.2.2 a (by omega)
      rw [z_q1 (show a < z.2 by omega)] at ea
      refine tMX12_go_0 (d := d + 1) ⟨fun c => ?_, fun _ => ?_⟩
      · rw [hT2.2.1, h42, nn_le (by omega) (by omega)] at c
        omega
      · rw [h42, nn_cl (by omega), eb, nk_32, nk_10, nn_eq (by omega) (by omega), nn_eq (by omega) (by omega), la_nx]
        refine ⟨la_vp (by omega) (by omega), fun c => ?_, fun c => ⟨la_vp (by omega) (by omega), fun c2 => ?_, fun c2 => ?_⟩⟩
        · rintro i3 rfl
          rw [if_pos (Or.inl c)] at ea
          exact ih (a + 1) _ (by omega) ea (gf_ui f2 (by omega)) uu_e
        · rw [if_neg (fun h => h.elim c c2)] at ea
          exact h52 i2 f2 (by rw [ea]; exact h42)
        · rintro i3 rfl
          rw [if_pos (Or.inr c2)] at ea
          exact ih (a + 1) _ (by omega) ea (gf_ui f2 (by omega)) uu_e
  exact go (z.2 - p) p i (by omega) rfl gf_r h4
end TKC
