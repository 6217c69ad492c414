/-! TOKENS, the class -/
section TKB
variable {d : Nat} {sc : Nat × (Nat → Int32)} {i : Nat → Nat → Int32} {l : Nat → Nat → Int64} {dd : Nat → Nat → Value} {x : Nat}
theorem nk_10 : (10 : Int32) = Int32.ofNat 10 := rfl
theorem nk_16 : (16 : Int32) = Int32.ofNat 16 := rfl
theorem nk_32 : (32 : Int32) = Int32.ofNat 32 := rfl
theorem nk_48 : (48 : Int32) = Int32.ofNat 48 := rfl
theorem nk_57 : (57 : Int32) = Int32.ofNat 57 := rfl
theorem nk_59 : (59 : Int32) = Int32.ofNat 59 := rfl
theorem nk_97 : (97 : Int32) = Int32.ofNat 97 := rfl
theorem nk_122 : (122 : Int32) = Int32.ofNat 122 := rfl
theorem nk_700 : (700 : Int32) = Int32.ofNat 700 := rfl
theorem zw_s {W c : Nat} (hW : W < 2 ^ 48) (hc : c < 256) : (Int64.ofNat W <<< ((8 : Int32).toInt64 &&& 63)) ||| (Int32.ofNat c).toInt64 = Int64.ofNat (256 * W + c) := by
  rw [nn_64 (by omega), show ((8 : Int32).toInt64 &&& 63) = 8 from by decide]
  apply Int64.toBitVec_inj.mp
  rw [Int64.toBitVec_or, Int64.toBitVec_shiftLeft, show ((8 : Int64).toBitVec.smod 64) = 8#64 from by decide]
  apply BitVec.eq_of_toNat_eq
  rw [BitVec.toNat_or, BitVec.shiftLeft_eq', BitVec.toNat_shiftLeft]
  show (W % 2 ^ 64) <<< 8 % 2 ^ 64 ||| c % 2 ^ 64 = (256 * W + c) % 2 ^ 64
  rw [Nat.mod_eq_of_lt (show W < 2 ^ 64 by omega), Nat.mod_eq_of_lt (show c < 2 ^ 64 by omega), Nat.mod_eq_of_lt (show 256 * W + c < 2 ^ 64 by omega), Nat.mod_eq_of_lt (show W <<< 8 < 2 ^ 64 by rw [Nat.shiftLeft_eq]; omega), ← Nat.shiftLeft_add_eq_or_of_lt (show c < 2 ^ 8 by omega), Nat.shiftLeft_eq]
  omega
/-- the class's tape -/
def ct_z (z : (Nat → Nat) × Nat) (i : Nat → Nat → Int32) : Prop := z.2 ≤ 740 ∧ i 4 1 = Int32.ofNat z.2 ∧ ∀ j, j < z.2 → i 5 j = Int32.ofNat (z.1 j) ∧ z.1 j ≤ 255
/-- what reading a token changes -/
def rf_ (i i2 : Nat → Nat → Int32) (l l2 : Nat → Nat → Int64) : Prop := (∀ k j, ¬ (k = 157 ∧ 4 ≤ j ∧ j ≤ 9) → i2 k j = i k j) ∧ ∀ k j, ¬ (k = 157 ∧ j = 7) → l2 k j = l k j
theorem rf_r : rf_ i i l l := ⟨fun _ _ _ => rfl, fun _ _ _ => rfl⟩
theorem rf_t {i2 i3 : Nat → Nat → Int32} {l2 l3 : Nat → Nat → Int64} (h1 : rf_ i i2 l l2) (h2 : rf_ i2 i3 l2 l3) : rf_ i i3 l l3 := ⟨fun k j h => (h2.1 k j h).trans (h1.1 k j h), fun k j h => (h2.2 k j h).trans (h1.2 k j h)⟩
theorem rf_ui {i2 : Nat → Nat → Int32} {l2 : Nat → Nat → Int64} {q : Nat} {v : Int32} (h1 : rf_ i i2 l l2) (h : 4 ≤ q ∧ q ≤ 9) : rf_ i (ab_u i2 157 q v) l l2 := ⟨fun k j hk => by
  rw [show ab_u i2 157 q v k j = i2 k j from if_neg (fun e => hk ⟨e.1, by omega⟩)]
  exact h1.1 k j hk, h1.2⟩
theorem rf_ul {i2 : Nat → Nat → Int32} {l2 : Nat → Nat → Int64} {v : Int64} (h1 : rf_ i i2 l l2) : rf_ i i2 l (ab_u l2 157 7 v) := ⟨h1.1, fun k j hk => by
  rw [show ab_u l2 157 7 v k j = l2 k j from if_neg hk]
  exact h1.2 k j hk⟩
theorem rf_z {z : (Nat → Nat) × Nat} {i2 : Nat → Nat → Int32} (hT : ct_z z i) (h : ∀ k j, k = 4 ∨ k = 5 → i2 k j = i k j) : ct_z z i2 := ⟨hT.1, by rw [h 4 1 (Or.inl rfl)]; exact hT.2.1, fun j hj => by rw [h 5 j (Or.inr rfl)]; exact hT.2.2 j hj⟩
theorem rf_zz {z : (Nat → Nat) × Nat} {i2 : Nat → Nat → Int32} {l2 : Nat → Nat → Int64} (hT : ct_z z i) (h : rf_ i i2 l l2) : ct_z z i2 := rf_z hT (fun k j hk => h.1 k j (by omega))
def z_r (z : (Nat → Nat) × Nat) (q : Nat) : Nat := if zd_ z q (z_len z q) = 0 ∧ 1 ≤ zl_ z q (z_len z q) ∧ zl_ z q (z_len z q) ≤ 6 then 0 else if zl_ z q (z_len z q) = 0 ∧ 1 ≤ zd_ z q (z_len z q) ∧ zd_ z q (z_len z q) ≤ 2 then 1 else 4
theorem ct_blank {c : Nat} (hc : c ≤ 255) : ab_Sp MX2_isBlank (d + 1) [.int (Int32.ofNat c)] (i, l, dd, x) (ab_E0 sc) (some (.int (if zB c then 1 else 0))) (fun σ => σ = (i, l, dd, x)) := by
  refine ab_ent (n := 1) okMX2_isBlank.1 (fun G => Nat.le_of_ble_eq_true rfl) (fun Q hQ => ?_)
  refine tMX2_isBlank_0 (d := d) ?_
  rw [nk_32, nk_10, nn_eq (by omega) (by omega), nn_eq (by omega) (by omega)]
  by_cases c1 : c = 32
  · rw [if_pos (Or.inl c1)] at hQ
    exact ⟨fun _ => hQ _ rfl, fun y => absurd c1 y⟩
  · refine ⟨fun y => absurd y c1, fun _ => ⟨fun y => ?_, fun y => ?_⟩⟩
    · rw [if_neg (fun h => h.elim c1 y)] at hQ
      exact hQ _ rfl
    · rw [if_pos (Or.inr y)] at hQ
      exact hQ _ rfl
theorem nr_22 {z : (Nat → Nat) × Nat} {q : Nat} {i0 : Nat → Nat → Int32} {l0 : Nat → Nat → Int64} (hT : ct_z z i0) {Q : ab_Qt} (hQ : ∀ j i2 l2, z_len z q = j → rf_ i0 i2 l0 l2 → i2 157 5 = Int32.ofNat (q + j) → i2 157 9 = Int32.ofNat (zn_ z q j) → (zl_ z q j ≤ 6 → l2 157 7 = Int64.ofNat (zw_ z q j)) → i2 157 8 = i0 157 8 → i2 157 4 = i0 157 4 → ab_Fr MX2_nextRun (d + 1) Q 125 [some (.ref 157), some (.int (Int32.ofNat (zl_ z q j))), some (.int (Int32.ofNat (zd_ z q j))), none] [] (0, 0) (i2, l2, dd, x) (ab_E0 sc)) :
    ∀ (n j : Nat) (i2 : Nat → Nat → Int32) (l2 : Nat → Nat → Int64), z.2 = q + j + n → (∀ k, k < j → zD (z.1 (q + k)) ∨ zL (z.1 (q + k))) → rf_ i0 i2 l0 l2 → i2 157 5 = Int32.ofNat (q + j) → i2 157 9 = Int32.ofNat (zn_ z q j) → (zl_ z q j ≤ 6 → l2 157 7 = Int64.ofNat (zw_ z q j)) → i2 157 8 = i0 157 8 → i2 157 4 = i0 157 4 → ab_Fr MX2_nextRun (d + 1) Q 22 [some (.ref 157), some (.int (Int32.ofNat (zl_ z q j))), some (.int (Int32.ofNat (zd_ z q j))), none] [] (0, 0) (i2, l2, dd, x) (ab_E0 sc) := by
  intro n
  have hN := hT.1
  induction n with
  | zero =>
    intro j i2 l2 hj hr f2 h5 h9 h7 h8 h4
    have hT2 := rf_zz hT f2
    refine tMX2_nextRun_22 (d := d) ⟨fun _ => hQ j i2 l2 (z_lenj j q hr (by omega) (Or.inl (by omega))) f2 h5 h9 h7 h8 h4, fun c => ?_⟩
    rw [hT2.2.1, h5, nn_le (by omega) (by omega)] at c
    omega
  | succ n ih =>
    intro j i2 l2 hj hr f2 h5 h9 h7 h8 h4
    have hT2 := rf_zz hT f2
    obtain ⟨eb, hb⟩ := hT2.2.2 (q + j) (by omega)
    have hzz := zl_zd j hr
    have el : zl_ z q (j + 1) = zl_ z q j + (if zL (z.1 (q + j)) then 1 else 0) := rfl
    have ed : zd_ z q (j + 1) = zd_ z q j + (if zD (z.1 (q + j)) then 1 else 0) := rfl
    have ew : zw_ z q (j + 1) = if zL (z.1 (q + j)) then 256 * zw_ z q j + z.1 (q + j) else zw_ z q j := rfl
    have en : zn_ z q (j + 1) = if zD (z.1 (q + j)) then zn_ z q j * 10 + z.1 (q + j) - 48 else zn_ z q j := rfl
    have hrun : (zD (z.1 (q + j)) ∨ zL (z.1 (q + j))) → ∀ k, k < j + 1 → zD (z.1 (q + k)) ∨ zL (z.1 (q + k)) := fun h k hk => by
      by_cases e : k = j
      · rw [e]
        exact h
      · exact hr k (by omega)
    have hend : ¬ (zD (z.1 (q + j)) ∨ zL (z.1 (q + j))) → ab_Fr MX2_nextRun (d + 1) Q 125 [some (.ref 157), some (.int (Int32.ofNat (zl_ z q j))), some (.int (Int32.ofNat (zd_ z q j))), none] [] (0, 0) (i2, l2, dd, x) (ab_E0 sc) := fun c => hQ j i2 l2 (z_lenj j q hr (by omega) (Or.inr c)) f2 h5 h9 h7 h8 h4
    have h83 : ¬ zD (z.1 (q + j)) → ab_Fr MX2_nextRun (d + 1) Q 83 [some (.ref 157), some (.int (Int32.ofNat (zl_ z q j))), some (.int (Int32.ofNat (zd_ z q j))), some (.int (Int32.ofNat (z.1 (q + j))))] [] (0, 0) (i2, l2, dd, x) (ab_E0 sc) := fun c0 => by
      refine tMX2_nextRun_83 (d := d) ?_
      rw [nk_97, nk_122, nn_lt (by omega) (by omega), nn_lt (by omega) (by omega)]
      refine ⟨fun c => hend (by omega), fun c => ⟨fun c2 => hend (by omega), fun c2 => ?_⟩⟩
      have hL : zL (z.1 (q + j)) := by omega
      rintro l3 rfl i5 rfl
      rw [la_nx, h5, la_nx]
      rw [if_pos hL] at el ew
      rw [if_neg c0] at ed en
      have hi := fun hw => ih (j + 1) (ab_u i2 157 5 (Int32.ofNat (q + j + 1))) (ab_u l2 157 7 ((l2 157 7 <<< ((8 : Int32).toInt64 &&& 63)) ||| (Int32.ofNat (z.1 (q + j))).toInt64)) (by omega) (hrun (Or.inr hL)) (rf_ul (rf_ui f2 (by omega))) uu_e (by rw [uu_j (by omega), en]; exact h9) hw (by rw [uu_j (by omega)]; exact h8) (by rw [uu_j (by omega)]; exact h4)
      rw [el, ed, Nat.add_zero] at hi
      refine hi (fun h => ?_)
      have hl := zw_l (z := z) (q := q) j
      have hp6 : 256 ^ zl_ z q j ≤ 256 ^ 5 := Nat.pow_le_pow_right (by omega) (by omega)
      have e6 : (256 : Nat) ^ 5 = 1099511627776 := rfl
      rw [uu_e, h7 (by omega), zw_s (by omega) (by omega), ew]
    refine tMX2_nextRun_22 (d := d) ⟨fun c => ?_, fun _ => ?_⟩
    · rw [hT2.2.1, h5, nn_le (by omega) (by omega)] at c
      omega
    · rw [h5, nn_cl (by omega), eb, nk_48, nk_57, nn_lt (by omega) (by omega), nn_lt (by omega) (by omega)]
      refine ⟨la_vp (by omega) (by omega), fun c => h83 (by omega), fun c => ⟨fun c2 => h83 (by omega), fun c2 => ?_⟩⟩
      have hD : zD (z.1 (q + j)) := by omega
      rintro i4 rfl i6 rfl
      rw [uu_j (by omega), h5, la_nx, la_nx]
      rw [if_pos hD] at ed en
      rw [if_neg (show ¬ zL (z.1 (q + j)) by omega)] at el ew
      have hi := fun hw => ih (j + 1) (ab_u (ab_u i2 157 9 (i2 157 9 * 10 + Int32.ofNat (z.1 (q + j)) - Int32.ofNat 48)) 157 5 (Int32.ofNat (q + j + 1))) l2 (by omega) (hrun (Or.inl hD)) (rf_ui (rf_ui f2 (by omega)) (by omega)) uu_e (by
        rw [uu_j (by omega), uu_e, h9, nk_10, nn_mul, nn_add, nn_sub (by omega), en]) hw (by rw [uu_j (by omega), uu_j (by omega)]; exact h8) (by rw [uu_j (by omega), uu_j (by omega)]; exact h4)
      rw [el, ed, Nat.add_zero] at hi
      refine hi (fun h => ?_)
      rw [ew]
      exact h7 (by omega)
theorem nr_152 {W : Nat} {i0 : Nat → Nat → Int32} (h0 : l 157 7 = Int64.ofNat W) (hW : W < 2 ^ 63) {Q : ab_Qt} (hQ : ∀ i2, rf_ i0 i2 l l → (∀ j, j ≠ 8 → i2 157 j = i0 157 j) → i2 157 8 = kx_ (kwi_ W 16) → Q (some none) (i2, l, dd, x) (ab_E0 sc)) :
    ∀ (n k : Nat) (i2 : Nat → Nat → Int32), 16 = k + n → rf_ i0 i2 l l → (∀ j, j ≠ 8 → i2 157 j = i0 157 j) → i2 157 8 = kx_ (kwi_ W k) → ab_Fr MX2_nextRun (d + 1) Q 152 [some (.ref 157), none, none, some (.int (Int32.ofNat k))] [] (0, 0) (i2, l, dd, x) (ab_E0 sc) := by
  intro n
  induction n with
  | zero =>
    intro k i2 hk f2 z2 h8
    refine tMX2_nextRun_152 (d := d) ⟨fun _ => ?_, fun c => ?_⟩
    · rw [show k = 16 by omega] at h8
      exact hQ i2 f2 z2 h8
    · rw [nk_16, nn_le (by omega) (by omega)] at c
      omega
  | succ n ih =>
    intro k i2 hk f2 z2 h8
    obtain ⟨e1, e2, -⟩ := kw_e (j := k) (by omega)
    have e : kwi_ W (k + 1) = if kwN k = W then k else kwi_ W k := rfl
    refine tMX2_nextRun_152 (d := d) ⟨fun c => ?_, fun _ => ?_⟩
    · rw [nk_16, nn_le (by omega) (by omega)] at c
      omega
    · rw [nn_cl (by omega), e1, h0, nl_eq e2 hW, la_nx]
      refine ⟨la_vp (by omega) (by omega), fun c => ?_, fun c => ?_⟩
      · rintro i3 rfl
        refine ih (k + 1) _ (by omega) (rf_ui f2 (by omega)) (fun j hj => by rw [uu_j hj]; exact z2 j hj) ?_
        rw [uu_e, e, if_neg c]
        exact h8
      · rintro i3 rfl
        refine ih (k + 1) _ (by omega) (rf_ui f2 (by omega)) (fun j hj => by rw [uu_j hj]; exact z2 j hj) ?_
        rw [uu_e, e, if_pos c]
        exact (if_neg (by omega)).symm
theorem ct_run {z : (Nat → Nat) × Nat} {q : Nat} (hT : ct_z z i) (hq : q ≤ z.2) (h4 : i 157 4 = Int32.ofNat q) (h8 : i 157 8 = -1) : ab_Sp MX2_nextRun (d + 1) [.ref 157] (i, l, dd, x) (ab_E0 sc) none (fun σ => ∃ i2 l2, σ = (i2, l2, dd, x) ∧ rf_ i i2 l l2 ∧ i2 157 4 = Int32.ofNat q ∧ i2 157 6 = Int32.ofNat (z_r z q) ∧ i2 157 5 = Int32.ofNat (q + z_len z q) ∧ i2 157 8 = (if z_r z q = 0 then kx_ (kwi_ (zw_ z q (z_len z q)) 16) else -1) ∧ (z_r z q = 0 → l2 157 7 = Int64.ofNat (zw_ z q (z_len z q))) ∧ (z_r z q = 1 → i2 157 9 = Int32.ofNat (zn_ z q (z_len z q)))) := by
  have hN := hT.1
  refine ab_ent (n := 0) okMX2_nextRun.1 (fun G => Nat.le_of_ble_eq_true rfl) (fun Q hQ => ?_)
  refine tMX2_nextRun_0 (d := d) ?_
  rintro l1 rfl i3 rfl i5 rfl
  rw [uu_j (by omega), h4]
  refine nr_22 (d := d) (q := q) (i0 := i) (l0 := l) hT (fun j i2 l2 hj f2 h5 h9 h7 h82 h42 => ?_) (z.2 - q) 0 _ _ (by omega) (fun k hk => absurd hk (Nat.not_lt_zero k)) (rf_ul (rf_ui (rf_ui rf_r (by omega)) (by omega))) uu_e (by rw [uu_j (by omega), uu_e]; rfl) (fun _ => uu_e) (by rw [uu_j (by omega), uu_j (by omega)]) (by rw [uu_j (by omega), uu_j (by omega)])
  have hr := z_lrun (z := z) (z.2 - q) q (by omega)
  have hlen := z_lenl (z := z) (z.2 - q) q (by omega)
  have hzz := zl_zd _ hr
  have hdef : z_r z q = if zd_ z q (z_len z q) = 0 ∧ 1 ≤ zl_ z q (z_len z q) ∧ zl_ z q (z_len z q) ≤ 6 then 0 else if zl_ z q (z_len z q) = 0 ∧ 1 ≤ zd_ z q (z_len z q) ∧ zd_ z q (z_len z q) ≤ 2 then 1 else 4 := rfl
  rw [hj] at hQ hdef hr hlen hzz
  rw [h4] at h42
  rw [h8] at h82
  have h194 : z_r z q ≠ 0 → ab_Fr MX2_nextRun (d + 1) Q 194 [some (.ref 157), some (.int (Int32.ofNat (zl_ z q j))), some (.int (Int32.ofNat (zd_ z q j))), none] [] (0, 0) (ab_u i2 157 6 4, l2, dd, x) (ab_E0 sc) := fun c0 => by
    rw [if_neg c0] at hQ
    have c0' : ¬ (zd_ z q j = 0 ∧ 1 ≤ zl_ z q j ∧ zl_ z q j ≤ 6) := fun y => c0 (by rw [hdef, if_pos y])
    rw [if_neg c0'] at hdef
    have h4x : z_r z q ≠ 1 → Q (some none) (ab_u i2 157 6 4, l2, dd, x) (ab_E0 sc) := fun c1 => by
      have c1' : ¬ (zl_ z q j = 0 ∧ 1 ≤ zd_ z q j ∧ zd_ z q j ≤ 2) := fun y => c1 (by rw [hdef, if_pos y])
      rw [if_neg c1'] at hdef
      refine hQ _ ⟨_, _, rfl, rf_ui f2 (by omega), by rw [uu_j (by omega)]; exact h42, by rw [uu_e, hdef]; rfl, by rw [uu_j (by omega)]; exact h5, by rw [uu_j (by omega)]; exact h82, fun y => absurd y c0, fun y => absurd y c1⟩
    refine tMX2_nextRun_194 (d := d) ?_
    rw [nn_p0, nn_p1, nn_p2, nn_eq (by omega) (by omega), nn_lt (by omega) (by omega), nn_lt (by omega) (by omega)]
    refine ⟨fun c => h4x (fun y => ?_), fun c => ⟨fun c2 => h4x (fun y => ?_), fun c2 => ⟨fun c3 => h4x (fun y => ?_), fun c3 => ?_⟩⟩⟩
    · rw [hdef, if_neg (fun e => c e.1)] at y
      omega
    · rw [hdef, if_neg (by omega)] at y
      omega
    · rw [hdef, if_neg (by omega)] at y
      omega
    · rintro i4 rfl
      rw [if_pos (by omega)] at hdef
      refine hQ _ ⟨_, _, rfl, rf_ui (rf_ui f2 (by omega)) (by omega), by rw [uu_j (by omega), uu_j (by omega)]; exact h42, by rw [uu_e, hdef], by rw [uu_j (by omega), uu_j (by omega)]; exact h5, by rw [uu_j (by omega), uu_j (by omega)]; exact h82, fun y => absurd y c0, fun _ => by rw [uu_j (by omega), uu_j (by omega)]; exact h9⟩
  refine tMX2_nextRun_125 (d := d) ?_
  rintro i1 rfl
  rw [nn_p0, nn_p1, nn_p6, nn_eq (by omega) (by omega), nn_lt (by omega) (by omega), nn_lt (by omega) (by omega)]
  have hne : ¬ (zd_ z q j = 0 ∧ 1 ≤ zl_ z q j ∧ zl_ z q j ≤ 6) → z_r z q ≠ 0 := fun c y => by
    rw [hdef, if_neg c] at y
    split at y <;> omega
  refine ⟨fun c => h194 (hne (by omega)), fun c => ⟨fun c2 => h194 (hne (by omega)), fun c2 => ⟨fun c3 => h194 (hne (by omega)), fun c3 => ?_⟩⟩⟩
  rintro i6 rfl
  rw [if_pos (by omega)] at hdef
  rw [if_pos hdef] at hQ
  have hl := zw_l (z := z) (q := q) j
  have hp6 : 256 ^ zl_ z q j ≤ 256 ^ 6 := Nat.pow_le_pow_right (by omega) (by omega)
  have e6 : (256 : Nat) ^ 6 = 281474976710656 := rfl
  have e63 : (2 : Nat) ^ 63 = 9223372036854775808 := rfl
  refine nr_152 (d := d) (W := zw_ z q j) (i0 := ab_u (ab_u i2 157 6 4) 157 6 0) (h7 (by omega)) (by omega) (fun i7 f7 z7 h8' => ?_) 16 0 _ (Nat.zero_add _).symm rf_r (fun _ _ => rfl) (by rw [uu_j (by omega), uu_j (by omega), h82]; rfl)
  refine hQ _ ⟨_, _, rfl, rf_t f2 (rf_t (rf_ui (rf_ui rf_r (by omega)) (by omega)) f7), ?_, ?_, ?_, h8', fun _ => h7 (by omega), fun y => by omega⟩
  · rw [z7 4 (by omega), uu_j (by omega), uu_j (by omega)]
    exact h42
  · rw [z7 6 (by omega), uu_e, hdef]
    rfl
  · rw [z7 5 (by omega), uu_j (by omega), uu_j (by omega)]
    exact h5
/-- the class has the token at p at hand -/
def ck_ (z : (Nat → Nat) × Nat) (p : Nat) (i : Nat → Nat → Int32) (l : Nat → Nat → Int64) : Prop := i 157 4 = Int32.ofNat (z_p z p) ∧ i 157 6 = Int32.ofNat (z_k z p) ∧ (z_k z p < 3 → i 157 5 = Int32.ofNat (z_e z p)) ∧ i 157 8 = kx_ (z_x z p) ∧ (z_k z p = 0 → l 157 7 = Int64.ofNat (z_w z p)) ∧ (z_k z p = 1 → i 157 9 = Int32.ofNat (z_v z p))
theorem ct_tok {z : (Nat → Nat) × Nat} {p : Nat} (hT : ct_z z i) (hp : p ≤ z.2) (h5 : i 157 5 = Int32.ofNat p) : ab_Sp MX2_next (d + 2) [.ref 157] (i, l, dd, x) (ab_E0 sc) none (fun σ => ∃ i2 l2, σ = (i2, l2, dd, x) ∧ rf_ i i2 l l2 ∧ ck_ z p i2 l2) := by
  have hN := hT.1
  have hq := z_ql (z := z) (z.2 - p) p (by omega)
  refine ab_ent (n := 0) okMX2_next.1 (fun G => Nat.le_of_ble_eq_true rfl) (fun Q hQ => ?_)
  refine tMX2_next_0 (d := d + 1) ?_
  rw [h5]
  have h60 : z.2 ≤ z_q z p ∨ 700 ≤ z_q z p → ab_Fr MX2_next (d + 2) Q 60 [some (.ref 157), some (.int (Int32.ofNat (z_q z p)))] [] (0, 0) (ab_u i 157 8 (-1), l, dd, x) (ab_E0 sc) := fun c => by
    have ek : z_k z p = 3 := if_pos c
    have ep : z_p z p = if 700 < z.2 then 700 else z.2 := if_pos c
    have ex : z_x z p = 16 := by
      unfold z_x
      rw [if_neg (by omega)]
    refine tMX2_next_60 (d := d + 1) ?_
    rintro i1 rfl i3 rfl i5 rfl
    refine hQ _ ⟨_, _, rfl, rf_ui (rf_ui (rf_ui (rf_ui rf_r (by omega)) (by omega)) (by omega)) (by omega), ?_, ?_, fun y => by omega, ?_, fun y => by omega, fun y => by omega⟩
    · rw [uu_j (by omega), uu_e, uu_k (by omega), uu_k (by omega), hT.2.1, ep, nk_700]
      by_cases c2 : 700 < z.2
      · rw [if_pos c2, if_pos (by rw [nn_lt (by omega) (by omega)]; exact c2)]
      · rw [if_neg c2, if_neg (by rw [nn_lt (by omega) (by omega)]; exact c2)]
    · rw [uu_j (by omega), uu_j (by omega), uu_e, ek]
      rfl
    · rw [uu_j (by omega), uu_j (by omega), uu_j (by omega), uu_e, ex]
      rfl
  have h37 : ab_Fr MX2_next (d + 2) Q 37 [some (.ref 157), some (.int (Int32.ofNat (z_q z p)))] [] (0, 0) (i, l, dd, x) (ab_E0 sc) := by
    refine tMX2_next_37 (d := d + 1) ?_
    rintro i1 rfl
    rw [uu_k (by omega), hT.2.1, nk_700, nn_le (by omega) (by omega), nn_lt (by omega) (by omega)]
    refine ⟨fun c => h60 (Or.inl c), fun c => ⟨fun c2 => ⟨la_vp (by omega) (by omega), ?_⟩, fun c2 => h60 (Or.inr (by omega))⟩⟩
    obtain ⟨eb, hb⟩ := hT.2.2 (z_q z p) (by omega)
    rw [nn_cl (by omega), uu_k (by omega), eb, nk_59, nn_eq (by omega) (by omega)]
    have hnp : ¬ (z.2 ≤ z_q z p ∨ 700 ≤ z_q z p) := by omega
    have ep : z_p z p = z_q z p := if_neg hnp
    have ek0 : z_k z p = if z.1 (z_q z p) = 59 then 2 else z_r z (z_q z p) := if_neg hnp
    refine ⟨fun c3 => ?_, fun c3 => ?_⟩
    · rw [if_neg c3] at ek0
      rintro i6 rfl
      refine ⟨_, ct_run (d := d) (q := z_q z p) (rf_z hT (fun k j hk => by rw [uu_k (by omega), uu_k (by omega)])) (by omega) uu_e (by rw [uu_j (by omega), uu_e]), ?_⟩
      rintro i12 l13 dd14 x15 ⟨i2, l2, ⟨⟩, f2, k4, k6, k5, k8, k7, k9⟩
      refine hQ _ ⟨_, _, rfl, rf_t (rf_ui (rf_ui rf_r (by omega)) (by omega)) f2, by rw [ep]; exact k4, by rw [ek0]; exact k6, fun _ => ?_, ?_, fun y => k7 (by omega), fun y => k9 (by omega)⟩
      · rw [k5, show z_e z p = z_q z p + z_len z (z_q z p) from if_neg c3]
      · rw [k8]
        unfold z_x
        rw [ek0]
        by_cases c4 : z_r z (z_q z p) = 0
        · rw [if_pos c4, if_pos c4]
          rfl
        · rw [if_neg c4, if_neg c4]
          rfl
    · rw [if_pos c3] at ek0
      rintro i17 rfl i19 rfl i21 rfl
      refine hQ _ ⟨_, _, rfl, rf_ui (rf_ui (rf_ui (rf_ui rf_r (by omega)) (by omega)) (by omega)) (by omega), ?_, ?_, fun _ => ?_, ?_, fun y => by omega, fun y => by omega⟩
      · rw [uu_j (by omega), uu_e, ep]
      · rw [uu_j (by omega), uu_j (by omega), uu_e, ek0]
        rfl
      · rw [uu_e, show z_e z p = z_q z p + 1 from if_pos c3, la_nx]
      · rw [uu_j (by omega), uu_j (by omega), uu_j (by omega), uu_e]
        unfold z_x
        rw [if_neg (by omega)]
        rfl
  have go : ∀ n a : Nat, z.2 = a + n → z_q z p = z_q z a → ab_Fr MX2_next (d + 2) Q 5 [some (.ref 157), some (.int (Int32.ofNat a))] [] (0, 0) (i, l, dd, x) (ab_E0 sc) := by
    intro n
    induction n with
    | zero =>
      intro a ha ea
      rw [z_q0 (show z.2 ≤ a by omega)] at ea
      refine tMX2_next_5 (d := d + 1) ⟨fun _ => ?_, fun c => ?_⟩
      · rw [← ea]
        exact h37
      · rw [hT.2.1, nn_le (by omega) (by omega)] at c
        omega
    | succ n ih =>
      intro a ha ea
      obtain ⟨eb, hb⟩ := hT.2.2 a (by omega)
      rw [z_q1 (show a < z.2 by omega)] at ea
      refine tMX2_next_5 (d := d + 1) ⟨fun c => ?_, fun _ => ⟨la_vp (by omega) (by omega), ?_⟩⟩
      · rw [hT.2.1, nn_le (by omega) (by omega)] at c
        omega
      · rw [nn_cl (by omega), eb]
        refine ⟨_, _, ct_blank (d := d) hb, ?_⟩
        rintro i6 l7 dd8 x9 ⟨⟩
        rw [la_nx]
        by_cases c : zB (z.1 a)
        · rw [if_pos c] at ea ⊢
          exact ⟨fun y => absurd y (by decide), fun _ => ih (a + 1) (by omega) ea⟩
        · rw [if_neg c] at ea ⊢
          rw [← ea]
          exact ⟨fun _ => h37, fun y => absurd rfl y⟩
  exact go (z.2 - p) p (by omega) rfl
end TKB
