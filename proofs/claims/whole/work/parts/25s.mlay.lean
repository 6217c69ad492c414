/-! THE MATTER is laid: the model's rows and votes -/
section TKS
variable {d : Nat} {sc : Nat × (Nat → Int32)} {i : Nat → Nat → Int32} {l : Nat → Nat → Int64} {dd : Nat → Nat → Value} {x : Nat}
theorem mk_sg {S : Nat → Nat} {V r v : Nat} (h212 : i 212 v = Int32.ofNat (S v)) (h223 : i 223 v = Int32.ofNat (mt_rad S v)) (hS : 2 ≤ S v ∧ S v ≤ 3) (hp : 0 < mt_rad S v ∧ mt_rad S v ≤ 2187) (hv : v < V) (hV : V ≤ 7) (hr : r < 2187) : ab_Sp MX12_sign (d + 1) [.ref 205, .int (Int32.ofNat r), .int (Int32.ofNat v)] (i, l, dd, x) (ab_E0 sc) (some (.int (Int32.ofNat (pu_g S V r v)))) (fun σ => σ = (i, l, dd, x)) := by
  refine ab_ent (n := 2) okMX12_sign.1 (fun G => Nat.le_of_ble_eq_true rfl) (fun Q hQ => ?_)
  refine tMX12_sign_0 ?_
  have hdl : r / mt_rad S v ≤ r := Nat.div_le_self _ _
  rw [nn_cl (by omega), h212, h223, nn_p0, nn_eq (by omega) (by omega), nn_eq (by omega) (by omega), la_div (by omega) (by omega), la_mod (by omega) (by omega)]
  refine ⟨la_vp (by omega) (by omega), by omega, la_vp (by omega) (by omega), by omega, ?_⟩
  have hQ2 := hQ _ rfl
  unfold pu_g at hQ2
  rw [if_pos hv] at hQ2
  exact hQ2
/-- rows laid: the state's part -/
def dW_ (st : ps_) (i : Nat → Nat → Int32) (l : Nat → Nat → Int64) : Prop := (i 205 29 = Int32.ofNat (st 0 0) ∧ i 205 30 = Int32.ofNat (st 0 1) ∧ i 205 31 = Int32.ofNat (mt_rad (st 4) (st 0 1))) ∧ (∀ v, v < st 0 1 → i 223 v = Int32.ofNat (mt_rad (st 4) v)) ∧ ∀ r t, r < mt_rad (st 4) (st 0 1) → t < st 0 0 → l 224 (3 * r + t) = Int64.ofNat (mt_pa (A_of st) (pu_g (st 4) (st 0 1) r) t)
theorem mk_rows {st : ps_} (hI : PI_ st) (hp : 0 < st 0 1) (hR : dS_ st i) : ab_Sp MX12_layRows (d + 2) [.ref 205] (i, l, dd, x) (ab_E0 sc) none (fun σ => ∃ i2 l2, σ = (i2, l2, dd, x) ∧ (∀ k j, ¬ (k = 205 ∧ 29 ≤ j ∧ j ≤ 31 ∨ k = 223) → i2 k j = i k j) ∧ fr_o 224 224 l l2 ∧ dW_ st i2 l2) := by
  have hW := A_W hI hp
  obtain ⟨hrM, hr2⟩ := mt_rows hW
  have hrM : mt_rad (st 4) (st 0 1) ≤ 2187 := hrM
  have hr2 : ∀ v, v < st 0 1 → 0 < mt_rad (st 4) v ∧ mt_rad (st 4) v ≤ 2187 := hr2
  have hC := hI.2.2.1
  have hT := hI.1.1
  have hV := hI.1.2.1
  have hgt : ∀ r v, v < st 0 1 → pu_g (st 4) (st 0 1) r v < st 4 v := fun r v hv => (pu_gt (S := st 4) (k := st 0 1) (r := r) (fun u hu => by have := (hC u hu).1; omega)).1 v hv
  obtain ⟨⟨r1, r1'⟩, -, r3, -, r5, r6, -⟩ := hR
  refine ab_ent (n := 0) okMX12_layRows.1 (fun G => Nat.le_of_ble_eq_true rfl) (fun Q hQ => ?_)
  refine tMX12_layRows_0 (d := d + 1) ?_
  intro i1 e1 i3 e3 i5 e5
  -- the rows
  have prod : ∀ (i2 : Nat → Nat → Int32), (∀ k j, ¬ (k = 205 ∧ 29 ≤ j ∧ j ≤ 31 ∨ k = 223) → i2 k j = i k j) → i2 205 29 = Int32.ofNat (st 0 0) → i2 205 30 = Int32.ofNat (st 0 1) → i2 205 31 = Int32.ofNat (mt_rad (st 4) (st 0 1)) → (∀ v, v < st 0 1 → i2 223 v = Int32.ofNat (mt_rad (st 4) v)) → ab_Fr MX12_layRows (d + 2) Q 68 [some (.ref 205), some (.int 0), none, none, none, none] [] (0, 0) (i2, l, dd, x) (ab_E0 sc) := by
    intro i2 F2 h29 h30 h31 h223
    have p97 : ∀ (r t : Nat) (l2 : Nat → Nat → Int64), r < mt_rad (st 4) (st 0 1) → t < st 0 0 → (∀ l3, l3 = ab_u l2 224 (3 * r + t) (Int64.ofNat (mt_pa (A_of st) (pu_g (st 4) (st 0 1) r) t)) → ab_Fr MX12_layRows (d + 2) Q 78 [some (.ref 205), some (.int (Int32.ofNat r)), some (.int (Int32.ofNat (t + 1))), none, none, none] [] (0, 0) (i2, l3, dd, x) (ab_E0 sc)) → ∀ n v : Nat, st 0 1 = v + n → ab_Fr MX12_layRows (d + 2) Q 97 [some (.ref 205), some (.int (Int32.ofNat r)), some (.int (Int32.ofNat t)), some (.long (Int64.ofNat (pu_p (A_C st t) (fun v => A_L st v (pu_g (st 4) (st 0 1) r v) t) v))), none, some (.int (Int32.ofNat v))] [] (0, 0) (i2, l2, dd, x) (ab_E0 sc) := by
      intro r t l2 hr ht hY n
      induction n with
      | zero =>
        intro v hv
        refine tMX12_layRows_97 (d := d + 1) ⟨fun _ => ?_, fun y => ?_⟩
        · rw [nn_p3, nn_mul, nn_add, nn_cl (by omega), la_nx]
          refine ⟨la_vp (by omega) (by omega), ?_⟩
          intro l3 e
          refine hY l3 ?_
          rw [e, show v = st 0 1 by omega]
          rfl
        · rw [h30, nn_le (by omega) (by omega)] at y
          omega
      | succ n ih =>
        intro v hv
        have hvV : v < st 0 1 := by omega
        have hg := hgt r v hvV
        have hs := (hC v hvV).1
        refine tMX12_layRows_97 (d := d + 1) ⟨fun y => ?_, fun _ => ⟨_, _, mk_sg (d := d) (S := st 4) (V := st 0 1) (r := r) (v := v) (by rw [F2 212 v (by omega)]; exact (r5 v hvV).1) (h223 v hvV) hs (hr2 v hvV) hvV hV (by omega), ?_⟩⟩
        · rw [h30, nn_le (by omega) (by omega)] at y
          omega
        · rintro i8 l9 dd10 x11 ⟨⟩
          have hl5 := ((hC v hvV).2.2.2.2.2 t ht).1 _ hg
          have eL : A_L st v (pu_g (st 4) (st 0 1) r v) t = st 5 (9 * v + 3 * pu_g (st 4) (st 0 1) r v + t) := if_pos ⟨hvV, hg, ht⟩
          rw [show (9 : Int32) = Int32.ofNat 9 from rfl, nn_p3, nn_mul, nn_mul, nn_add, nn_add, nn_cl (by omega), F2 213 _ (by omega), r6 v _ t hvV hg ht, nn_64 (by omega), nl_mul, ← eL, la_nx]
          exact ⟨la_vp (by omega) (by omega), ih (v + 1) (by omega)⟩
    have p78 : ∀ (r : Nat), r < mt_rad (st 4) (st 0 1) → (∀ l3, fr_o 224 224 l l3 → (∀ q t, (q < r + 1) → t < st 0 0 → l3 224 (3 * q + t) = Int64.ofNat (mt_pa (A_of st) (pu_g (st 4) (st 0 1) q) t)) → ab_Fr MX12_layRows (d + 2) Q 68 [some (.ref 205), some (.int (Int32.ofNat (r + 1))), none, none, none, none] [] (0, 0) (i2, l3, dd, x) (ab_E0 sc)) → ∀ (n t : Nat) (l2 : Nat → Nat → Int64), st 0 0 = t + n → fr_o 224 224 l l2 → (∀ q u, (q < r ∨ q = r ∧ u < t) → u < st 0 0 → l2 224 (3 * q + u) = Int64.ofNat (mt_pa (A_of st) (pu_g (st 4) (st 0 1) q) u)) → ab_Fr MX12_layRows (d + 2) Q 78 [some (.ref 205), some (.int (Int32.ofNat r)), some (.int (Int32.ofNat t)), none, none, none] [] (0, 0) (i2, l2, dd, x) (ab_E0 sc) := by
      intro r hr hY n
      induction n with
      | zero =>
        intro t l2 ht f2 z2
        refine tMX12_layRows_78 (d := d + 1) ⟨fun _ => ?_, fun y => ?_⟩
        · rw [la_nx]
          exact hY l2 f2 (fun q u hq hu => z2 q u (by omega) hu)
        · rw [h29, nn_le (by omega) (by omega)] at y
          omega
      | succ n ih =>
        intro t l2 ht f2 z2
        have htT : t < st 0 0 := by omega
        have h3 := hI.1.2.2.2.2.2.2 t htT
        refine tMX12_layRows_78 (d := d + 1) ⟨fun y => ?_, fun _ => ?_⟩
        · rw [h29, nn_le (by omega) (by omega)] at y
          omega
        · have eC : st 3 t = A_C st t := (if_pos htT).symm
          rw [nn_cl (by omega), F2 211 t (by omega), r3 t htT, nn_64 (by omega), eC]
          refine ⟨la_vp (by omega) (by omega), p97 r t l2 hr htT (fun l3 e => ?_) (st 0 1) 0 (Nat.zero_add _).symm⟩
          refine ih (t + 1) l3 (by omega) (by rw [e]; exact fr_u f2 (by omega)) (fun q u hq hu => ?_)
          by_cases c : q = r ∧ u = t
          · rw [e, c.1, c.2, uu_e]
          · rw [e, uu_j (by omega)]
            exact z2 q u (by omega) hu
    have p68 : ∀ (n r : Nat) (l2 : Nat → Nat → Int64), mt_rad (st 4) (st 0 1) = r + n → fr_o 224 224 l l2 → (∀ q t, q < r → t < st 0 0 → l2 224 (3 * q + t) = Int64.ofNat (mt_pa (A_of st) (pu_g (st 4) (st 0 1) q) t)) → ab_Fr MX12_layRows (d + 2) Q 68 [some (.ref 205), some (.int (Int32.ofNat r)), none, none, none, none] [] (0, 0) (i2, l2, dd, x) (ab_E0 sc) := by
      intro n
      induction n with
      | zero =>
        intro r l2 hr f2 z2
        refine tMX12_layRows_68 (d := d + 1) ⟨fun _ => hQ _ ⟨i2, l2, rfl, F2, f2, ⟨h29, h30, h31⟩, h223, fun q t hq ht => z2 q t (by omega) ht⟩, fun y => ?_⟩
        rw [h31, nn_le (by omega) (by omega)] at y
        omega
      | succ n ih =>
        intro r l2 hr f2 z2
        refine tMX12_layRows_68 (d := d + 1) ⟨fun y => ?_, fun _ => p78 r (by omega) (fun l3 f3 z3 => ih (r + 1) l3 (by omega) f3 z3) (st 0 0) 0 l2 (Nat.zero_add _).symm f2 (fun q u hq hu => z2 q u (by omega) hu)⟩
        rw [h31, nn_le (by omega) (by omega)] at y
        omega
    exact p68 (mt_rad (st 4) (st 0 1)) 0 l (Nat.zero_add _).symm fr_r (fun q t hq => absurd hq (Nat.not_lt_zero q))
  -- the widths
  have p27 : ∀ (n k : Nat) (i2 : Nat → Nat → Int32), st 0 1 = k + n → (∀ a j, ¬ (a = 205 ∧ 29 ≤ j ∧ j ≤ 31 ∨ a = 223) → i2 a j = i a j) → i2 205 29 = Int32.ofNat (st 0 0) → i2 205 30 = Int32.ofNat (st 0 1) → i2 205 31 = Int32.ofNat (mt_rad (st 4) k) → (∀ v, v < k → i2 223 v = Int32.ofNat (mt_rad (st 4) v)) → ab_Fr MX12_layRows (d + 2) Q 27 [some (.ref 205), some (.int (Int32.ofNat k)), none, none, none, none] [] (0, 0) (i2, l, dd, x) (ab_E0 sc) := by
    intro n
    induction n with
    | zero =>
      intro k i2 hk F2 h29 h30 h31 h223
      refine tMX12_layRows_27 (d := d + 1) ⟨fun _ => prod i2 F2 h29 h30 (by rw [h31, show k = st 0 1 by omega]) (fun v hv => h223 v (by omega)), fun y => ?_⟩
      rw [h30, nn_le (by omega) (by omega)] at y
      omega
    | succ n ih =>
      intro k i2 hk F2 h29 h30 h31 h223
      refine tMX12_layRows_27 (d := d + 1) ⟨fun y => ?_, fun _ => ?_⟩
      · rw [h30, nn_le (by omega) (by omega)] at y
        omega
      · rw [nn_cl (by omega), la_nx]
        refine ⟨la_vp (by omega) (by omega), ?_⟩
        intro i3 e3
        refine ⟨la_vp (by omega) (by omega), ?_⟩
        intro i4 e4
        refine ih (k + 1) i4 (by omega) (fun a j hj => ?_) ?_ ?_ ?_ (fun v hv => ?_)
        · rw [e4, show ab_u i3 205 31 (i3 205 31 * i3 212 k) a j = i3 a j from if_neg (by omega), e3, show ab_u i2 223 k (i2 205 31) a j = i2 a j from if_neg (by omega)]
          exact F2 a j hj
        · rw [e4, uu_j (by omega), e3, uu_k (by omega)]
          exact h29
        · rw [e4, uu_j (by omega), e3, uu_k (by omega)]
          exact h30
        · rw [e4, uu_e, e3, uu_k (by omega), uu_k (by omega), h31, F2 212 k (by omega), (r5 k (by omega)).1, nn_mul]
          rfl
        · rw [e4, uu_k (by omega), e3]
          by_cases c : v = k
          · rw [c, uu_e, h31]
          · rw [uu_j c]
            exact h223 v (by omega)
  refine p27 (st 0 1) 0 i5 (Nat.zero_add _).symm (fun a j hj => ?_) ?_ ?_ ?_ (fun v hv => absurd hv (Nat.not_lt_zero v))
  · rw [e5, show ab_u i3 205 31 1 a j = i3 a j from if_neg (by omega), e3, show ab_u i1 205 30 (i1 210 0) a j = i1 a j from if_neg (by omega), e1, show ab_u i 205 29 (i 209 0) a j = i a j from if_neg (by omega)]
  · rw [e5, uu_j (by omega), e3, uu_j (by omega), e1, uu_e]
    exact r1
  · rw [e5, uu_j (by omega), e3, uu_e, e1, uu_k (by omega)]
    exact r1'
  · rw [e5, uu_e]
    rfl
end TKS
