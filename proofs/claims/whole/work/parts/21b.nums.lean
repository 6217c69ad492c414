/-! NUMBERS: ints and longs that stand for naturals; places of cells written -/
theorem nn_le {a b : Nat} (ha : a < 2 ^ 31) (hb : b < 2 ^ 31) : (Int32.ofNat a ≤ Int32.ofNat b) = (a ≤ b) := by
  rw [Int32.le_iff_toInt_le, la_nat ha, la_nat hb, Int.ofNat_le]
theorem nn_lt {a b : Nat} (ha : a < 2 ^ 31) (hb : b < 2 ^ 31) : (Int32.ofNat a < Int32.ofNat b) = (a < b) := by
  rw [Int32.lt_iff_toInt_lt, la_nat ha, la_nat hb, Int.ofNat_lt]
theorem nn_eq {a b : Nat} (ha : a < 2 ^ 31) (hb : b < 2 ^ 31) : (Int32.ofNat a = Int32.ofNat b) = (a = b) := by
  refine propext ⟨fun h => ?_, fun h => by rw [h]⟩
  have h2 := congrArg Int32.toInt h
  rw [la_nat ha, la_nat hb] at h2
  exact Int.ofNat.inj h2
theorem nn_cl {a : Nat} (ha : a < 2 ^ 31) : (Int32.ofNat a).toNatClampNeg = a := (la_nn ha).2
theorem nn_in {a n : Nat} (h : a < n ∧ n < 2 ^ 31) : vp_in (Int32.ofNat a) n = True := eq_true (la_vp h.1 h.2)
theorem nn_add {a b : Nat} : Int32.ofNat a + Int32.ofNat b = Int32.ofNat (a + b) := (Int32.ofNat_add a b).symm
theorem nn_mul {a b : Nat} : Int32.ofNat a * Int32.ofNat b = Int32.ofNat (a * b) := (Int32.ofNat_mul a b).symm
theorem nn_sub {a b : Nat} (h : b ≤ a) : Int32.ofNat a - Int32.ofNat b = Int32.ofNat (a - b) := la_minus h
theorem nn_m1 {a : Nat} (h : 1 ≤ a) : Int32.ofNat a + (-1) = Int32.ofNat (a - 1) := by
  rw [← la_minus h, Int32.sub_eq_add_neg]
  congr 1
theorem nn_em {a : Nat} (h : a < 2 ^ 31) : (Int32.ofNat a = -1) = False := by
  refine eq_false (fun z => ?_)
  have h2 := congrArg Int32.toInt z
  rw [la_nat h] at h2
  have h3 : ((-1 : Int32).toInt) = -1 := rfl
  omega
theorem nn_me {a : Nat} (h : a < 2 ^ 31) : (-1 = Int32.ofNat a) = False := by
  refine eq_false (fun z => ?_)
  have h2 := nn_em h
  rw [← z] at h2
  exact (eq_true rfl).symm.trans h2 ▸ trivial
theorem nn_l0 {a : Nat} (h : a < 2 ^ 31) : (Int32.ofNat a < 0) = False := eq_false (la_nn h).1
theorem nn_p0 : (0 : Int32) = Int32.ofNat 0 := rfl
theorem nn_p1 : (1 : Int32) = Int32.ofNat 1 := rfl
theorem nn_p2 : (2 : Int32) = Int32.ofNat 2 := rfl
theorem nn_p3 : (3 : Int32) = Int32.ofNat 3 := rfl
theorem nn_p4 : (4 : Int32) = Int32.ofNat 4 := rfl
theorem nn_p5 : (5 : Int32) = Int32.ofNat 5 := rfl
theorem nn_p6 : (6 : Int32) = Int32.ofNat 6 := rfl
theorem nn_p7 : (7 : Int32) = Int32.ofNat 7 := rfl
theorem nn_p8 : (8 : Int32) = Int32.ofNat 8 := rfl
theorem nn_p9 : (9 : Int32) = Int32.ofNat 9 := rfl
theorem nn_p10 : (10 : Int32) = Int32.ofNat 10 := rfl
theorem nn_p20 : (20 : Int32) = Int32.ofNat 20 := rfl
theorem nn_p21 : (21 : Int32) = Int32.ofNat 21 := rfl
theorem nn_64 {a : Nat} (h : a < 2 ^ 31) : (Int32.ofNat a).toInt64 = Int64.ofNat a := by
  have h9 : (Int32.maxValue.toInt) = 2147483647 := rfl
  exact Int32.toInt64_ofNat' (by omega)
theorem nl_add {a b : Nat} : Int64.ofNat a + Int64.ofNat b = Int64.ofNat (a + b) := (Int64.ofNat_add a b).symm
theorem nl_mul {a b : Nat} : Int64.ofNat a * Int64.ofNat b = Int64.ofNat (a * b) := (Int64.ofNat_mul a b).symm
theorem nl_sub {a b : Nat} (h : b ≤ a) : Int64.ofNat a - Int64.ofNat b = Int64.ofNat (a - b) := (Int64.ofNat_sub a b h).symm
theorem nl_p0 : (0 : Int64) = Int64.ofNat 0 := rfl
theorem nl_p1 : (1 : Int64) = Int64.ofNat 1 := rfl
theorem nl_p20 : (20 : Int64) = Int64.ofNat 20 := rfl
theorem nl_nat {a : Nat} (h : a < 2 ^ 63) : (Int64.ofNat a).toInt = a := Int64.toInt_ofNat_of_lt h
theorem nl_le {a b : Nat} (ha : a < 2 ^ 63) (hb : b < 2 ^ 63) : (Int64.ofNat a ≤ Int64.ofNat b) = (a ≤ b) := by
  rw [Int64.le_iff_toInt_le, nl_nat ha, nl_nat hb, Int.ofNat_le]
theorem nl_lt {a b : Nat} (ha : a < 2 ^ 63) (hb : b < 2 ^ 63) : (Int64.ofNat a < Int64.ofNat b) = (a < b) := by
  rw [Int64.lt_iff_toInt_lt, nl_nat ha, nl_nat hb, Int.ofNat_lt]
theorem nl_eq {a b : Nat} (ha : a < 2 ^ 63) (hb : b < 2 ^ 63) : (Int64.ofNat a = Int64.ofNat b) = (a = b) := by
  refine propext ⟨fun h => ?_, fun h => by rw [h]⟩
  have h2 := congrArg Int64.toInt h
  rw [nl_nat ha, nl_nat hb] at h2
  exact Int.ofNat.inj h2
/-- a place written, read -/
theorem uu_e {α : Type} {f : Nat → Nat → α} {k j : Nat} {v : α} : ab_u f k j v k j = v := if_pos ⟨rfl, rfl⟩
theorem uu_a {α : Type} {f : Nat → Nat → α} {k j a b : Nat} {v : α} (h : a = k ∧ b = j) : ab_u f k j v a b = v := if_pos h
theorem uu_k {α : Type} {f : Nat → Nat → α} {k j a b : Nat} {v : α} (h : a ≠ k) : ab_u f k j v a b = f a b := if_neg (fun q => h q.1)
theorem uu_j {α : Type} {f : Nat → Nat → α} {k j a b : Nat} {v : α} (h : b ≠ j) : ab_u f k j v a b = f a b := if_neg (fun q => h q.2)
theorem uu_f {α : Type} {f : Nat → Nat → α} {k j a : Nat} {v : α} (h : a ≠ k) : ab_u f k j v a = f a := ab_u_ne h
/-- cells outside lo .. hi are the same -/
def fr_o {α : Type} (lo hi : Nat) (f g : Nat → Nat → α) : Prop := ∀ k, k < lo ∨ hi < k → g k = f k
theorem fr_r {α : Type} {lo hi : Nat} {f : Nat → Nat → α} : fr_o lo hi f f := fun _ _ => rfl
theorem fr_t {α : Type} {lo hi : Nat} {f g h : Nat → Nat → α} (h1 : fr_o lo hi f g) (h2 : fr_o lo hi g h) : fr_o lo hi f h := fun k hk => (h2 k hk).trans (h1 k hk)
theorem fr_w {α : Type} {lo hi lo2 hi2 : Nat} {f g : Nat → Nat → α} (h1 : fr_o lo hi f g) (h : lo2 ≤ lo ∧ hi ≤ hi2) : fr_o lo2 hi2 f g := fun k hk => h1 k (by omega)
theorem fr_u {α : Type} {lo hi k j : Nat} {f g : Nat → Nat → α} {v : α} (h1 : fr_o lo hi f g) (h : lo ≤ k ∧ k ≤ hi) : fr_o lo hi f (ab_u g k j v) := fun a ha => by
  rw [ab_u_ne (by omega)]
  exact h1 a ha
theorem nn_en {a : Nat} (h : a < 2 ^ 31) : (Int32.ofNat a = -Int32.ofNat 1) = False := nn_em h
theorem nn_ne {a : Nat} (h : a < 2 ^ 31) : (-Int32.ofNat 1 = Int32.ofNat a) = False := nn_me h
theorem nn_mn {a : Nat} (h : 1 ≤ a) : Int32.ofNat a + -Int32.ofNat 1 = Int32.ofNat (a - 1) := nn_m1 h
theorem nn_m3 {a : Int32} : a * 3 = Int32.ofNat 3 * a := Int32.mul_comm a 3
/-- the entry, with any end -/
theorem ab_ent {M : ab_M} {d : Nat} {vs : List Value} {σ : ab_S} {E : ab_E} {v : Option Value} {P : ab_S → Prop} {n : Nat} (hok : ab_ok M n) (hv : ∀ G : ab_G, (lg_sl (vs.map (ab_tr G))).length ≤ M.2.2.1)
    (h : ∀ Q : ab_Qt, (∀ σ2, P σ2 → Q (some v) σ2 E) → ab_Fr M d Q 0 (ab_l0 vs M.2.2.1) [] (0, 0) σ E) : ab_Sp M d vs σ E v P :=
  ab_enter hok hv (h _ (fun _ h2 => ⟨_, rfl, rfl, rfl, h2⟩))
