/-! bar: a code's digit by shift -/
theorem cd_dg {u v : Nat} (hu : u < 16384) (hv : v < 7) : ((Int32.ofNat u >>> ((2 * Int32.ofNat v) &&& 31)) &&& 3) = Int32.ofNat (u / 4 ^ v % 4) := by
  have hx : ∀ k : Nat, k < 32 → (Int32.ofNat u >>> Int32.ofNat k) = Int32.ofNat (u / 2 ^ k) := fun k hk => by
    apply Int32.toBitVec_inj.mp
    rw [Int32.toBitVec_shiftRight]
    apply BitVec.eq_of_toInt_eq
    have h1 : (Int32.ofNat k).toBitVec.smod 32 = BitVec.ofNat 32 k := by
      have : ∀ k : Fin 32, (Int32.ofNat k.val).toBitVec.smod 32 = BitVec.ofNat 32 k.val := by decide
      exact this ⟨k, hk⟩
    rw [h1, BitVec.sshiftRight_eq', BitVec.toInt_sshiftRight]
    have h2 : (Int32.ofNat u).toBitVec.toInt = (u : Int) := la_nat (by omega)
    have h3 : (Int32.ofNat (u / 2 ^ k)).toBitVec.toInt = ((u / 2 ^ k : Nat) : Int) := la_nat (by have := Nat.div_le_self u (2 ^ k); omega)
    rw [h2, h3, BitVec.toNat_ofNat, Nat.mod_eq_of_lt (by omega), Int.shiftRight_eq_div_pow]
    rfl
  have ha : ∀ z : Nat, z < 16384 → (Int32.ofNat z &&& 3) = Int32.ofNat (z % 4) := fun z hz => by
    apply Int32.toBitVec_inj.mp
    rw [Int32.toBitVec_and]
    apply BitVec.eq_of_toNat_eq
    rw [BitVec.toNat_and]
    have h2 : ∀ y, y < 16384 → (Int32.ofNat y).toBitVec.toNat = y := fun y hy => by
      show (BitVec.ofNat 32 y).toNat = y
      rw [BitVec.toNat_ofNat, Nat.mod_eq_of_lt (by omega)]
    rw [h2 z hz, h2 (z % 4) (by omega)]
    exact Nat.and_two_pow_sub_one_eq_mod z 2
  have hs : ((2 * Int32.ofNat v) &&& 31) = Int32.ofNat (2 * v) := by
    have : ∀ v : Fin 7, ((2 * Int32.ofNat v.val) &&& 31) = Int32.ofNat (2 * v.val) := by decide
    exact this ⟨v, hv⟩
  rw [hs, hx _ (by omega), ha _ (by have := Nat.div_le_self u (2 ^ (2 * v)); omega), Nat.pow_mul]
