/-! bar: the model's lostByNeed -/
theorem bw_0 {A : mA_} {t w e : Nat} (hW : mt_W A) (ht : t < aT_ A) (h : 64 ≤ w) : bw_ A t w e = 0 := by
  rw [← bw_k hW ht]
  refine pu_nz (fun c _ => if_neg (fun q => ?_))
  have := rw_wB (c := c) (t := t) hW
  omega
theorem lb_82 {A : mA_} {t e n : Nat} (hW : mt_W A) (ht : t < aT_ A) : lb_ A t e n 82 = lb_n A t e n := by
  unfold lb_n lb_
  rw [show (82 : Nat) = 64 + 18 from rfl, pu_sp, pu_sz (f := fun k => if 64 + k < n then bw_ A t (64 + k) e else bw_ A t (64 + k) t) (fun k _ => by
    rw [bw_0 hW ht (by omega), bw_0 hW ht (by omega)]
    split <;> rfl), Nat.add_zero]
section TQJ3
variable {d : Nat} {sc : Nat × (Nat → Int32)} {i : Nat → Nat → Int32} {l : Nat → Nat → Int64} {dd : Nat → Nat → Value} {x : Nat}
theorem md_lostN {A : mA_} {t e n : Nat} (hW : mt_W A) (ht : t < aT_ A) (he : e < aT_ A) (hn : n < 2 ^ 20) (h243 : ∀ w e, w < 82 → e < aT_ A → l 243 (3 * w + e) = Int64.ofNat (bw_ A t w e)) : ab_Sp MX12_lostByNeed (d + 1) [.ref 205, .int (Int32.ofNat n), .int (Int32.ofNat t), .int (Int32.ofNat e), .int 81] (i, l, dd, x) (ab_E0 sc) (some (.long (Int64.ofNat (lb_n A t e n)))) (fun σ => σ = (i, l, dd, x)) := by
  have w1 := hW.1
  refine ab_ent (n := 4) okMX12_lostByNeed.1 (fun G => Nat.le_of_ble_eq_true rfl) (fun Q hQ => ?_)
  refine tMX12_lostByNeed_0 ?_
  have go : ∀ r w : Nat, 82 = w + r → ab_Fr MX12_lostByNeed (d + 1) Q 6 [some (.ref 205), some (.int (Int32.ofNat n)), some (.int (Int32.ofNat t)), some (.int (Int32.ofNat e)), some (.int 81), some (.long (Int64.ofNat (lb_ A t e n w))), none, some (.int (Int32.ofNat w))] [] (0, 0) (i, l, dd, x) (ab_E0 sc) := by
    intro r
    induction r with
    | zero =>
      intro w hw
      refine tMX12_lostByNeed_6 ⟨fun _ => ?_, fun c => ?_⟩
      · rw [show w = 82 by omega, lb_82 hW ht]
        exact hQ _ rfl
      · rw [show (81 : Int32) = Int32.ofNat 81 from rfl, nn_lt (by omega) (by omega)] at c
        omega
    | succ r ih =>
      intro w hw
      have ih2 := ih (w + 1) (by omega)
      have es : lb_ A t e n (w + 1) = lb_ A t e n w + (if w < n then bw_ A t w e else bw_ A t w t) := rfl
      rw [es] at ih2
      refine tMX12_lostByNeed_6 ⟨fun c => ?_, fun _ => ?_⟩
      · rw [show (81 : Int32) = Int32.ofNat 81 from rfl, nn_lt (by omega) (by omega)] at c
        omega
      · rw [nn_lt (by omega) (by omega), nn_p3, nn_mul, nn_add, nn_add, nn_cl (by omega), nn_cl (by omega), h243 w e (by omega) he, h243 w t (by omega) ht, nl_add, nl_add, la_nx]
        refine ⟨fun c => ⟨la_vp (by omega) (by omega), ?_⟩, fun c => ⟨la_vp (by omega) (by omega), ?_⟩⟩
        · rw [if_pos c] at ih2
          exact ih2
        · rw [if_neg c] at ih2
          exact ih2
  exact go 82 0 rfl
end TQJ3
