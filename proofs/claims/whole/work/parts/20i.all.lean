/-! all: a power of twenty on both sides -/
def al_m : Nat → Int32 → Int64 → Int32 → Option Int64
  | 0, _, _, _ => none
  | f + 1, n, a1, a3 => if n ≤ a3 then some a1 else al_m f n (a1 * 20) (a3 + 1)
theorem al_eq : ∀ n : Fin 8, ¬ n.val = 0 → (mn_p 40 20 (Int32.ofNat n.val + 1) 1 0).isSome = true ∧ al_m 20 (Int32.ofNat n.val) 20 0 = mn_p 40 20 (Int32.ofNat n.val + 1) 1 0 := by decide +kernel
theorem al_eq0 : al_m 20 0 0 0 = some 0 := by decide +kernel
section TPH
variable {d : Nat} {sc : Nat × (Nat → Int32)} {R : ab_S → Prop} {i : Nat → Nat → Int32} {l : Nat → Nat → Int64} {dd : Nat → Nat → Value} {x : Nat}
theorem al_loop {v : Int64} {Q : ab_Qt} (hQ : Q (some (some (.long v))) (i, l, dd, x) (ab_E0 sc)) : ∀ (f : Nat) (a1 : Int64) (a3 : Int32), al_m f (i 205 30) a1 a3 = some v → ab_Fr MX12_all (d + 1) Q 22 [some (.ref 205), some (.long a1), none, some (.int a3)] [] (0, 0) (i, l, dd, x) (ab_E0 sc) := by
  intro f
  induction f with
  | zero => intro a1 a3 h; cases h
  | succ f ih =>
    intro a1 a3 h
    unfold al_m at h
    refine tMX12_all_22 ⟨fun c => ?_, fun c => ?_⟩
    · rw [if_pos c] at h
      cases h
      exact hQ
    · rw [if_neg c] at h
      exact ih _ _ h
theorem op_all (hR : mt_R R) : la_c7 1310 sc (la_I R) := by
  rintro ⟨i, l, dd, x⟩ hI
  obtain ⟨m, e0, hm, hC⟩ := mt_get hR hI
  obtain ⟨n, hn, en⟩ := la_rep (a := i 205 30) (m := 8) hC.2.1.1 (by have := hC.2.1.2; omega)
  have key : ∃ v : Int64, (i 205 30 = 0 → v = 0) ∧ (¬ i 205 30 = 0 → mn_p 40 20 (i 205 30 + 1) 1 0 = some v) ∧ al_m 20 (i 205 30) (if i 205 30 = 0 then 0 else 20) 0 = some v := by
    by_cases c : i 205 30 = 0
    · refine ⟨0, fun _ => rfl, fun z => absurd c z, ?_⟩
      rw [if_pos c, c]
      exact al_eq0
    · have hn0 : ¬ n = 0 := fun z => c (by rw [en, z]; rfl)
      obtain ⟨g1, g2⟩ := al_eq ⟨n, hn⟩ hn0
      dsimp only at g1 g2
      rw [if_neg c, en]
      cases hv : mn_p 40 20 (Int32.ofNat n + 1) 1 0 with
      | none => rw [hv] at g1; cases g1
      | some v => exact ⟨v, fun z => absurd (en.trans z) c, fun _ => rfl, by rw [g2, hv]⟩
  obtain ⟨v, k1, k2, k3⟩ := key
  refine ⟨v, fun σ => σ = (i, l, dd, x), ?_, ?_⟩
  · refine ab_enter (n := 0) okMX11_all.1 (fun G => Nat.le_of_ble_eq_true rfl) ?_
    refine tMX11_all_0 (d := 1310) ⟨m, e0, hm, _, _, mt_empty (d := 1309) hm, ?_⟩
    rintro i5 l6 dd7 x8 ⟨⟩
    rw [hC.1]
    by_cases c : i 205 30 = 0
    · rw [if_pos c, k1 c]
      exact ⟨fun z => absurd z (by decide), fun _ => ⟨_, rfl, rfl, rfl, rfl⟩⟩
    · rw [if_neg c]
      refine ⟨fun _ => ⟨m, e0, hm, v, _, mn_pow (d := 1309) (by rw [hC.1]; exact k2 c), ?_⟩, fun z => absurd rfl z⟩
      rintro i5 l6 dd7 x8 ⟨⟩
      exact ⟨_, rfl, rfl, rfl, rfl⟩
  · rintro _ rfl
    refine ab_enter (n := 0) okMX12_all.1 (fun G => Nat.le_of_ble_eq_true rfl) ?_
    refine tMX12_all_0 (d := 1310) ?_
    rintro i1 rfl
    have e30 : ab_u i 205 0 0 205 30 = i 205 30 := if_neg (by omega)
    rw [e30]
    refine ⟨fun c => ?_, fun c => ?_⟩
    · rw [if_neg c] at k3
      exact tMX12_all_19 (d := 1310) (al_loop ⟨_, rfl, rfl, rfl, la_thr hI⟩ 20 20 0 (by rw [e30]; exact k3))
    · rw [if_pos c] at k3
      exact tMX12_all_19 (d := 1310) (al_loop ⟨_, rfl, rfl, rfl, la_thr hI⟩ 20 0 0 (by rw [e30]; exact k3))
end TPH
