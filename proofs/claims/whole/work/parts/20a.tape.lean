/-! L3: THE TWO PROGRAMS OVER THE STORE. The tape: bytes and length, in the class's cells 5 and (4, 1), in the model's 206 and (205, 2). -/
def tp_set (i : Nat → Nat → Int32) (k : Nat) (f : Nat → Int32) : Nat → Nat → Int32 := fun a => if a = k then f else i a
def tp_b (q : (Nat → Int32) × Int32) (a s : Int32) : (Nat → Int32) × Int32 := (ab_v q.1 q.2.toNatClampNeg (ab_ushr a s &&& 255), q.2 + 1)
def tp_4 (q : (Nat → Int32) × Int32) (a : Int32) : (Nat → Int32) × Int32 := tp_b (tp_b (tp_b (tp_b q a 24) a 16) a 8) a 0
def tp_20 (q : (Nat → Int32) × Int32) (a b c d e : Int32) : (Nat → Int32) × Int32 := tp_4 (tp_4 (tp_4 (tp_4 (tp_4 q a) b) c) d) e
def tp_i (kb kl jl : Nat) (i : Nat → Nat → Int32) (q : (Nat → Int32) × Int32) : Nat → Nat → Int32 := ab_u (tp_set i kb q.1) kl jl q.2
theorem tp_self {kb kl jl : Nat} {i : Nat → Nat → Int32} (h : kb ≠ kl) : tp_i kb kl jl i (i kb, i kl jl) = i := by
  funext a b
  unfold tp_i ab_u tp_set
  by_cases h1 : a = kl ∧ b = jl
  · obtain ⟨rfl, rfl⟩ := h1
    simp
  · rw [if_neg h1]
    by_cases h2 : a = kb
    · subst h2
      simp
    · simp [h2]
theorem tp_len {kb kl jl : Nat} {i : Nat → Nat → Int32} {q : (Nat → Int32) × Int32} : tp_i kb kl jl i q kl jl = q.2 := by
  unfold tp_i ab_u
  simp
theorem tp_step {kb kl jl : Nat} {i : Nat → Nat → Int32} {q : (Nat → Int32) × Int32} {a s : Int32} (h : kb ≠ kl) :
    ab_u (ab_u (tp_i kb kl jl i q) kb (tp_i kb kl jl i q kl jl).toNatClampNeg (ab_ushr a s &&& 255)) kl jl (ab_u (tp_i kb kl jl i q) kb (tp_i kb kl jl i q kl jl).toNatClampNeg (ab_ushr a s &&& 255) kl jl + 1) = tp_i kb kl jl i (tp_b q a s) := by
  rw [tp_len]
  have e : ab_u (tp_i kb kl jl i q) kb q.2.toNatClampNeg (ab_ushr a s &&& 255) kl jl = q.2 := by
    unfold ab_u
    rw [if_neg (fun z => h z.1.symm)]
    exact tp_len
  rw [e]
  funext x y
  unfold tp_i tp_b ab_u tp_set ab_v
  dsimp only
  by_cases h1 : x = kl ∧ y = jl
  · simp [h1]
  · by_cases h2 : x = kb
    · subst h2
      simp [h1]
    · simp [h1, h2]
def tp_ok (n : Int32) (k : Int) : Prop := 0 ≤ n.toInt ∧ n.toInt + k ≤ 740
theorem tp_ok1 {n : Int32} {k : Int} (h : tp_ok n (k + 1)) (hk : 0 ≤ k) : tp_ok (n + 1) k := by
  obtain ⟨h1, h2⟩ := h
  have e : (n + 1).toInt = n.toInt + 1 := by
    rw [Int32.toInt_add, show (1 : Int32).toInt = 1 from rfl, Int.bmod_eq_of_le (by omega) (by omega)]
  exact ⟨by omega, by omega⟩
theorem tp_in {n : Int32} {k : Int} (h : tp_ok n k) (hk : 1 ≤ k) : vp_in n 740 := by
  obtain ⟨h1, h2⟩ := h
  refine ab_vp ?_
  have e1 : ¬ n < 0 := fun q => by
    rw [Int32.lt_iff_toInt_lt] at q
    simp at q
    omega
  have e2 : n.toNatClampNeg < 740 := by
    rw [← Int32.toNat_toInt]
    omega
  simp [e1, e2]
theorem tp_lt {n : Int32} {k : Int} (h : tp_ok n k) (hk : 1 ≤ k) : ¬ 740 ≤ n := fun q => by
  rw [Int32.le_iff_toInt_le, show (740 : Int32).toInt = 740 from rfl] at q
  have := h.2
  omega
section TPA
variable {d : Nat} {sc : Nat × (Nat → Int32)} {i : Nat → Nat → Int32} {l : Nat → Nat → Int64} {dd : Nat → Nat → Value} {x : Nat}
theorem tp_add {q : (Nat → Int32) × Int32} {a : Int32} (hq : tp_ok q.2 4) : ab_Sp MX7_add (d + 1) [.ref 4, .int a] (tp_i 5 4 1 i q, l, dd, x) (ab_E0 sc) none (fun σ => σ = (tp_i 5 4 1 i (tp_4 q a), l, dd, x)) := by
  refine ab_enter (n := 1) okMX7_add.1 (fun G => Nat.le_of_ble_eq_true rfl) ?_
  have q1 : tp_ok (tp_b q a 24).2 3 := tp_ok1 (k := 3) hq (by decide)
  have q2 : tp_ok (tp_b (tp_b q a 24) a 16).2 2 := tp_ok1 (k := 2) q1 (by decide)
  have q3 : tp_ok (tp_b (tp_b (tp_b q a 24) a 16) a 8).2 1 := tp_ok1 (k := 1) q2 (by decide)
  refine tMX7_add_0 (tMX7_add_3 ⟨fun z => absurd z (by decide), fun _ => ⟨fun z => absurd z (by rw [tp_len]; exact tp_lt hq (by decide)), fun _ => ⟨by rw [tp_len]; exact tp_in hq (by decide), ?_⟩⟩⟩)
  rintro i3 rfl i5 rfl
  rw [tp_step (by decide), show (24 : Int32) + (-8) = 16 from by decide]
  refine tMX7_add_3 ⟨fun z => absurd z (by decide), fun _ => ⟨fun z => absurd z (by rw [tp_len]; exact tp_lt q1 (by decide)), fun _ => ⟨by rw [tp_len]; exact tp_in q1 (by decide), ?_⟩⟩⟩
  rintro i3 rfl i5 rfl
  rw [tp_step (by decide), show (16 : Int32) + (-8) = 8 from by decide]
  refine tMX7_add_3 ⟨fun z => absurd z (by decide), fun _ => ⟨fun z => absurd z (by rw [tp_len]; exact tp_lt q2 (by decide)), fun _ => ⟨by rw [tp_len]; exact tp_in q2 (by decide), ?_⟩⟩⟩
  rintro i3 rfl i5 rfl
  rw [tp_step (by decide), show (8 : Int32) + (-8) = 0 from by decide]
  refine tMX7_add_3 ⟨fun z => absurd z (by decide), fun _ => ⟨fun z => absurd z (by rw [tp_len]; exact tp_lt q3 (by decide)), fun _ => ⟨by rw [tp_len]; exact tp_in q3 (by decide), ?_⟩⟩⟩
  rintro i3 rfl i5 rfl
  rw [tp_step (by decide), show (0 : Int32) + (-8) = -8 from by decide]
  exact tMX7_add_3 ⟨fun _ => ⟨none, rfl, rfl, rfl, rfl⟩, fun z => absurd (by decide) z⟩
theorem tp_come {q : (Nat → Int32) × Int32} {a : Int32} (hq : tp_ok q.2 4) : ab_Sp MX12_come (d + 1) [.ref 205, .int a] (tp_i 206 205 2 i q, l, dd, x) (ab_E0 sc) none (fun σ => σ = (tp_i 206 205 2 i (tp_4 q a), l, dd, x)) := by
  refine ab_enter (n := 1) okMX12_come.1 (fun G => Nat.le_of_ble_eq_true rfl) ?_
  have q1 : tp_ok (tp_b q a 24).2 3 := tp_ok1 (k := 3) hq (by decide)
  have q2 : tp_ok (tp_b (tp_b q a 24) a 16).2 2 := tp_ok1 (k := 2) q1 (by decide)
  have q3 : tp_ok (tp_b (tp_b (tp_b q a 24) a 16) a 8).2 1 := tp_ok1 (k := 1) q2 (by decide)
  refine tMX12_come_0 (tMX12_come_3 ⟨fun z => absurd z (by decide), fun _ => ⟨by rw [tp_len]; exact tp_in hq (by decide), ?_⟩⟩)
  rintro i3 rfl i5 rfl
  rw [tp_step (by decide), show (24 : Int32) + (-8) = 16 from by decide]
  refine tMX12_come_3 ⟨fun z => absurd z (by decide), fun _ => ⟨by rw [tp_len]; exact tp_in q1 (by decide), ?_⟩⟩
  rintro i3 rfl i5 rfl
  rw [tp_step (by decide), show (16 : Int32) + (-8) = 8 from by decide]
  refine tMX12_come_3 ⟨fun z => absurd z (by decide), fun _ => ⟨by rw [tp_len]; exact tp_in q2 (by decide), ?_⟩⟩
  rintro i3 rfl i5 rfl
  rw [tp_step (by decide), show (8 : Int32) + (-8) = 0 from by decide]
  refine tMX12_come_3 ⟨fun z => absurd z (by decide), fun _ => ⟨by rw [tp_len]; exact tp_in q3 (by decide), ?_⟩⟩
  rintro i3 rfl i5 rfl
  rw [tp_step (by decide), show (0 : Int32) + (-8) = -8 from by decide]
  exact tMX12_come_3 ⟨fun _ => ⟨none, rfl, rfl, rfl, rfl⟩, fun z => absurd (by decide) z⟩
end TPA
