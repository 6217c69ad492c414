/-! feed, end: specs of both, over any store whose tape length is in 0..740 -/
section TPB
variable {d : Nat} {sc : Nat × (Nat → Int32)} {i : Nat → Nat → Int32} {l : Nat → Nat → Int64} {dd : Nat → Nat → Value} {x : Nat}
theorem tp_ok2 {n : Int32} {k m : Int} (h : tp_ok n m) (hk : 0 ≤ k) (e : m = k + 1) : tp_ok (n + 1) k := by
  subst e
  exact tp_ok1 h hk
theorem tp_le {q : (Nat → Int32) × Int32} {a : Int32} {k : Int} (h : tp_ok q.2 (k + 4)) (hk : 0 ≤ k) : tp_ok (tp_4 q a).2 k := by
  have h1 : tp_ok (tp_b q a 24).2 (k + 3) := tp_ok2 h (by omega) (by omega)
  have h2 : tp_ok (tp_b (tp_b q a 24) a 16).2 (k + 2) := tp_ok2 h1 (by omega) (by omega)
  have h3 : tp_ok (tp_b (tp_b (tp_b q a 24) a 16) a 8).2 (k + 1) := tp_ok2 h2 (by omega) (by omega)
  exact tp_ok2 h3 hk rfl
theorem tp_20ok {q : (Nat → Int32) × Int32} {a b c d e : Int32} (h : tp_ok q.2 20) : tp_ok (tp_20 q a b c d e).2 0 := by
  exact tp_le (k := 0) (tp_le (k := 4) (tp_le (k := 8) (tp_le (k := 12) (tp_le (k := 16) h (by omega)) (by omega)) (by omega)) (by omega)) (by omega)
/-- what feed answers, and the tape after it -/
def tp_feed (q : (Nat → Int32) × Int32) (a b c d e : Int32) : Int32 × ((Nat → Int32) × Int32) := if q.2 ≤ 720 then ((tp_20 q a b c d e).2, tp_20 q a b c d e) else (-1, q)
theorem tp_take {a b c e f : Int32} (hq : tp_ok (i 4 1) 0) : ab_Sp MX7_take (d + 2) [.ref 4, .int a, .int b, .int c, .int e, .int f] (i, l, dd, x) (ab_E0 sc) (some (.int (tp_feed (i 5, i 4 1) a b c e f).1)) (fun σ => σ = (tp_i 5 4 1 i (tp_feed (i 5, i 4 1) a b c e f).2, l, dd, x)) := by
  refine ab_enter (n := 5) okMX7_take.1 (fun G => Nat.le_of_ble_eq_true rfl) ?_
  refine tMX7_take_0 (d := d + 1) ⟨fun h => ?_, fun h => ?_⟩
  · have h20 : tp_ok (i 4 1) 20 := by
      rw [Int32.le_iff_toInt_le, show (720 : Int32).toInt = 720 from rfl] at h
      exact ⟨hq.1, by omega⟩
    have e0 : (i, l, dd, x) = (tp_i 5 4 1 i (i 5, i 4 1), l, dd, x) := by rw [tp_self (by decide)]
    have k0 : tp_ok ((i 5, i 4 1) : (Nat → Int32) × Int32).2 20 := h20
    have k1 := tp_le (a := a) (k := 16) k0 (by omega)
    have k2 := tp_le (a := b) (k := 12) k1 (by omega)
    have k3 := tp_le (a := c) (k := 8) k2 (by omega)
    have k4 := tp_le (a := e) (k := 4) k3 (by omega)
    rw [show tp_feed (i 5, i 4 1) a b c e f = ((tp_20 (i 5, i 4 1) a b c e f).2, tp_20 (i 5, i 4 1) a b c e f) from if_pos h]
    have w : ∀ {n : Int32} {k : Int}, tp_ok n k → 4 ≤ k → tp_ok n 4 := fun h hk => ⟨h.1, by have := h.2; omega⟩
    rw [e0]
    refine ⟨_, tp_add (w k0 (by omega)), ?_⟩
    rintro i6 l7 dd8 x9 ⟨⟩
    refine ⟨_, tp_add (w k1 (by omega)), ?_⟩
    rintro i6 l7 dd8 x9 ⟨⟩
    refine ⟨_, tp_add (w k2 (by omega)), ?_⟩
    rintro i6 l7 dd8 x9 ⟨⟩
    refine ⟨_, tp_add (w k3 (by omega)), ?_⟩
    rintro i6 l7 dd8 x9 ⟨⟩
    refine ⟨_, tp_add (w k4 (by omega)), ?_⟩
    rintro i6 l7 dd8 x9 ⟨⟩
    exact ⟨_, rfl, by rw [tp_len]; rfl, rfl, rfl⟩
  · rw [show tp_feed (i 5, i 4 1) a b c e f = (-1, (i 5, i 4 1)) from if_neg h, tp_self (by decide)]
    exact ⟨_, rfl, rfl, rfl, rfl⟩
theorem tp_feed11 {a b c e f : Int32} (hq : tp_ok (i 4 1) 0) : ab_Sp MX11_feed (d + 3) [.ref 3, .int a, .int b, .int c, .int e, .int f] (i, l, dd, x) (ab_E0 sc) (some (.int (tp_feed (i 5, i 4 1) a b c e f).1)) (fun σ => σ = (tp_i 5 4 1 i (tp_feed (i 5, i 4 1) a b c e f).2, l, dd, x)) := by
  refine ab_enter (n := 5) okMX11_feed.1 (fun G => Nat.le_of_ble_eq_true rfl) ?_
  refine tMX11_feed_0 (d := d + 2) ⟨_, _, tp_take hq, ?_⟩
  rintro i6 l7 dd8 x9 ⟨⟩
  exact ⟨_, rfl, rfl, rfl, rfl⟩
theorem tp_le720 {n : Int32} (h : tp_ok n 0) : n + 20 ≤ 740 ↔ n ≤ 720 := by
  obtain ⟨h1, h2⟩ := h
  rw [Int32.le_iff_toInt_le, Int32.le_iff_toInt_le, Int32.toInt_add, show (20 : Int32).toInt = 20 from rfl, show (740 : Int32).toInt = 740 from rfl, show (720 : Int32).toInt = 720 from rfl, Int.bmod_eq_of_le (by omega) (by omega)]
  omega
theorem tp_feed12 {a b c e f : Int32} (hq : tp_ok (i 205 2) 0) : ab_Sp MX12_feed (d + 2) [.ref 205, .int a, .int b, .int c, .int e, .int f] (i, l, dd, x) (ab_E0 sc) (some (.int (tp_feed (i 206, i 205 2) a b c e f).1)) (fun σ => σ = (tp_i 206 205 2 (ab_u i 205 0 0) (tp_feed (i 206, i 205 2) a b c e f).2, l, dd, x)) := by
  refine ab_enter (n := 5) okMX12_feed.1 (fun G => Nat.le_of_ble_eq_true rfl) ?_
  refine tMX12_feed_0 (d := d + 1) ?_
  rintro j rfl
  have e1 : ab_u i 205 0 0 205 2 = i 205 2 := by unfold ab_u; exact if_neg (by omega)
  have e2 : ab_u i 205 0 0 206 = i 206 := ab_u_ne (by omega)
  have hs := tp_self (kb := 206) (kl := 205) (jl := 2) (i := ab_u i 205 0 0) (by decide)
  rw [e1, e2] at hs
  rw [e1]
  refine ⟨fun h0 => ?_, fun h0 => ?_⟩
  · have h := (tp_le720 hq).mp h0
    have h20 : tp_ok (i 205 2) 20 := by
      rw [Int32.le_iff_toInt_le, show (720 : Int32).toInt = 720 from rfl] at h
      exact ⟨hq.1, by omega⟩
    have k0 : tp_ok ((i 206, i 205 2) : (Nat → Int32) × Int32).2 20 := h20
    have k1 := tp_le (a := a) (k := 16) k0 (by omega)
    have k2 := tp_le (a := b) (k := 12) k1 (by omega)
    have k3 := tp_le (a := c) (k := 8) k2 (by omega)
    have k4 := tp_le (a := e) (k := 4) k3 (by omega)
    rw [show tp_feed (i 206, i 205 2) a b c e f = ((tp_20 (i 206, i 205 2) a b c e f).2, tp_20 (i 206, i 205 2) a b c e f) from if_pos h]
    have w : ∀ {n : Int32} {k : Int}, tp_ok n k → 4 ≤ k → tp_ok n 4 := fun h hk => ⟨h.1, by have := h.2; omega⟩
    have h1 := tp_come (d := d) (sc := sc) (i := ab_u i 205 0 0) (l := l) (dd := dd) (x := x) (a := a) (w k0 (by omega))
    rw [hs] at h1
    refine ⟨_, h1, ?_⟩
    rintro i6 l7 dd8 x9 ⟨⟩
    refine ⟨_, tp_come (w k1 (by omega)), ?_⟩
    rintro i6 l7 dd8 x9 ⟨⟩
    refine ⟨_, tp_come (w k2 (by omega)), ?_⟩
    rintro i6 l7 dd8 x9 ⟨⟩
    refine ⟨_, tp_come (w k3 (by omega)), ?_⟩
    rintro i6 l7 dd8 x9 ⟨⟩
    refine ⟨_, tp_come (w k4 (by omega)), ?_⟩
    rintro i6 l7 dd8 x9 ⟨⟩
    exact ⟨_, rfl, by rw [tp_len]; rfl, rfl, rfl⟩
  · rw [show tp_feed (i 206, i 205 2) a b c e f = (-1, (i 206, i 205 2)) from if_neg (fun q => h0 ((tp_le720 hq).mpr q)), hs]
    exact ⟨_, rfl, rfl, rfl, rfl⟩
/-! end -/
def tp_end (n a : Int32) : Int32 × Int32 := if ¬ a < 0 ∧ a ≤ n then (1, a) else (0, n)
theorem tp_us {k j : Nat} {i : Nat → Nat → Int32} : ab_u i k j (i k j) = i := by
  funext a b
  unfold ab_u
  split
  · rename_i h
    rw [h.1, h.2]
  · rfl
theorem tp_cut {a : Int32} : ab_Sp MX7_cut (d + 1) [.ref 4, .int a] (i, l, dd, x) (ab_E0 sc) (some (.int (tp_end (i 4 1) a).1)) (fun σ => σ = (ab_u i 4 1 (tp_end (i 4 1) a).2, l, dd, x)) := by
  refine ab_enter (n := 1) okMX7_cut.1 (fun G => Nat.le_of_ble_eq_true rfl) ?_
  refine tMX7_cut_0 ⟨fun h => ?_, fun h => ⟨fun h2 => ?_, fun h2 => ?_⟩⟩
  · rw [show tp_end (i 4 1) a = (0, i 4 1) from if_neg (fun q => q.1 h), tp_us]
    exact ⟨_, rfl, rfl, rfl, rfl⟩
  · rintro j rfl
    rw [show tp_end (i 4 1) a = (1, a) from if_pos ⟨h, h2⟩]
    exact ⟨_, rfl, rfl, rfl, rfl⟩
  · rw [show tp_end (i 4 1) a = (0, i 4 1) from if_neg (fun q => h2 q.2), tp_us]
    exact ⟨_, rfl, rfl, rfl, rfl⟩
theorem tp_bit {n a : Int32} : (tp_end n a).1 = 0 ∨ (tp_end n a).1 = 1 := by
  unfold tp_end
  split
  · exact Or.inr rfl
  · exact Or.inl rfl
theorem tp_end11 {a : Int32} : ab_Sp MX11_end (d + 2) [.ref 3, .int a] (i, l, dd, x) (ab_E0 sc) (some (.int (tp_end (i 4 1) a).1)) (fun σ => σ = (ab_u i 4 1 (tp_end (i 4 1) a).2, l, dd, x)) := by
  refine ab_enter (n := 1) okMX11_end.1 (fun G => Nat.le_of_ble_eq_true rfl) ?_
  refine tMX11_end_0 (d := d + 1) ⟨_, _, tp_cut, ?_⟩
  rintro i6 l7 dd8 x9 ⟨⟩
  exact ⟨tp_bit, _, rfl, rfl, rfl, rfl⟩
theorem tp_end12 {a : Int32} : ab_Sp MX12_end (d + 1) [.ref 205, .int a] (i, l, dd, x) (ab_E0 sc) (some (.int (tp_end (i 205 2) a).1)) (fun σ => σ = (ab_u (ab_u i 205 0 0) 205 2 (tp_end (i 205 2) a).2, l, dd, x)) := by
  refine ab_enter (n := 1) okMX12_end.1 (fun G => Nat.le_of_ble_eq_true rfl) ?_
  refine tMX12_end_0 ?_
  rintro j rfl
  have e1 : ab_u i 205 0 0 205 2 = i 205 2 := by unfold ab_u; exact if_neg (by omega)
  have e2 : ab_u (ab_u i 205 0 0) 205 2 (i 205 2) = ab_u i 205 0 0 := by rw [← e1]; exact tp_us
  rw [e1]
  refine ⟨fun h => ?_, fun h => ⟨fun h2 => ?_, fun h2 => ?_⟩⟩
  · rw [show tp_end (i 205 2) a = (0, i 205 2) from if_neg (fun q => q.1 h), e2]
    exact ⟨_, rfl, rfl, rfl, rfl⟩
  · rintro j rfl
    rw [show tp_end (i 205 2) a = (1, a) from if_pos ⟨h, h2⟩]
    exact ⟨_, rfl, rfl, rfl, rfl⟩
  · rw [show tp_end (i 205 2) a = (0, i 205 2) from if_neg (fun q => h2 q.2), e2]
    exact ⟨_, rfl, rfl, rfl, rfl⟩
end TPB
