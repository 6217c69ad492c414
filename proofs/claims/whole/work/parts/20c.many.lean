/-! many: both sides compute; the numbers are compared one by one -/
def mn_p : Nat → Int32 → Int32 → Int64 → Int32 → Option Int64
  | 0, _, _, _, _ => none
  | f + 1, a0, a1, a2, a4 => if a1 ≤ a4 then some a2 else mn_p f a0 a1 (a2 * a0.toInt64) (a4 + 1)
def mn_c : Nat → Int32 → Int32 → Int64 → Int64 → Int32 → Option Int64
  | 0, _, _, _, _, _ => none
  | f + 1, a1, a2, a3, a5, a7 => if a1 / 2 < a7 then some a3 else match mn_p 40 a2 (a1 - a7) 1 0, mn_p 40 (20 - a2) a7 1 0 with
    | some r2, some r11 => if (a7 + 1).toInt64 = 0 then none else mn_c f a1 a2 (a3 + ((a5 * r2) * r11)) ((a5 * (a1 - a7).toInt64) / (a7 + 1).toInt64) (a7 + 1)
    | _, _ => none
def mn_m : Nat → Nat → Int32 → Int32 → Int64 → Int32 → Int64 → Int32 → Option Int64
  | 0, _, _, _, _, _, _, _ => none
  | f + 1, 0, a1, a2, a3, a5, _, _ => if a1 < a5 then some a3 else mn_m f 1 a1 a2 a3 a5 1 1
  | f + 1, 1, a1, a2, a3, a5, a6, a8 => if a5 < a8 then mn_m f 2 a1 a2 a3 a5 a6 0 else if a8.toInt64 = 0 then none else mn_m f 1 a1 a2 a3 a5 ((a6 * ((a1 - a5) + a8).toInt64) / a8.toInt64) (a8 + 1)
  | f + 1, _ + 2, a1, a2, a3, a5, a6, a8 => if a1 ≤ a8 then mn_m f 0 a1 a2 (a3 + a6) (a5 + 1) 0 0 else if a5 ≤ a8 then mn_m f 2 a1 a2 a3 a5 (a6 * (20 - a2).toInt64) (a8 + 1) else mn_m f 2 a1 a2 a3 a5 (a6 * a2.toInt64) (a8 + 1)
/-- every odd n up to 11, every k up to 20 -/
theorem mn_eq : ∀ n : Fin 12, ∀ k : Fin 21, n.val % 2 = 1 → (mn_c 20 (Int32.ofNat n.val) (Int32.ofNat k.val) 0 1 0).isSome = true ∧ mn_m 400 0 (Int32.ofNat n.val) (Int32.ofNat k.val) 0 (Int32.ofNat n.val / 2 + 1) 0 0 = mn_c 20 (Int32.ofNat n.val) (Int32.ofNat k.val) 0 1 0 := by decide +kernel
section MNY
variable {d : Nat} {sc : Nat × (Nat → Int32)} {i : Nat → Nat → Int32} {l : Nat → Nat → Int64} {dd : Nat → Nat → Value} {x : Nat}
theorem mn_pow {v : Int64} {a0 a1 : Int32} (h : mn_p 40 a0 a1 1 0 = some v) : ab_Sp MX11_power (d + 1) [.int a0, .int a1] (i, l, dd, x) (ab_E0 sc) (some (.long v)) (fun σ => σ = (i, l, dd, x)) := by
  refine ab_enter (n := 2) okMX11_power.1 (fun G => Nat.le_of_ble_eq_true rfl) ?_
  refine tMX11_power_0 ?_
  have key : ∀ (f : Nat) (a2 : Int64) (a4 : Int32), mn_p f a0 a1 a2 a4 = some v → ab_Fr MX11_power (d + 1) (fun o σ E => ∃ w, o = some w ∧ w = some (.long v) ∧ E = ab_E0 sc ∧ σ = (i, l, dd, x)) 5 [some (.int a0), some (.int a1), some (.long a2), none, some (.int a4)] [] (0, 0) (i, l, dd, x) (ab_E0 sc) := by
    intro f
    induction f with
    | zero => intro a2 a4 h; cases h
    | succ f ih =>
      intro a2 a4 h
      unfold mn_p at h
      refine tMX11_power_5 ⟨fun c => ?_, fun c => ?_⟩
      · rw [if_pos c] at h
        cases h
        exact ⟨_, rfl, rfl, rfl, rfl⟩
      · rw [if_neg c] at h
        exact ih _ _ h
  exact key 40 1 0 h
theorem mn_class {v : Int64} {a1 a2 : Int32} {Q : ab_Qt} (hQ : Q (some (some (.long v))) (i, l, dd, x) (ab_E0 sc)) : ∀ (f : Nat) (a3 a5 : Int64) (a7 : Int32), mn_c f a1 a2 a3 a5 a7 = some v → ab_Fr MX11_many (d + 2) Q 43 [none, some (.int a1), some (.int a2), some (.long a3), none, some (.long a5), none, some (.int a7)] [] (0, 0) (i, l, dd, x) (ab_E0 sc) := by
  intro f
  induction f with
  | zero => intro a3 a5 a7 h; cases h
  | succ f ih =>
    intro a3 a5 a7 h
    unfold mn_c at h
    refine tMX11_many_43 (d := d + 1) ⟨fun c => ?_, fun c => ?_⟩
    · rw [if_pos c] at h
      cases h
      exact hQ
    · rw [if_neg c] at h
      cases h1 : mn_p 40 a2 (a1 - a7) 1 0 with
      | none => rw [h1] at h; cases h
      | some r2 =>
        cases h2 : mn_p 40 (20 - a2) a7 1 0 with
        | none => rw [h1, h2] at h; cases h
        | some r11 =>
          rw [h1, h2] at h
          dsimp only at h
          refine ⟨r2, _, mn_pow h1, ?_⟩
          rintro i6 l7 dd8 x9 ⟨⟩
          refine ⟨r11, _, mn_pow h2, ?_⟩
          rintro i6 l7 dd8 x9 ⟨⟩
          by_cases c3 : (a7 + 1).toInt64 = 0
          · rw [if_pos c3] at h
            cases h
          · rw [if_neg c3] at h
            exact ⟨c3, ih _ _ _ h⟩
theorem mn_model {v : Int64} {a1 a2 : Int32} {Q : ab_Qt} (hQ : Q (some (some (.long v))) (i, l, dd, x) (ab_E0 sc)) : ∀ (f : Nat),
    (∀ (a3 : Int64) (a5 : Int32) (a6 : Int64) (a8 : Int32), mn_m f 0 a1 a2 a3 a5 a6 a8 = some v → ab_Fr MX12_many (d + 1) Q 45 [none, some (.int a1), some (.int a2), some (.long a3), none, some (.int a5), none, none, none] [] (0, 0) (i, l, dd, x) (ab_E0 sc)) ∧
    (∀ (a3 : Int64) (a5 : Int32) (a6 : Int64) (a8 : Int32), mn_m f 1 a1 a2 a3 a5 a6 a8 = some v → ab_Fr MX12_many (d + 1) Q 57 [none, some (.int a1), some (.int a2), some (.long a3), none, some (.int a5), some (.long a6), none, some (.int a8)] [] (0, 0) (i, l, dd, x) (ab_E0 sc)) ∧
    ∀ (a3 : Int64) (a5 : Int32) (a6 : Int64) (a8 : Int32), mn_m f 2 a1 a2 a3 a5 a6 a8 = some v → ab_Fr MX12_many (d + 1) Q 90 [none, some (.int a1), some (.int a2), some (.long a3), none, some (.int a5), some (.long a6), none, some (.int a8)] [] (0, 0) (i, l, dd, x) (ab_E0 sc) := by
  intro f
  induction f with
  | zero =>
    refine ⟨fun a3 a5 a6 a8 h => ?_, fun a3 a5 a6 a8 h => ?_, fun a3 a5 a6 a8 h => ?_⟩ <;> (unfold mn_m at h; cases h)
  | succ f ih =>
    refine ⟨fun a3 a5 a6 a8 h => ?_, fun a3 a5 a6 a8 h => ?_, fun a3 a5 a6 a8 h => ?_⟩
    · unfold mn_m at h
      refine tMX12_many_45 ⟨fun c => ?_, fun c => ?_⟩
      · rw [if_pos c] at h
        cases h
        exact hQ
      · rw [if_neg c] at h
        exact ih.2.1 _ _ _ _ h
    · unfold mn_m at h
      refine tMX12_many_57 ⟨fun c => ?_, fun c => ?_⟩
      · rw [if_pos c] at h
        exact ih.2.2 _ _ _ _ h
      · rw [if_neg c] at h
        by_cases c3 : a8.toInt64 = 0
        · rw [if_pos c3] at h
          cases h
        · rw [if_neg c3] at h
          exact ⟨c3, ih.2.1 _ _ _ _ h⟩
    · unfold mn_m at h
      refine tMX12_many_90 ⟨fun c => ?_, fun c => ⟨fun c2 => ?_, fun c2 => ?_⟩⟩
      · rw [if_pos c] at h
        exact ih.1 _ _ _ _ h
      · rw [if_neg c, if_pos c2] at h
        exact ih.2.2 _ _ _ _ h
      · rw [if_neg c, if_neg c2] at h
        exact ih.2.2 _ _ _ _ h
def mn_in (a1 a2 : Int32) : Prop := ¬ a1 < 1 ∧ ¬ 11 < a1 ∧ ¬ (a1 - a1 / 2 * 2) = 0 ∧ ¬ a2 < 0 ∧ a2 ≤ 20
theorem mn_par : ∀ n : Fin 12, ¬ (Int32.ofNat n.val - Int32.ofNat n.val / 2 * 2) = 0 → n.val % 2 = 1 := by decide +kernel
theorem mn_val {a1 a2 : Int32} (h : mn_in a1 a2) : ∃ v, mn_c 20 a1 a2 0 1 0 = some v ∧ mn_m 400 0 a1 a2 0 (a1 / 2 + 1) 0 0 = some v := by
  obtain ⟨h1, h2, h3, h4, h5⟩ := h
  have e : ∀ (a : Int32) (m : Nat), 0 ≤ a.toInt → a.toInt < (m : Int) → ∃ n : Fin m, a = Int32.ofNat n.val := fun a m p q => by
    refine ⟨⟨a.toInt.toNat, by omega⟩, ?_⟩
    have h9 : (a.toInt.toNat : Int) = a.toInt := by omega
    have h8 : Int32.ofInt (a.toInt.toNat : Int) = a := by rw [h9, Int32.ofInt_toInt]
    exact h8.symm.trans Int32.ofInt_eq_ofNat
  rw [Int32.lt_iff_toInt_lt, show (1 : Int32).toInt = 1 from rfl] at h1
  rw [Int32.lt_iff_toInt_lt, show (11 : Int32).toInt = 11 from rfl] at h2
  rw [Int32.lt_iff_toInt_lt, show (0 : Int32).toInt = 0 from rfl] at h4
  rw [Int32.le_iff_toInt_le, show (20 : Int32).toInt = 20 from rfl] at h5
  obtain ⟨n, rfl⟩ := e a1 12 (by omega) (by omega)
  obtain ⟨k, rfl⟩ := e a2 21 (by omega) (by omega)
  obtain ⟨g1, g2⟩ := mn_eq n k (mn_par n h3)
  cases hv : mn_c 20 (Int32.ofNat n.val) (Int32.ofNat k.val) 0 1 0 with
  | none => rw [hv] at g1; cases g1
  | some v => exact ⟨v, rfl, by rw [g2, hv]⟩
end MNY
/-! what a thrower does: it answers o, or throws, and its store is the old one, a cell more behind the named ones if it threw -/
def th_p (σ : ab_S) (o : Option Int64) : ab_S := (σ.1, σ.2.1, σ.2.2.1, σ.2.2.2 + (if o = none then 1 else 0))
section MNZ
variable {d : Nat} {sc : Nat × (Nat → Int32)} {i : Nat → Nat → Int32} {l : Nat → Nat → Int64} {dd : Nat → Nat → Value} {x : Nat}
theorem mn_isIn {a b c : Int32} : ab_Sp MX12_isIn (d + 1) [.int a, .int b, .int c] (i, l, dd, x) (ab_E0 sc) (some (.int (if ¬ a < b ∧ ¬ c < a then 1 else 0))) (fun σ => σ = (i, l, dd, x)) := by
  refine ab_enter (n := 3) okMX12_isIn.1 (fun G => Nat.le_of_ble_eq_true rfl) ?_
  refine tMX12_isIn_0 ⟨fun h => ?_, fun h => ⟨fun h2 => ?_, fun h2 => ?_⟩⟩
  · rw [if_neg (fun q => q.1 h)]
    exact ⟨_, rfl, rfl, rfl, rfl⟩
  · rw [if_neg (fun q => q.2 h2)]
    exact ⟨_, rfl, rfl, rfl, rfl⟩
  · rw [if_pos ⟨h, h2⟩]
    exact ⟨_, rfl, rfl, rfl, rfl⟩
theorem mn_refuse : ab_Sp MX12_refuse (d + 1) [.ref 205] (i, l, dd, x) (ab_E0 sc) (some (.long 0)) (fun σ => σ = (ab_u i 205 0 1, l, dd, x)) := by
  refine ab_enter (n := 0) okMX12_refuse.1 (fun G => Nat.le_of_ble_eq_true rfl) ?_
  refine tMX12_refuse_0 ?_
  rintro i1 rfl
  exact ⟨_, rfl, rfl, rfl, rfl⟩
theorem mn_thrown : ab_Sp MX12_thrown (d + 1) [.ref 205] (i, l, dd, x) (ab_E0 sc) (some (.int (i 205 0))) (fun σ => σ = (i, l, dd, x)) := by
  refine ab_enter (n := 0) okMX12_thrown.1 (fun G => Nat.le_of_ble_eq_true rfl) ?_
  exact tMX12_thrown_0 ⟨_, rfl, rfl, rfl, rfl⟩

/-- both sides of many answer alike, whatever the store -/
theorem mn_both {d2 : Nat} {a1 a2 : Int32} : ∃ (o : Option Int64) (b : Int64), (∀ w, o = some w → w = b) ∧
    (∀ (i : Nat → Nat → Int32) (l : Nat → Nat → Int64) (dd : Nat → Nat → Value) (x : Nat), ∀ Q : ab_Qt, Q (o.map (fun w => some (.long w))) (th_p (i, l, dd, x) o) (ab_E0 sc) → ab_CallX MX11_many (d + 6) [.ref 3, .int a1, .int a2] (i, l, dd, x) (ab_E0 sc) Q) ∧
    ∀ (i : Nat → Nat → Int32) (l : Nat → Nat → Int64) (dd : Nat → Nat → Value) (x : Nat), ab_Sp MX12_many (d2 + 2) [.ref 205, .int a1, .int a2] (i, l, dd, x) (ab_E0 sc) (some (.long b)) (fun σ => σ = (ab_u i 205 0 (if o = none then 1 else 0), l, dd, x)) := by
  by_cases h : mn_in a1 a2
  · obtain ⟨v, hc, hm⟩ := mn_val h
    obtain ⟨h1, h2, h3, h4, h5⟩ := h
    refine ⟨some v, v, fun w hw => by cases hw; rfl, fun i l dd x Q hQ => ?_, fun i l dd x => ?_⟩
    · refine ab_enterX (n := 2) okMX11_many.1 (fun G => Nat.le_of_ble_eq_true rfl) (by omega) ?_
      refine tMX11_many_0 (d := d + 5) ⟨fun z => absurd z h1, fun _ => ⟨fun z => absurd z h2, fun _ => ⟨fun z => absurd z h3, fun _ => ⟨fun z => absurd z h4, fun _ => ⟨fun _ => ?_, fun z => absurd h5 z⟩⟩⟩⟩⟩
      exact mn_class (d := d + 4) (by rw [show th_p (i, l, dd, x) (some v) = (i, l, dd, x) from by unfold th_p; rw [if_neg (fun z => by cases z)]; rfl] at hQ; exact hQ) 20 0 1 0 hc
    · refine ab_enter (n := 2) okMX12_many.1 (fun G => Nat.le_of_ble_eq_true rfl) ?_
      refine tMX12_many_0 (d := d2 + 1) ⟨_, _, mn_isIn, ?_⟩
      rintro i6 l7 dd8 x9 ⟨⟩
      rw [if_pos ⟨h1, h2⟩]
      refine ⟨fun z => absurd z (by decide), fun _ => ⟨fun z => absurd z h3, fun _ => ⟨_, _, mn_isIn, ?_⟩⟩⟩
      rintro i6 l7 dd8 x9 ⟨⟩
      rw [if_pos ⟨h4, fun z => by
        rw [Int32.lt_iff_toInt_lt] at z
        rw [Int32.le_iff_toInt_le] at h5
        omega⟩]
      refine ⟨fun _ => ?_, fun z => absurd z (by decide)⟩
      rintro i9 rfl
      refine (mn_model (d := d2 + 1) ?_ 400).1 0 (a1 / 2 + 1) 0 0 hm
      exact ⟨_, rfl, rfl, rfl, by rw [if_neg (fun z => by cases z)]⟩
  · refine ⟨none, 0, fun w hw => (by cases hw), fun i l dd x Q hQ => ?_, fun i l dd x => ?_⟩
    · refine ab_enterX (n := 2) okMX11_many.1 (fun G => Nat.le_of_ble_eq_true rfl) (by omega) ?_
      have e : ab_Fr MX11_many (d + 6) Q 27 [none, none, none, none, none, none, none, none] [] (0, 0) (i, l, dd, x) (ab_E0 sc) := tMX11_many_27 (d := d + 5) (by rw [show th_p (i, l, dd, x) none = (i, l, dd, x + 1) from by unfold th_p; rw [if_pos rfl]] at hQ; exact hQ)
      exact tMX11_many_0 (d := d + 5) ⟨fun _ => e, fun h1 => ⟨fun _ => e, fun h2 => ⟨fun _ => e, fun h3 => ⟨fun _ => e, fun h4 => ⟨fun h5 => absurd ⟨h1, h2, h3, h4, h5⟩ h, fun _ => e⟩⟩⟩⟩⟩
    · refine ab_enter (n := 2) okMX12_many.1 (fun G => Nat.le_of_ble_eq_true rfl) ?_
      have e : ab_Fr MX12_many (d2 + 2) (fun o σ E => ∃ v, o = some v ∧ v = some (.long 0) ∧ E = ab_E0 sc ∧ σ = (ab_u i 205 0 (if (none : Option Int64) = none then 1 else 0), l, dd, x)) 26 [some (.ref 205), none, none, none, none, none, none, none, none] [] (0, 0) (i, l, dd, x) (ab_E0 sc) := by
        refine tMX12_many_26 (d := d2 + 1) ⟨_, _, mn_refuse, ?_⟩
        rintro i6 l7 dd8 x9 ⟨⟩
        exact ⟨_, rfl, rfl, rfl, by rw [if_pos rfl]⟩
      refine tMX12_many_0 (d := d2 + 1) ⟨_, _, mn_isIn, ?_⟩
      rintro i6 l7 dd8 x9 ⟨⟩
      refine ⟨fun _ => e, fun g1 => ⟨fun _ => e, fun h3 => ⟨_, _, mn_isIn, ?_⟩⟩⟩
      rintro i6 l7 dd8 x9 ⟨⟩
      refine ⟨fun g2 => ?_, fun _ => e⟩
      exfalso
      have k1 : ¬ a1 < 1 ∧ ¬ 11 < a1 := by
        rcases Classical.em (¬ a1 < 1 ∧ ¬ 11 < a1) with q | q
        · exact q
        · rw [if_neg q] at g1
          exact absurd rfl g1
      have k2 : ¬ a2 < 0 ∧ ¬ 20 < a2 := by
        rcases Classical.em (¬ a2 < 0 ∧ ¬ 20 < a2) with q | q
        · exact q
        · rw [if_neg q] at g2
          exact absurd rfl g2
      refine h ⟨k1.1, k1.2, h3, k2.1, ?_⟩
      have q := k2.2
      rw [Int32.lt_iff_toInt_lt] at q
      rw [Int32.le_iff_toInt_le]
      omega
end MNZ
