section TPM
variable {d : Nat} {sc : Nat × (Nat → Int32)} {R : ab_S → Prop} {i : Nat → Nat → Int32} {l : Nat → Nat → Int64} {dd : Nat → Nat → Value} {x : Nat}
theorem mt_partsOf {m n a : Nat} {t : Nat} (hm : ab_isM m) (hk : (ab_E0 sc).1 a = .inr (0, n)) (hn : 7 ≤ n) (hC : mt_C i m) (hT : t < 3) (hb : ∀ v : Nat, (v : Int) < (i 205 30).toInt → 0 ≤ (i a v).toInt ∧ (i a v).toInt < 3) : ab_Sp MX1_partsOf (d + 1) [.ref m, .int (Int32.ofNat t), .ref a] (i, l, dd, x) (ab_E0 sc) (some (.long (mt_pr (i (m + 1) t).toInt64 (fun v => i (m + 5 + 6 * v + 1) (3 * t + (i a v).toInt.toNat)) (i 205 30).toInt.toNat))) (fun σ => σ = (i, l, dd, x)) := by
  refine ab_enter (n := 2) okMX1_partsOf.1 (fun G => Nat.le_of_ble_eq_true rfl) ?_
  refine tMX1_partsOf_0 hm hk ⟨la_vp hT (by omega), ?_⟩
  rw [(la_nn (n := t) (by omega)).2]
  exact mt_parts_loop (c := (i (m + 1) t).toInt64) hm hk hn hC hT hb ⟨_, rfl, rfl, rfl, rfl⟩ (i 205 30).toInt.toNat 0 (by omega)
/-- the chances told and how likely signs are: class and model -/
def mt_L (i : Nat → Nat → Int32) (m : Nat) : Prop := i m 0 = i 205 29 ∧ (0 ≤ (i 205 29).toInt ∧ (i 205 29).toInt ≤ 3) ∧ (∀ t : Nat, t < 3 → i (m + 1) t = if (t : Int) < (i 205 29).toInt then i 211 t else 0) ∧
  ∀ v s t : Nat, (v : Int) < (i 205 30).toInt → (s : Int) < (i 212 v).toInt → t < 3 → i (m + 5 + 6 * v + 1) (3 * t + s) = if (t : Int) < (i 205 29).toInt then i 213 (9 * v + 3 * s + t) else 0
/-- the model's table of parts: row by truth -/
def mt_P (i : Nat → Nat → Int32) (l : Nat → Nat → Int64) : Prop := ∀ (b : Nat → Nat) (t : Nat), (∀ v : Nat, (v : Int) < (i 205 30).toInt → b v < mt_Sg i v) → (t : Int) < (i 205 29).toInt → l 224 (3 * mt_row (mt_Sg i) b (i 205 30).toInt.toNat + t) = mt_pr (i 211 t).toInt64 (fun v => i 213 (9 * v + 3 * b v + t)) (i 205 30).toInt.toNat
theorem mt_pr_eq {c : Int64} {f g : Nat → Int32} : ∀ k, (∀ v, v < k → f v = g v) → mt_pr c f k = mt_pr c g k := by
  intro k
  induction k with
  | zero => intro _; rfl
  | succ k ih =>
    intro h
    show mt_pr c f k * (f k).toInt64 = mt_pr c g k * (g k).toInt64
    rw [ih (fun v hv => h v (by omega)), h k (by omega)]
/-- what the class multiplies is what the model keeps -/
theorem mt_parts_eq {m : Nat} {t : Nat} {b : Nat → Nat} (hC : mt_C i m) (hL : mt_L i m) (hP : mt_P i l) (ht : (t : Int) < (i 205 29).toInt) (hb : ∀ v : Nat, (v : Int) < (i 205 30).toInt → b v < mt_Sg i v) :
    mt_pr (i (m + 1) t).toInt64 (fun v => i (m + 5 + 6 * v + 1) (3 * t + b v)) (i 205 30).toInt.toNat = l 224 (3 * mt_row (mt_Sg i) b (i 205 30).toInt.toNat + t) := by
  have hT := hL.2.1
  have h7 := hC.2.1
  rw [hP b t hb ht, hL.2.2.1 t (by omega), if_pos ht]
  refine mt_pr_eq _ (fun v hv => ?_)
  have hbv := hb v (by omega)
  unfold mt_Sg at hbv
  rw [hL.2.2.2 v (b v) t (by omega) (by omega) (by omega), if_pos ht]
end TPM
