/-! THE MATTER as a picture: naturals alone -/
abbrev mA_ : Type := (Nat × Nat) × (Nat → Nat) × (Nat → Nat) × (Nat → Nat → Nat → Nat) × (Nat → Nat → Nat → Nat) × (Nat → Nat → Nat) × (Nat → Nat) × (Nat × Nat × Nat × Nat)
/-- truths, voters, signs, chance, like v s t, cost w t d (7 common), vote v s, weight, need, for, else, chair (7 none) -/
def aT_ (A : mA_) : Nat := A.1.1
def aV_ (A : mA_) : Nat := A.1.2
def aS_ (A : mA_) : Nat → Nat := A.2.1
def aC_ (A : mA_) : Nat → Nat := A.2.2.1
def aL_ (A : mA_) : Nat → Nat → Nat → Nat := A.2.2.2.1
def aK_ (A : mA_) : Nat → Nat → Nat → Nat := A.2.2.2.2.1
def aO_ (A : mA_) : Nat → Nat → Nat := A.2.2.2.2.2.1
def aW_ (A : mA_) : Nat → Nat := A.2.2.2.2.2.2.1
def aN_ (A : mA_) : Nat := A.2.2.2.2.2.2.2.1
def aF_ (A : mA_) : Nat := A.2.2.2.2.2.2.2.2.1
def aE_ (A : mA_) : Nat := A.2.2.2.2.2.2.2.2.2.1
def aH_ (A : mA_) : Nat := A.2.2.2.2.2.2.2.2.2.2
/-- a table of votes: a truth or 9 -/
def mt_vt (A : mA_) (vt : Nat → Nat → Nat) : Prop := ∀ v s, v < aV_ A → s < aS_ A v → vt v s < aT_ A ∨ vt v s = 9
/-- what every matter read keeps -/
def mt_W (A : mA_) : Prop := aT_ A ≤ 3 ∧ aV_ A ≤ 7 ∧ (aV_ A = 0 → aT_ A = 0) ∧ (0 < aV_ A → 2 ≤ aT_ A) ∧
  (∀ t, aC_ A t ≤ 20 ∧ (aT_ A ≤ t → aC_ A t = 0)) ∧ (0 < aV_ A → aC_ A 0 + aC_ A 1 + aC_ A 2 = 20) ∧
  (∀ v, v < aV_ A → 2 ≤ aS_ A v ∧ aS_ A v ≤ 3) ∧ (∀ v s t, aL_ A v s t ≤ 20 ∧ (aS_ A v ≤ s → aL_ A v s t = 0) ∧ (aT_ A ≤ t → aL_ A v s t = 0)) ∧
  (∀ v t, v < aV_ A → t < aT_ A → aL_ A v 0 t + aL_ A v 1 t + aL_ A v 2 t = 20) ∧ (∀ w t d, aK_ A w t d ≤ 50) ∧ mt_vt A (aO_ A) ∧ (∀ v, aW_ A v ≤ 9) ∧
  aN_ A ≤ 81 ∧ (0 < aN_ A → aF_ A < aT_ A ∧ aE_ A < aT_ A) ∧ (aH_ A < aV_ A ∨ aH_ A = 7)
/-- a chair as an int -/
def mt_h (h : Nat) : Int32 := if h = 7 then -1 else Int32.ofNat h
/-- the class's cell m holds it -/
def mt_K (A : mA_) (m : Nat) (i : Nat → Nat → Int32) : Prop := (i m 0 = Int32.ofNat (aT_ A) ∧ i m 1 = Int32.ofNat (aV_ A)) ∧ (i m 2 = Int32.ofNat (aN_ A) ∧ (0 < aN_ A → i m 3 = Int32.ofNat (aF_ A) ∧ i m 4 = Int32.ofNat (aE_ A)) ∧ i m 5 = mt_h (aH_ A)) ∧
  (∀ t, t < 3 → i (m + 1) t = Int32.ofNat (aC_ A t)) ∧ (∀ t d, t < 3 → d < 3 → i (m + 3) (3 * t + d) = Int32.ofNat (aK_ A 7 t d)) ∧
  (∀ v, v < aV_ A → i (m + 5 + 6 * v) 0 = Int32.ofNat (aS_ A v) ∧ i (m + 5 + 6 * v) 1 = Int32.ofNat (aW_ A v)) ∧
  (∀ v s t, v < aV_ A → s < aS_ A v → t < 3 → i (m + 5 + 6 * v + 1) (3 * t + s) = Int32.ofNat (aL_ A v s t)) ∧
  (∀ v t d, v < aV_ A → t < 3 → d < 3 → i (m + 5 + 6 * v + 4) (3 * t + d) = Int32.ofNat (aK_ A v t d)) ∧
  ∀ v s, v < aV_ A → s < aS_ A v → i (m + 47) (3 * v + s) = Int32.ofNat (aO_ A v s)
/-- the model's own and common losses, resolved -/
def mt_lo (i : Nat → Nat → Int32) (w t d : Nat) : Int32 := if i 214 (9 * w + 3 * t + d) = -1 then (if i 214 (63 + 3 * t + d) = -1 then (if t = d then 0 else 1) else i 214 (63 + 3 * t + d)) else i 214 (9 * w + 3 * t + d)
def pu_p (c : Nat) (f : Nat → Nat) : Nat → Nat
  | 0 => c
  | k + 1 => pu_p c f k * f k
/-- parts of a case -/
def mt_pa (A : mA_) (b : Nat → Nat) (t : Nat) : Nat := pu_p (aC_ A t) (fun v => aL_ A v (b v) t) (aV_ A)
/-- the model holds it -/
def mt_M (A : mA_) (i : Nat → Nat → Int32) (l : Nat → Nat → Int64) : Prop := (i 205 29 = Int32.ofNat (aT_ A) ∧ i 205 30 = Int32.ofNat (aV_ A) ∧ (0 < aV_ A → i 205 31 = Int32.ofNat (mt_rad (aS_ A) (aV_ A)))) ∧ (i 219 0 = Int32.ofNat (aN_ A) ∧ (0 < aN_ A → i 220 0 = Int32.ofNat (aF_ A) ∧ i 221 0 = Int32.ofNat (aE_ A)) ∧ (0 < aV_ A → i 222 0 = mt_h (aH_ A))) ∧
  (∀ t, t < aT_ A → i 211 t = Int32.ofNat (aC_ A t)) ∧
  (∀ v, v < aV_ A → i 212 v = Int32.ofNat (aS_ A v) ∧ i 218 v = Int32.ofNat (aW_ A v) ∧ i 223 v = Int32.ofNat (mt_rad (aS_ A) v)) ∧
  (∀ v s t, v < aV_ A → s < aS_ A v → t < aT_ A → i 213 (9 * v + 3 * s + t) = Int32.ofNat (aL_ A v s t)) ∧
  (∀ w t d, w < aV_ A ∨ w = 7 → t < aT_ A → d < aT_ A → mt_lo i w t d = Int32.ofNat (aK_ A w t d)) ∧
  (∀ v s, v < aV_ A → s < aS_ A v → i 225 (3 * v + s) = Int32.ofNat (aO_ A v s)) ∧
  ∀ r t, r < mt_rad (aS_ A) (aV_ A) → t < aT_ A → l 224 (3 * r + t) = Int64.ofNat (mt_pa A (pu_g (aS_ A) (aV_ A) r) t)
/-! what is decided -/
/-- weights of the votes for a truth -/
def mt_tl (w bal : Nat → Nat) (t k : Nat) : Nat := pu_s (fun v => if bal v = t then w v else 0) k
/-- the first of the greatest of 0 .. k -/
def mt_am (f : Nat → Nat) : Nat → Nat
  | 0 => 0
  | k + 1 => if f (mt_am f k) < f (k + 1) then k + 1 else mt_am f k
def mt_dt (A : mA_) (f : Nat → Nat) (ch : Nat) : Nat := if 0 < aN_ A then (if aN_ A ≤ f (aF_ A) then aF_ A else aE_ A) else if ch < aT_ A ∧ f ch = f (mt_am f (aT_ A - 1)) then ch else mt_am f (aT_ A - 1)
/-- decided by a ballot -/
def mt_db (A : mA_) (bal : Nat → Nat) : Nat := mt_dt A (fun t => mt_tl (aW_ A) bal t (aV_ A)) (if aH_ A = 7 then 9 else bal (aH_ A))
theorem mt_am_le {f : Nat → Nat} : ∀ k, mt_am f k ≤ k := by
  intro k
  induction k with
  | zero => exact Nat.le_refl 0
  | succ k ih =>
    show (if f (mt_am f k) < f (k + 1) then k + 1 else mt_am f k) ≤ k + 1
    split <;> omega
theorem mt_am_c {f g : Nat → Nat} : ∀ k, (∀ t, t ≤ k → f t = g t) → mt_am f k = mt_am g k := by
  intro k
  induction k with
  | zero => intro _; rfl
  | succ k ih =>
    intro h
    have h1 := ih (fun t ht => h t (by omega))
    have h2 := mt_am_le (f := g) k
    show (if f (mt_am f k) < f (k + 1) then k + 1 else mt_am f k) = (if g (mt_am g k) < g (k + 1) then k + 1 else mt_am g k)
    rw [h1, h (mt_am g k) (by omega), h (k + 1) (by omega)]
theorem mt_tl_c {w b c : Nat → Nat} {t k : Nat} (h : ∀ v, v < k → b v = c v) : mt_tl w b t k = mt_tl w c t k := pu_sc (fun v hv => by rw [h v hv])
theorem mt_dt_c {A : mA_} {f g : Nat → Nat} {ch : Nat} (hW : mt_W A) (hp : 0 < aV_ A) (h : ∀ t, t < aT_ A → f t = g t) : mt_dt A f ch = mt_dt A g ch := by
  have hT := hW.2.2.2.1 hp
  have hN := hW.2.2.2.2.2.2.2.2.2.2.2.2.2.1
  have e := mt_am_c (f := f) (g := g) (aT_ A - 1) (fun t ht => h t (by omega))
  have h2 := mt_am_le (f := g) (aT_ A - 1)
  unfold mt_dt
  rw [e, h (mt_am g (aT_ A - 1)) (by omega)]
  by_cases c : 0 < aN_ A
  · rw [if_pos c, if_pos c, h _ (hN c).1]
  · rw [if_neg c, if_neg c]
    by_cases c2 : ch < aT_ A
    · rw [h ch c2]
    · rw [if_neg (fun q => c2 q.1), if_neg (fun q => c2 q.1)]
theorem mt_db_c {A : mA_} {b c : Nat → Nat} (hW : mt_W A) (h : ∀ v, v < aV_ A → b v = c v) : mt_db A b = mt_db A c := by
  unfold mt_db
  rw [show (fun t => mt_tl (aW_ A) b t (aV_ A)) = fun t => mt_tl (aW_ A) c t (aV_ A) from by
    funext t
    exact mt_tl_c h]
  have hH := hW.2.2.2.2.2.2.2.2.2.2.2.2.2.2
  by_cases e : aH_ A = 7
  · rw [if_pos e, if_pos e]
  · rw [if_neg e, if_neg e, h (aH_ A) (by omega)]
theorem mt_dt_lt {A : mA_} {f : Nat → Nat} {ch : Nat} (hW : mt_W A) (hp : 0 < aV_ A) : mt_dt A f ch < aT_ A := by
  have hT := hW.2.2.2.1 hp
  have hN := hW.2.2.2.2.2.2.2.2.2.2.2.2.2.1
  have h2 := mt_am_le (f := f) (aT_ A - 1)
  unfold mt_dt
  by_cases c : 0 < aN_ A
  · rw [if_pos c]
    split
    · exact (hN c).1
    · exact (hN c).2
  · rw [if_neg c]
    split
    · rename_i h
      exact h.1
    · omega
