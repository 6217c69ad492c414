/-! sums over cases: what the class's tables hold; the frame of calls that keep all -/
def cs_w (A : mA_) (vt : Nat → Nat → Nat) (lam : Nat → Nat → Nat → Nat) (t u : Nat) : Nat := pu_n (aS_ A) (aV_ A) (fun b => if mt_db A (fun v => vt v (b v)) = u then pu_p (aC_ A t) (fun v => lam v (b v) t) (aV_ A) else 0)
def cs_cm (A : mA_) (vt : Nat → Nat → Nat) (t u : Nat) : Nat := cs_w A vt (aL_ A) t u
def cs_lost (A : mA_) (vt : Nat → Nat → Nat) : Nat := pu_n (aS_ A) (aV_ A) (fun b => pu_s (fun t => mt_pa A b t * aK_ A 7 t (mt_db A (fun v => vt v (b v)))) (aT_ A))
def cs_right (A : mA_) (vt : Nat → Nat → Nat) : Nat := pu_n (aS_ A) (aV_ A) (fun b => mt_pa A b (mt_db A (fun v => vt v (b v))))
theorem pu_s3 {f : Nat → Nat} {T : Nat} (hT : T ≤ 3) (h : ∀ t, T ≤ t → f t = 0) : pu_s f 3 = pu_s f T := by
  have e : pu_s f (T + (3 - T)) = pu_s f T := by
    rw [pu_sp, pu_sz (n := 3 - T) (f := fun k => f (T + k)) (fun k _ => h _ (by omega)), Nat.add_zero]
  rw [show T + (3 - T) = 3 by omega] at e
  exact e
theorem gr_sum {A : mA_} {cv : Nat → mC_} {vt : Nat → Nat → Nat} {lam : Nat → Nat → Nat → Nat} {t u : Nat} (hW : mt_W A) (hr : t < aT_ A → gr_r (aS_ A) (aV_ A) cv t vt (fun v s => lam v s t)) : rw_sum A cv (rw_db A cv) t u = cs_w A vt lam t u := by
  by_cases ht : t < aT_ A
  · have h := gr_eq (z := aC_ A t) (aV_ A) (fun p => if mt_db A p = u then 1 else 0) (fun p q hpq => by rw [mt_db_c hW hpq]) (hr ht)
    unfold rw_sum cs_w
    rw [pu_nc (H := fun c => (if mt_db A (rw_b cv c) = u then 1 else 0) * pu_p (aC_ A t) (fun v => (cv v).2.2 (c v) t) (aV_ A)) (fun c _ => by
      unfold rw_db rw_p
      by_cases e : mt_db A (rw_b cv c) = u
      · rw [if_pos e, if_pos e, Nat.one_mul]
      · rw [if_neg e, if_neg e, Nat.zero_mul]), h]
    refine pu_nc (fun b _ => ?_)
    by_cases e : mt_db A (fun v => vt v (b v)) = u
    · rw [if_pos e, if_pos e, Nat.one_mul]
    · rw [if_neg e, if_neg e, Nat.zero_mul]
  · have h0 := (hW.2.2.2.2.1 t).2 (by omega)
    unfold rw_sum cs_w rw_p
    rw [h0, pu_nz (fun b _ => by rw [pu_p0]; split <;> rfl), pu_nz (fun b _ => by rw [pu_p0]; split <;> rfl)]
theorem cs_db_lt {A : mA_} {p : Nat → Nat} (hW : mt_W A) (hp : 0 < aV_ A) : mt_db A p < aT_ A := mt_dt_lt hW hp
theorem mt_pa0 {A : mA_} {b : Nat → Nat} {t : Nat} (hW : mt_W A) (ht : aT_ A ≤ t) : mt_pa A b t = 0 := by
  unfold mt_pa
  rw [(hW.2.2.2.2.1 t).2 ht, pu_p0]
theorem cs_tb {A : mA_} {vt : Nat → Nat → Nat} (hW : mt_W A) (hp : 0 < aV_ A) : mt_tb (cs_cm A vt) (aK_ A 7) = cs_lost A vt := by
  have w1 := hW.1
  rw [mt_tb_s]
  unfold cs_lost
  rw [pu_ns, pu_s3 w1 (fun t ht => pu_sz (fun u _ => by
    unfold cs_cm cs_w
    rw [(hW.2.2.2.2.1 t).2 ht, pu_nz (fun b _ => by rw [pu_p0]; split <;> rfl), Nat.zero_mul]))]
  refine pu_sc (fun t _ => ?_)
  unfold cs_cm cs_w
  rw [pu_sc (g := fun u => pu_n (aS_ A) (aV_ A) (fun b => if u = mt_db A (fun v => vt v (b v)) then mt_pa A b t * aK_ A 7 t u else 0)) (fun u _ => by
    rw [← pu_nr]
    refine pu_nc (fun b _ => ?_)
    by_cases e : mt_db A (fun v => vt v (b v)) = u
    · rw [if_pos e, if_pos e.symm]
      rfl
    · rw [if_neg e, if_neg (fun q => e q.symm), Nat.zero_mul]), ← pu_ns]
  refine pu_nc (fun b _ => ?_)
  rw [pu_s1 (f := fun u => mt_pa A b t * aK_ A 7 t u), if_pos (by have := cs_db_lt (p := fun v => vt v (b v)) hW hp; omega)]
theorem cs_rt {A : mA_} {vt : Nat → Nat → Nat} (hW : mt_W A) (hp : 0 < aV_ A) : cs_cm A vt 0 0 + cs_cm A vt 1 1 + cs_cm A vt 2 2 = cs_right A vt := by
  unfold cs_right cs_cm cs_w
  rw [← pu_na, ← pu_na]
  refine pu_nc (fun b _ => ?_)
  have h := cs_db_lt (p := fun v => vt v (b v)) hW hp
  have w1 := hW.1
  show (if _ then mt_pa A b 0 else 0) + (if _ then mt_pa A b 1 else 0) + (if _ then mt_pa A b 2 else 0) = _
  generalize mt_db A (fun v => vt v (b v)) = e at h
  rcases (show e = 0 ∨ e = 1 ∨ e = 2 by omega) with rfl | rfl | rfl <;> simp
/-- the sum over rows of the model -/
theorem cs_rows {A : mA_} {G : (Nat → Nat) → Nat} (hW : mt_W A) : pu_s (fun r => G (pu_g (aS_ A) (aV_ A) r)) (mt_rad (aS_ A) (aV_ A)) = pu_n (aS_ A) (aV_ A) G :=
  pu_gn (fun v hv => by have := (hW.2.2.2.2.2.2.1 v hv).1; omega)
section TQN
variable {R : ab_S → Prop} {i : Nat → Nat → Int32} {l : Nat → Nat → Int64} {dd : Nat → Nat → Value} {x : Nat}
/-- ints that stay: all that is kept, and both tapes -/
def kp_i (i i2 : Nat → Nat → Int32) : Prop := (∀ k j, la_ws k j = false → i2 k j = i k j) ∧ i2 5 = i 5 ∧ i2 206 = i 206 ∧ i2 4 1 = i 4 1 ∧ i2 205 2 = i 205 2
def kp_l (l l2 : Nat → Nat → Int64) : Prop := ∀ k j, la_ws k j = false → l2 k j = l k j
def kp_d (dd d2 : Nat → Nat → Value) : Prop := (∀ k j, la_ws k j = false → d2 k j = dd k j) ∧ (la_Iv dd → la_Iv d2)
theorem kp_it {i2 i3 : Nat → Nat → Int32} (h1 : kp_i i i2) (h2 : kp_i i2 i3) : kp_i i i3 := ⟨fun k j h => (h2.1 k j h).trans (h1.1 k j h), h2.2.1.trans h1.2.1, h2.2.2.1.trans h1.2.2.1, h2.2.2.2.1.trans h1.2.2.2.1, h2.2.2.2.2.trans h1.2.2.2.2⟩
theorem kp_ir : kp_i i i := ⟨fun _ _ _ => rfl, rfl, rfl, rfl, rfl⟩
theorem kp_lt {l2 l3 : Nat → Nat → Int64} (h1 : kp_l l l2) (h2 : kp_l l2 l3) : kp_l l l3 := fun k j h => (h2 k j h).trans (h1 k j h)
theorem kp_lr : kp_l l l := fun _ _ _ => rfl
theorem kp_dr : kp_d dd dd := ⟨fun _ _ _ => rfl, id⟩
theorem kp_dt {d2 d3 : Nat → Nat → Value} (h1 : kp_d dd d2) (h2 : kp_d d2 d3) : kp_d dd d3 := ⟨fun k j h => (h2.1 k j h).trans (h1.1 k j h), fun h => h2.2 (h1.2 h)⟩
theorem kp_I {i2 : Nat → Nat → Int32} {l2 : Nat → Nat → Int64} {d2 : Nat → Nat → Value} {x2 : Nat} (hI : la_I R (i, l, dd, x)) (h1 : kp_i i i2) (h2 : kp_l l l2) (h3 : kp_d dd d2) : la_I R (i2, l2, d2, x2) := by
  obtain ⟨ht, hv, hR⟩ := hI
  obtain ⟨g0, g5, g6, g4, g2⟩ := h1
  refine ⟨?_, h3.2 hv, ?_⟩
  · unfold la_It
    dsimp only
    rw [g5, g6, g4, g2]
    exact ht
  · have e : la_mask (i2, l2, d2, x2) = la_mask (i, l, dd, x) := by
      unfold la_mask
      congr 1
      · funext k j
        cases e : la_ws k j with
        | true => rfl
        | false => simp [e, g0 k j e]
      · congr 1
        · funext k j
          cases e : la_ws k j with
          | true => rfl
          | false => simp [e, h2 k j e]
        · congr 1
          funext k j
          cases e : la_ws k j with
          | true => rfl
          | false => simp [e, h3.1 k j e]
    rw [e]
    exact hR
/-- cells that are scratch whole -/
def kp_s (k : Nat) : Bool := [226, 227, 228, 231, 232, 233, 234, 235, 236, 237, 241, 242, 243, 244, 246, 249, 55, 56, 105, 106, 155, 156, 158, 159, 161, 162, 163, 164, 165, 166, 167, 168, 170, 171, 172, 173, 176, 177, 178, 181, 182, 183, 186, 187, 188, 189, 190, 192, 193, 194, 196, 197, 200, 201, 203, 204].contains k
theorem kp_s2 : ([226, 227, 228, 231, 232, 233, 234, 235, 236, 237, 241, 242, 243, 244, 246, 249, 55, 56, 105, 106, 155, 156, 158, 159, 161, 162, 163, 164, 165, 166, 167, 168, 170, 171, 172, 173, 176, 177, 178, 181, 182, 183, 186, 187, 188, 189, 190, 192, 193, 194, 196, 197, 200, 201, 203, 204] : List Nat).all (fun k => ([226, 227, 228, 231, 232, 233, 234, 235, 236, 237, 241, 242, 243, 244, 246, 249, 55, 56, 105, 106, 155, 156, 158, 159, 161, 162, 163, 164, 165, 166, 167, 168, 170, 171, 172, 173, 176, 177, 178, 181, 182, 183, 185, 186, 187, 188, 189, 190, 192, 193, 194, 196, 197, 199, 200, 201, 202, 203, 204] : List Nat).contains k) = true := by decide +kernel
theorem kp_s1 (k : Nat) (h : kp_s k = true) : ([226, 227, 228, 231, 232, 233, 234, 235, 236, 237, 241, 242, 243, 244, 246, 249, 55, 56, 105, 106, 155, 156, 158, 159, 161, 162, 163, 164, 165, 166, 167, 168, 170, 171, 172, 173, 176, 177, 178, 181, 182, 183, 185, 186, 187, 188, 189, 190, 192, 193, 194, 196, 197, 199, 200, 201, 202, 203, 204] : List Nat).contains k = true := by
  unfold kp_s at h
  rw [List.contains_iff_mem] at h
  exact List.all_eq_true.mp kp_s2 k h
theorem kp_sw {k j : Nat} (h : kp_s k = true) : la_ws k j = true := by
  unfold la_ws
  have h2 : ([226, 227, 228, 231, 232, 233, 234, 235, 236, 237, 241, 242, 243, 244, 246, 249, 55, 56, 105, 106, 155, 156, 158, 159, 161, 162, 163, 164, 165, 166, 167, 168, 170, 171, 172, 173, 176, 177, 178, 181, 182, 183, 185, 186, 187, 188, 189, 190, 192, 193, 194, 196, 197, 199, 200, 201, 202, 203, 204] : List Nat).contains k = true := by
    exact kp_s1 k h
  rw [h2]
  simp
theorem kp_sn {k : Nat} (h : kp_s k = true) : k ≠ 5 ∧ k ≠ 206 ∧ k ≠ 4 ∧ k ≠ 205 := by
  refine ⟨?_, ?_, ?_, ?_⟩ <;> (rintro rfl; revert h; decide)
theorem kp_ic {i2 : Nat → Nat → Int32} (h : ∀ k, kp_s k = false → i2 k = i k) : kp_i i i2 := by
  refine ⟨fun k j hk => ?_, h 5 rfl, h 206 rfl, by rw [h 4 rfl], by rw [h 205 rfl]⟩
  rw [h k]
  cases e : kp_s k with
  | true => rw [kp_sw e] at hk; cases hk
  | false => rfl
theorem kp_lc {l2 : Nat → Nat → Int64} (h : ∀ k, kp_s k = false → l2 k = l k) : kp_l l l2 := fun k j hk => by
  rw [h k]
  cases e : kp_s k with
  | true => rw [kp_sw e] at hk; cases hk
  | false => rfl
theorem kp_ne {k : Nat} (h : kp_s k = false) : ∀ q, kp_s q = true → k ≠ q := fun q hq z => by
  rw [z, hq] at h
  cases h
theorem kp_fo {lo hi : Nat} {i2 : Nat → Nat → Int32} (h : fr_o lo hi i i2) (hc : ∀ k, lo ≤ k → k ≤ hi → kp_s k = true) : kp_i i i2 := kp_ic (fun k hk => h k (by
  rcases Nat.lt_or_ge k lo with c | c
  · exact Or.inl c
  · rcases Nat.lt_or_ge hi k with c2 | c2
    · exact Or.inr c2
    · rw [hc k c c2] at hk
      cases hk))
theorem kp_c14 : ∀ k, 161 ≤ k → k ≤ 164 → kp_s k = true := fun k h1 h2 => by
  rcases (show k = 161 ∨ k = 162 ∨ k = 163 ∨ k = 164 by omega) with rfl | rfl | rfl | rfl <;> rfl
theorem kp_c67 : ∀ k, 226 ≤ k → k ≤ 227 → kp_s k = true := fun k h1 h2 => by
  rcases (show k = 226 ∨ k = 227 by omega) with rfl | rfl <;> rfl
theorem kp_g {i2 : Nat → Nat → Int32} (h : rw_g i i2) : kp_i i i2 := kp_ic (fun k hk => h k (kp_ne hk 162 rfl) (kp_ne hk 166 rfl) (kp_ne hk 167 rfl) (kp_ne hk 168 rfl))
theorem kp_h {a : Nat} {l2 : Nat → Nat → Int64} (h : rw_h a l l2) (ha : kp_s a = true) : kp_l l l2 := kp_lc (fun k hk => h k (kp_ne hk 165 rfl) (kp_ne hk a ha))
theorem kp_0 {v : Int32} : kp_i i (ab_u i 205 0 v) := by
  refine ⟨fun k j hk => la_ui_ws rfl k j hk, uu_f (by decide), uu_f (by decide), by rw [uu_f (by decide)], uu_j (by decide)⟩
theorem kp_160 {m : Nat} (hm : ab_isM m) : kp_d dd (ab_u dd 160 0 (.ref m)) := by
  refine ⟨fun k j hk => ?_, fun ⟨a, b, c, e, f, g⟩ => ⟨?_, ?_, ⟨m, uu_e, hm⟩, ?_, ?_, ?_⟩⟩
  · unfold ab_u
    rw [if_neg]
    rintro ⟨rfl, rfl⟩
    cases hk
  · rw [uu_k (by decide)]
    exact a
  · rw [uu_k (by decide)]
    exact b
  · rw [uu_k (by decide)]
    exact e
  · rw [uu_k (by decide)]
    exact f
  · rw [uu_k (by decide)]
    exact g
end TQN
