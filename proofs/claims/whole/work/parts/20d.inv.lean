/-! THE INVARIANT'S FRAME: the tape, the references that change, and a rest R that reads no place of la_ws (tape, thrown, all that a call writes anew before it reads it) -/
def la_ws (k j : Nat) : Bool := (k == 4 && j == 1) || k == 5 || k == 206 || (k == 205 && (j == 0 || j == 2 || j == 3 || j == 4 || j == 5 || j == 6 || j == 7 || j == 9 || j == 10 || j == 27 || j == 28 || j == 50 || j == 69)) || (k == 225 && 21 ≤ j) ||
  [226, 227, 228, 231, 232, 233, 234, 235, 236, 237, 241, 242, 243, 244, 246, 249, 55, 56, 105, 106, 155, 156, 158, 159, 161, 162, 163, 164, 165, 166, 167, 168, 170, 171, 172, 173, 176, 177, 178, 181, 182, 183, 185, 186, 187, 188, 189, 190, 192, 193, 194, 196, 197, 199, 200, 201, 202, 203, 204].contains k ||
  (k == 157 && 2 ≤ j) || (k == 160 && j == 0) || (k == 169 && (j == 1 || j == 12)) || (k == 191 && j == 8) || (k == 195 && 1 ≤ j)
def la_mask (σ : ab_S) : ab_S := (fun k j => if la_ws k j then 0 else σ.1 k j, fun k j => if la_ws k j then 0 else σ.2.1 k j, fun k j => if la_ws k j then .null else σ.2.2.1 k j, 0)
def la_byte (n : Int32) : Prop := 0 ≤ n.toInt ∧ n.toInt ≤ 255
def la_teq (q p : (Nat → Int32) × Int32) : Prop := tp_ok q.2 0 ∧ p.2 = q.2 ∧ ∀ j, j < 740 → p.1 j = q.1 j ∧ la_byte (q.1 j)
def la_It (σ : ab_S) : Prop := la_teq (σ.1 5, σ.1 4 1) (σ.1 206, σ.1 205 2)
def la_Iv (dd : Nat → Nat → Value) : Prop := (∃ m, dd 3 11 = .ref m ∧ ab_isM m) ∧ (∃ m, dd 157 2 = .ref m ∧ ab_isM m) ∧ (∃ m, dd 160 0 = .ref m ∧ ab_isM m) ∧ (∃ m, dd 169 1 = .ref m ∧ ab_isM m) ∧ (∃ m, dd 179 0 = .ref m ∧ ab_isM m) ∧ (∃ m, dd 185 0 = .ref m ∧ ab_isM m)
def la_I (R : ab_S → Prop) (σ : ab_S) : Prop := la_It σ ∧ la_Iv σ.2.2.1 ∧ R (la_mask σ)
theorem la_mask_i {i i2 : Nat → Nat → Int32} {l : Nat → Nat → Int64} {dd : Nat → Nat → Value} {x x2 : Nat} (h : ∀ k j, la_ws k j = false → i2 k j = i k j) : la_mask (i2, l, dd, x2) = la_mask (i, l, dd, x) := by
  unfold la_mask
  congr 1
  funext k j
  cases e : la_ws k j with
  | true => rfl
  | false => simp [e, h k j e]
theorem la_ui_ws {i : Nat → Nat → Int32} {k j : Nat} {v : Int32} (h : la_ws k j = true) : ∀ a b, la_ws a b = false → ab_u i k j v a b = i a b := by
  intro a b hab
  unfold ab_u
  rw [if_neg]
  rintro ⟨rfl, rfl⟩
  rw [h] at hab
  cases hab
theorem tp_i_ws {kb kl jl : Nat} {i : Nat → Nat → Int32} {q : (Nat → Int32) × Int32} (h1 : ∀ j, la_ws kb j = true) (h2 : la_ws kl jl = true) : ∀ a b, la_ws a b = false → tp_i kb kl jl i q a b = i a b := by
  intro a b hab
  unfold tp_i
  rw [la_ui_ws h2 a b hab]
  unfold tp_set
  rw [if_neg]
  rintro rfl
  rw [h1 b] at hab
  cases hab
theorem ws5 (j : Nat) : la_ws 5 j = true := by simp [la_ws]
theorem ws206 (j : Nat) : la_ws 206 j = true := by simp [la_ws]
theorem tp_byte (x : Int32) : la_byte (x &&& 255) := by
  have h : (x &&& 255).toBitVec.toNat ≤ 255 := by
    rw [Int32.toBitVec_and, BitVec.toNat_and]
    exact Nat.and_le_right
  have e : (x &&& 255).toInt = ((x &&& 255).toBitVec.toNat : Int) := by
    show (x &&& 255).toBitVec.toInt = _
    rw [BitVec.toInt_eq_toNat_of_lt (by omega)]
  unfold la_byte
  omega
theorem tp_beq {q p : (Nat → Int32) × Int32} {a s : Int32} (h : la_teq q p) (hk : tp_ok q.2 1) : la_teq (tp_b q a s) (tp_b p a s) := by
  obtain ⟨h1, h2, h3⟩ := h
  refine ⟨tp_ok1 (k := 0) hk (by omega), by unfold tp_b; rw [h2], fun j hj => ?_⟩
  unfold tp_b ab_v
  dsimp only
  rw [h2]
  by_cases e : j = q.2.toNatClampNeg
  · rw [if_pos e, if_pos e]
    exact ⟨rfl, tp_byte _⟩
  · rw [if_neg e, if_neg e]
    exact h3 j hj
theorem tp_4eq {q p : (Nat → Int32) × Int32} {a : Int32} {k : Int} (h : la_teq q p) (hk : tp_ok q.2 (k + 4)) (h0 : 0 ≤ k) : la_teq (tp_4 q a) (tp_4 p a) := by
  have w : ∀ {n : Int32} {m : Int}, tp_ok n m → 1 ≤ m → tp_ok n 1 := fun h hk => ⟨h.1, by have := h.2; omega⟩
  have h1 : tp_ok (tp_b q a 24).2 (k + 3) := tp_ok2 hk (by omega) (by omega)
  have h2 : tp_ok (tp_b (tp_b q a 24) a 16).2 (k + 2) := tp_ok2 h1 (by omega) (by omega)
  have h3 : tp_ok (tp_b (tp_b (tp_b q a 24) a 16) a 8).2 (k + 1) := tp_ok2 h2 (by omega) (by omega)
  exact tp_beq (tp_beq (tp_beq (tp_beq h (w hk (by omega))) (w h1 (by omega))) (w h2 (by omega))) (w h3 (by omega))
theorem tp_feq {q p : (Nat → Int32) × Int32} {a b c d e : Int32} (h : la_teq q p) : (tp_feed p a b c d e).1 = (tp_feed q a b c d e).1 ∧ la_teq (tp_feed q a b c d e).2 (tp_feed p a b c d e).2 := by
  have h2 := h.2.1
  by_cases c1 : q.2 ≤ 720
  · have k0 : tp_ok q.2 20 := by
      have c2 := c1
      rw [Int32.le_iff_toInt_le, show (720 : Int32).toInt = 720 from rfl] at c2
      exact ⟨h.1.1, by omega⟩
    have e1 := tp_4eq (a := a) (k := 16) h k0 (by omega)
    have k1 := tp_le (a := a) (k := 16) k0 (by omega)
    have e2 := tp_4eq (a := b) (k := 12) e1 k1 (by omega)
    have k2 := tp_le (a := b) (k := 12) k1 (by omega)
    have e3 := tp_4eq (a := c) (k := 8) e2 k2 (by omega)
    have k3 := tp_le (a := c) (k := 8) k2 (by omega)
    have e4 := tp_4eq (a := d) (k := 4) e3 k3 (by omega)
    have k4 := tp_le (a := d) (k := 4) k3 (by omega)
    have e5 := tp_4eq (a := e) (k := 0) e4 k4 (by omega)
    unfold tp_feed
    rw [if_pos c1, if_pos (by rw [h2]; exact c1)]
    exact ⟨e5.2.1, e5⟩
  · unfold tp_feed
    rw [if_neg c1, if_neg (by rw [h2]; exact c1)]
    exact ⟨rfl, h⟩
section TPC
variable {sc : Nat × (Nat → Int32)} {R : ab_S → Prop}
theorem tp_u0 {i : Nat → Nat → Int32} {v : Int32} : ab_u i 205 0 v 205 2 = i 205 2 := by unfold ab_u; exact if_neg (by omega)
/-- thrown written: the invariant stays -/
theorem la_thr {i : Nat → Nat → Int32} {l : Nat → Nat → Int64} {dd : Nat → Nat → Value} {x x2 : Nat} {v : Int32} (h : la_I R (i, l, dd, x)) : la_I R (ab_u i 205 0 v, l, dd, x2) := by
  refine ⟨?_, h.2.1, ?_⟩
  · unfold la_It
    dsimp only
    rw [tp_u0, ab_u_ne (by omega), ab_u_ne (by omega), ab_u_ne (by omega)]
    exact h.1
  · rw [la_mask_i (x := x) (la_ui_ws rfl)]
    exact h.2.2
theorem tp_in5 {kb kl jl : Nat} {i : Nat → Nat → Int32} {q : (Nat → Int32) × Int32} (h : kb ≠ kl) : tp_i kb kl jl i q kb = q.1 := by
  unfold tp_i
  rw [ab_u_ne h]
  unfold tp_set
  exact if_pos rfl
theorem tp_out {kb kl jl a b : Nat} {i : Nat → Nat → Int32} {q : (Nat → Int32) × Int32} (h1 : a ≠ kb) (h2 : ¬ (a = kl ∧ b = jl)) : tp_i kb kl jl i q a b = i a b := by
  unfold tp_i ab_u
  rw [if_neg h2]
  unfold tp_set
  rw [if_neg h1]
theorem op_feed : la_c0 1310 sc (la_I R) := by
  rintro ⟨i, l, dd, x⟩ a1 a2 a3 a4 a5 hI
  obtain ⟨ht, hv, hR⟩ := hI
  have hok : tp_ok (i 4 1) 0 := ht.1
  refine ⟨_, _, tp_feed11 (d := 1308) hok, ?_⟩
  rintro _ rfl
  have f := tp_feq (a := a1) (b := a2) (c := a3) (d := a4) (e := a5) ht
  have g1 : tp_i 5 4 1 i (tp_feed (i 5, i 4 1) a1 a2 a3 a4 a5).2 205 2 = i 205 2 := tp_out (by decide) (by omega)
  have g2 : tp_i 5 4 1 i (tp_feed (i 5, i 4 1) a1 a2 a3 a4 a5).2 206 = i 206 := by
    funext b
    exact tp_out (by decide) (by omega)
  have hok2 : tp_ok (i 205 2) 0 := by
    have := ht.2.1
    dsimp only at this
    rw [this]
    exact hok
  have s2 := tp_feed12 (d := 1309) (sc := sc) (i := tp_i 5 4 1 i (tp_feed (i 5, i 4 1) a1 a2 a3 a4 a5).2) (l := l) (dd := dd) (x := x) (a := a1) (b := a2) (c := a3) (e := a4) (f := a5) (by rw [g1]; exact hok2)
  rw [g1, g2] at s2
  have e1 : (tp_feed (i 206, i 205 2) a1 a2 a3 a4 a5).1 = (tp_feed (i 5, i 4 1) a1 a2 a3 a4 a5).1 := f.1
  rw [e1] at s2
  refine ab_call_mono s2 ?_
  rintro v σ2 E2 ⟨rfl, rfl, rfl⟩
  refine ⟨rfl, rfl, ?_, hv, ?_⟩
  · unfold la_It
    dsimp only
    rw [tp_in5 (by decide), tp_len]
    rw [show tp_i 206 205 2 (ab_u (tp_i 5 4 1 i (tp_feed (i 5, i 4 1) a1 a2 a3 a4 a5).2) 205 0 0) (tp_feed (i 206, i 205 2) a1 a2 a3 a4 a5).2 5 = (tp_feed (i 5, i 4 1) a1 a2 a3 a4 a5).2.1 from by
      funext b
      rw [tp_out (by decide) (by omega), ab_u_ne (by omega), tp_in5 (by decide)]]
    rw [show tp_i 206 205 2 (ab_u (tp_i 5 4 1 i (tp_feed (i 5, i 4 1) a1 a2 a3 a4 a5).2) 205 0 0) (tp_feed (i 206, i 205 2) a1 a2 a3 a4 a5).2 4 1 = (tp_feed (i 5, i 4 1) a1 a2 a3 a4 a5).2.2 from by
      rw [tp_out (by decide) (by omega), ab_u_ne (by omega), tp_len]]
    exact f.2
  · rw [la_mask_i (i := i) (x := x) (fun k j h => by rw [tp_i_ws ws206 rfl k j h, la_ui_ws rfl k j h, tp_i_ws ws5 rfl k j h])]
    exact hR
theorem op_end : la_c1 1310 sc (la_I R) := by
  rintro ⟨i, l, dd, x⟩ a1 hI
  obtain ⟨ht, hv, hR⟩ := hI
  refine ⟨_, _, tp_end11 (d := 1309), ?_⟩
  rintro _ rfl
  have g1 : ab_u i 4 1 (tp_end (i 4 1) a1).2 205 2 = i 205 2 := by unfold ab_u; exact if_neg (by omega)
  have g2 : i 205 2 = i 4 1 := ht.2.1
  have s2 := tp_end12 (d := 1310) (sc := sc) (i := ab_u i 4 1 (tp_end (i 4 1) a1).2) (l := l) (dd := dd) (x := x) (a := a1)
  rw [g1, g2] at s2
  refine ab_call_mono s2 ?_
  rintro v σ2 E2 ⟨rfl, rfl, rfl⟩
  have hok : tp_ok (tp_end (i 4 1) a1).2 0 := by
    have h0 : tp_ok (i 4 1) 0 := ht.1
    unfold tp_end
    split
    · rename_i h
      rw [Int32.lt_iff_toInt_lt, show (0 : Int32).toInt = 0 from rfl, Int32.le_iff_toInt_le] at h
      have h8 := h0.2
      exact ⟨show 0 ≤ a1.toInt by omega, show a1.toInt + 0 ≤ 740 by omega⟩
    · exact h0
  refine ⟨rfl, rfl, ?_, hv, ?_⟩
  · unfold la_It
    dsimp only
    rw [ab_u_ne (k := 205) (a := 5) (by omega), ab_u_ne (k := 205) (a := 5) (by omega), ab_u_ne (k := 4) (a := 5) (by omega), ab_u_ne (k := 205) (a := 206) (by omega), ab_u_ne (k := 205) (a := 206) (by omega), ab_u_ne (k := 4) (a := 206) (by omega), ab_u_ne (k := 205) (a := 4) (by omega), ab_u_ne (k := 205) (a := 4) (by omega)]
    refine ⟨?_, ?_, ht.2.2⟩
    · dsimp only
      rw [show ab_u i 4 1 (tp_end (i 4 1) a1).2 4 1 = (tp_end (i 4 1) a1).2 from if_pos ⟨rfl, rfl⟩]
      exact hok
    · dsimp only
      rw [show ab_u i 4 1 (tp_end (i 4 1) a1).2 4 1 = (tp_end (i 4 1) a1).2 from if_pos ⟨rfl, rfl⟩]
      exact if_pos ⟨rfl, rfl⟩
  · rw [la_mask_i (i := i) (x := x) (fun k j h => by rw [la_ui_ws rfl k j h, la_ui_ws rfl k j h, la_ui_ws rfl k j h])]
    exact hR
end TPC
