/-! BEST ORDER: the orders one after another -/
def bo_t : Nat → List Nat
  | 1 => [0]
  | 2 => [8, 1]
  | 3 => [136, 80, 129, 17, 66, 10]
  | 4 => [1672, 1224, 1616, 720, 1112, 664, 1665, 1217, 1553, 209, 1049, 153, 1602, 706, 1546, 202, 538, 90, 1091, 643, 1035, 139, 531, 83]
  | 5 => [18056, 14472, 17608, 10440, 13576, 9992, 18000, 14416, 17104, 6352, 13072, 5904, 17496, 10328, 17048, 6296, 8984, 5400, 13408, 9824, 12960, 5792, 8928, 5344, 18049, 14465, 17601, 10433, 13569, 9985, 17937, 14353, 16593, 2257, 12561, 1809, 17433, 10265, 16537, 2201, 8473, 1305, 13345, 9761, 12449, 1697, 8417, 1249, 17986, 14402, 17090, 6338, 13058, 5890, 17930, 14346, 16586, 2250, 12554, 1802, 16922, 6170, 16474, 2138, 4378, 794, 12834, 5666, 12386, 1634, 4322, 738, 17475, 10307, 17027, 6275, 8963, 5379, 17419, 10251, 16523, 2187, 8459, 1291, 16915, 6163, 16467, 2131, 4371, 787, 8739, 5155, 8291, 1123, 4259, 675, 13380, 9796, 12932, 5764, 8900, 5316, 13324, 9740, 12428, 1676, 8396, 1228, 12820, 5652, 12372, 1620, 4308, 724, 8732, 5148, 8284, 1116, 4252, 668]
  | _ => []
def bo_f (V : Nat) : Nat := (bo_t V).length
def bo_o (V k : Nat) : Nat → Nat := fun j => (bo_t V).getD k 0 / 8 ^ j % 8
/-- a turn that may be put off: one more than it, 0 if there is none -/
def nx_t (o : Nat → Nat) : Nat → Nat
  | 0 => 0
  | k + 1 => if o k ≤ o (k + 1) then k + 1 else nx_t o k
def nx_j (o : Nat → Nat) (t : Nat) : Nat → Nat
  | 0 => 0
  | j + 1 => if o t ≤ o (j + 1) then j + 1 else nx_j o t j
def sw_ (o : Nat → Nat) (a b : Nat) : Nat → Nat := fun j => if j = b then o a else if j = a then o b else o j
def nx_r : Nat → (Nat → Nat) → Nat → Nat → Nat → Nat
  | 0, o, _, _ => o
  | n + 1, o, a, b => if a < b then nx_r n (sw_ o a b) (a + 1) (b - 1) else o
def nx_o (V : Nat) (o : Nat → Nat) : Nat → Nat := if nx_t o (V - 1) = 0 then o else nx_r V (sw_ o (nx_t o (V - 1) - 1) (nx_j o (nx_t o (V - 1) - 1) (V - 1))) (nx_t o (V - 1)) (V - 1)
theorem bo_1 : ∀ V : Fin 6, 0 < V.val → 0 < bo_f V.val ∧ bo_f V.val ≤ 120 ∧ ∀ j : Fin 5, j.val < V.val → bo_o V.val 0 j.val = j.val := by decide +kernel
theorem bo_2 : ∀ V : Fin 6, 0 < V.val → ∀ k : Fin 120, k.val < bo_f V.val → (∀ j : Fin 5, j.val < V.val → bo_o V.val k.val j.val < V.val) ∧ ∀ j : Fin 5, ∀ u : Fin 5, j.val < V.val → u.val < V.val → bo_o V.val k.val j.val = bo_o V.val k.val u.val → j.val = u.val := by decide +kernel
theorem bo_3 : ∀ V : Fin 6, 0 < V.val → ∀ k : Fin 120, k.val < bo_f V.val → (k.val + 1 < bo_f V.val → ¬ nx_t (bo_o V.val k.val) (V.val - 1) = 0 ∧ ∀ j : Fin 5, j.val < V.val → nx_o V.val (bo_o V.val k.val) j.val = bo_o V.val (k.val + 1) j.val) ∧ (k.val + 1 = bo_f V.val → nx_t (bo_o V.val k.val) (V.val - 1) = 0) := by decide +kernel
