def ab_kd : List (Nat ⊕ (Nat × Nat)) := [.inr (5, 0), .inr (6, 16), .inr (7, 15), .inl 11, .inl 7, .inr (0, 740), .inr (4, 3), .inl 1, .inr (0, 3), .inl 0, .inr (0, 9), .inr (3, 7), .inl 9, .inr (0, 9), .inr (0, 9), .inl 0, .inr (0, 9), .inr (0, 3), .inl 9, .inr (0, 9), .inr (0, 9), .inl 0, .inr (0, 9), .inr (0, 3), .inl 9, .inr (0, 9), .inr (0, 9), .inl 0, .inr (0, 9), .inr (0, 3), .inl 9, .inr (0, 9), .inr (0, 9), .inl 0, .inr (0, 9), .inr (0, 3), .inl 9, .inr (0, 9), .inr (0, 9), .inl 0, .inr (0, 9), .inr (0, 3), .inl 9, .inr (0, 9), .inr (0, 9), .inl 0, .inr (0, 9), .inr (0, 3), .inl 9, .inr (0, 9), .inr (0, 9), .inl 0, .inr (0, 9), .inr (0, 3), .inr (0, 21), .inr (0, 3), .inr (1, 3), .inl 1, .inr (0, 3), .inl 0, .inr (0, 9), .inr (3, 7), .inl 9, .inr (0, 9), .inr (0, 9), .inl 0, .inr (0, 9), .inr (0, 3), .inl 9, .inr (0, 9), .inr (0, 9), .inl 0, .inr (0, 9), .inr (0, 3), .inl 9, .inr (0, 9), .inr (0, 9), .inl 0, .inr (0, 9), .inr (0, 3), .inl 9, .inr (0, 9), .inr (0, 9), .inl 0, .inr (0, 9), .inr (0, 3), .inl 9, .inr (0, 9), .inr (0, 9), .inl 0, .inr (0, 9), .inr (0, 3), .inl 9, .inr (0, 9), .inr (0, 9), .inl 0, .inr (0, 9), .inr (0, 3), .inl 9, .inr (0, 9), .inr (0, 9), .inl 0, .inr (0, 9), .inr (0, 3), .inr (0, 21), .inr (0, 3), .inr (1, 3), .inl 1, .inr (0, 3), .inl 0, .inr (0, 9), .inr (3, 7), .inl 9, .inr (0, 9), .inr (0, 9), .inl 0, .inr (0, 9), .inr (0, 3), .inl 9, .inr (0, 9), .inr (0, 9), .inl 0, .inr (0, 9), .inr (0, 3), .inl 9, .inr (0, 9), .inr (0, 9), .inl 0, .inr (0, 9), .inr (0, 3), .inl 9, .inr (0, 9), .inr (0, 9), .inl 0, .inr (0, 9), .inr (0, 3), .inl 9, .inr (0, 9), .inr (0, 9), .inl 0, .inr (0, 9), .inr (0, 3), .inl 9, .inr (0, 9), .inr (0, 9), .inl 0, .inr (0, 9), .inr (0, 3), .inl 9, .inr (0, 9), .inr (0, 9), .inl 0, .inr (0, 9), .inr (0, 3), .inr (0, 21), .inr (0, 3), .inr (1, 3), .inl 2, .inr (1, 3), .inr (1, 7), .inl 4, .inr (0, 7), .inr (0, 7), .inr (0, 21), .inr (0, 63), .inr (1, 24), .inr (0, 24), .inr (0, 7), .inr (0, 3), .inl 3, .inr (1, 12), .inr (1, 3), .inr (1, 9), .inr (0, 21), .inr (0, 21), .inr (0, 21), .inr (0, 6), .inr (0, 6), .inr (0, 3), .inl 8, .inr (0, 7), .inr (0, 21), .inr (1, 24), .inr (1, 3), .inr (1, 9), .inl 8, .inr (0, 7), .inr (0, 21), .inr (1, 24), .inr (1, 3), .inr (1, 9), .inl 5, .inr (1, 64), .inr (1, 64), .inr (1, 288), .inr (0, 32), .inr (1, 144), .inr (0, 5), .inr (0, 8), .inl 10, .inr (1, 3), .inr (0, 9), .inl 6, .inr (0, 7), .inr (1, 9), .inl 12, .inr (0, 740), .inr (1, 6), .inr (1, 14), .inr (0, 2), .inr (0, 2), .inr (0, 6), .inr (0, 14), .inr (0, 126), .inr (0, 144), .inr (0, 14), .inr (0, 14), .inr (0, 42), .inr (0, 14), .inr (0, 2), .inr (0, 2), .inr (0, 2), .inr (0, 2), .inr (0, 8), .inr (1, 6561), .inr (0, 42), .inr (0, 7), .inr (0, 10), .inr (1, 4), .inr (0, 21), .inr (0, 7), .inr (0, 3), .inr (0, 7), .inr (0, 2187), .inr (0, 21), .inr (0, 45927), .inr (1, 19683), .inr (2, 6561), .inr (0, 7), .inr (0, 45927), .inr (0, 7), .inr (1, 49152), .inr (2, 16384), .inr (1, 768), .inr (0, 7), .inr (0, 8), .inr (0, 9), .inr (0, 21), .inr (0, 7), .inr (1, 1)]
def ab_ff : List (List Value) := [[], [], [], [.ref 4, .ref 6, .ref 157, .ref 160, .ref 169, .ref 179, .ref 185, .ref 191, .ref 199, .ref 202, .ref 204, .null], [.ref 5, .null], [], [.ref 7, .ref 57, .ref 107], [.null, .null, .null, .null, .null, .null, .ref 8, .ref 9, .ref 11, .ref 54, .ref 55, .ref 56], [], [.ref 10], [], [.ref 12, .ref 18, .ref 24, .ref 30, .ref 36, .ref 42, .ref 48], [.null, .null, .null, .null, .ref 13, .ref 14, .ref 15, .ref 17], [], [], [.ref 16], [], [], [.null, .null, .null, .null, .ref 19, .ref 20, .ref 21, .ref 23], [], [], [.ref 22], [], [], [.null, .null, .null, .null, .ref 25, .ref 26, .ref 27, .ref 29], [], [], [.ref 28], [], [], [.null, .null, .null, .null, .ref 31, .ref 32, .ref 33, .ref 35], [], [], [.ref 34], [], [], [.null, .null, .null, .null, .ref 37, .ref 38, .ref 39, .ref 41], [], [], [.ref 40], [], [], [.null, .null, .null, .null, .ref 43, .ref 44, .ref 45, .ref 47], [], [], [.ref 46], [], [], [.null, .null, .null, .null, .ref 49, .ref 50, .ref 51, .ref 53], [], [], [.ref 52], [], [], [], [], [], [.null, .null, .null, .null, .null, .null, .ref 58, .ref 59, .ref 61, .ref 104, .ref 105, .ref 106], [], [.ref 60], [], [.ref 62, .ref 68, .ref 74, .ref 80, .ref 86, .ref 92, .ref 98], [.null, .null, .null, .null, .ref 63, .ref 64, .ref 65, .ref 67], [], [], [.ref 66], [], [], [.null, .null, .null, .null, .ref 69, .ref 70, .ref 71, .ref 73], [], [], [.ref 72], [], [], [.null, .null, .null, .null, .ref 75, .ref 76, .ref 77, .ref 79], [], [], [.ref 78], [], [], [.null, .null, .null, .null, .ref 81, .ref 82, .ref 83, .ref 85], [], [], [.ref 84], [], [], [.null, .null, .null, .null, .ref 87, .ref 88, .ref 89, .ref 91], [], [], [.ref 90], [], [], [.null, .null, .null, .null, .ref 93, .ref 94, .ref 95, .ref 97], [], [], [.ref 96], [], [], [.null, .null, .null, .null, .ref 99, .ref 100, .ref 101, .ref 103], [], [], [.ref 102], [], [], [], [], [], [.null, .null, .null, .null, .null, .null, .ref 108, .ref 109, .ref 111, .ref 154, .ref 155, .ref 156], [], [.ref 110], [], [.ref 112, .ref 118, .ref 124, .ref 130, .ref 136, .ref 142, .ref 148], [.null, .null, .null, .null, .ref 113, .ref 114, .ref 115, .ref 117], [], [], [.ref 116], [], [], [.null, .null, .null, .null, .ref 119, .ref 120, .ref 121, .ref 123], [], [], [.ref 122], [], [], [.null, .null, .null, .null, .ref 125, .ref 126, .ref 127, .ref 129], [], [], [.ref 128], [], [], [.null, .null, .null, .null, .ref 131, .ref 132, .ref 133, .ref 135], [], [], [.ref 134], [], [], [.null, .null, .null, .null, .ref 137, .ref 138, .ref 139, .ref 141], [], [], [.ref 140], [], [], [.null, .null, .null, .null, .ref 143, .ref 144, .ref 145, .ref 147], [], [], [.ref 146], [], [], [.null, .null, .null, .null, .ref 149, .ref 150, .ref 151, .ref 153], [], [], [.ref 152], [], [], [], [], [], [.null, .ref 4, .null, .null, .null, .null, .null, .null, .null, .null, .null, .null, .ref 158, .ref 159], [], [], [.null, .ref 161, .ref 162, .ref 163, .ref 164, .ref 165, .ref 166, .ref 167, .ref 168], [], [], [], [], [], [], [], [], [.ref 160, .null, .ref 170, .ref 171, .ref 172, .ref 173, .ref 174, .null, .null, .ref 175, .ref 176, .ref 177, .null, .ref 178], [], [], [], [], [], [], [], [], [], [.null, .ref 180, .ref 181, .ref 182, .ref 183, .ref 184, .null, .null], [], [], [], [], [], [.null, .ref 186, .ref 187, .ref 188, .ref 189, .ref 190, .null, .null], [], [], [], [], [], [.ref 160, .ref 192, .ref 193, .null, .ref 194, .ref 195, .ref 196, .ref 197, .null, .ref 198], [], [], [], [], [], [], [], [.null, .null, .null, .null, .ref 200, .ref 201], [], [], [.null, .ref 203], [], [], [.null, .ref 206, .null, .null, .null, .null, .null, .null, .null, .null, .null, .ref 207, .ref 208, .ref 209, .ref 210, .ref 211, .ref 212, .ref 213, .ref 214, .ref 215, .ref 216, .ref 217, .ref 218, .ref 219, .ref 220, .ref 221, .ref 222, .null, .null, .null, .null, .null, .ref 223, .ref 224, .ref 225, .ref 226, .ref 227, .ref 228, .ref 229, .ref 230, .ref 231, .null, .null, .null, .ref 232, .ref 233, .ref 234, .ref 235, .ref 236, .ref 237, .null, .ref 238, .null, .null, .null, .null, .ref 239, .ref 240, .ref 241, .ref 242, .ref 243, .null, .ref 244, .ref 245, .null, .ref 246, .ref 247, .ref 248, .null, .null], [], [], [], [], [], [], [], [], [], [], [], [], [], [], [], [], [], [], [], [], [], [], [], [], [], [], [], [], [], [], [], [], [], [], [], [], [], [], [], [], [], [], [], []]
def ab_E0 (sc : Nat × (Nat → Int32)) : ab_E := (fun k => ab_kd.getD k (.inr (9, 0)), fun k j => (ab_ff.getD k []).getD j .null, 247, sc)
def ab_isM (m : Nat) : Prop := m = 7 ∨ m = 57 ∨ m = 107
def ab_isV (v : Nat) : Prop := ∃ m k, ab_isM m ∧ k < 7 ∧ v = m + 5 + 6 * k
def ab_isLo (q : Nat) : Prop := (∃ m, ab_isM m ∧ q = m + 2) ∨ ∃ v, ab_isV v ∧ q = v + 3
def ab_isT (q : Nat) : Prop := q = 179 ∨ q = 185
section AE
variable {sc : Nat × (Nat → Int32)}
theorem kd_3 : (ab_E0 sc).1 3 = .inl 11 := rfl
theorem ff_3_0 : (ab_E0 sc).2.1 3 0 = .ref 4 := rfl
theorem ff_3_1 : (ab_E0 sc).2.1 3 1 = .ref 6 := rfl
theorem ff_3_2 : (ab_E0 sc).2.1 3 2 = .ref 157 := rfl
theorem ff_3_3 : (ab_E0 sc).2.1 3 3 = .ref 160 := rfl
theorem ff_3_4 : (ab_E0 sc).2.1 3 4 = .ref 169 := rfl
theorem ff_3_5 : (ab_E0 sc).2.1 3 5 = .ref 179 := rfl
theorem ff_3_6 : (ab_E0 sc).2.1 3 6 = .ref 185 := rfl
theorem ff_3_7 : (ab_E0 sc).2.1 3 7 = .ref 191 := rfl
theorem ff_3_8 : (ab_E0 sc).2.1 3 8 = .ref 199 := rfl
theorem ff_3_9 : (ab_E0 sc).2.1 3 9 = .ref 202 := rfl
theorem ff_3_10 : (ab_E0 sc).2.1 3 10 = .ref 204 := rfl
theorem kd_4 : (ab_E0 sc).1 4 = .inl 7 := rfl
theorem ff_4_0 : (ab_E0 sc).2.1 4 0 = .ref 5 := rfl
theorem kd_5 : (ab_E0 sc).1 5 = .inr (0, 740) := rfl
theorem kd_6 : (ab_E0 sc).1 6 = .inr (4, 3) := rfl
theorem kd_157 : (ab_E0 sc).1 157 = .inl 2 := rfl
theorem ff_157_1 : (ab_E0 sc).2.1 157 1 = .ref 4 := rfl
theorem ff_157_12 : (ab_E0 sc).2.1 157 12 = .ref 158 := rfl
theorem ff_157_13 : (ab_E0 sc).2.1 157 13 = .ref 159 := rfl
theorem kd_158 : (ab_E0 sc).1 158 = .inr (1, 3) := rfl
theorem kd_159 : (ab_E0 sc).1 159 = .inr (1, 7) := rfl
theorem kd_160 : (ab_E0 sc).1 160 = .inl 4 := rfl
theorem ff_160_1 : (ab_E0 sc).2.1 160 1 = .ref 161 := rfl
theorem ff_160_2 : (ab_E0 sc).2.1 160 2 = .ref 162 := rfl
theorem ff_160_3 : (ab_E0 sc).2.1 160 3 = .ref 163 := rfl
theorem ff_160_4 : (ab_E0 sc).2.1 160 4 = .ref 164 := rfl
theorem ff_160_5 : (ab_E0 sc).2.1 160 5 = .ref 165 := rfl
theorem ff_160_6 : (ab_E0 sc).2.1 160 6 = .ref 166 := rfl
theorem ff_160_7 : (ab_E0 sc).2.1 160 7 = .ref 167 := rfl
theorem ff_160_8 : (ab_E0 sc).2.1 160 8 = .ref 168 := rfl
theorem kd_161 : (ab_E0 sc).1 161 = .inr (0, 7) := rfl
theorem kd_162 : (ab_E0 sc).1 162 = .inr (0, 7) := rfl
theorem kd_163 : (ab_E0 sc).1 163 = .inr (0, 21) := rfl
theorem kd_164 : (ab_E0 sc).1 164 = .inr (0, 63) := rfl
theorem kd_165 : (ab_E0 sc).1 165 = .inr (1, 24) := rfl
theorem kd_166 : (ab_E0 sc).1 166 = .inr (0, 24) := rfl
theorem kd_167 : (ab_E0 sc).1 167 = .inr (0, 7) := rfl
theorem kd_168 : (ab_E0 sc).1 168 = .inr (0, 3) := rfl
theorem kd_169 : (ab_E0 sc).1 169 = .inl 3 := rfl
theorem ff_169_0 : (ab_E0 sc).2.1 169 0 = .ref 160 := rfl
theorem ff_169_2 : (ab_E0 sc).2.1 169 2 = .ref 170 := rfl
theorem ff_169_3 : (ab_E0 sc).2.1 169 3 = .ref 171 := rfl
theorem ff_169_4 : (ab_E0 sc).2.1 169 4 = .ref 172 := rfl
theorem ff_169_5 : (ab_E0 sc).2.1 169 5 = .ref 173 := rfl
theorem ff_169_6 : (ab_E0 sc).2.1 169 6 = .ref 174 := rfl
theorem ff_169_9 : (ab_E0 sc).2.1 169 9 = .ref 175 := rfl
theorem ff_169_10 : (ab_E0 sc).2.1 169 10 = .ref 176 := rfl
theorem ff_169_11 : (ab_E0 sc).2.1 169 11 = .ref 177 := rfl
theorem ff_169_13 : (ab_E0 sc).2.1 169 13 = .ref 178 := rfl
theorem kd_170 : (ab_E0 sc).1 170 = .inr (1, 12) := rfl
theorem kd_171 : (ab_E0 sc).1 171 = .inr (1, 3) := rfl
theorem kd_172 : (ab_E0 sc).1 172 = .inr (1, 9) := rfl
theorem kd_173 : (ab_E0 sc).1 173 = .inr (0, 21) := rfl
theorem kd_174 : (ab_E0 sc).1 174 = .inr (0, 21) := rfl
theorem kd_175 : (ab_E0 sc).1 175 = .inr (0, 21) := rfl
theorem kd_176 : (ab_E0 sc).1 176 = .inr (0, 6) := rfl
theorem kd_177 : (ab_E0 sc).1 177 = .inr (0, 6) := rfl
theorem kd_178 : (ab_E0 sc).1 178 = .inr (0, 3) := rfl
theorem kd_191 : (ab_E0 sc).1 191 = .inl 5 := rfl
theorem ff_191_0 : (ab_E0 sc).2.1 191 0 = .ref 160 := rfl
theorem ff_191_1 : (ab_E0 sc).2.1 191 1 = .ref 192 := rfl
theorem ff_191_2 : (ab_E0 sc).2.1 191 2 = .ref 193 := rfl
theorem ff_191_4 : (ab_E0 sc).2.1 191 4 = .ref 194 := rfl
theorem ff_191_5 : (ab_E0 sc).2.1 191 5 = .ref 195 := rfl
theorem ff_191_6 : (ab_E0 sc).2.1 191 6 = .ref 196 := rfl
theorem ff_191_7 : (ab_E0 sc).2.1 191 7 = .ref 197 := rfl
theorem ff_191_9 : (ab_E0 sc).2.1 191 9 = .ref 198 := rfl
theorem kd_192 : (ab_E0 sc).1 192 = .inr (1, 64) := rfl
theorem kd_193 : (ab_E0 sc).1 193 = .inr (1, 64) := rfl
theorem kd_194 : (ab_E0 sc).1 194 = .inr (1, 288) := rfl
theorem kd_195 : (ab_E0 sc).1 195 = .inr (0, 32) := rfl
theorem kd_196 : (ab_E0 sc).1 196 = .inr (1, 144) := rfl
theorem kd_197 : (ab_E0 sc).1 197 = .inr (0, 5) := rfl
theorem kd_198 : (ab_E0 sc).1 198 = .inr (0, 8) := rfl
theorem kd_199 : (ab_E0 sc).1 199 = .inl 10 := rfl
theorem ff_199_4 : (ab_E0 sc).2.1 199 4 = .ref 200 := rfl
theorem ff_199_5 : (ab_E0 sc).2.1 199 5 = .ref 201 := rfl
theorem kd_200 : (ab_E0 sc).1 200 = .inr (1, 3) := rfl
theorem kd_201 : (ab_E0 sc).1 201 = .inr (0, 9) := rfl
theorem kd_202 : (ab_E0 sc).1 202 = .inl 6 := rfl
theorem ff_202_1 : (ab_E0 sc).2.1 202 1 = .ref 203 := rfl
theorem kd_203 : (ab_E0 sc).1 203 = .inr (0, 7) := rfl
theorem kd_204 : (ab_E0 sc).1 204 = .inr (1, 9) := rfl
theorem kd_205 : (ab_E0 sc).1 205 = .inl 12 := rfl
theorem ff_205_1 : (ab_E0 sc).2.1 205 1 = .ref 206 := rfl
theorem ff_205_11 : (ab_E0 sc).2.1 205 11 = .ref 207 := rfl
theorem ff_205_12 : (ab_E0 sc).2.1 205 12 = .ref 208 := rfl
theorem ff_205_13 : (ab_E0 sc).2.1 205 13 = .ref 209 := rfl
theorem ff_205_14 : (ab_E0 sc).2.1 205 14 = .ref 210 := rfl
theorem ff_205_15 : (ab_E0 sc).2.1 205 15 = .ref 211 := rfl
theorem ff_205_16 : (ab_E0 sc).2.1 205 16 = .ref 212 := rfl
theorem ff_205_17 : (ab_E0 sc).2.1 205 17 = .ref 213 := rfl
theorem ff_205_18 : (ab_E0 sc).2.1 205 18 = .ref 214 := rfl
theorem ff_205_19 : (ab_E0 sc).2.1 205 19 = .ref 215 := rfl
theorem ff_205_20 : (ab_E0 sc).2.1 205 20 = .ref 216 := rfl
theorem ff_205_21 : (ab_E0 sc).2.1 205 21 = .ref 217 := rfl
theorem ff_205_22 : (ab_E0 sc).2.1 205 22 = .ref 218 := rfl
theorem ff_205_23 : (ab_E0 sc).2.1 205 23 = .ref 219 := rfl
theorem ff_205_24 : (ab_E0 sc).2.1 205 24 = .ref 220 := rfl
theorem ff_205_25 : (ab_E0 sc).2.1 205 25 = .ref 221 := rfl
theorem ff_205_26 : (ab_E0 sc).2.1 205 26 = .ref 222 := rfl
theorem ff_205_32 : (ab_E0 sc).2.1 205 32 = .ref 223 := rfl
theorem ff_205_33 : (ab_E0 sc).2.1 205 33 = .ref 224 := rfl
theorem ff_205_34 : (ab_E0 sc).2.1 205 34 = .ref 225 := rfl
theorem ff_205_35 : (ab_E0 sc).2.1 205 35 = .ref 226 := rfl
theorem ff_205_36 : (ab_E0 sc).2.1 205 36 = .ref 227 := rfl
theorem ff_205_37 : (ab_E0 sc).2.1 205 37 = .ref 228 := rfl
theorem ff_205_38 : (ab_E0 sc).2.1 205 38 = .ref 229 := rfl
theorem ff_205_39 : (ab_E0 sc).2.1 205 39 = .ref 230 := rfl
theorem ff_205_40 : (ab_E0 sc).2.1 205 40 = .ref 231 := rfl
theorem ff_205_44 : (ab_E0 sc).2.1 205 44 = .ref 232 := rfl
theorem ff_205_45 : (ab_E0 sc).2.1 205 45 = .ref 233 := rfl
theorem ff_205_46 : (ab_E0 sc).2.1 205 46 = .ref 234 := rfl
theorem ff_205_47 : (ab_E0 sc).2.1 205 47 = .ref 235 := rfl
theorem ff_205_48 : (ab_E0 sc).2.1 205 48 = .ref 236 := rfl
theorem ff_205_49 : (ab_E0 sc).2.1 205 49 = .ref 237 := rfl
theorem ff_205_51 : (ab_E0 sc).2.1 205 51 = .ref 238 := rfl
theorem ff_205_56 : (ab_E0 sc).2.1 205 56 = .ref 239 := rfl
theorem ff_205_57 : (ab_E0 sc).2.1 205 57 = .ref 240 := rfl
theorem ff_205_58 : (ab_E0 sc).2.1 205 58 = .ref 241 := rfl
theorem ff_205_59 : (ab_E0 sc).2.1 205 59 = .ref 242 := rfl
theorem ff_205_60 : (ab_E0 sc).2.1 205 60 = .ref 243 := rfl
theorem ff_205_62 : (ab_E0 sc).2.1 205 62 = .ref 244 := rfl
theorem ff_205_63 : (ab_E0 sc).2.1 205 63 = .ref 245 := rfl
theorem ff_205_65 : (ab_E0 sc).2.1 205 65 = .ref 246 := rfl
theorem ff_205_66 : (ab_E0 sc).2.1 205 66 = .ref 247 := rfl
theorem ff_205_67 : (ab_E0 sc).2.1 205 67 = .ref 248 := rfl
theorem kd_206 : (ab_E0 sc).1 206 = .inr (0, 740) := rfl
theorem kd_207 : (ab_E0 sc).1 207 = .inr (1, 6) := rfl
theorem kd_208 : (ab_E0 sc).1 208 = .inr (1, 14) := rfl
theorem kd_209 : (ab_E0 sc).1 209 = .inr (0, 2) := rfl
theorem kd_210 : (ab_E0 sc).1 210 = .inr (0, 2) := rfl
theorem kd_211 : (ab_E0 sc).1 211 = .inr (0, 6) := rfl
theorem kd_212 : (ab_E0 sc).1 212 = .inr (0, 14) := rfl
theorem kd_213 : (ab_E0 sc).1 213 = .inr (0, 126) := rfl
theorem kd_214 : (ab_E0 sc).1 214 = .inr (0, 144) := rfl
theorem kd_215 : (ab_E0 sc).1 215 = .inr (0, 14) := rfl
theorem kd_216 : (ab_E0 sc).1 216 = .inr (0, 14) := rfl
theorem kd_217 : (ab_E0 sc).1 217 = .inr (0, 42) := rfl
theorem kd_218 : (ab_E0 sc).1 218 = .inr (0, 14) := rfl
theorem kd_219 : (ab_E0 sc).1 219 = .inr (0, 2) := rfl
theorem kd_220 : (ab_E0 sc).1 220 = .inr (0, 2) := rfl
theorem kd_221 : (ab_E0 sc).1 221 = .inr (0, 2) := rfl
theorem kd_222 : (ab_E0 sc).1 222 = .inr (0, 2) := rfl
theorem kd_223 : (ab_E0 sc).1 223 = .inr (0, 8) := rfl
theorem kd_224 : (ab_E0 sc).1 224 = .inr (1, 6561) := rfl
theorem kd_225 : (ab_E0 sc).1 225 = .inr (0, 42) := rfl
theorem kd_226 : (ab_E0 sc).1 226 = .inr (0, 7) := rfl
theorem kd_227 : (ab_E0 sc).1 227 = .inr (0, 10) := rfl
theorem kd_228 : (ab_E0 sc).1 228 = .inr (1, 4) := rfl
theorem kd_229 : (ab_E0 sc).1 229 = .inr (0, 21) := rfl
theorem kd_230 : (ab_E0 sc).1 230 = .inr (0, 7) := rfl
theorem kd_231 : (ab_E0 sc).1 231 = .inr (0, 3) := rfl
theorem kd_232 : (ab_E0 sc).1 232 = .inr (0, 7) := rfl
theorem kd_233 : (ab_E0 sc).1 233 = .inr (0, 2187) := rfl
theorem kd_234 : (ab_E0 sc).1 234 = .inr (0, 21) := rfl
theorem kd_235 : (ab_E0 sc).1 235 = .inr (0, 45927) := rfl
theorem kd_236 : (ab_E0 sc).1 236 = .inr (1, 19683) := rfl
theorem kd_237 : (ab_E0 sc).1 237 = .inr (2, 6561) := rfl
theorem kd_238 : (ab_E0 sc).1 238 = .inr (0, 7) := rfl
theorem kd_239 : (ab_E0 sc).1 239 = .inr (0, 45927) := rfl
theorem kd_240 : (ab_E0 sc).1 240 = .inr (0, 7) := rfl
theorem kd_241 : (ab_E0 sc).1 241 = .inr (1, 49152) := rfl
theorem kd_242 : (ab_E0 sc).1 242 = .inr (2, 16384) := rfl
theorem kd_243 : (ab_E0 sc).1 243 = .inr (1, 768) := rfl
theorem kd_244 : (ab_E0 sc).1 244 = .inr (0, 7) := rfl
theorem kd_245 : (ab_E0 sc).1 245 = .inr (0, 8) := rfl
theorem kd_246 : (ab_E0 sc).1 246 = .inr (0, 9) := rfl
theorem kd_247 : (ab_E0 sc).1 247 = .inr (0, 21) := rfl
theorem kd_248 : (ab_E0 sc).1 248 = .inr (0, 7) := rfl
theorem kd_249 : (ab_E0 sc).1 249 = .inr (1, 1) := rfl
theorem isM3 {m : Nat} (h : ab_isM m) : 3 ≤ m := by unfold ab_isM at h; omega
theorem kM {m : Nat} (h : ab_isM m) : (ab_E0 sc).1 m = .inl 1 := by rcases h with rfl | rfl | rfl <;> rfl
theorem fM_6 {m : Nat} (h : ab_isM m) : (ab_E0 sc).2.1 m 6 = .ref (m + 1) := by rcases h with rfl | rfl | rfl <;> rfl
theorem fM_7 {m : Nat} (h : ab_isM m) : (ab_E0 sc).2.1 m 7 = .ref (m + 2) := by rcases h with rfl | rfl | rfl <;> rfl
theorem fM_8 {m : Nat} (h : ab_isM m) : (ab_E0 sc).2.1 m 8 = .ref (m + 4) := by rcases h with rfl | rfl | rfl <;> rfl
theorem fM_9 {m : Nat} (h : ab_isM m) : (ab_E0 sc).2.1 m 9 = .ref (m + 47) := by rcases h with rfl | rfl | rfl <;> rfl
theorem fM_10 {m : Nat} (h : ab_isM m) : (ab_E0 sc).2.1 m 10 = .ref (m + 48) := by rcases h with rfl | rfl | rfl <;> rfl
theorem fM_11 {m : Nat} (h : ab_isM m) : (ab_E0 sc).2.1 m 11 = .ref (m + 49) := by rcases h with rfl | rfl | rfl <;> rfl
theorem kM_1 {m : Nat} (h : ab_isM m) : (ab_E0 sc).1 (m + 1) = .inr (0, 3) := by rcases h with rfl | rfl | rfl <;> rfl
theorem kM_3 {m : Nat} (h : ab_isM m) : (ab_E0 sc).1 (m + 3) = .inr (0, 9) := by rcases h with rfl | rfl | rfl <;> rfl
theorem kM_47 {m : Nat} (h : ab_isM m) : (ab_E0 sc).1 (m + 47) = .inr (0, 21) := by rcases h with rfl | rfl | rfl <;> rfl
theorem kM_48 {m : Nat} (h : ab_isM m) : (ab_E0 sc).1 (m + 48) = .inr (0, 3) := by rcases h with rfl | rfl | rfl <;> rfl
theorem kM_49 {m : Nat} (h : ab_isM m) : (ab_E0 sc).1 (m + 49) = .inr (1, 3) := by rcases h with rfl | rfl | rfl <;> rfl
theorem kM_4 {m : Nat} (h : ab_isM m) : (ab_E0 sc).1 (m + 4) = .inr (3, 7) := by rcases h with rfl | rfl | rfl <;> rfl
theorem isM_2 {m : Nat} (h : ab_isM m) : ab_isLo (m + 2) := Or.inl ⟨m, h, rfl⟩
theorem kV {v : Nat} (h : ab_isV v) : (ab_E0 sc).1 v = .inl 9 := by
  obtain ⟨m, k, hm, hk, rfl⟩ := h
  rcases hm with rfl | rfl | rfl <;> (rcases (show k = 0 ∨ k = 1 ∨ k = 2 ∨ k = 3 ∨ k = 4 ∨ k = 5 ∨ k = 6 by omega) with rfl | rfl | rfl | rfl | rfl | rfl | rfl <;> rfl)
theorem fV_4 {v : Nat} (h : ab_isV v) : (ab_E0 sc).2.1 v 4 = .ref (v + 1) := by
  obtain ⟨m, k, hm, hk, rfl⟩ := h
  rcases hm with rfl | rfl | rfl <;> (rcases (show k = 0 ∨ k = 1 ∨ k = 2 ∨ k = 3 ∨ k = 4 ∨ k = 5 ∨ k = 6 by omega) with rfl | rfl | rfl | rfl | rfl | rfl | rfl <;> rfl)
theorem fV_5 {v : Nat} (h : ab_isV v) : (ab_E0 sc).2.1 v 5 = .ref (v + 2) := by
  obtain ⟨m, k, hm, hk, rfl⟩ := h
  rcases hm with rfl | rfl | rfl <;> (rcases (show k = 0 ∨ k = 1 ∨ k = 2 ∨ k = 3 ∨ k = 4 ∨ k = 5 ∨ k = 6 by omega) with rfl | rfl | rfl | rfl | rfl | rfl | rfl <;> rfl)
theorem fV_6 {v : Nat} (h : ab_isV v) : (ab_E0 sc).2.1 v 6 = .ref (v + 3) := by
  obtain ⟨m, k, hm, hk, rfl⟩ := h
  rcases hm with rfl | rfl | rfl <;> (rcases (show k = 0 ∨ k = 1 ∨ k = 2 ∨ k = 3 ∨ k = 4 ∨ k = 5 ∨ k = 6 by omega) with rfl | rfl | rfl | rfl | rfl | rfl | rfl <;> rfl)
theorem fV_7 {v : Nat} (h : ab_isV v) : (ab_E0 sc).2.1 v 7 = .ref (v + 5) := by
  obtain ⟨m, k, hm, hk, rfl⟩ := h
  rcases hm with rfl | rfl | rfl <;> (rcases (show k = 0 ∨ k = 1 ∨ k = 2 ∨ k = 3 ∨ k = 4 ∨ k = 5 ∨ k = 6 by omega) with rfl | rfl | rfl | rfl | rfl | rfl | rfl <;> rfl)
theorem kV_1 {v : Nat} (h : ab_isV v) : (ab_E0 sc).1 (v + 1) = .inr (0, 9) := by
  obtain ⟨m, k, hm, hk, rfl⟩ := h
  rcases hm with rfl | rfl | rfl <;> (rcases (show k = 0 ∨ k = 1 ∨ k = 2 ∨ k = 3 ∨ k = 4 ∨ k = 5 ∨ k = 6 by omega) with rfl | rfl | rfl | rfl | rfl | rfl | rfl <;> rfl)
theorem kV_2 {v : Nat} (h : ab_isV v) : (ab_E0 sc).1 (v + 2) = .inr (0, 9) := by
  obtain ⟨m, k, hm, hk, rfl⟩ := h
  rcases hm with rfl | rfl | rfl <;> (rcases (show k = 0 ∨ k = 1 ∨ k = 2 ∨ k = 3 ∨ k = 4 ∨ k = 5 ∨ k = 6 by omega) with rfl | rfl | rfl | rfl | rfl | rfl | rfl <;> rfl)
theorem kV_4 {v : Nat} (h : ab_isV v) : (ab_E0 sc).1 (v + 4) = .inr (0, 9) := by
  obtain ⟨m, k, hm, hk, rfl⟩ := h
  rcases hm with rfl | rfl | rfl <;> (rcases (show k = 0 ∨ k = 1 ∨ k = 2 ∨ k = 3 ∨ k = 4 ∨ k = 5 ∨ k = 6 by omega) with rfl | rfl | rfl | rfl | rfl | rfl | rfl <;> rfl)
theorem kV_5 {v : Nat} (h : ab_isV v) : (ab_E0 sc).1 (v + 5) = .inr (0, 3) := by
  obtain ⟨m, k, hm, hk, rfl⟩ := h
  rcases hm with rfl | rfl | rfl <;> (rcases (show k = 0 ∨ k = 1 ∨ k = 2 ∨ k = 3 ∨ k = 4 ∨ k = 5 ∨ k = 6 by omega) with rfl | rfl | rfl | rfl | rfl | rfl | rfl <;> rfl)
theorem isV_3 {v : Nat} (h : ab_isV v) : ab_isLo (v + 3) := Or.inr ⟨v, h, rfl⟩
theorem kLo {q : Nat} (h : ab_isLo q) : (ab_E0 sc).1 q = .inl 0 := by
  rcases h with ⟨m, hm, rfl⟩ | ⟨v, h, rfl⟩
  · rcases hm with rfl | rfl | rfl <;> rfl
  · obtain ⟨m, k, hm, hk, rfl⟩ := h
    rcases hm with rfl | rfl | rfl <;> (rcases (show k = 0 ∨ k = 1 ∨ k = 2 ∨ k = 3 ∨ k = 4 ∨ k = 5 ∨ k = 6 by omega) with rfl | rfl | rfl | rfl | rfl | rfl | rfl <;> rfl)
theorem fLo_0 {q : Nat} (h : ab_isLo q) : (ab_E0 sc).2.1 q 0 = .ref (q + 1) := by
  rcases h with ⟨m, hm, rfl⟩ | ⟨v, h, rfl⟩
  · rcases hm with rfl | rfl | rfl <;> rfl
  · obtain ⟨m, k, hm, hk, rfl⟩ := h
    rcases hm with rfl | rfl | rfl <;> (rcases (show k = 0 ∨ k = 1 ∨ k = 2 ∨ k = 3 ∨ k = 4 ∨ k = 5 ∨ k = 6 by omega) with rfl | rfl | rfl | rfl | rfl | rfl | rfl <;> rfl)
theorem kLo_1 {q : Nat} (h : ab_isLo q) : (ab_E0 sc).1 (q + 1) = .inr (0, 9) := by
  rcases h with ⟨m, hm, rfl⟩ | ⟨v, h, rfl⟩
  · rcases hm with rfl | rfl | rfl <;> rfl
  · obtain ⟨m, k, hm, hk, rfl⟩ := h
    rcases hm with rfl | rfl | rfl <;> (rcases (show k = 0 ∨ k = 1 ∨ k = 2 ∨ k = 3 ∨ k = 4 ∨ k = 5 ∨ k = 6 by omega) with rfl | rfl | rfl | rfl | rfl | rfl | rfl <;> rfl)
theorem isT_179 : ab_isT 179 := Or.inl rfl
theorem isT_185 : ab_isT 185 := Or.inr rfl
theorem kT {q : Nat} (h : ab_isT q) : (ab_E0 sc).1 q = .inl 8 := by rcases h with rfl | rfl <;> rfl
theorem fT_1 {q : Nat} (h : ab_isT q) : (ab_E0 sc).2.1 q 1 = .ref (q + 1) := by rcases h with rfl | rfl <;> rfl
theorem fT_2 {q : Nat} (h : ab_isT q) : (ab_E0 sc).2.1 q 2 = .ref (q + 2) := by rcases h with rfl | rfl <;> rfl
theorem fT_3 {q : Nat} (h : ab_isT q) : (ab_E0 sc).2.1 q 3 = .ref (q + 3) := by rcases h with rfl | rfl <;> rfl
theorem fT_4 {q : Nat} (h : ab_isT q) : (ab_E0 sc).2.1 q 4 = .ref (q + 4) := by rcases h with rfl | rfl <;> rfl
theorem fT_5 {q : Nat} (h : ab_isT q) : (ab_E0 sc).2.1 q 5 = .ref (q + 5) := by rcases h with rfl | rfl <;> rfl
theorem kT_1 {q : Nat} (h : ab_isT q) : (ab_E0 sc).1 (q + 1) = .inr (0, 7) := by rcases h with rfl | rfl <;> rfl
theorem kT_2 {q : Nat} (h : ab_isT q) : (ab_E0 sc).1 (q + 2) = .inr (0, 21) := by rcases h with rfl | rfl <;> rfl
theorem kT_3 {q : Nat} (h : ab_isT q) : (ab_E0 sc).1 (q + 3) = .inr (1, 24) := by rcases h with rfl | rfl <;> rfl
theorem kT_4 {q : Nat} (h : ab_isT q) : (ab_E0 sc).1 (q + 4) = .inr (1, 3) := by rcases h with rfl | rfl <;> rfl
theorem kT_5 {q : Nat} (h : ab_isT q) : (ab_E0 sc).1 (q + 5) = .inr (1, 9) := by rcases h with rfl | rfl <;> rfl
theorem ab_inN {x : Int32} {n : Nat} (h : vp_in x n) : x.toNatClampNeg < n := Nat.not_le.mp fun q => h (Or.inr q)
theorem fMv {m : Nat} {x : Int32} (hm : ab_isM m) (hx : vp_in x 7) : (ab_E0 sc).2.1 (m + 4) x.toNatClampNeg = .ref (m + 5 + 6 * x.toNatClampNeg) := by
  have hk := ab_inN hx
  generalize x.toNatClampNeg = k at hk ⊢
  rcases hm with rfl | rfl | rfl <;> (rcases (show k = 0 ∨ k = 1 ∨ k = 2 ∨ k = 3 ∨ k = 4 ∨ k = 5 ∨ k = 6 by omega) with rfl | rfl | rfl | rfl | rfl | rfl | rfl <;> rfl)
theorem isVof {m : Nat} {x : Int32} (hm : ab_isM m) (hx : vp_in x 7) : ab_isV (m + 5 + 6 * x.toNatClampNeg) := ⟨m, _, hm, ab_inN hx, rfl⟩
theorem fPool {x : Int32} (hx : vp_in x 3) : (ab_E0 sc).2.1 6 x.toNatClampNeg = .ref (7 + 50 * x.toNatClampNeg) := by
  have hk := ab_inN hx
  generalize x.toNatClampNeg = k at hk ⊢
  rcases (show k = 0 ∨ k = 1 ∨ k = 2 by omega) with rfl | rfl | rfl <;> rfl
theorem isMof {x : Int32} (hx : vp_in x 3) : ab_isM (7 + 50 * x.toNatClampNeg) := by
  have hk := ab_inN hx
  unfold ab_isM
  omega
theorem ab_vp {x : Int32} {n : Nat} (h : (!decide (x < 0) && decide (x.toNatClampNeg < n)) = true) : vp_in x n := by
  simp only [Bool.and_eq_true, Bool.not_eq_true', decide_eq_false_iff_not, decide_eq_true_eq] at h
  intro q
  rcases q with q | q
  · exact h.1 q
  · omega
def ab_ushr (x y : Int32) : Int32 := (x.toUInt32 >>> (y.toUInt32 &&& Int32.toUInt32 31)).toInt32
theorem ab_tabsplit (x : Int32) (lo : Int) (n : Nat) : (x.toInt < lo ∨ lo + (n : Int) - 1 < x.toInt) ∨ ∃ q : Nat, q < n ∧ x.toInt = lo + q := by
  by_cases h : x.toInt < lo ∨ lo + (n : Int) - 1 < x.toInt
  · exact Or.inl h
  · refine Or.inr ⟨(x.toInt - lo).toNat, by omega, by omega⟩
def ab_Sp (M : ab_M) (d : Nat) (vs : List Value) (σ : ab_S) (E : ab_E) (v : Option Value) (P : ab_S → Prop) : Prop := ab_Call M d vs σ E (fun v2 σ2 E2 => v2 = v ∧ E2 = E ∧ P σ2)
end AE
section AF
variable {M : ab_M} {d : Nat} {Q : ab_Qt} {pc : Nat} {L : List (Option Value)} {st : List Value} {cz : Nat × Nat} {σ : ab_S} {E : ab_E}
theorem ab_forget {i : Nat} {L2 : List (Option Value)} (hl : L.set i none = L2) (h : ab_Fr M d Q pc L2 st cz σ E) : ab_Fr M d Q pc L st cz σ E := by
  intro p l e s mid args below meth c G H locs ls Z C hH hS hL hR
  refine h p l e s mid args below meth c G H locs ls Z C hH hS ⟨hL.1, hL.2.1, fun k v hk => hL.2.2 k v ?_⟩ hR
  subst hl
  rw [List.getElem?_set] at hk
  split at hk
  · split at hk <;> cases hk
  · exact hk

theorem ab_irr (x : Int64) : ¬ x < x := fun h => by have := Int64.lt_iff_toInt_lt.mp h; omega
theorem ab_cmp3 (x y : Int64) : (x < y ∧ lg_cmp x y = -1) ∨ (x = y ∧ lg_cmp x y = 0) ∨ (y < x ∧ lg_cmp x y = 1) := by
  unfold lg_cmp
  by_cases h1 : x > y
  · exact Or.inr (Or.inr ⟨h1, by simp [h1]⟩)
  · by_cases h2 : x = y
    · exact Or.inr (Or.inl ⟨h2, by simp [h1, h2]⟩)
    · refine Or.inl ⟨?_, by simp [h1, h2]⟩
      have h3 : ¬ y.toInt < x.toInt := fun q => h1 (Int64.lt_iff_toInt_lt.mpr q)
      have h4 : ¬ x.toInt = y.toInt := fun q => h2 (Int64.toInt_inj.mp q)
      exact Int64.lt_iff_toInt_lt.mpr (by omega)
theorem ab_cmp_lt {x y : Int64} : lg_cmp x y < 0 ↔ x < y := by
  rcases ab_cmp3 x y with ⟨h, e⟩ | ⟨h, e⟩ | ⟨h, e⟩ <;> rw [e]
  · exact ⟨fun _ => h, fun _ => by decide⟩
  · exact ⟨fun z => absurd z (by decide), fun z => absurd z (by rw [h]; exact ab_irr _)⟩
  · exact ⟨fun z => absurd z (by decide), fun z => absurd (Int64.lt_trans z h) (ab_irr _)⟩
theorem ab_cmp_gt {x y : Int64} : 0 < lg_cmp x y ↔ y < x := by
  rcases ab_cmp3 x y with ⟨h, e⟩ | ⟨h, e⟩ | ⟨h, e⟩ <;> rw [e]
  · exact ⟨fun z => absurd z (by decide), fun z => absurd (Int64.lt_trans z h) (ab_irr _)⟩
  · exact ⟨fun z => absurd z (by decide), fun z => absurd z (by rw [h]; exact ab_irr _)⟩
  · exact ⟨fun _ => h, fun _ => by decide⟩
theorem ab_cmp_eq {x y : Int64} : lg_cmp x y = 0 ↔ x = y := by
  rcases ab_cmp3 x y with ⟨h, e⟩ | ⟨h, e⟩ | ⟨h, e⟩ <;> rw [e]
  · exact ⟨fun z => absurd z (by decide), fun z => absurd h (by rw [z]; exact ab_irr _)⟩
  · exact ⟨fun _ => h, fun _ => rfl⟩
  · exact ⟨fun z => absurd z (by decide), fun z => absurd h (by rw [z]; exact ab_irr _)⟩
theorem ab_nlt0 {z : Int32} : 0 ≤ z ↔ ¬ z < 0 := by
  rw [Int32.le_iff_toInt_le, Int32.lt_iff_toInt_lt]; omega
theorem ab_nlt1 {z : Int32} : z ≤ 0 ↔ ¬ 0 < z := by
  rw [Int32.le_iff_toInt_le, Int32.lt_iff_toInt_lt]; omega
theorem ab_lclt {x y : Int64} {off : Int} {tgt : Nat} (hd : decode M.2.1 pc = .ok (.lcmp, 1)) (hd2 : decode M.2.1 (pc + 1) = .ok (.ifCond .lt off, 3)) (ht : ((pc + 1 : Nat) : Int) + off = (tgt : Int)) (kt : x < y → ab_Fr M d Q tgt L st cz σ E) (kf : ¬ x < y → ab_Fr M d Q (pc + 1 + 3) L st cz σ E) : ab_Fr M d Q pc L (.long y :: .long x :: st) cz σ E := by
  have e := ab_cmp_lt (x := x) (y := y)
  have e0 := ab_nlt0 (z := lg_cmp x y)
  have e1 := ab_nlt1 (z := lg_cmp x y)
  refine ab_lcmp hd (ab_if_lt hd2 ht (fun z => kt ?_) (fun z => kf ?_))
  · first | exact e.mp z | exact fun q => z (e.mpr q) | exact fun q => e0.mp z (e.mpr q) | exact fun q => e1.mp z (e.mpr q) | exact Classical.byContradiction fun q => z (fun w => q (e.mp w))
  · first | exact e.mp z | exact fun q => z (e.mpr q) | exact Classical.byContradiction fun q => z (e0.mpr fun w => q (e.mp w)) | exact Classical.byContradiction fun q => z (e1.mpr fun w => q (e.mp w)) | exact Classical.byContradiction fun q => z (fun w => q (e.mp w)) | exact fun q => e0.mp z (e.mpr q) | exact fun q => e1.mp z (e.mpr q)
theorem ab_lcge {x y : Int64} {off : Int} {tgt : Nat} (hd : decode M.2.1 pc = .ok (.lcmp, 1)) (hd2 : decode M.2.1 (pc + 1) = .ok (.ifCond .ge off, 3)) (ht : ((pc + 1 : Nat) : Int) + off = (tgt : Int)) (kt : ¬ x < y → ab_Fr M d Q tgt L st cz σ E) (kf : x < y → ab_Fr M d Q (pc + 1 + 3) L st cz σ E) : ab_Fr M d Q pc L (.long y :: .long x :: st) cz σ E := by
  have e := ab_cmp_lt (x := x) (y := y)
  have e0 := ab_nlt0 (z := lg_cmp x y)
  have e1 := ab_nlt1 (z := lg_cmp x y)
  refine ab_lcmp hd (ab_if_ge hd2 ht (fun z => kt ?_) (fun z => kf ?_))
  · first | exact e.mp z | exact fun q => z (e.mpr q) | exact fun q => e0.mp z (e.mpr q) | exact fun q => e1.mp z (e.mpr q) | exact Classical.byContradiction fun q => z (fun w => q (e.mp w))
  · first | exact e.mp z | exact fun q => z (e.mpr q) | exact Classical.byContradiction fun q => z (e0.mpr fun w => q (e.mp w)) | exact Classical.byContradiction fun q => z (e1.mpr fun w => q (e.mp w)) | exact Classical.byContradiction fun q => z (fun w => q (e.mp w)) | exact fun q => e0.mp z (e.mpr q) | exact fun q => e1.mp z (e.mpr q)
theorem ab_lcgt {x y : Int64} {off : Int} {tgt : Nat} (hd : decode M.2.1 pc = .ok (.lcmp, 1)) (hd2 : decode M.2.1 (pc + 1) = .ok (.ifCond .gt off, 3)) (ht : ((pc + 1 : Nat) : Int) + off = (tgt : Int)) (kt : y < x → ab_Fr M d Q tgt L st cz σ E) (kf : ¬ y < x → ab_Fr M d Q (pc + 1 + 3) L st cz σ E) : ab_Fr M d Q pc L (.long y :: .long x :: st) cz σ E := by
  have e := ab_cmp_gt (x := x) (y := y)
  have e0 := ab_nlt0 (z := lg_cmp x y)
  have e1 := ab_nlt1 (z := lg_cmp x y)
  refine ab_lcmp hd (ab_if_gt hd2 ht (fun z => kt ?_) (fun z => kf ?_))
  · first | exact e.mp z | exact fun q => z (e.mpr q) | exact fun q => e0.mp z (e.mpr q) | exact fun q => e1.mp z (e.mpr q) | exact Classical.byContradiction fun q => z (fun w => q (e.mp w))
  · first | exact e.mp z | exact fun q => z (e.mpr q) | exact Classical.byContradiction fun q => z (e0.mpr fun w => q (e.mp w)) | exact Classical.byContradiction fun q => z (e1.mpr fun w => q (e.mp w)) | exact Classical.byContradiction fun q => z (fun w => q (e.mp w)) | exact fun q => e0.mp z (e.mpr q) | exact fun q => e1.mp z (e.mpr q)
theorem ab_lcle {x y : Int64} {off : Int} {tgt : Nat} (hd : decode M.2.1 pc = .ok (.lcmp, 1)) (hd2 : decode M.2.1 (pc + 1) = .ok (.ifCond .le off, 3)) (ht : ((pc + 1 : Nat) : Int) + off = (tgt : Int)) (kt : ¬ y < x → ab_Fr M d Q tgt L st cz σ E) (kf : y < x → ab_Fr M d Q (pc + 1 + 3) L st cz σ E) : ab_Fr M d Q pc L (.long y :: .long x :: st) cz σ E := by
  have e := ab_cmp_gt (x := x) (y := y)
  have e0 := ab_nlt0 (z := lg_cmp x y)
  have e1 := ab_nlt1 (z := lg_cmp x y)
  refine ab_lcmp hd (ab_if_le hd2 ht (fun z => kt ?_) (fun z => kf ?_))
  · first | exact e.mp z | exact fun q => z (e.mpr q) | exact fun q => e0.mp z (e.mpr q) | exact fun q => e1.mp z (e.mpr q) | exact Classical.byContradiction fun q => z (fun w => q (e.mp w))
  · first | exact e.mp z | exact fun q => z (e.mpr q) | exact Classical.byContradiction fun q => z (e0.mpr fun w => q (e.mp w)) | exact Classical.byContradiction fun q => z (e1.mpr fun w => q (e.mp w)) | exact Classical.byContradiction fun q => z (fun w => q (e.mp w)) | exact fun q => e0.mp z (e.mpr q) | exact fun q => e1.mp z (e.mpr q)
theorem ab_lceq {x y : Int64} {off : Int} {tgt : Nat} (hd : decode M.2.1 pc = .ok (.lcmp, 1)) (hd2 : decode M.2.1 (pc + 1) = .ok (.ifCond .eq off, 3)) (ht : ((pc + 1 : Nat) : Int) + off = (tgt : Int)) (kt : x = y → ab_Fr M d Q tgt L st cz σ E) (kf : ¬ x = y → ab_Fr M d Q (pc + 1 + 3) L st cz σ E) : ab_Fr M d Q pc L (.long y :: .long x :: st) cz σ E := by
  have e := ab_cmp_eq (x := x) (y := y)
  have e0 := ab_nlt0 (z := lg_cmp x y)
  have e1 := ab_nlt1 (z := lg_cmp x y)
  refine ab_lcmp hd (ab_if_eq hd2 ht (fun z => kt ?_) (fun z => kf ?_))
  · first | exact e.mp z | exact fun q => z (e.mpr q) | exact fun q => e0.mp z (e.mpr q) | exact fun q => e1.mp z (e.mpr q) | exact Classical.byContradiction fun q => z (fun w => q (e.mp w))
  · first | exact e.mp z | exact fun q => z (e.mpr q) | exact Classical.byContradiction fun q => z (e0.mpr fun w => q (e.mp w)) | exact Classical.byContradiction fun q => z (e1.mpr fun w => q (e.mp w)) | exact Classical.byContradiction fun q => z (fun w => q (e.mp w)) | exact fun q => e0.mp z (e.mpr q) | exact fun q => e1.mp z (e.mpr q)
theorem ab_lcne {x y : Int64} {off : Int} {tgt : Nat} (hd : decode M.2.1 pc = .ok (.lcmp, 1)) (hd2 : decode M.2.1 (pc + 1) = .ok (.ifCond .ne off, 3)) (ht : ((pc + 1 : Nat) : Int) + off = (tgt : Int)) (kt : ¬ x = y → ab_Fr M d Q tgt L st cz σ E) (kf : x = y → ab_Fr M d Q (pc + 1 + 3) L st cz σ E) : ab_Fr M d Q pc L (.long y :: .long x :: st) cz σ E := by
  have e := ab_cmp_eq (x := x) (y := y)
  have e0 := ab_nlt0 (z := lg_cmp x y)
  have e1 := ab_nlt1 (z := lg_cmp x y)
  refine ab_lcmp hd (ab_if_ne hd2 ht (fun z => kt ?_) (fun z => kf ?_))
  · first | exact e.mp z | exact fun q => z (e.mpr q) | exact fun q => e0.mp z (e.mpr q) | exact fun q => e1.mp z (e.mpr q) | exact Classical.byContradiction fun q => z (fun w => q (e.mp w))
  · first | exact e.mp z | exact fun q => z (e.mpr q) | exact Classical.byContradiction fun q => z (e0.mpr fun w => q (e.mp w)) | exact Classical.byContradiction fun q => z (e1.mpr fun w => q (e.mp w)) | exact Classical.byContradiction fun q => z (fun w => q (e.mp w)) | exact fun q => e0.mp z (e.mpr q) | exact fun q => e1.mp z (e.mpr q)
end AF
