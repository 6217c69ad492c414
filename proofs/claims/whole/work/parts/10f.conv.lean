def la_bnd (k : Nat) : Nat := if k = 6 then 3 else if k = 11 ∨ k = 61 ∨ k = 111 then 7 else 70
def la_P (f : Nat → Nat → Value) : Prop := ∀ k j, la_bnd k ≤ j → f k j = .null
theorem la_P_u {f : Nat → Nat → Value} {k j : Nat} {v : Value} (h : la_P f) (hj : Nat.ble (la_bnd k) j = false) : la_P (ab_u f k j v) := by
  intro a b hab
  unfold ab_u
  split
  · rename_i h9
    obtain ⟨rfl, rfl⟩ := h9
    have h8 : ¬ la_bnd a ≤ b := fun q => by rw [Nat.ble_eq_true_of_le q] at hj; cases hj
    exact absurd hab h8
  · exact h a b hab
theorem la_P_z {f : Nat → Nat → Value} {k : Nat} (h : la_P f) : la_P (ab_z f k .null) := by
  intro a b hab
  unfold ab_z
  split
  · rfl
  · exact h a b hab
theorem la_cc {G : ab_G} {ci : Nat} {fi : Nat → Int32} {fl : Nat → Int64} {fd f1 f2 : Nat → Value} (h : ∀ j, j < ab_nf ci → f1 j = f2 j) : ab_cc G (.inl ci) fi fl fd f1 = ab_cc G (.inl ci) fi fl fd f2 := by
  unfold ab_cc
  dsimp only
  congr 2
  apply List.map_congr_left
  intro j hj
  have h9 := h j (List.mem_range.mp hj)
  unfold ab_fw
  rw [h9]
section AG
variable {sc : Nat × (Nat → Int32)}
theorem pz_0 : la_P (cE_0 sc).2.1 := fun _ _ _ => rfl
theorem pz_1 : la_P (cE_1 sc).2.1 := la_P_z pz_0
theorem pz_2 : la_P (cE_2 sc).2.1 := la_P_z pz_1
theorem pz_3 : la_P (cE_3 sc).2.1 := la_P_z pz_2
theorem pz_4 : la_P (cE_4 sc).2.1 := la_P_u pz_3 rfl
theorem pz_5 : la_P (cE_5 sc).2.1 := la_P_u pz_4 rfl
theorem pz_6 : la_P (cE_6 sc).2.1 := la_P_z pz_5
theorem pz_7 : la_P (cE_7 sc).2.1 := la_P_u pz_6 rfl
theorem pz_8 : la_P (cE_8 sc).2.1 := la_P_z pz_7
theorem pz_9 : la_P (cE_9 sc).2.1 := la_P_z pz_8
theorem pz_10 : la_P (cE_10 sc).2.1 := la_P_u pz_9 rfl
theorem pz_11 : la_P (cE_11 sc).2.1 := la_P_z pz_10
theorem pz_12 : la_P (cE_12 sc).2.1 := la_P_z pz_11
theorem pz_13 : la_P (cE_13 sc).2.1 := la_P_u pz_12 rfl
theorem pz_14 : la_P (cE_14 sc).2.1 := la_P_u pz_13 rfl
theorem pz_15 : la_P (cE_15 sc).2.1 := la_P_z pz_14
theorem pz_16 : la_P (cE_16 sc).2.1 := la_P_u pz_15 rfl
theorem pz_17 : la_P (cE_17 sc).2.1 := la_P_z pz_16
theorem pz_18 : la_P (cE_18 sc).2.1 := la_P_z pz_17
theorem pz_19 : la_P (cE_19 sc).2.1 := la_P_u pz_18 rfl
theorem pz_20 : la_P (cE_20 sc).2.1 := la_P_z pz_19
theorem pz_21 : la_P (cE_21 sc).2.1 := la_P_u pz_20 rfl
theorem pz_22 : la_P (cE_22 sc).2.1 := la_P_z pz_21
theorem pz_23 : la_P (cE_23 sc).2.1 := la_P_z pz_22
theorem pz_24 : la_P (cE_24 sc).2.1 := la_P_u pz_23 rfl
theorem pz_25 : la_P (cE_25 sc).2.1 := la_P_u pz_24 rfl
theorem pz_26 : la_P (cE_26 sc).2.1 := la_P_z pz_25
theorem pz_27 : la_P (cE_27 sc).2.1 := la_P_u pz_26 rfl
theorem pz_28 : la_P (cE_28 sc).2.1 := la_P_u pz_27 rfl
theorem pz_29 : la_P (cE_29 sc).2.1 := la_P_z pz_28
theorem pz_30 : la_P (cE_30 sc).2.1 := la_P_z pz_29
theorem pz_31 : la_P (cE_31 sc).2.1 := la_P_u pz_30 rfl
theorem pz_32 : la_P (cE_32 sc).2.1 := la_P_z pz_31
theorem pz_33 : la_P (cE_33 sc).2.1 := la_P_u pz_32 rfl
theorem pz_34 : la_P (cE_34 sc).2.1 := la_P_z pz_33
theorem pz_35 : la_P (cE_35 sc).2.1 := la_P_z pz_34
theorem pz_36 : la_P (cE_36 sc).2.1 := la_P_u pz_35 rfl
theorem pz_37 : la_P (cE_37 sc).2.1 := la_P_u pz_36 rfl
theorem pz_38 : la_P (cE_38 sc).2.1 := la_P_z pz_37
theorem pz_39 : la_P (cE_39 sc).2.1 := la_P_u pz_38 rfl
theorem pz_40 : la_P (cE_40 sc).2.1 := la_P_u pz_39 rfl
theorem pz_41 : la_P (cE_41 sc).2.1 := la_P_z pz_40
theorem pz_42 : la_P (cE_42 sc).2.1 := la_P_z pz_41
theorem pz_43 : la_P (cE_43 sc).2.1 := la_P_u pz_42 rfl
theorem pz_44 : la_P (cE_44 sc).2.1 := la_P_z pz_43
theorem pz_45 : la_P (cE_45 sc).2.1 := la_P_u pz_44 rfl
theorem pz_46 : la_P (cE_46 sc).2.1 := la_P_z pz_45
theorem pz_47 : la_P (cE_47 sc).2.1 := la_P_z pz_46
theorem pz_48 : la_P (cE_48 sc).2.1 := la_P_u pz_47 rfl
theorem pz_49 : la_P (cE_49 sc).2.1 := la_P_u pz_48 rfl
theorem pz_50 : la_P (cE_50 sc).2.1 := la_P_z pz_49
theorem pz_51 : la_P (cE_51 sc).2.1 := la_P_u pz_50 rfl
theorem pz_52 : la_P (cE_52 sc).2.1 := la_P_u pz_51 rfl
theorem pz_53 : la_P (cE_53 sc).2.1 := la_P_z pz_52
theorem pz_54 : la_P (cE_54 sc).2.1 := la_P_z pz_53
theorem pz_55 : la_P (cE_55 sc).2.1 := la_P_u pz_54 rfl
theorem pz_56 : la_P (cE_56 sc).2.1 := la_P_z pz_55
theorem pz_57 : la_P (cE_57 sc).2.1 := la_P_u pz_56 rfl
theorem pz_58 : la_P (cE_58 sc).2.1 := la_P_z pz_57
theorem pz_59 : la_P (cE_59 sc).2.1 := la_P_z pz_58
theorem pz_60 : la_P (cE_60 sc).2.1 := la_P_u pz_59 rfl
theorem pz_61 : la_P (cE_61 sc).2.1 := la_P_u pz_60 rfl
theorem pz_62 : la_P (cE_62 sc).2.1 := la_P_z pz_61
theorem pz_63 : la_P (cE_63 sc).2.1 := la_P_u pz_62 rfl
theorem pz_64 : la_P (cE_64 sc).2.1 := la_P_u pz_63 rfl
theorem pz_65 : la_P (cE_65 sc).2.1 := la_P_z pz_64
theorem pz_66 : la_P (cE_66 sc).2.1 := la_P_z pz_65
theorem pz_67 : la_P (cE_67 sc).2.1 := la_P_u pz_66 rfl
theorem pz_68 : la_P (cE_68 sc).2.1 := la_P_z pz_67
theorem pz_69 : la_P (cE_69 sc).2.1 := la_P_u pz_68 rfl
theorem pz_70 : la_P (cE_70 sc).2.1 := la_P_z pz_69
theorem pz_71 : la_P (cE_71 sc).2.1 := la_P_z pz_70
theorem pz_72 : la_P (cE_72 sc).2.1 := la_P_u pz_71 rfl
theorem pz_73 : la_P (cE_73 sc).2.1 := la_P_u pz_72 rfl
theorem pz_74 : la_P (cE_74 sc).2.1 := la_P_z pz_73
theorem pz_75 : la_P (cE_75 sc).2.1 := la_P_u pz_74 rfl
theorem pz_76 : la_P (cE_76 sc).2.1 := la_P_u pz_75 rfl
theorem pz_77 : la_P (cE_77 sc).2.1 := la_P_z pz_76
theorem pz_78 : la_P (cE_78 sc).2.1 := la_P_z pz_77
theorem pz_79 : la_P (cE_79 sc).2.1 := la_P_u pz_78 rfl
theorem pz_80 : la_P (cE_80 sc).2.1 := la_P_z pz_79
theorem pz_81 : la_P (cE_81 sc).2.1 := la_P_u pz_80 rfl
theorem pz_82 : la_P (cE_82 sc).2.1 := la_P_z pz_81
theorem pz_83 : la_P (cE_83 sc).2.1 := la_P_z pz_82
theorem pz_84 : la_P (cE_84 sc).2.1 := la_P_u pz_83 rfl
theorem pz_85 : la_P (cE_85 sc).2.1 := la_P_u pz_84 rfl
theorem pz_86 : la_P (cE_86 sc).2.1 := la_P_z pz_85
theorem pz_87 : la_P (cE_87 sc).2.1 := la_P_u pz_86 rfl
theorem pz_88 : la_P (cE_88 sc).2.1 := la_P_u pz_87 rfl
theorem pz_89 : la_P (cE_89 sc).2.1 := la_P_z pz_88
theorem pz_90 : la_P (cE_90 sc).2.1 := la_P_z pz_89
theorem pz_91 : la_P (cE_91 sc).2.1 := la_P_u pz_90 rfl
theorem pz_92 : la_P (cE_92 sc).2.1 := la_P_z pz_91
theorem pz_93 : la_P (cE_93 sc).2.1 := la_P_u pz_92 rfl
theorem pz_94 : la_P (cE_94 sc).2.1 := la_P_z pz_93
theorem pz_95 : la_P (cE_95 sc).2.1 := la_P_z pz_94
theorem pz_96 : la_P (cE_96 sc).2.1 := la_P_u pz_95 rfl
theorem pz_97 : la_P (cE_97 sc).2.1 := la_P_u pz_96 rfl
theorem pz_98 : la_P (cE_98 sc).2.1 := la_P_z pz_97
theorem pz_99 : la_P (cE_99 sc).2.1 := la_P_u pz_98 rfl
theorem pz_100 : la_P (cE_100 sc).2.1 := la_P_u pz_99 rfl
theorem pz_101 : la_P (cE_101 sc).2.1 := la_P_z pz_100
theorem pz_102 : la_P (cE_102 sc).2.1 := la_P_u pz_101 rfl
theorem pz_103 : la_P (cE_103 sc).2.1 := la_P_z pz_102
theorem pz_104 : la_P (cE_104 sc).2.1 := la_P_u pz_103 rfl
theorem pz_105 : la_P (cE_105 sc).2.1 := la_P_z pz_104
theorem pz_106 : la_P (cE_106 sc).2.1 := la_P_u pz_105 rfl
theorem pz_107 : la_P (cE_107 sc).2.1 := la_P_u pz_106 rfl
theorem pz_108 : la_P (cE_108 sc).2.1 := la_P_z pz_107
theorem pz_109 : la_P (cE_109 sc).2.1 := la_P_z pz_108
theorem pz_110 : la_P (cE_110 sc).2.1 := la_P_u pz_109 rfl
theorem pz_111 : la_P (cE_111 sc).2.1 := la_P_z pz_110
theorem pz_112 : la_P (cE_112 sc).2.1 := la_P_z pz_111
theorem pz_113 : la_P (cE_113 sc).2.1 := la_P_u pz_112 rfl
theorem pz_114 : la_P (cE_114 sc).2.1 := la_P_u pz_113 rfl
theorem pz_115 : la_P (cE_115 sc).2.1 := la_P_z pz_114
theorem pz_116 : la_P (cE_116 sc).2.1 := la_P_u pz_115 rfl
theorem pz_117 : la_P (cE_117 sc).2.1 := la_P_z pz_116
theorem pz_118 : la_P (cE_118 sc).2.1 := la_P_z pz_117
theorem pz_119 : la_P (cE_119 sc).2.1 := la_P_u pz_118 rfl
theorem pz_120 : la_P (cE_120 sc).2.1 := la_P_z pz_119
theorem pz_121 : la_P (cE_121 sc).2.1 := la_P_u pz_120 rfl
theorem pz_122 : la_P (cE_122 sc).2.1 := la_P_z pz_121
theorem pz_123 : la_P (cE_123 sc).2.1 := la_P_z pz_122
theorem pz_124 : la_P (cE_124 sc).2.1 := la_P_u pz_123 rfl
theorem pz_125 : la_P (cE_125 sc).2.1 := la_P_u pz_124 rfl
theorem pz_126 : la_P (cE_126 sc).2.1 := la_P_z pz_125
theorem pz_127 : la_P (cE_127 sc).2.1 := la_P_u pz_126 rfl
theorem pz_128 : la_P (cE_128 sc).2.1 := la_P_u pz_127 rfl
theorem pz_129 : la_P (cE_129 sc).2.1 := la_P_z pz_128
theorem pz_130 : la_P (cE_130 sc).2.1 := la_P_z pz_129
theorem pz_131 : la_P (cE_131 sc).2.1 := la_P_u pz_130 rfl
theorem pz_132 : la_P (cE_132 sc).2.1 := la_P_z pz_131
theorem pz_133 : la_P (cE_133 sc).2.1 := la_P_u pz_132 rfl
theorem pz_134 : la_P (cE_134 sc).2.1 := la_P_z pz_133
theorem pz_135 : la_P (cE_135 sc).2.1 := la_P_z pz_134
theorem pz_136 : la_P (cE_136 sc).2.1 := la_P_u pz_135 rfl
theorem pz_137 : la_P (cE_137 sc).2.1 := la_P_u pz_136 rfl
theorem pz_138 : la_P (cE_138 sc).2.1 := la_P_z pz_137
theorem pz_139 : la_P (cE_139 sc).2.1 := la_P_u pz_138 rfl
theorem pz_140 : la_P (cE_140 sc).2.1 := la_P_u pz_139 rfl
theorem pz_141 : la_P (cE_141 sc).2.1 := la_P_z pz_140
theorem pz_142 : la_P (cE_142 sc).2.1 := la_P_z pz_141
theorem pz_143 : la_P (cE_143 sc).2.1 := la_P_u pz_142 rfl
theorem pz_144 : la_P (cE_144 sc).2.1 := la_P_z pz_143
theorem pz_145 : la_P (cE_145 sc).2.1 := la_P_u pz_144 rfl
theorem pz_146 : la_P (cE_146 sc).2.1 := la_P_z pz_145
theorem pz_147 : la_P (cE_147 sc).2.1 := la_P_z pz_146
theorem pz_148 : la_P (cE_148 sc).2.1 := la_P_u pz_147 rfl
theorem pz_149 : la_P (cE_149 sc).2.1 := la_P_u pz_148 rfl
theorem pz_150 : la_P (cE_150 sc).2.1 := la_P_z pz_149
theorem pz_151 : la_P (cE_151 sc).2.1 := la_P_u pz_150 rfl
theorem pz_152 : la_P (cE_152 sc).2.1 := la_P_u pz_151 rfl
theorem pz_153 : la_P (cE_153 sc).2.1 := la_P_z pz_152
theorem pz_154 : la_P (cE_154 sc).2.1 := la_P_z pz_153
theorem pz_155 : la_P (cE_155 sc).2.1 := la_P_u pz_154 rfl
theorem pz_156 : la_P (cE_156 sc).2.1 := la_P_z pz_155
theorem pz_157 : la_P (cE_157 sc).2.1 := la_P_u pz_156 rfl
theorem pz_158 : la_P (cE_158 sc).2.1 := la_P_z pz_157
theorem pz_159 : la_P (cE_159 sc).2.1 := la_P_z pz_158
theorem pz_160 : la_P (cE_160 sc).2.1 := la_P_u pz_159 rfl
theorem pz_161 : la_P (cE_161 sc).2.1 := la_P_u pz_160 rfl
theorem pz_162 : la_P (cE_162 sc).2.1 := la_P_z pz_161
theorem pz_163 : la_P (cE_163 sc).2.1 := la_P_u pz_162 rfl
theorem pz_164 : la_P (cE_164 sc).2.1 := la_P_u pz_163 rfl
theorem pz_165 : la_P (cE_165 sc).2.1 := la_P_z pz_164
theorem pz_166 : la_P (cE_166 sc).2.1 := la_P_z pz_165
theorem pz_167 : la_P (cE_167 sc).2.1 := la_P_u pz_166 rfl
theorem pz_168 : la_P (cE_168 sc).2.1 := la_P_z pz_167
theorem pz_169 : la_P (cE_169 sc).2.1 := la_P_u pz_168 rfl
theorem pz_170 : la_P (cE_170 sc).2.1 := la_P_z pz_169
theorem pz_171 : la_P (cE_171 sc).2.1 := la_P_z pz_170
theorem pz_172 : la_P (cE_172 sc).2.1 := la_P_u pz_171 rfl
theorem pz_173 : la_P (cE_173 sc).2.1 := la_P_u pz_172 rfl
theorem pz_174 : la_P (cE_174 sc).2.1 := la_P_z pz_173
theorem pz_175 : la_P (cE_175 sc).2.1 := la_P_u pz_174 rfl
theorem pz_176 : la_P (cE_176 sc).2.1 := la_P_u pz_175 rfl
theorem pz_177 : la_P (cE_177 sc).2.1 := la_P_z pz_176
theorem pz_178 : la_P (cE_178 sc).2.1 := la_P_z pz_177
theorem pz_179 : la_P (cE_179 sc).2.1 := la_P_u pz_178 rfl
theorem pz_180 : la_P (cE_180 sc).2.1 := la_P_z pz_179
theorem pz_181 : la_P (cE_181 sc).2.1 := la_P_u pz_180 rfl
theorem pz_182 : la_P (cE_182 sc).2.1 := la_P_z pz_181
theorem pz_183 : la_P (cE_183 sc).2.1 := la_P_z pz_182
theorem pz_184 : la_P (cE_184 sc).2.1 := la_P_u pz_183 rfl
theorem pz_185 : la_P (cE_185 sc).2.1 := la_P_u pz_184 rfl
theorem pz_186 : la_P (cE_186 sc).2.1 := la_P_z pz_185
theorem pz_187 : la_P (cE_187 sc).2.1 := la_P_u pz_186 rfl
theorem pz_188 : la_P (cE_188 sc).2.1 := la_P_u pz_187 rfl
theorem pz_189 : la_P (cE_189 sc).2.1 := la_P_z pz_188
theorem pz_190 : la_P (cE_190 sc).2.1 := la_P_z pz_189
theorem pz_191 : la_P (cE_191 sc).2.1 := la_P_u pz_190 rfl
theorem pz_192 : la_P (cE_192 sc).2.1 := la_P_z pz_191
theorem pz_193 : la_P (cE_193 sc).2.1 := la_P_u pz_192 rfl
theorem pz_194 : la_P (cE_194 sc).2.1 := la_P_z pz_193
theorem pz_195 : la_P (cE_195 sc).2.1 := la_P_z pz_194
theorem pz_196 : la_P (cE_196 sc).2.1 := la_P_u pz_195 rfl
theorem pz_197 : la_P (cE_197 sc).2.1 := la_P_u pz_196 rfl
theorem pz_198 : la_P (cE_198 sc).2.1 := la_P_z pz_197
theorem pz_199 : la_P (cE_199 sc).2.1 := la_P_u pz_198 rfl
theorem pz_200 : la_P (cE_200 sc).2.1 := la_P_u pz_199 rfl
theorem pz_201 : la_P (cE_201 sc).2.1 := la_P_z pz_200
theorem pz_202 : la_P (cE_202 sc).2.1 := la_P_u pz_201 rfl
theorem pz_203 : la_P (cE_203 sc).2.1 := la_P_z pz_202
theorem pz_204 : la_P (cE_204 sc).2.1 := la_P_u pz_203 rfl
theorem pz_205 : la_P (cE_205 sc).2.1 := la_P_z pz_204
theorem pz_206 : la_P (cE_206 sc).2.1 := la_P_u pz_205 rfl
theorem pz_207 : la_P (cE_207 sc).2.1 := la_P_u pz_206 rfl
theorem pz_208 : la_P (cE_208 sc).2.1 := la_P_z pz_207
theorem pz_209 : la_P (cE_209 sc).2.1 := la_P_z pz_208
theorem pz_210 : la_P (cE_210 sc).2.1 := la_P_u pz_209 rfl
theorem pz_211 : la_P (cE_211 sc).2.1 := la_P_z pz_210
theorem pz_212 : la_P (cE_212 sc).2.1 := la_P_z pz_211
theorem pz_213 : la_P (cE_213 sc).2.1 := la_P_u pz_212 rfl
theorem pz_214 : la_P (cE_214 sc).2.1 := la_P_u pz_213 rfl
theorem pz_215 : la_P (cE_215 sc).2.1 := la_P_z pz_214
theorem pz_216 : la_P (cE_216 sc).2.1 := la_P_u pz_215 rfl
theorem pz_217 : la_P (cE_217 sc).2.1 := la_P_z pz_216
theorem pz_218 : la_P (cE_218 sc).2.1 := la_P_z pz_217
theorem pz_219 : la_P (cE_219 sc).2.1 := la_P_u pz_218 rfl
theorem pz_220 : la_P (cE_220 sc).2.1 := la_P_z pz_219
theorem pz_221 : la_P (cE_221 sc).2.1 := la_P_u pz_220 rfl
theorem pz_222 : la_P (cE_222 sc).2.1 := la_P_z pz_221
theorem pz_223 : la_P (cE_223 sc).2.1 := la_P_z pz_222
theorem pz_224 : la_P (cE_224 sc).2.1 := la_P_u pz_223 rfl
theorem pz_225 : la_P (cE_225 sc).2.1 := la_P_u pz_224 rfl
theorem pz_226 : la_P (cE_226 sc).2.1 := la_P_z pz_225
theorem pz_227 : la_P (cE_227 sc).2.1 := la_P_u pz_226 rfl
theorem pz_228 : la_P (cE_228 sc).2.1 := la_P_u pz_227 rfl
theorem pz_229 : la_P (cE_229 sc).2.1 := la_P_z pz_228
theorem pz_230 : la_P (cE_230 sc).2.1 := la_P_z pz_229
theorem pz_231 : la_P (cE_231 sc).2.1 := la_P_u pz_230 rfl
theorem pz_232 : la_P (cE_232 sc).2.1 := la_P_z pz_231
theorem pz_233 : la_P (cE_233 sc).2.1 := la_P_u pz_232 rfl
theorem pz_234 : la_P (cE_234 sc).2.1 := la_P_z pz_233
theorem pz_235 : la_P (cE_235 sc).2.1 := la_P_z pz_234
theorem pz_236 : la_P (cE_236 sc).2.1 := la_P_u pz_235 rfl
theorem pz_237 : la_P (cE_237 sc).2.1 := la_P_u pz_236 rfl
theorem pz_238 : la_P (cE_238 sc).2.1 := la_P_z pz_237
theorem pz_239 : la_P (cE_239 sc).2.1 := la_P_u pz_238 rfl
theorem pz_240 : la_P (cE_240 sc).2.1 := la_P_u pz_239 rfl
theorem pz_241 : la_P (cE_241 sc).2.1 := la_P_z pz_240
theorem pz_242 : la_P (cE_242 sc).2.1 := la_P_z pz_241
theorem pz_243 : la_P (cE_243 sc).2.1 := la_P_u pz_242 rfl
theorem pz_244 : la_P (cE_244 sc).2.1 := la_P_z pz_243
theorem pz_245 : la_P (cE_245 sc).2.1 := la_P_u pz_244 rfl
theorem pz_246 : la_P (cE_246 sc).2.1 := la_P_z pz_245
theorem pz_247 : la_P (cE_247 sc).2.1 := la_P_z pz_246
theorem pz_248 : la_P (cE_248 sc).2.1 := la_P_u pz_247 rfl
theorem pz_249 : la_P (cE_249 sc).2.1 := la_P_u pz_248 rfl
theorem pz_250 : la_P (cE_250 sc).2.1 := la_P_z pz_249
theorem pz_251 : la_P (cE_251 sc).2.1 := la_P_u pz_250 rfl
theorem pz_252 : la_P (cE_252 sc).2.1 := la_P_u pz_251 rfl
theorem pz_253 : la_P (cE_253 sc).2.1 := la_P_z pz_252
theorem pz_254 : la_P (cE_254 sc).2.1 := la_P_z pz_253
theorem pz_255 : la_P (cE_255 sc).2.1 := la_P_u pz_254 rfl
theorem pz_256 : la_P (cE_256 sc).2.1 := la_P_z pz_255
theorem pz_257 : la_P (cE_257 sc).2.1 := la_P_u pz_256 rfl
theorem pz_258 : la_P (cE_258 sc).2.1 := la_P_z pz_257
theorem pz_259 : la_P (cE_259 sc).2.1 := la_P_z pz_258
theorem pz_260 : la_P (cE_260 sc).2.1 := la_P_u pz_259 rfl
theorem pz_261 : la_P (cE_261 sc).2.1 := la_P_u pz_260 rfl
theorem pz_262 : la_P (cE_262 sc).2.1 := la_P_z pz_261
theorem pz_263 : la_P (cE_263 sc).2.1 := la_P_u pz_262 rfl
theorem pz_264 : la_P (cE_264 sc).2.1 := la_P_u pz_263 rfl
theorem pz_265 : la_P (cE_265 sc).2.1 := la_P_z pz_264
theorem pz_266 : la_P (cE_266 sc).2.1 := la_P_z pz_265
theorem pz_267 : la_P (cE_267 sc).2.1 := la_P_u pz_266 rfl
theorem pz_268 : la_P (cE_268 sc).2.1 := la_P_z pz_267
theorem pz_269 : la_P (cE_269 sc).2.1 := la_P_u pz_268 rfl
theorem pz_270 : la_P (cE_270 sc).2.1 := la_P_z pz_269
theorem pz_271 : la_P (cE_271 sc).2.1 := la_P_z pz_270
theorem pz_272 : la_P (cE_272 sc).2.1 := la_P_u pz_271 rfl
theorem pz_273 : la_P (cE_273 sc).2.1 := la_P_u pz_272 rfl
theorem pz_274 : la_P (cE_274 sc).2.1 := la_P_z pz_273
theorem pz_275 : la_P (cE_275 sc).2.1 := la_P_u pz_274 rfl
theorem pz_276 : la_P (cE_276 sc).2.1 := la_P_u pz_275 rfl
theorem pz_277 : la_P (cE_277 sc).2.1 := la_P_z pz_276
theorem pz_278 : la_P (cE_278 sc).2.1 := la_P_z pz_277
theorem pz_279 : la_P (cE_279 sc).2.1 := la_P_u pz_278 rfl
theorem pz_280 : la_P (cE_280 sc).2.1 := la_P_z pz_279
theorem pz_281 : la_P (cE_281 sc).2.1 := la_P_u pz_280 rfl
theorem pz_282 : la_P (cE_282 sc).2.1 := la_P_z pz_281
theorem pz_283 : la_P (cE_283 sc).2.1 := la_P_z pz_282
theorem pz_284 : la_P (cE_284 sc).2.1 := la_P_u pz_283 rfl
theorem pz_285 : la_P (cE_285 sc).2.1 := la_P_u pz_284 rfl
theorem pz_286 : la_P (cE_286 sc).2.1 := la_P_z pz_285
theorem pz_287 : la_P (cE_287 sc).2.1 := la_P_u pz_286 rfl
theorem pz_288 : la_P (cE_288 sc).2.1 := la_P_u pz_287 rfl
theorem pz_289 : la_P (cE_289 sc).2.1 := la_P_z pz_288
theorem pz_290 : la_P (cE_290 sc).2.1 := la_P_z pz_289
theorem pz_291 : la_P (cE_291 sc).2.1 := la_P_u pz_290 rfl
theorem pz_292 : la_P (cE_292 sc).2.1 := la_P_z pz_291
theorem pz_293 : la_P (cE_293 sc).2.1 := la_P_u pz_292 rfl
theorem pz_294 : la_P (cE_294 sc).2.1 := la_P_z pz_293
theorem pz_295 : la_P (cE_295 sc).2.1 := la_P_z pz_294
theorem pz_296 : la_P (cE_296 sc).2.1 := la_P_u pz_295 rfl
theorem pz_297 : la_P (cE_297 sc).2.1 := la_P_u pz_296 rfl
theorem pz_298 : la_P (cE_298 sc).2.1 := la_P_z pz_297
theorem pz_299 : la_P (cE_299 sc).2.1 := la_P_u pz_298 rfl
theorem pz_300 : la_P (cE_300 sc).2.1 := la_P_u pz_299 rfl
theorem pz_301 : la_P (cE_301 sc).2.1 := la_P_z pz_300
theorem pz_302 : la_P (cE_302 sc).2.1 := la_P_u pz_301 rfl
theorem pz_303 : la_P (cE_303 sc).2.1 := la_P_z pz_302
theorem pz_304 : la_P (cE_304 sc).2.1 := la_P_u pz_303 rfl
theorem pz_305 : la_P (cE_305 sc).2.1 := la_P_z pz_304
theorem pz_306 : la_P (cE_306 sc).2.1 := la_P_u pz_305 rfl
theorem pz_307 : la_P (cE_307 sc).2.1 := la_P_u pz_306 rfl
theorem pz_308 : la_P (cE_308 sc).2.1 := la_P_z pz_307
theorem pz_309 : la_P (cE_309 sc).2.1 := la_P_u pz_308 rfl
theorem pz_310 : la_P (cE_310 sc).2.1 := la_P_z pz_309
theorem pz_311 : la_P (cE_311 sc).2.1 := la_P_u pz_310 rfl
theorem pz_312 : la_P (cE_312 sc).2.1 := la_P_z pz_311
theorem pz_313 : la_P (cE_313 sc).2.1 := la_P_u pz_312 rfl
theorem pz_314 : la_P (cE_314 sc).2.1 := la_P_u pz_313 rfl
theorem pz_315 : la_P (cE_315 sc).2.1 := la_P_z pz_314
theorem pz_316 : la_P (cE_316 sc).2.1 := la_P_z pz_315
theorem pz_317 : la_P (cE_317 sc).2.1 := la_P_u pz_316 rfl
theorem pz_318 : la_P (cE_318 sc).2.1 := la_P_z pz_317
theorem pz_319 : la_P (cE_319 sc).2.1 := la_P_u pz_318 rfl
theorem pz_320 : la_P (cE_320 sc).2.1 := la_P_z pz_319
theorem pz_321 : la_P (cE_321 sc).2.1 := la_P_u pz_320 rfl
theorem pz_322 : la_P (cE_322 sc).2.1 := la_P_z pz_321
theorem pz_323 : la_P (cE_323 sc).2.1 := la_P_u pz_322 rfl
theorem pz_324 : la_P (cE_324 sc).2.1 := la_P_z pz_323
theorem pz_325 : la_P (cE_325 sc).2.1 := la_P_u pz_324 rfl
theorem pz_326 : la_P (cE_326 sc).2.1 := la_P_z pz_325
theorem pz_327 : la_P (cE_327 sc).2.1 := la_P_u pz_326 rfl
theorem pz_328 : la_P (cE_328 sc).2.1 := la_P_z pz_327
theorem pz_329 : la_P (cE_329 sc).2.1 := la_P_u pz_328 rfl
theorem pz_330 : la_P (cE_330 sc).2.1 := la_P_z pz_329
theorem pz_331 : la_P (cE_331 sc).2.1 := la_P_u pz_330 rfl
theorem pz_332 : la_P (cE_332 sc).2.1 := la_P_u pz_331 rfl
theorem pz_333 : la_P (cE_333 sc).2.1 := la_P_z pz_332
theorem pz_334 : la_P (cE_334 sc).2.1 := la_P_u pz_333 rfl
theorem pz_335 : la_P (cE_335 sc).2.1 := la_P_z pz_334
theorem pz_336 : la_P (cE_336 sc).2.1 := la_P_u pz_335 rfl
theorem pz_337 : la_P (cE_337 sc).2.1 := la_P_z pz_336
theorem pz_338 : la_P (cE_338 sc).2.1 := la_P_u pz_337 rfl
theorem pz_339 : la_P (cE_339 sc).2.1 := la_P_z pz_338
theorem pz_340 : la_P (cE_340 sc).2.1 := la_P_u pz_339 rfl
theorem pz_341 : la_P (cE_341 sc).2.1 := la_P_z pz_340
theorem pz_342 : la_P (cE_342 sc).2.1 := la_P_u pz_341 rfl
theorem pz_343 : la_P (cE_343 sc).2.1 := la_P_z pz_342
theorem pz_344 : la_P (cE_344 sc).2.1 := la_P_u pz_343 rfl
theorem pz_345 : la_P (cE_345 sc).2.1 := la_P_z pz_344
theorem pz_346 : la_P (cE_346 sc).2.1 := la_P_u pz_345 rfl
theorem pz_347 : la_P (cE_347 sc).2.1 := la_P_z pz_346
theorem pz_348 : la_P (cE_348 sc).2.1 := la_P_u pz_347 rfl
theorem pz_349 : la_P (cE_349 sc).2.1 := la_P_z pz_348
theorem pz_350 : la_P (cE_350 sc).2.1 := la_P_u pz_349 rfl
theorem pz_351 : la_P (cE_351 sc).2.1 := la_P_z pz_350
theorem pz_352 : la_P (cE_352 sc).2.1 := la_P_u pz_351 rfl
theorem pz_353 : la_P (cE_353 sc).2.1 := la_P_u pz_352 rfl
theorem pz_354 : la_P (cE_354 sc).2.1 := la_P_z pz_353
theorem pz_355 : la_P (cE_355 sc).2.1 := la_P_z pz_354
theorem pz_356 : la_P (cE_356 sc).2.1 := la_P_u pz_355 rfl
theorem pz_357 : la_P (cE_357 sc).2.1 := la_P_z pz_356
theorem pz_358 : la_P (cE_358 sc).2.1 := la_P_u pz_357 rfl
theorem pz_359 : la_P (cE_359 sc).2.1 := la_P_z pz_358
theorem pz_360 : la_P (cE_360 sc).2.1 := la_P_u pz_359 rfl
theorem pz_361 : la_P (cE_361 sc).2.1 := la_P_z pz_360
theorem pz_362 : la_P (cE_362 sc).2.1 := la_P_u pz_361 rfl
theorem pz_363 : la_P (cE_363 sc).2.1 := la_P_z pz_362
theorem pz_364 : la_P (cE_364 sc).2.1 := la_P_u pz_363 rfl
theorem pz_365 : la_P (cE_365 sc).2.1 := la_P_u pz_364 rfl
theorem pz_366 : la_P (cE_366 sc).2.1 := la_P_z pz_365
theorem pz_367 : la_P (cE_367 sc).2.1 := la_P_z pz_366
theorem pz_368 : la_P (cE_368 sc).2.1 := la_P_u pz_367 rfl
theorem pz_369 : la_P (cE_369 sc).2.1 := la_P_z pz_368
theorem pz_370 : la_P (cE_370 sc).2.1 := la_P_u pz_369 rfl
theorem pz_371 : la_P (cE_371 sc).2.1 := la_P_z pz_370
theorem pz_372 : la_P (cE_372 sc).2.1 := la_P_u pz_371 rfl
theorem pz_373 : la_P (cE_373 sc).2.1 := la_P_z pz_372
theorem pz_374 : la_P (cE_374 sc).2.1 := la_P_u pz_373 rfl
theorem pz_375 : la_P (cE_375 sc).2.1 := la_P_z pz_374
theorem pz_376 : la_P (cE_376 sc).2.1 := la_P_u pz_375 rfl
theorem pz_377 : la_P (cE_377 sc).2.1 := la_P_u pz_376 rfl
theorem pz_378 : la_P (cE_378 sc).2.1 := la_P_z pz_377
theorem pz_379 : la_P (cE_379 sc).2.1 := la_P_u pz_378 rfl
theorem pz_380 : la_P (cE_380 sc).2.1 := la_P_z pz_379
theorem pz_381 : la_P (cE_381 sc).2.1 := la_P_u pz_380 rfl
theorem pz_382 : la_P (cE_382 sc).2.1 := la_P_z pz_381
theorem pz_383 : la_P (cE_383 sc).2.1 := la_P_u pz_382 rfl
theorem pz_384 : la_P (cE_384 sc).2.1 := la_P_z pz_383
theorem pz_385 : la_P (cE_385 sc).2.1 := la_P_u pz_384 rfl
theorem pz_386 : la_P (cE_386 sc).2.1 := la_P_z pz_385
theorem pz_387 : la_P (cE_387 sc).2.1 := la_P_u pz_386 rfl
theorem pz_388 : la_P (cE_388 sc).2.1 := la_P_z pz_387
theorem pz_389 : la_P (cE_389 sc).2.1 := la_P_u pz_388 rfl
theorem pz_390 : la_P (cE_390 sc).2.1 := la_P_z pz_389
theorem pz_391 : la_P (cE_391 sc).2.1 := la_P_u pz_390 rfl
theorem pz_392 : la_P (cE_392 sc).2.1 := la_P_z pz_391
theorem pz_393 : la_P (cE_393 sc).2.1 := la_P_u pz_392 rfl
theorem pz_394 : la_P (cE_394 sc).2.1 := la_P_u pz_393 rfl
theorem pz_395 : la_P (cE_395 sc).2.1 := la_P_z pz_394
theorem pz_396 : la_P (cE_396 sc).2.1 := la_P_z pz_395
theorem pz_397 : la_P (cE_397 sc).2.1 := la_P_u pz_396 rfl
theorem pz_398 : la_P (cE_398 sc).2.1 := la_P_z pz_397
theorem pz_399 : la_P (cE_399 sc).2.1 := la_P_u pz_398 rfl
theorem pz_400 : la_P (cE_400 sc).2.1 := la_P_u pz_399 rfl
theorem pz_401 : la_P (cE_401 sc).2.1 := la_P_z pz_400
theorem pz_402 : la_P (cE_402 sc).2.1 := la_P_z pz_401
theorem pz_403 : la_P (cE_403 sc).2.1 := la_P_u pz_402 rfl
theorem pz_404 : la_P (cE_404 sc).2.1 := la_P_u pz_403 rfl
theorem pz_405 : la_P (cE_405 sc).2.1 := la_P_z pz_404
theorem pz_406 : la_P (cE_406 sc).2.1 := la_P_u pz_405 rfl
theorem pz_407 : la_P (cE_407 sc).2.1 := la_P_z pz_406
theorem pz_408 : la_P (cE_408 sc).2.1 := la_P_z pz_407
theorem pz_409 : la_P (cE_409 sc).2.1 := la_P_u pz_408 rfl
theorem pz_410 : la_P (cE_410 sc).2.1 := la_P_z pz_409
theorem pz_411 : la_P (cE_411 sc).2.1 := la_P_u pz_410 rfl
theorem pz_412 : la_P (cE_412 sc).2.1 := la_P_z pz_411
theorem pz_413 : la_P (cE_413 sc).2.1 := la_P_u pz_412 rfl
theorem pz_414 : la_P (cE_414 sc).2.1 := la_P_z pz_413
theorem pz_415 : la_P (cE_415 sc).2.1 := la_P_u pz_414 rfl
theorem pz_416 : la_P (cE_416 sc).2.1 := la_P_z pz_415
theorem pz_417 : la_P (cE_417 sc).2.1 := la_P_u pz_416 rfl
theorem pz_418 : la_P (cE_418 sc).2.1 := la_P_z pz_417
theorem pz_419 : la_P (cE_419 sc).2.1 := la_P_u pz_418 rfl
theorem pz_420 : la_P (cE_420 sc).2.1 := la_P_z pz_419
theorem pz_421 : la_P (cE_421 sc).2.1 := la_P_u pz_420 rfl
theorem pz_422 : la_P (cE_422 sc).2.1 := la_P_z pz_421
theorem pz_423 : la_P (cE_423 sc).2.1 := la_P_u pz_422 rfl
theorem pz_424 : la_P (cE_424 sc).2.1 := la_P_z pz_423
theorem pz_425 : la_P (cE_425 sc).2.1 := la_P_u pz_424 rfl
theorem pz_426 : la_P (cE_426 sc).2.1 := la_P_z pz_425
theorem pz_427 : la_P (cE_427 sc).2.1 := la_P_u pz_426 rfl
theorem pz_428 : la_P (cE_428 sc).2.1 := la_P_z pz_427
theorem pz_429 : la_P (cE_429 sc).2.1 := la_P_u pz_428 rfl
theorem pz_430 : la_P (cE_430 sc).2.1 := la_P_z pz_429
theorem pz_431 : la_P (cE_431 sc).2.1 := la_P_u pz_430 rfl
theorem pz_432 : la_P (cE_432 sc).2.1 := la_P_z pz_431
theorem pz_433 : la_P (cE_433 sc).2.1 := la_P_u pz_432 rfl
theorem pz_434 : la_P (cE_434 sc).2.1 := la_P_z pz_433
theorem pz_435 : la_P (cE_435 sc).2.1 := la_P_u pz_434 rfl
theorem pz_436 : la_P (cE_436 sc).2.1 := la_P_z pz_435
theorem pz_437 : la_P (cE_437 sc).2.1 := la_P_u pz_436 rfl
theorem pz_438 : la_P (cE_438 sc).2.1 := la_P_z pz_437
theorem pz_439 : la_P (cE_439 sc).2.1 := la_P_u pz_438 rfl
theorem pz_440 : la_P (cE_440 sc).2.1 := la_P_z pz_439
theorem pz_441 : la_P (cE_441 sc).2.1 := la_P_u pz_440 rfl
theorem pz_442 : la_P (cE_442 sc).2.1 := la_P_z pz_441
theorem pz_443 : la_P (cE_443 sc).2.1 := la_P_u pz_442 rfl
theorem pz_444 : la_P (cE_444 sc).2.1 := la_P_z pz_443
theorem pz_445 : la_P (cE_445 sc).2.1 := la_P_u pz_444 rfl
theorem pz_446 : la_P (cE_446 sc).2.1 := la_P_z pz_445
theorem pz_447 : la_P (cE_447 sc).2.1 := la_P_u pz_446 rfl
theorem pz_448 : la_P (cE_448 sc).2.1 := la_P_z pz_447
theorem pz_449 : la_P (cE_449 sc).2.1 := la_P_u pz_448 rfl
theorem pz_450 : la_P (cE_450 sc).2.1 := la_P_z pz_449
theorem pz_451 : la_P (cE_451 sc).2.1 := la_P_u pz_450 rfl
theorem pz_452 : la_P (cE_452 sc).2.1 := la_P_z pz_451
theorem pz_453 : la_P (cE_453 sc).2.1 := la_P_u pz_452 rfl
theorem pz_454 : la_P (cE_454 sc).2.1 := la_P_z pz_453
theorem pz_455 : la_P (cE_455 sc).2.1 := la_P_u pz_454 rfl
theorem pz_456 : la_P (cE_456 sc).2.1 := la_P_z pz_455
theorem pz_457 : la_P (cE_457 sc).2.1 := la_P_u pz_456 rfl
theorem pz_458 : la_P (cE_458 sc).2.1 := la_P_z pz_457
theorem pz_459 : la_P (cE_459 sc).2.1 := la_P_u pz_458 rfl
theorem pz_460 : la_P (cE_460 sc).2.1 := la_P_z pz_459
theorem pz_461 : la_P (cE_461 sc).2.1 := la_P_u pz_460 rfl
theorem pz_462 : la_P (cE_462 sc).2.1 := la_P_z pz_461
theorem pz_463 : la_P (cE_463 sc).2.1 := la_P_u pz_462 rfl
theorem pz_464 : la_P (cE_464 sc).2.1 := la_P_z pz_463
theorem pz_465 : la_P (cE_465 sc).2.1 := la_P_u pz_464 rfl
theorem pz_466 : la_P (cE_466 sc).2.1 := la_P_z pz_465
theorem pz_467 : la_P (cE_467 sc).2.1 := la_P_u pz_466 rfl
theorem pz_468 : la_P (cE_468 sc).2.1 := la_P_z pz_467
theorem pz_469 : la_P (cE_469 sc).2.1 := la_P_u pz_468 rfl
theorem pz_470 : la_P (cE_470 sc).2.1 := la_P_z pz_469
theorem pz_471 : la_P (cE_471 sc).2.1 := la_P_u pz_470 rfl
theorem pz_472 : la_P (cE_472 sc).2.1 := la_P_z pz_471
theorem pz_473 : la_P (cE_473 sc).2.1 := la_P_u pz_472 rfl
theorem pz_474 : la_P (cE_474 sc).2.1 := la_P_z pz_473
theorem pz_475 : la_P (cE_475 sc).2.1 := la_P_u pz_474 rfl
theorem pz_476 : la_P (cE_476 sc).2.1 := la_P_z pz_475
theorem pz_477 : la_P (cE_477 sc).2.1 := la_P_u pz_476 rfl
theorem pz_478 : la_P (cE_478 sc).2.1 := la_P_z pz_477
theorem pz_479 : la_P (cE_479 sc).2.1 := la_P_u pz_478 rfl
theorem pz_480 : la_P (cE_480 sc).2.1 := la_P_z pz_479
theorem pz_481 : la_P (cE_481 sc).2.1 := la_P_u pz_480 rfl
theorem pz_482 : la_P (cE_482 sc).2.1 := la_P_z pz_481
theorem pz_483 : la_P (cE_483 sc).2.1 := la_P_u pz_482 rfl
theorem pz_484 : la_P (cE_484 sc).2.1 := la_P_z pz_483
theorem pz_485 : la_P (cE_485 sc).2.1 := la_P_u pz_484 rfl
theorem pz_486 : la_P (cE_486 sc).2.1 := la_P_z pz_485
theorem pz_487 : la_P (cE_487 sc).2.1 := la_P_u pz_486 rfl
theorem pz_488 : la_P (cE_488 sc).2.1 := la_P_z pz_487
theorem pz_489 : la_P (cE_489 sc).2.1 := la_P_u pz_488 rfl
theorem pz_490 : la_P (cE_490 sc).2.1 := la_P_z pz_489
theorem pz_491 : la_P (cE_491 sc).2.1 := la_P_u pz_490 rfl
theorem pz_492 : la_P (cE_492 sc).2.1 := la_P_z pz_491
theorem pz_493 : la_P (cE_493 sc).2.1 := la_P_u pz_492 rfl
theorem pz_494 : la_P (cE_494 sc).2.1 := la_P_z pz_493
set_option maxRecDepth 100000 in
theorem ec_3 {G : ab_G} {σ : ab_S} : ab_ct G σ (cE_494 sc) 3 = ab_ct G σ (ab_E0 sc) 3 := by
  have h : (cE_494 sc).1 3 = (ab_E0 sc).1 3 := rfl
  unfold ab_ct
  rw [h]
  exact la_cc (fun j hj => match j, hj with | 0, _ => rfl | 1, _ => rfl | 2, _ => rfl | 3, _ => rfl | 4, _ => rfl | 5, _ => rfl | 6, _ => rfl | 7, _ => rfl | 8, _ => rfl | 9, _ => rfl | 10, _ => rfl | 11, _ => rfl | n + 12, hj => absurd hj (fun q => by have h9 : n + 12 < 12 := q; omega))
set_option maxRecDepth 100000 in
theorem ec_4 {G : ab_G} {σ : ab_S} : ab_ct G σ (cE_494 sc) 4 = ab_ct G σ (ab_E0 sc) 4 := by
  have h : (cE_494 sc).1 4 = (ab_E0 sc).1 4 := rfl
  unfold ab_ct
  rw [h]
  exact la_cc (fun j hj => match j, hj with | 0, _ => rfl | 1, _ => rfl | n + 2, hj => absurd hj (fun q => by have h9 : n + 2 < 2 := q; omega))
set_option maxRecDepth 100000 in
theorem ec_5 {G : ab_G} {σ : ab_S} : ab_ct G σ (cE_494 sc) 5 = ab_ct G σ (ab_E0 sc) 5 := by
  have h : (cE_494 sc).1 5 = (ab_E0 sc).1 5 := rfl
  unfold ab_ct
  rw [h]
  rfl
set_option maxRecDepth 100000 in
theorem ec_6 {G : ab_G} {σ : ab_S} : ab_ct G σ (cE_494 sc) 6 = ab_ct G σ (ab_E0 sc) 6 := by
  have h : (cE_494 sc).1 6 = (ab_E0 sc).1 6 := rfl
  have h2 : (cE_494 sc).2.1 6 = (ab_E0 sc).2.1 6 := by
    funext j
    match j with
    | 0 => rfl
    | 1 => rfl
    | 2 => rfl
    | j + 3 => exact pz_494 6 (j + 3) (by show 3 ≤ j + 3; omega)
  unfold ab_ct
  rw [h, h2]
set_option maxRecDepth 100000 in
theorem ec_7 {G : ab_G} {σ : ab_S} : ab_ct G σ (cE_494 sc) 7 = ab_ct G σ (ab_E0 sc) 7 := by
  have h : (cE_494 sc).1 7 = (ab_E0 sc).1 7 := rfl
  unfold ab_ct
  rw [h]
  exact la_cc (fun j hj => match j, hj with | 0, _ => rfl | 1, _ => rfl | 2, _ => rfl | 3, _ => rfl | 4, _ => rfl | 5, _ => rfl | 6, _ => rfl | 7, _ => rfl | 8, _ => rfl | 9, _ => rfl | 10, _ => rfl | 11, _ => rfl | n + 12, hj => absurd hj (fun q => by have h9 : n + 12 < 12 := q; omega))
set_option maxRecDepth 100000 in
theorem ec_8 {G : ab_G} {σ : ab_S} : ab_ct G σ (cE_494 sc) 8 = ab_ct G σ (ab_E0 sc) 8 := by
  have h : (cE_494 sc).1 8 = (ab_E0 sc).1 8 := rfl
  unfold ab_ct
  rw [h]
  rfl
set_option maxRecDepth 100000 in
theorem ec_9 {G : ab_G} {σ : ab_S} : ab_ct G σ (cE_494 sc) 9 = ab_ct G σ (ab_E0 sc) 9 := by
  have h : (cE_494 sc).1 9 = (ab_E0 sc).1 9 := rfl
  unfold ab_ct
  rw [h]
  exact la_cc (fun j hj => match j, hj with | 0, _ => rfl | n + 1, hj => absurd hj (fun q => by have h9 : n + 1 < 1 := q; omega))
set_option maxRecDepth 100000 in
theorem ec_10 {G : ab_G} {σ : ab_S} : ab_ct G σ (cE_494 sc) 10 = ab_ct G σ (ab_E0 sc) 10 := by
  have h : (cE_494 sc).1 10 = (ab_E0 sc).1 10 := rfl
  unfold ab_ct
  rw [h]
  rfl
set_option maxRecDepth 100000 in
theorem ec_11 {G : ab_G} {σ : ab_S} : ab_ct G σ (cE_494 sc) 11 = ab_ct G σ (ab_E0 sc) 11 := by
  have h : (cE_494 sc).1 11 = (ab_E0 sc).1 11 := rfl
  have h2 : (cE_494 sc).2.1 11 = (ab_E0 sc).2.1 11 := by
    funext j
    match j with
    | 0 => rfl
    | 1 => rfl
    | 2 => rfl
    | 3 => rfl
    | 4 => rfl
    | 5 => rfl
    | 6 => rfl
    | j + 7 => exact pz_494 11 (j + 7) (by show 7 ≤ j + 7; omega)
  unfold ab_ct
  rw [h, h2]
set_option maxRecDepth 100000 in
theorem ec_12 {G : ab_G} {σ : ab_S} : ab_ct G σ (cE_494 sc) 12 = ab_ct G σ (ab_E0 sc) 12 := by
  have h : (cE_494 sc).1 12 = (ab_E0 sc).1 12 := rfl
  unfold ab_ct
  rw [h]
  exact la_cc (fun j hj => match j, hj with | 0, _ => rfl | 1, _ => rfl | 2, _ => rfl | 3, _ => rfl | 4, _ => rfl | 5, _ => rfl | 6, _ => rfl | 7, _ => rfl | n + 8, hj => absurd hj (fun q => by have h9 : n + 8 < 8 := q; omega))
set_option maxRecDepth 100000 in
theorem ec_13 {G : ab_G} {σ : ab_S} : ab_ct G σ (cE_494 sc) 13 = ab_ct G σ (ab_E0 sc) 13 := by
  have h : (cE_494 sc).1 13 = (ab_E0 sc).1 13 := rfl
  unfold ab_ct
  rw [h]
  rfl
set_option maxRecDepth 100000 in
theorem ec_14 {G : ab_G} {σ : ab_S} : ab_ct G σ (cE_494 sc) 14 = ab_ct G σ (ab_E0 sc) 14 := by
  have h : (cE_494 sc).1 14 = (ab_E0 sc).1 14 := rfl
  unfold ab_ct
  rw [h]
  rfl
set_option maxRecDepth 100000 in
theorem ec_15 {G : ab_G} {σ : ab_S} : ab_ct G σ (cE_494 sc) 15 = ab_ct G σ (ab_E0 sc) 15 := by
  have h : (cE_494 sc).1 15 = (ab_E0 sc).1 15 := rfl
  unfold ab_ct
  rw [h]
  exact la_cc (fun j hj => match j, hj with | 0, _ => rfl | n + 1, hj => absurd hj (fun q => by have h9 : n + 1 < 1 := q; omega))
set_option maxRecDepth 100000 in
theorem ec_16 {G : ab_G} {σ : ab_S} : ab_ct G σ (cE_494 sc) 16 = ab_ct G σ (ab_E0 sc) 16 := by
  have h : (cE_494 sc).1 16 = (ab_E0 sc).1 16 := rfl
  unfold ab_ct
  rw [h]
  rfl
set_option maxRecDepth 100000 in
theorem ec_17 {G : ab_G} {σ : ab_S} : ab_ct G σ (cE_494 sc) 17 = ab_ct G σ (ab_E0 sc) 17 := by
  have h : (cE_494 sc).1 17 = (ab_E0 sc).1 17 := rfl
  unfold ab_ct
  rw [h]
  rfl
set_option maxRecDepth 100000 in
theorem ec_18 {G : ab_G} {σ : ab_S} : ab_ct G σ (cE_494 sc) 18 = ab_ct G σ (ab_E0 sc) 18 := by
  have h : (cE_494 sc).1 18 = (ab_E0 sc).1 18 := rfl
  unfold ab_ct
  rw [h]
  exact la_cc (fun j hj => match j, hj with | 0, _ => rfl | 1, _ => rfl | 2, _ => rfl | 3, _ => rfl | 4, _ => rfl | 5, _ => rfl | 6, _ => rfl | 7, _ => rfl | n + 8, hj => absurd hj (fun q => by have h9 : n + 8 < 8 := q; omega))
set_option maxRecDepth 100000 in
theorem ec_19 {G : ab_G} {σ : ab_S} : ab_ct G σ (cE_494 sc) 19 = ab_ct G σ (ab_E0 sc) 19 := by
  have h : (cE_494 sc).1 19 = (ab_E0 sc).1 19 := rfl
  unfold ab_ct
  rw [h]
  rfl
set_option maxRecDepth 100000 in
theorem ec_20 {G : ab_G} {σ : ab_S} : ab_ct G σ (cE_494 sc) 20 = ab_ct G σ (ab_E0 sc) 20 := by
  have h : (cE_494 sc).1 20 = (ab_E0 sc).1 20 := rfl
  unfold ab_ct
  rw [h]
  rfl
set_option maxRecDepth 100000 in
theorem ec_21 {G : ab_G} {σ : ab_S} : ab_ct G σ (cE_494 sc) 21 = ab_ct G σ (ab_E0 sc) 21 := by
  have h : (cE_494 sc).1 21 = (ab_E0 sc).1 21 := rfl
  unfold ab_ct
  rw [h]
  exact la_cc (fun j hj => match j, hj with | 0, _ => rfl | n + 1, hj => absurd hj (fun q => by have h9 : n + 1 < 1 := q; omega))
set_option maxRecDepth 100000 in
theorem ec_22 {G : ab_G} {σ : ab_S} : ab_ct G σ (cE_494 sc) 22 = ab_ct G σ (ab_E0 sc) 22 := by
  have h : (cE_494 sc).1 22 = (ab_E0 sc).1 22 := rfl
  unfold ab_ct
  rw [h]
  rfl
set_option maxRecDepth 100000 in
theorem ec_23 {G : ab_G} {σ : ab_S} : ab_ct G σ (cE_494 sc) 23 = ab_ct G σ (ab_E0 sc) 23 := by
  have h : (cE_494 sc).1 23 = (ab_E0 sc).1 23 := rfl
  unfold ab_ct
  rw [h]
  rfl
set_option maxRecDepth 100000 in
theorem ec_24 {G : ab_G} {σ : ab_S} : ab_ct G σ (cE_494 sc) 24 = ab_ct G σ (ab_E0 sc) 24 := by
  have h : (cE_494 sc).1 24 = (ab_E0 sc).1 24 := rfl
  unfold ab_ct
  rw [h]
  exact la_cc (fun j hj => match j, hj with | 0, _ => rfl | 1, _ => rfl | 2, _ => rfl | 3, _ => rfl | 4, _ => rfl | 5, _ => rfl | 6, _ => rfl | 7, _ => rfl | n + 8, hj => absurd hj (fun q => by have h9 : n + 8 < 8 := q; omega))
set_option maxRecDepth 100000 in
theorem ec_25 {G : ab_G} {σ : ab_S} : ab_ct G σ (cE_494 sc) 25 = ab_ct G σ (ab_E0 sc) 25 := by
  have h : (cE_494 sc).1 25 = (ab_E0 sc).1 25 := rfl
  unfold ab_ct
  rw [h]
  rfl
set_option maxRecDepth 100000 in
theorem ec_26 {G : ab_G} {σ : ab_S} : ab_ct G σ (cE_494 sc) 26 = ab_ct G σ (ab_E0 sc) 26 := by
  have h : (cE_494 sc).1 26 = (ab_E0 sc).1 26 := rfl
  unfold ab_ct
  rw [h]
  rfl
set_option maxRecDepth 100000 in
theorem ec_27 {G : ab_G} {σ : ab_S} : ab_ct G σ (cE_494 sc) 27 = ab_ct G σ (ab_E0 sc) 27 := by
  have h : (cE_494 sc).1 27 = (ab_E0 sc).1 27 := rfl
  unfold ab_ct
  rw [h]
  exact la_cc (fun j hj => match j, hj with | 0, _ => rfl | n + 1, hj => absurd hj (fun q => by have h9 : n + 1 < 1 := q; omega))
set_option maxRecDepth 100000 in
theorem ec_28 {G : ab_G} {σ : ab_S} : ab_ct G σ (cE_494 sc) 28 = ab_ct G σ (ab_E0 sc) 28 := by
  have h : (cE_494 sc).1 28 = (ab_E0 sc).1 28 := rfl
  unfold ab_ct
  rw [h]
  rfl
set_option maxRecDepth 100000 in
theorem ec_29 {G : ab_G} {σ : ab_S} : ab_ct G σ (cE_494 sc) 29 = ab_ct G σ (ab_E0 sc) 29 := by
  have h : (cE_494 sc).1 29 = (ab_E0 sc).1 29 := rfl
  unfold ab_ct
  rw [h]
  rfl
set_option maxRecDepth 100000 in
theorem ec_30 {G : ab_G} {σ : ab_S} : ab_ct G σ (cE_494 sc) 30 = ab_ct G σ (ab_E0 sc) 30 := by
  have h : (cE_494 sc).1 30 = (ab_E0 sc).1 30 := rfl
  unfold ab_ct
  rw [h]
  exact la_cc (fun j hj => match j, hj with | 0, _ => rfl | 1, _ => rfl | 2, _ => rfl | 3, _ => rfl | 4, _ => rfl | 5, _ => rfl | 6, _ => rfl | 7, _ => rfl | n + 8, hj => absurd hj (fun q => by have h9 : n + 8 < 8 := q; omega))
set_option maxRecDepth 100000 in
theorem ec_31 {G : ab_G} {σ : ab_S} : ab_ct G σ (cE_494 sc) 31 = ab_ct G σ (ab_E0 sc) 31 := by
  have h : (cE_494 sc).1 31 = (ab_E0 sc).1 31 := rfl
  unfold ab_ct
  rw [h]
  rfl
set_option maxRecDepth 100000 in
theorem ec_32 {G : ab_G} {σ : ab_S} : ab_ct G σ (cE_494 sc) 32 = ab_ct G σ (ab_E0 sc) 32 := by
  have h : (cE_494 sc).1 32 = (ab_E0 sc).1 32 := rfl
  unfold ab_ct
  rw [h]
  rfl
set_option maxRecDepth 100000 in
theorem ec_33 {G : ab_G} {σ : ab_S} : ab_ct G σ (cE_494 sc) 33 = ab_ct G σ (ab_E0 sc) 33 := by
  have h : (cE_494 sc).1 33 = (ab_E0 sc).1 33 := rfl
  unfold ab_ct
  rw [h]
  exact la_cc (fun j hj => match j, hj with | 0, _ => rfl | n + 1, hj => absurd hj (fun q => by have h9 : n + 1 < 1 := q; omega))
set_option maxRecDepth 100000 in
theorem ec_34 {G : ab_G} {σ : ab_S} : ab_ct G σ (cE_494 sc) 34 = ab_ct G σ (ab_E0 sc) 34 := by
  have h : (cE_494 sc).1 34 = (ab_E0 sc).1 34 := rfl
  unfold ab_ct
  rw [h]
  rfl
set_option maxRecDepth 100000 in
theorem ec_35 {G : ab_G} {σ : ab_S} : ab_ct G σ (cE_494 sc) 35 = ab_ct G σ (ab_E0 sc) 35 := by
  have h : (cE_494 sc).1 35 = (ab_E0 sc).1 35 := rfl
  unfold ab_ct
  rw [h]
  rfl
set_option maxRecDepth 100000 in
theorem ec_36 {G : ab_G} {σ : ab_S} : ab_ct G σ (cE_494 sc) 36 = ab_ct G σ (ab_E0 sc) 36 := by
  have h : (cE_494 sc).1 36 = (ab_E0 sc).1 36 := rfl
  unfold ab_ct
  rw [h]
  exact la_cc (fun j hj => match j, hj with | 0, _ => rfl | 1, _ => rfl | 2, _ => rfl | 3, _ => rfl | 4, _ => rfl | 5, _ => rfl | 6, _ => rfl | 7, _ => rfl | n + 8, hj => absurd hj (fun q => by have h9 : n + 8 < 8 := q; omega))
set_option maxRecDepth 100000 in
theorem ec_37 {G : ab_G} {σ : ab_S} : ab_ct G σ (cE_494 sc) 37 = ab_ct G σ (ab_E0 sc) 37 := by
  have h : (cE_494 sc).1 37 = (ab_E0 sc).1 37 := rfl
  unfold ab_ct
  rw [h]
  rfl
set_option maxRecDepth 100000 in
theorem ec_38 {G : ab_G} {σ : ab_S} : ab_ct G σ (cE_494 sc) 38 = ab_ct G σ (ab_E0 sc) 38 := by
  have h : (cE_494 sc).1 38 = (ab_E0 sc).1 38 := rfl
  unfold ab_ct
  rw [h]
  rfl
set_option maxRecDepth 100000 in
theorem ec_39 {G : ab_G} {σ : ab_S} : ab_ct G σ (cE_494 sc) 39 = ab_ct G σ (ab_E0 sc) 39 := by
  have h : (cE_494 sc).1 39 = (ab_E0 sc).1 39 := rfl
  unfold ab_ct
  rw [h]
  exact la_cc (fun j hj => match j, hj with | 0, _ => rfl | n + 1, hj => absurd hj (fun q => by have h9 : n + 1 < 1 := q; omega))
set_option maxRecDepth 100000 in
theorem ec_40 {G : ab_G} {σ : ab_S} : ab_ct G σ (cE_494 sc) 40 = ab_ct G σ (ab_E0 sc) 40 := by
  have h : (cE_494 sc).1 40 = (ab_E0 sc).1 40 := rfl
  unfold ab_ct
  rw [h]
  rfl
set_option maxRecDepth 100000 in
theorem ec_41 {G : ab_G} {σ : ab_S} : ab_ct G σ (cE_494 sc) 41 = ab_ct G σ (ab_E0 sc) 41 := by
  have h : (cE_494 sc).1 41 = (ab_E0 sc).1 41 := rfl
  unfold ab_ct
  rw [h]
  rfl
set_option maxRecDepth 100000 in
theorem ec_42 {G : ab_G} {σ : ab_S} : ab_ct G σ (cE_494 sc) 42 = ab_ct G σ (ab_E0 sc) 42 := by
  have h : (cE_494 sc).1 42 = (ab_E0 sc).1 42 := rfl
  unfold ab_ct
  rw [h]
  exact la_cc (fun j hj => match j, hj with | 0, _ => rfl | 1, _ => rfl | 2, _ => rfl | 3, _ => rfl | 4, _ => rfl | 5, _ => rfl | 6, _ => rfl | 7, _ => rfl | n + 8, hj => absurd hj (fun q => by have h9 : n + 8 < 8 := q; omega))
set_option maxRecDepth 100000 in
theorem ec_43 {G : ab_G} {σ : ab_S} : ab_ct G σ (cE_494 sc) 43 = ab_ct G σ (ab_E0 sc) 43 := by
  have h : (cE_494 sc).1 43 = (ab_E0 sc).1 43 := rfl
  unfold ab_ct
  rw [h]
  rfl
set_option maxRecDepth 100000 in
theorem ec_44 {G : ab_G} {σ : ab_S} : ab_ct G σ (cE_494 sc) 44 = ab_ct G σ (ab_E0 sc) 44 := by
  have h : (cE_494 sc).1 44 = (ab_E0 sc).1 44 := rfl
  unfold ab_ct
  rw [h]
  rfl
set_option maxRecDepth 100000 in
theorem ec_45 {G : ab_G} {σ : ab_S} : ab_ct G σ (cE_494 sc) 45 = ab_ct G σ (ab_E0 sc) 45 := by
  have h : (cE_494 sc).1 45 = (ab_E0 sc).1 45 := rfl
  unfold ab_ct
  rw [h]
  exact la_cc (fun j hj => match j, hj with | 0, _ => rfl | n + 1, hj => absurd hj (fun q => by have h9 : n + 1 < 1 := q; omega))
set_option maxRecDepth 100000 in
theorem ec_46 {G : ab_G} {σ : ab_S} : ab_ct G σ (cE_494 sc) 46 = ab_ct G σ (ab_E0 sc) 46 := by
  have h : (cE_494 sc).1 46 = (ab_E0 sc).1 46 := rfl
  unfold ab_ct
  rw [h]
  rfl
set_option maxRecDepth 100000 in
theorem ec_47 {G : ab_G} {σ : ab_S} : ab_ct G σ (cE_494 sc) 47 = ab_ct G σ (ab_E0 sc) 47 := by
  have h : (cE_494 sc).1 47 = (ab_E0 sc).1 47 := rfl
  unfold ab_ct
  rw [h]
  rfl
set_option maxRecDepth 100000 in
theorem ec_48 {G : ab_G} {σ : ab_S} : ab_ct G σ (cE_494 sc) 48 = ab_ct G σ (ab_E0 sc) 48 := by
  have h : (cE_494 sc).1 48 = (ab_E0 sc).1 48 := rfl
  unfold ab_ct
  rw [h]
  exact la_cc (fun j hj => match j, hj with | 0, _ => rfl | 1, _ => rfl | 2, _ => rfl | 3, _ => rfl | 4, _ => rfl | 5, _ => rfl | 6, _ => rfl | 7, _ => rfl | n + 8, hj => absurd hj (fun q => by have h9 : n + 8 < 8 := q; omega))
set_option maxRecDepth 100000 in
theorem ec_49 {G : ab_G} {σ : ab_S} : ab_ct G σ (cE_494 sc) 49 = ab_ct G σ (ab_E0 sc) 49 := by
  have h : (cE_494 sc).1 49 = (ab_E0 sc).1 49 := rfl
  unfold ab_ct
  rw [h]
  rfl
set_option maxRecDepth 100000 in
theorem ec_50 {G : ab_G} {σ : ab_S} : ab_ct G σ (cE_494 sc) 50 = ab_ct G σ (ab_E0 sc) 50 := by
  have h : (cE_494 sc).1 50 = (ab_E0 sc).1 50 := rfl
  unfold ab_ct
  rw [h]
  rfl
set_option maxRecDepth 100000 in
theorem ec_51 {G : ab_G} {σ : ab_S} : ab_ct G σ (cE_494 sc) 51 = ab_ct G σ (ab_E0 sc) 51 := by
  have h : (cE_494 sc).1 51 = (ab_E0 sc).1 51 := rfl
  unfold ab_ct
  rw [h]
  exact la_cc (fun j hj => match j, hj with | 0, _ => rfl | n + 1, hj => absurd hj (fun q => by have h9 : n + 1 < 1 := q; omega))
set_option maxRecDepth 100000 in
theorem ec_52 {G : ab_G} {σ : ab_S} : ab_ct G σ (cE_494 sc) 52 = ab_ct G σ (ab_E0 sc) 52 := by
  have h : (cE_494 sc).1 52 = (ab_E0 sc).1 52 := rfl
  unfold ab_ct
  rw [h]
  rfl
set_option maxRecDepth 100000 in
theorem ec_53 {G : ab_G} {σ : ab_S} : ab_ct G σ (cE_494 sc) 53 = ab_ct G σ (ab_E0 sc) 53 := by
  have h : (cE_494 sc).1 53 = (ab_E0 sc).1 53 := rfl
  unfold ab_ct
  rw [h]
  rfl
set_option maxRecDepth 100000 in
theorem ec_54 {G : ab_G} {σ : ab_S} : ab_ct G σ (cE_494 sc) 54 = ab_ct G σ (ab_E0 sc) 54 := by
  have h : (cE_494 sc).1 54 = (ab_E0 sc).1 54 := rfl
  unfold ab_ct
  rw [h]
  rfl
set_option maxRecDepth 100000 in
theorem ec_55 {G : ab_G} {σ : ab_S} : ab_ct G σ (cE_494 sc) 55 = ab_ct G σ (ab_E0 sc) 55 := by
  have h : (cE_494 sc).1 55 = (ab_E0 sc).1 55 := rfl
  unfold ab_ct
  rw [h]
  rfl
set_option maxRecDepth 100000 in
theorem ec_56 {G : ab_G} {σ : ab_S} : ab_ct G σ (cE_494 sc) 56 = ab_ct G σ (ab_E0 sc) 56 := by
  have h : (cE_494 sc).1 56 = (ab_E0 sc).1 56 := rfl
  unfold ab_ct
  rw [h]
  rfl
set_option maxRecDepth 100000 in
theorem ec_57 {G : ab_G} {σ : ab_S} : ab_ct G σ (cE_494 sc) 57 = ab_ct G σ (ab_E0 sc) 57 := by
  have h : (cE_494 sc).1 57 = (ab_E0 sc).1 57 := rfl
  unfold ab_ct
  rw [h]
  exact la_cc (fun j hj => match j, hj with | 0, _ => rfl | 1, _ => rfl | 2, _ => rfl | 3, _ => rfl | 4, _ => rfl | 5, _ => rfl | 6, _ => rfl | 7, _ => rfl | 8, _ => rfl | 9, _ => rfl | 10, _ => rfl | 11, _ => rfl | n + 12, hj => absurd hj (fun q => by have h9 : n + 12 < 12 := q; omega))
set_option maxRecDepth 100000 in
theorem ec_58 {G : ab_G} {σ : ab_S} : ab_ct G σ (cE_494 sc) 58 = ab_ct G σ (ab_E0 sc) 58 := by
  have h : (cE_494 sc).1 58 = (ab_E0 sc).1 58 := rfl
  unfold ab_ct
  rw [h]
  rfl
set_option maxRecDepth 100000 in
theorem ec_59 {G : ab_G} {σ : ab_S} : ab_ct G σ (cE_494 sc) 59 = ab_ct G σ (ab_E0 sc) 59 := by
  have h : (cE_494 sc).1 59 = (ab_E0 sc).1 59 := rfl
  unfold ab_ct
  rw [h]
  exact la_cc (fun j hj => match j, hj with | 0, _ => rfl | n + 1, hj => absurd hj (fun q => by have h9 : n + 1 < 1 := q; omega))
set_option maxRecDepth 100000 in
theorem ec_60 {G : ab_G} {σ : ab_S} : ab_ct G σ (cE_494 sc) 60 = ab_ct G σ (ab_E0 sc) 60 := by
  have h : (cE_494 sc).1 60 = (ab_E0 sc).1 60 := rfl
  unfold ab_ct
  rw [h]
  rfl
set_option maxRecDepth 100000 in
theorem ec_61 {G : ab_G} {σ : ab_S} : ab_ct G σ (cE_494 sc) 61 = ab_ct G σ (ab_E0 sc) 61 := by
  have h : (cE_494 sc).1 61 = (ab_E0 sc).1 61 := rfl
  have h2 : (cE_494 sc).2.1 61 = (ab_E0 sc).2.1 61 := by
    funext j
    match j with
    | 0 => rfl
    | 1 => rfl
    | 2 => rfl
    | 3 => rfl
    | 4 => rfl
    | 5 => rfl
    | 6 => rfl
    | j + 7 => exact pz_494 61 (j + 7) (by show 7 ≤ j + 7; omega)
  unfold ab_ct
  rw [h, h2]
set_option maxRecDepth 100000 in
theorem ec_62 {G : ab_G} {σ : ab_S} : ab_ct G σ (cE_494 sc) 62 = ab_ct G σ (ab_E0 sc) 62 := by
  have h : (cE_494 sc).1 62 = (ab_E0 sc).1 62 := rfl
  unfold ab_ct
  rw [h]
  exact la_cc (fun j hj => match j, hj with | 0, _ => rfl | 1, _ => rfl | 2, _ => rfl | 3, _ => rfl | 4, _ => rfl | 5, _ => rfl | 6, _ => rfl | 7, _ => rfl | n + 8, hj => absurd hj (fun q => by have h9 : n + 8 < 8 := q; omega))
set_option maxRecDepth 100000 in
theorem ec_63 {G : ab_G} {σ : ab_S} : ab_ct G σ (cE_494 sc) 63 = ab_ct G σ (ab_E0 sc) 63 := by
  have h : (cE_494 sc).1 63 = (ab_E0 sc).1 63 := rfl
  unfold ab_ct
  rw [h]
  rfl
set_option maxRecDepth 100000 in
theorem ec_64 {G : ab_G} {σ : ab_S} : ab_ct G σ (cE_494 sc) 64 = ab_ct G σ (ab_E0 sc) 64 := by
  have h : (cE_494 sc).1 64 = (ab_E0 sc).1 64 := rfl
  unfold ab_ct
  rw [h]
  rfl
set_option maxRecDepth 100000 in
theorem ec_65 {G : ab_G} {σ : ab_S} : ab_ct G σ (cE_494 sc) 65 = ab_ct G σ (ab_E0 sc) 65 := by
  have h : (cE_494 sc).1 65 = (ab_E0 sc).1 65 := rfl
  unfold ab_ct
  rw [h]
  exact la_cc (fun j hj => match j, hj with | 0, _ => rfl | n + 1, hj => absurd hj (fun q => by have h9 : n + 1 < 1 := q; omega))
set_option maxRecDepth 100000 in
theorem ec_66 {G : ab_G} {σ : ab_S} : ab_ct G σ (cE_494 sc) 66 = ab_ct G σ (ab_E0 sc) 66 := by
  have h : (cE_494 sc).1 66 = (ab_E0 sc).1 66 := rfl
  unfold ab_ct
  rw [h]
  rfl
set_option maxRecDepth 100000 in
theorem ec_67 {G : ab_G} {σ : ab_S} : ab_ct G σ (cE_494 sc) 67 = ab_ct G σ (ab_E0 sc) 67 := by
  have h : (cE_494 sc).1 67 = (ab_E0 sc).1 67 := rfl
  unfold ab_ct
  rw [h]
  rfl
set_option maxRecDepth 100000 in
theorem ec_68 {G : ab_G} {σ : ab_S} : ab_ct G σ (cE_494 sc) 68 = ab_ct G σ (ab_E0 sc) 68 := by
  have h : (cE_494 sc).1 68 = (ab_E0 sc).1 68 := rfl
  unfold ab_ct
  rw [h]
  exact la_cc (fun j hj => match j, hj with | 0, _ => rfl | 1, _ => rfl | 2, _ => rfl | 3, _ => rfl | 4, _ => rfl | 5, _ => rfl | 6, _ => rfl | 7, _ => rfl | n + 8, hj => absurd hj (fun q => by have h9 : n + 8 < 8 := q; omega))
set_option maxRecDepth 100000 in
theorem ec_69 {G : ab_G} {σ : ab_S} : ab_ct G σ (cE_494 sc) 69 = ab_ct G σ (ab_E0 sc) 69 := by
  have h : (cE_494 sc).1 69 = (ab_E0 sc).1 69 := rfl
  unfold ab_ct
  rw [h]
  rfl
set_option maxRecDepth 100000 in
theorem ec_70 {G : ab_G} {σ : ab_S} : ab_ct G σ (cE_494 sc) 70 = ab_ct G σ (ab_E0 sc) 70 := by
  have h : (cE_494 sc).1 70 = (ab_E0 sc).1 70 := rfl
  unfold ab_ct
  rw [h]
  rfl
set_option maxRecDepth 100000 in
theorem ec_71 {G : ab_G} {σ : ab_S} : ab_ct G σ (cE_494 sc) 71 = ab_ct G σ (ab_E0 sc) 71 := by
  have h : (cE_494 sc).1 71 = (ab_E0 sc).1 71 := rfl
  unfold ab_ct
  rw [h]
  exact la_cc (fun j hj => match j, hj with | 0, _ => rfl | n + 1, hj => absurd hj (fun q => by have h9 : n + 1 < 1 := q; omega))
set_option maxRecDepth 100000 in
theorem ec_72 {G : ab_G} {σ : ab_S} : ab_ct G σ (cE_494 sc) 72 = ab_ct G σ (ab_E0 sc) 72 := by
  have h : (cE_494 sc).1 72 = (ab_E0 sc).1 72 := rfl
  unfold ab_ct
  rw [h]
  rfl
set_option maxRecDepth 100000 in
theorem ec_73 {G : ab_G} {σ : ab_S} : ab_ct G σ (cE_494 sc) 73 = ab_ct G σ (ab_E0 sc) 73 := by
  have h : (cE_494 sc).1 73 = (ab_E0 sc).1 73 := rfl
  unfold ab_ct
  rw [h]
  rfl
set_option maxRecDepth 100000 in
theorem ec_74 {G : ab_G} {σ : ab_S} : ab_ct G σ (cE_494 sc) 74 = ab_ct G σ (ab_E0 sc) 74 := by
  have h : (cE_494 sc).1 74 = (ab_E0 sc).1 74 := rfl
  unfold ab_ct
  rw [h]
  exact la_cc (fun j hj => match j, hj with | 0, _ => rfl | 1, _ => rfl | 2, _ => rfl | 3, _ => rfl | 4, _ => rfl | 5, _ => rfl | 6, _ => rfl | 7, _ => rfl | n + 8, hj => absurd hj (fun q => by have h9 : n + 8 < 8 := q; omega))
set_option maxRecDepth 100000 in
theorem ec_75 {G : ab_G} {σ : ab_S} : ab_ct G σ (cE_494 sc) 75 = ab_ct G σ (ab_E0 sc) 75 := by
  have h : (cE_494 sc).1 75 = (ab_E0 sc).1 75 := rfl
  unfold ab_ct
  rw [h]
  rfl
set_option maxRecDepth 100000 in
theorem ec_76 {G : ab_G} {σ : ab_S} : ab_ct G σ (cE_494 sc) 76 = ab_ct G σ (ab_E0 sc) 76 := by
  have h : (cE_494 sc).1 76 = (ab_E0 sc).1 76 := rfl
  unfold ab_ct
  rw [h]
  rfl
set_option maxRecDepth 100000 in
theorem ec_77 {G : ab_G} {σ : ab_S} : ab_ct G σ (cE_494 sc) 77 = ab_ct G σ (ab_E0 sc) 77 := by
  have h : (cE_494 sc).1 77 = (ab_E0 sc).1 77 := rfl
  unfold ab_ct
  rw [h]
  exact la_cc (fun j hj => match j, hj with | 0, _ => rfl | n + 1, hj => absurd hj (fun q => by have h9 : n + 1 < 1 := q; omega))
set_option maxRecDepth 100000 in
theorem ec_78 {G : ab_G} {σ : ab_S} : ab_ct G σ (cE_494 sc) 78 = ab_ct G σ (ab_E0 sc) 78 := by
  have h : (cE_494 sc).1 78 = (ab_E0 sc).1 78 := rfl
  unfold ab_ct
  rw [h]
  rfl
set_option maxRecDepth 100000 in
theorem ec_79 {G : ab_G} {σ : ab_S} : ab_ct G σ (cE_494 sc) 79 = ab_ct G σ (ab_E0 sc) 79 := by
  have h : (cE_494 sc).1 79 = (ab_E0 sc).1 79 := rfl
  unfold ab_ct
  rw [h]
  rfl
set_option maxRecDepth 100000 in
theorem ec_80 {G : ab_G} {σ : ab_S} : ab_ct G σ (cE_494 sc) 80 = ab_ct G σ (ab_E0 sc) 80 := by
  have h : (cE_494 sc).1 80 = (ab_E0 sc).1 80 := rfl
  unfold ab_ct
  rw [h]
  exact la_cc (fun j hj => match j, hj with | 0, _ => rfl | 1, _ => rfl | 2, _ => rfl | 3, _ => rfl | 4, _ => rfl | 5, _ => rfl | 6, _ => rfl | 7, _ => rfl | n + 8, hj => absurd hj (fun q => by have h9 : n + 8 < 8 := q; omega))
set_option maxRecDepth 100000 in
theorem ec_81 {G : ab_G} {σ : ab_S} : ab_ct G σ (cE_494 sc) 81 = ab_ct G σ (ab_E0 sc) 81 := by
  have h : (cE_494 sc).1 81 = (ab_E0 sc).1 81 := rfl
  unfold ab_ct
  rw [h]
  rfl
set_option maxRecDepth 100000 in
theorem ec_82 {G : ab_G} {σ : ab_S} : ab_ct G σ (cE_494 sc) 82 = ab_ct G σ (ab_E0 sc) 82 := by
  have h : (cE_494 sc).1 82 = (ab_E0 sc).1 82 := rfl
  unfold ab_ct
  rw [h]
  rfl
set_option maxRecDepth 100000 in
theorem ec_83 {G : ab_G} {σ : ab_S} : ab_ct G σ (cE_494 sc) 83 = ab_ct G σ (ab_E0 sc) 83 := by
  have h : (cE_494 sc).1 83 = (ab_E0 sc).1 83 := rfl
  unfold ab_ct
  rw [h]
  exact la_cc (fun j hj => match j, hj with | 0, _ => rfl | n + 1, hj => absurd hj (fun q => by have h9 : n + 1 < 1 := q; omega))
set_option maxRecDepth 100000 in
theorem ec_84 {G : ab_G} {σ : ab_S} : ab_ct G σ (cE_494 sc) 84 = ab_ct G σ (ab_E0 sc) 84 := by
  have h : (cE_494 sc).1 84 = (ab_E0 sc).1 84 := rfl
  unfold ab_ct
  rw [h]
  rfl
set_option maxRecDepth 100000 in
theorem ec_85 {G : ab_G} {σ : ab_S} : ab_ct G σ (cE_494 sc) 85 = ab_ct G σ (ab_E0 sc) 85 := by
  have h : (cE_494 sc).1 85 = (ab_E0 sc).1 85 := rfl
  unfold ab_ct
  rw [h]
  rfl
set_option maxRecDepth 100000 in
theorem ec_86 {G : ab_G} {σ : ab_S} : ab_ct G σ (cE_494 sc) 86 = ab_ct G σ (ab_E0 sc) 86 := by
  have h : (cE_494 sc).1 86 = (ab_E0 sc).1 86 := rfl
  unfold ab_ct
  rw [h]
  exact la_cc (fun j hj => match j, hj with | 0, _ => rfl | 1, _ => rfl | 2, _ => rfl | 3, _ => rfl | 4, _ => rfl | 5, _ => rfl | 6, _ => rfl | 7, _ => rfl | n + 8, hj => absurd hj (fun q => by have h9 : n + 8 < 8 := q; omega))
set_option maxRecDepth 100000 in
theorem ec_87 {G : ab_G} {σ : ab_S} : ab_ct G σ (cE_494 sc) 87 = ab_ct G σ (ab_E0 sc) 87 := by
  have h : (cE_494 sc).1 87 = (ab_E0 sc).1 87 := rfl
  unfold ab_ct
  rw [h]
  rfl
set_option maxRecDepth 100000 in
theorem ec_88 {G : ab_G} {σ : ab_S} : ab_ct G σ (cE_494 sc) 88 = ab_ct G σ (ab_E0 sc) 88 := by
  have h : (cE_494 sc).1 88 = (ab_E0 sc).1 88 := rfl
  unfold ab_ct
  rw [h]
  rfl
set_option maxRecDepth 100000 in
theorem ec_89 {G : ab_G} {σ : ab_S} : ab_ct G σ (cE_494 sc) 89 = ab_ct G σ (ab_E0 sc) 89 := by
  have h : (cE_494 sc).1 89 = (ab_E0 sc).1 89 := rfl
  unfold ab_ct
  rw [h]
  exact la_cc (fun j hj => match j, hj with | 0, _ => rfl | n + 1, hj => absurd hj (fun q => by have h9 : n + 1 < 1 := q; omega))
set_option maxRecDepth 100000 in
theorem ec_90 {G : ab_G} {σ : ab_S} : ab_ct G σ (cE_494 sc) 90 = ab_ct G σ (ab_E0 sc) 90 := by
  have h : (cE_494 sc).1 90 = (ab_E0 sc).1 90 := rfl
  unfold ab_ct
  rw [h]
  rfl
set_option maxRecDepth 100000 in
theorem ec_91 {G : ab_G} {σ : ab_S} : ab_ct G σ (cE_494 sc) 91 = ab_ct G σ (ab_E0 sc) 91 := by
  have h : (cE_494 sc).1 91 = (ab_E0 sc).1 91 := rfl
  unfold ab_ct
  rw [h]
  rfl
set_option maxRecDepth 100000 in
theorem ec_92 {G : ab_G} {σ : ab_S} : ab_ct G σ (cE_494 sc) 92 = ab_ct G σ (ab_E0 sc) 92 := by
  have h : (cE_494 sc).1 92 = (ab_E0 sc).1 92 := rfl
  unfold ab_ct
  rw [h]
  exact la_cc (fun j hj => match j, hj with | 0, _ => rfl | 1, _ => rfl | 2, _ => rfl | 3, _ => rfl | 4, _ => rfl | 5, _ => rfl | 6, _ => rfl | 7, _ => rfl | n + 8, hj => absurd hj (fun q => by have h9 : n + 8 < 8 := q; omega))
set_option maxRecDepth 100000 in
theorem ec_93 {G : ab_G} {σ : ab_S} : ab_ct G σ (cE_494 sc) 93 = ab_ct G σ (ab_E0 sc) 93 := by
  have h : (cE_494 sc).1 93 = (ab_E0 sc).1 93 := rfl
  unfold ab_ct
  rw [h]
  rfl
set_option maxRecDepth 100000 in
theorem ec_94 {G : ab_G} {σ : ab_S} : ab_ct G σ (cE_494 sc) 94 = ab_ct G σ (ab_E0 sc) 94 := by
  have h : (cE_494 sc).1 94 = (ab_E0 sc).1 94 := rfl
  unfold ab_ct
  rw [h]
  rfl
set_option maxRecDepth 100000 in
theorem ec_95 {G : ab_G} {σ : ab_S} : ab_ct G σ (cE_494 sc) 95 = ab_ct G σ (ab_E0 sc) 95 := by
  have h : (cE_494 sc).1 95 = (ab_E0 sc).1 95 := rfl
  unfold ab_ct
  rw [h]
  exact la_cc (fun j hj => match j, hj with | 0, _ => rfl | n + 1, hj => absurd hj (fun q => by have h9 : n + 1 < 1 := q; omega))
set_option maxRecDepth 100000 in
theorem ec_96 {G : ab_G} {σ : ab_S} : ab_ct G σ (cE_494 sc) 96 = ab_ct G σ (ab_E0 sc) 96 := by
  have h : (cE_494 sc).1 96 = (ab_E0 sc).1 96 := rfl
  unfold ab_ct
  rw [h]
  rfl
set_option maxRecDepth 100000 in
theorem ec_97 {G : ab_G} {σ : ab_S} : ab_ct G σ (cE_494 sc) 97 = ab_ct G σ (ab_E0 sc) 97 := by
  have h : (cE_494 sc).1 97 = (ab_E0 sc).1 97 := rfl
  unfold ab_ct
  rw [h]
  rfl
set_option maxRecDepth 100000 in
theorem ec_98 {G : ab_G} {σ : ab_S} : ab_ct G σ (cE_494 sc) 98 = ab_ct G σ (ab_E0 sc) 98 := by
  have h : (cE_494 sc).1 98 = (ab_E0 sc).1 98 := rfl
  unfold ab_ct
  rw [h]
  exact la_cc (fun j hj => match j, hj with | 0, _ => rfl | 1, _ => rfl | 2, _ => rfl | 3, _ => rfl | 4, _ => rfl | 5, _ => rfl | 6, _ => rfl | 7, _ => rfl | n + 8, hj => absurd hj (fun q => by have h9 : n + 8 < 8 := q; omega))
set_option maxRecDepth 100000 in
theorem ec_99 {G : ab_G} {σ : ab_S} : ab_ct G σ (cE_494 sc) 99 = ab_ct G σ (ab_E0 sc) 99 := by
  have h : (cE_494 sc).1 99 = (ab_E0 sc).1 99 := rfl
  unfold ab_ct
  rw [h]
  rfl
set_option maxRecDepth 100000 in
theorem ec_100 {G : ab_G} {σ : ab_S} : ab_ct G σ (cE_494 sc) 100 = ab_ct G σ (ab_E0 sc) 100 := by
  have h : (cE_494 sc).1 100 = (ab_E0 sc).1 100 := rfl
  unfold ab_ct
  rw [h]
  rfl
set_option maxRecDepth 100000 in
theorem ec_101 {G : ab_G} {σ : ab_S} : ab_ct G σ (cE_494 sc) 101 = ab_ct G σ (ab_E0 sc) 101 := by
  have h : (cE_494 sc).1 101 = (ab_E0 sc).1 101 := rfl
  unfold ab_ct
  rw [h]
  exact la_cc (fun j hj => match j, hj with | 0, _ => rfl | n + 1, hj => absurd hj (fun q => by have h9 : n + 1 < 1 := q; omega))
set_option maxRecDepth 100000 in
theorem ec_102 {G : ab_G} {σ : ab_S} : ab_ct G σ (cE_494 sc) 102 = ab_ct G σ (ab_E0 sc) 102 := by
  have h : (cE_494 sc).1 102 = (ab_E0 sc).1 102 := rfl
  unfold ab_ct
  rw [h]
  rfl
set_option maxRecDepth 100000 in
theorem ec_103 {G : ab_G} {σ : ab_S} : ab_ct G σ (cE_494 sc) 103 = ab_ct G σ (ab_E0 sc) 103 := by
  have h : (cE_494 sc).1 103 = (ab_E0 sc).1 103 := rfl
  unfold ab_ct
  rw [h]
  rfl
set_option maxRecDepth 100000 in
theorem ec_104 {G : ab_G} {σ : ab_S} : ab_ct G σ (cE_494 sc) 104 = ab_ct G σ (ab_E0 sc) 104 := by
  have h : (cE_494 sc).1 104 = (ab_E0 sc).1 104 := rfl
  unfold ab_ct
  rw [h]
  rfl
set_option maxRecDepth 100000 in
theorem ec_105 {G : ab_G} {σ : ab_S} : ab_ct G σ (cE_494 sc) 105 = ab_ct G σ (ab_E0 sc) 105 := by
  have h : (cE_494 sc).1 105 = (ab_E0 sc).1 105 := rfl
  unfold ab_ct
  rw [h]
  rfl
set_option maxRecDepth 100000 in
theorem ec_106 {G : ab_G} {σ : ab_S} : ab_ct G σ (cE_494 sc) 106 = ab_ct G σ (ab_E0 sc) 106 := by
  have h : (cE_494 sc).1 106 = (ab_E0 sc).1 106 := rfl
  unfold ab_ct
  rw [h]
  rfl
set_option maxRecDepth 100000 in
theorem ec_107 {G : ab_G} {σ : ab_S} : ab_ct G σ (cE_494 sc) 107 = ab_ct G σ (ab_E0 sc) 107 := by
  have h : (cE_494 sc).1 107 = (ab_E0 sc).1 107 := rfl
  unfold ab_ct
  rw [h]
  exact la_cc (fun j hj => match j, hj with | 0, _ => rfl | 1, _ => rfl | 2, _ => rfl | 3, _ => rfl | 4, _ => rfl | 5, _ => rfl | 6, _ => rfl | 7, _ => rfl | 8, _ => rfl | 9, _ => rfl | 10, _ => rfl | 11, _ => rfl | n + 12, hj => absurd hj (fun q => by have h9 : n + 12 < 12 := q; omega))
set_option maxRecDepth 100000 in
theorem ec_108 {G : ab_G} {σ : ab_S} : ab_ct G σ (cE_494 sc) 108 = ab_ct G σ (ab_E0 sc) 108 := by
  have h : (cE_494 sc).1 108 = (ab_E0 sc).1 108 := rfl
  unfold ab_ct
  rw [h]
  rfl
set_option maxRecDepth 100000 in
theorem ec_109 {G : ab_G} {σ : ab_S} : ab_ct G σ (cE_494 sc) 109 = ab_ct G σ (ab_E0 sc) 109 := by
  have h : (cE_494 sc).1 109 = (ab_E0 sc).1 109 := rfl
  unfold ab_ct
  rw [h]
  exact la_cc (fun j hj => match j, hj with | 0, _ => rfl | n + 1, hj => absurd hj (fun q => by have h9 : n + 1 < 1 := q; omega))
set_option maxRecDepth 100000 in
theorem ec_110 {G : ab_G} {σ : ab_S} : ab_ct G σ (cE_494 sc) 110 = ab_ct G σ (ab_E0 sc) 110 := by
  have h : (cE_494 sc).1 110 = (ab_E0 sc).1 110 := rfl
  unfold ab_ct
  rw [h]
  rfl
set_option maxRecDepth 100000 in
theorem ec_111 {G : ab_G} {σ : ab_S} : ab_ct G σ (cE_494 sc) 111 = ab_ct G σ (ab_E0 sc) 111 := by
  have h : (cE_494 sc).1 111 = (ab_E0 sc).1 111 := rfl
  have h2 : (cE_494 sc).2.1 111 = (ab_E0 sc).2.1 111 := by
    funext j
    match j with
    | 0 => rfl
    | 1 => rfl
    | 2 => rfl
    | 3 => rfl
    | 4 => rfl
    | 5 => rfl
    | 6 => rfl
    | j + 7 => exact pz_494 111 (j + 7) (by show 7 ≤ j + 7; omega)
  unfold ab_ct
  rw [h, h2]
set_option maxRecDepth 100000 in
theorem ec_112 {G : ab_G} {σ : ab_S} : ab_ct G σ (cE_494 sc) 112 = ab_ct G σ (ab_E0 sc) 112 := by
  have h : (cE_494 sc).1 112 = (ab_E0 sc).1 112 := rfl
  unfold ab_ct
  rw [h]
  exact la_cc (fun j hj => match j, hj with | 0, _ => rfl | 1, _ => rfl | 2, _ => rfl | 3, _ => rfl | 4, _ => rfl | 5, _ => rfl | 6, _ => rfl | 7, _ => rfl | n + 8, hj => absurd hj (fun q => by have h9 : n + 8 < 8 := q; omega))
set_option maxRecDepth 100000 in
theorem ec_113 {G : ab_G} {σ : ab_S} : ab_ct G σ (cE_494 sc) 113 = ab_ct G σ (ab_E0 sc) 113 := by
  have h : (cE_494 sc).1 113 = (ab_E0 sc).1 113 := rfl
  unfold ab_ct
  rw [h]
  rfl
set_option maxRecDepth 100000 in
theorem ec_114 {G : ab_G} {σ : ab_S} : ab_ct G σ (cE_494 sc) 114 = ab_ct G σ (ab_E0 sc) 114 := by
  have h : (cE_494 sc).1 114 = (ab_E0 sc).1 114 := rfl
  unfold ab_ct
  rw [h]
  rfl
set_option maxRecDepth 100000 in
theorem ec_115 {G : ab_G} {σ : ab_S} : ab_ct G σ (cE_494 sc) 115 = ab_ct G σ (ab_E0 sc) 115 := by
  have h : (cE_494 sc).1 115 = (ab_E0 sc).1 115 := rfl
  unfold ab_ct
  rw [h]
  exact la_cc (fun j hj => match j, hj with | 0, _ => rfl | n + 1, hj => absurd hj (fun q => by have h9 : n + 1 < 1 := q; omega))
set_option maxRecDepth 100000 in
theorem ec_116 {G : ab_G} {σ : ab_S} : ab_ct G σ (cE_494 sc) 116 = ab_ct G σ (ab_E0 sc) 116 := by
  have h : (cE_494 sc).1 116 = (ab_E0 sc).1 116 := rfl
  unfold ab_ct
  rw [h]
  rfl
set_option maxRecDepth 100000 in
theorem ec_117 {G : ab_G} {σ : ab_S} : ab_ct G σ (cE_494 sc) 117 = ab_ct G σ (ab_E0 sc) 117 := by
  have h : (cE_494 sc).1 117 = (ab_E0 sc).1 117 := rfl
  unfold ab_ct
  rw [h]
  rfl
set_option maxRecDepth 100000 in
theorem ec_118 {G : ab_G} {σ : ab_S} : ab_ct G σ (cE_494 sc) 118 = ab_ct G σ (ab_E0 sc) 118 := by
  have h : (cE_494 sc).1 118 = (ab_E0 sc).1 118 := rfl
  unfold ab_ct
  rw [h]
  exact la_cc (fun j hj => match j, hj with | 0, _ => rfl | 1, _ => rfl | 2, _ => rfl | 3, _ => rfl | 4, _ => rfl | 5, _ => rfl | 6, _ => rfl | 7, _ => rfl | n + 8, hj => absurd hj (fun q => by have h9 : n + 8 < 8 := q; omega))
set_option maxRecDepth 100000 in
theorem ec_119 {G : ab_G} {σ : ab_S} : ab_ct G σ (cE_494 sc) 119 = ab_ct G σ (ab_E0 sc) 119 := by
  have h : (cE_494 sc).1 119 = (ab_E0 sc).1 119 := rfl
  unfold ab_ct
  rw [h]
  rfl
set_option maxRecDepth 100000 in
theorem ec_120 {G : ab_G} {σ : ab_S} : ab_ct G σ (cE_494 sc) 120 = ab_ct G σ (ab_E0 sc) 120 := by
  have h : (cE_494 sc).1 120 = (ab_E0 sc).1 120 := rfl
  unfold ab_ct
  rw [h]
  rfl
set_option maxRecDepth 100000 in
theorem ec_121 {G : ab_G} {σ : ab_S} : ab_ct G σ (cE_494 sc) 121 = ab_ct G σ (ab_E0 sc) 121 := by
  have h : (cE_494 sc).1 121 = (ab_E0 sc).1 121 := rfl
  unfold ab_ct
  rw [h]
  exact la_cc (fun j hj => match j, hj with | 0, _ => rfl | n + 1, hj => absurd hj (fun q => by have h9 : n + 1 < 1 := q; omega))
set_option maxRecDepth 100000 in
theorem ec_122 {G : ab_G} {σ : ab_S} : ab_ct G σ (cE_494 sc) 122 = ab_ct G σ (ab_E0 sc) 122 := by
  have h : (cE_494 sc).1 122 = (ab_E0 sc).1 122 := rfl
  unfold ab_ct
  rw [h]
  rfl
set_option maxRecDepth 100000 in
theorem ec_123 {G : ab_G} {σ : ab_S} : ab_ct G σ (cE_494 sc) 123 = ab_ct G σ (ab_E0 sc) 123 := by
  have h : (cE_494 sc).1 123 = (ab_E0 sc).1 123 := rfl
  unfold ab_ct
  rw [h]
  rfl
set_option maxRecDepth 100000 in
theorem ec_124 {G : ab_G} {σ : ab_S} : ab_ct G σ (cE_494 sc) 124 = ab_ct G σ (ab_E0 sc) 124 := by
  have h : (cE_494 sc).1 124 = (ab_E0 sc).1 124 := rfl
  unfold ab_ct
  rw [h]
  exact la_cc (fun j hj => match j, hj with | 0, _ => rfl | 1, _ => rfl | 2, _ => rfl | 3, _ => rfl | 4, _ => rfl | 5, _ => rfl | 6, _ => rfl | 7, _ => rfl | n + 8, hj => absurd hj (fun q => by have h9 : n + 8 < 8 := q; omega))
set_option maxRecDepth 100000 in
theorem ec_125 {G : ab_G} {σ : ab_S} : ab_ct G σ (cE_494 sc) 125 = ab_ct G σ (ab_E0 sc) 125 := by
  have h : (cE_494 sc).1 125 = (ab_E0 sc).1 125 := rfl
  unfold ab_ct
  rw [h]
  rfl
set_option maxRecDepth 100000 in
theorem ec_126 {G : ab_G} {σ : ab_S} : ab_ct G σ (cE_494 sc) 126 = ab_ct G σ (ab_E0 sc) 126 := by
  have h : (cE_494 sc).1 126 = (ab_E0 sc).1 126 := rfl
  unfold ab_ct
  rw [h]
  rfl
set_option maxRecDepth 100000 in
theorem ec_127 {G : ab_G} {σ : ab_S} : ab_ct G σ (cE_494 sc) 127 = ab_ct G σ (ab_E0 sc) 127 := by
  have h : (cE_494 sc).1 127 = (ab_E0 sc).1 127 := rfl
  unfold ab_ct
  rw [h]
  exact la_cc (fun j hj => match j, hj with | 0, _ => rfl | n + 1, hj => absurd hj (fun q => by have h9 : n + 1 < 1 := q; omega))
set_option maxRecDepth 100000 in
theorem ec_128 {G : ab_G} {σ : ab_S} : ab_ct G σ (cE_494 sc) 128 = ab_ct G σ (ab_E0 sc) 128 := by
  have h : (cE_494 sc).1 128 = (ab_E0 sc).1 128 := rfl
  unfold ab_ct
  rw [h]
  rfl
set_option maxRecDepth 100000 in
theorem ec_129 {G : ab_G} {σ : ab_S} : ab_ct G σ (cE_494 sc) 129 = ab_ct G σ (ab_E0 sc) 129 := by
  have h : (cE_494 sc).1 129 = (ab_E0 sc).1 129 := rfl
  unfold ab_ct
  rw [h]
  rfl
set_option maxRecDepth 100000 in
theorem ec_130 {G : ab_G} {σ : ab_S} : ab_ct G σ (cE_494 sc) 130 = ab_ct G σ (ab_E0 sc) 130 := by
  have h : (cE_494 sc).1 130 = (ab_E0 sc).1 130 := rfl
  unfold ab_ct
  rw [h]
  exact la_cc (fun j hj => match j, hj with | 0, _ => rfl | 1, _ => rfl | 2, _ => rfl | 3, _ => rfl | 4, _ => rfl | 5, _ => rfl | 6, _ => rfl | 7, _ => rfl | n + 8, hj => absurd hj (fun q => by have h9 : n + 8 < 8 := q; omega))
set_option maxRecDepth 100000 in
theorem ec_131 {G : ab_G} {σ : ab_S} : ab_ct G σ (cE_494 sc) 131 = ab_ct G σ (ab_E0 sc) 131 := by
  have h : (cE_494 sc).1 131 = (ab_E0 sc).1 131 := rfl
  unfold ab_ct
  rw [h]
  rfl
set_option maxRecDepth 100000 in
theorem ec_132 {G : ab_G} {σ : ab_S} : ab_ct G σ (cE_494 sc) 132 = ab_ct G σ (ab_E0 sc) 132 := by
  have h : (cE_494 sc).1 132 = (ab_E0 sc).1 132 := rfl
  unfold ab_ct
  rw [h]
  rfl
set_option maxRecDepth 100000 in
theorem ec_133 {G : ab_G} {σ : ab_S} : ab_ct G σ (cE_494 sc) 133 = ab_ct G σ (ab_E0 sc) 133 := by
  have h : (cE_494 sc).1 133 = (ab_E0 sc).1 133 := rfl
  unfold ab_ct
  rw [h]
  exact la_cc (fun j hj => match j, hj with | 0, _ => rfl | n + 1, hj => absurd hj (fun q => by have h9 : n + 1 < 1 := q; omega))
set_option maxRecDepth 100000 in
theorem ec_134 {G : ab_G} {σ : ab_S} : ab_ct G σ (cE_494 sc) 134 = ab_ct G σ (ab_E0 sc) 134 := by
  have h : (cE_494 sc).1 134 = (ab_E0 sc).1 134 := rfl
  unfold ab_ct
  rw [h]
  rfl
set_option maxRecDepth 100000 in
theorem ec_135 {G : ab_G} {σ : ab_S} : ab_ct G σ (cE_494 sc) 135 = ab_ct G σ (ab_E0 sc) 135 := by
  have h : (cE_494 sc).1 135 = (ab_E0 sc).1 135 := rfl
  unfold ab_ct
  rw [h]
  rfl
set_option maxRecDepth 100000 in
theorem ec_136 {G : ab_G} {σ : ab_S} : ab_ct G σ (cE_494 sc) 136 = ab_ct G σ (ab_E0 sc) 136 := by
  have h : (cE_494 sc).1 136 = (ab_E0 sc).1 136 := rfl
  unfold ab_ct
  rw [h]
  exact la_cc (fun j hj => match j, hj with | 0, _ => rfl | 1, _ => rfl | 2, _ => rfl | 3, _ => rfl | 4, _ => rfl | 5, _ => rfl | 6, _ => rfl | 7, _ => rfl | n + 8, hj => absurd hj (fun q => by have h9 : n + 8 < 8 := q; omega))
set_option maxRecDepth 100000 in
theorem ec_137 {G : ab_G} {σ : ab_S} : ab_ct G σ (cE_494 sc) 137 = ab_ct G σ (ab_E0 sc) 137 := by
  have h : (cE_494 sc).1 137 = (ab_E0 sc).1 137 := rfl
  unfold ab_ct
  rw [h]
  rfl
set_option maxRecDepth 100000 in
theorem ec_138 {G : ab_G} {σ : ab_S} : ab_ct G σ (cE_494 sc) 138 = ab_ct G σ (ab_E0 sc) 138 := by
  have h : (cE_494 sc).1 138 = (ab_E0 sc).1 138 := rfl
  unfold ab_ct
  rw [h]
  rfl
set_option maxRecDepth 100000 in
theorem ec_139 {G : ab_G} {σ : ab_S} : ab_ct G σ (cE_494 sc) 139 = ab_ct G σ (ab_E0 sc) 139 := by
  have h : (cE_494 sc).1 139 = (ab_E0 sc).1 139 := rfl
  unfold ab_ct
  rw [h]
  exact la_cc (fun j hj => match j, hj with | 0, _ => rfl | n + 1, hj => absurd hj (fun q => by have h9 : n + 1 < 1 := q; omega))
set_option maxRecDepth 100000 in
theorem ec_140 {G : ab_G} {σ : ab_S} : ab_ct G σ (cE_494 sc) 140 = ab_ct G σ (ab_E0 sc) 140 := by
  have h : (cE_494 sc).1 140 = (ab_E0 sc).1 140 := rfl
  unfold ab_ct
  rw [h]
  rfl
set_option maxRecDepth 100000 in
theorem ec_141 {G : ab_G} {σ : ab_S} : ab_ct G σ (cE_494 sc) 141 = ab_ct G σ (ab_E0 sc) 141 := by
  have h : (cE_494 sc).1 141 = (ab_E0 sc).1 141 := rfl
  unfold ab_ct
  rw [h]
  rfl
set_option maxRecDepth 100000 in
theorem ec_142 {G : ab_G} {σ : ab_S} : ab_ct G σ (cE_494 sc) 142 = ab_ct G σ (ab_E0 sc) 142 := by
  have h : (cE_494 sc).1 142 = (ab_E0 sc).1 142 := rfl
  unfold ab_ct
  rw [h]
  exact la_cc (fun j hj => match j, hj with | 0, _ => rfl | 1, _ => rfl | 2, _ => rfl | 3, _ => rfl | 4, _ => rfl | 5, _ => rfl | 6, _ => rfl | 7, _ => rfl | n + 8, hj => absurd hj (fun q => by have h9 : n + 8 < 8 := q; omega))
set_option maxRecDepth 100000 in
theorem ec_143 {G : ab_G} {σ : ab_S} : ab_ct G σ (cE_494 sc) 143 = ab_ct G σ (ab_E0 sc) 143 := by
  have h : (cE_494 sc).1 143 = (ab_E0 sc).1 143 := rfl
  unfold ab_ct
  rw [h]
  rfl
set_option maxRecDepth 100000 in
theorem ec_144 {G : ab_G} {σ : ab_S} : ab_ct G σ (cE_494 sc) 144 = ab_ct G σ (ab_E0 sc) 144 := by
  have h : (cE_494 sc).1 144 = (ab_E0 sc).1 144 := rfl
  unfold ab_ct
  rw [h]
  rfl
set_option maxRecDepth 100000 in
theorem ec_145 {G : ab_G} {σ : ab_S} : ab_ct G σ (cE_494 sc) 145 = ab_ct G σ (ab_E0 sc) 145 := by
  have h : (cE_494 sc).1 145 = (ab_E0 sc).1 145 := rfl
  unfold ab_ct
  rw [h]
  exact la_cc (fun j hj => match j, hj with | 0, _ => rfl | n + 1, hj => absurd hj (fun q => by have h9 : n + 1 < 1 := q; omega))
set_option maxRecDepth 100000 in
theorem ec_146 {G : ab_G} {σ : ab_S} : ab_ct G σ (cE_494 sc) 146 = ab_ct G σ (ab_E0 sc) 146 := by
  have h : (cE_494 sc).1 146 = (ab_E0 sc).1 146 := rfl
  unfold ab_ct
  rw [h]
  rfl
set_option maxRecDepth 100000 in
theorem ec_147 {G : ab_G} {σ : ab_S} : ab_ct G σ (cE_494 sc) 147 = ab_ct G σ (ab_E0 sc) 147 := by
  have h : (cE_494 sc).1 147 = (ab_E0 sc).1 147 := rfl
  unfold ab_ct
  rw [h]
  rfl
set_option maxRecDepth 100000 in
theorem ec_148 {G : ab_G} {σ : ab_S} : ab_ct G σ (cE_494 sc) 148 = ab_ct G σ (ab_E0 sc) 148 := by
  have h : (cE_494 sc).1 148 = (ab_E0 sc).1 148 := rfl
  unfold ab_ct
  rw [h]
  exact la_cc (fun j hj => match j, hj with | 0, _ => rfl | 1, _ => rfl | 2, _ => rfl | 3, _ => rfl | 4, _ => rfl | 5, _ => rfl | 6, _ => rfl | 7, _ => rfl | n + 8, hj => absurd hj (fun q => by have h9 : n + 8 < 8 := q; omega))
set_option maxRecDepth 100000 in
theorem ec_149 {G : ab_G} {σ : ab_S} : ab_ct G σ (cE_494 sc) 149 = ab_ct G σ (ab_E0 sc) 149 := by
  have h : (cE_494 sc).1 149 = (ab_E0 sc).1 149 := rfl
  unfold ab_ct
  rw [h]
  rfl
set_option maxRecDepth 100000 in
theorem ec_150 {G : ab_G} {σ : ab_S} : ab_ct G σ (cE_494 sc) 150 = ab_ct G σ (ab_E0 sc) 150 := by
  have h : (cE_494 sc).1 150 = (ab_E0 sc).1 150 := rfl
  unfold ab_ct
  rw [h]
  rfl
set_option maxRecDepth 100000 in
theorem ec_151 {G : ab_G} {σ : ab_S} : ab_ct G σ (cE_494 sc) 151 = ab_ct G σ (ab_E0 sc) 151 := by
  have h : (cE_494 sc).1 151 = (ab_E0 sc).1 151 := rfl
  unfold ab_ct
  rw [h]
  exact la_cc (fun j hj => match j, hj with | 0, _ => rfl | n + 1, hj => absurd hj (fun q => by have h9 : n + 1 < 1 := q; omega))
set_option maxRecDepth 100000 in
theorem ec_152 {G : ab_G} {σ : ab_S} : ab_ct G σ (cE_494 sc) 152 = ab_ct G σ (ab_E0 sc) 152 := by
  have h : (cE_494 sc).1 152 = (ab_E0 sc).1 152 := rfl
  unfold ab_ct
  rw [h]
  rfl
set_option maxRecDepth 100000 in
theorem ec_153 {G : ab_G} {σ : ab_S} : ab_ct G σ (cE_494 sc) 153 = ab_ct G σ (ab_E0 sc) 153 := by
  have h : (cE_494 sc).1 153 = (ab_E0 sc).1 153 := rfl
  unfold ab_ct
  rw [h]
  rfl
set_option maxRecDepth 100000 in
theorem ec_154 {G : ab_G} {σ : ab_S} : ab_ct G σ (cE_494 sc) 154 = ab_ct G σ (ab_E0 sc) 154 := by
  have h : (cE_494 sc).1 154 = (ab_E0 sc).1 154 := rfl
  unfold ab_ct
  rw [h]
  rfl
set_option maxRecDepth 100000 in
theorem ec_155 {G : ab_G} {σ : ab_S} : ab_ct G σ (cE_494 sc) 155 = ab_ct G σ (ab_E0 sc) 155 := by
  have h : (cE_494 sc).1 155 = (ab_E0 sc).1 155 := rfl
  unfold ab_ct
  rw [h]
  rfl
set_option maxRecDepth 100000 in
theorem ec_156 {G : ab_G} {σ : ab_S} : ab_ct G σ (cE_494 sc) 156 = ab_ct G σ (ab_E0 sc) 156 := by
  have h : (cE_494 sc).1 156 = (ab_E0 sc).1 156 := rfl
  unfold ab_ct
  rw [h]
  rfl
set_option maxRecDepth 100000 in
theorem ec_157 {G : ab_G} {σ : ab_S} : ab_ct G σ (cE_494 sc) 157 = ab_ct G σ (ab_E0 sc) 157 := by
  have h : (cE_494 sc).1 157 = (ab_E0 sc).1 157 := rfl
  unfold ab_ct
  rw [h]
  exact la_cc (fun j hj => match j, hj with | 0, _ => rfl | 1, _ => rfl | 2, _ => rfl | 3, _ => rfl | 4, _ => rfl | 5, _ => rfl | 6, _ => rfl | 7, _ => rfl | 8, _ => rfl | 9, _ => rfl | 10, _ => rfl | 11, _ => rfl | 12, _ => rfl | 13, _ => rfl | n + 14, hj => absurd hj (fun q => by have h9 : n + 14 < 14 := q; omega))
set_option maxRecDepth 100000 in
theorem ec_158 {G : ab_G} {σ : ab_S} : ab_ct G σ (cE_494 sc) 158 = ab_ct G σ (ab_E0 sc) 158 := by
  have h : (cE_494 sc).1 158 = (ab_E0 sc).1 158 := rfl
  unfold ab_ct
  rw [h]
  rfl
set_option maxRecDepth 100000 in
theorem ec_159 {G : ab_G} {σ : ab_S} : ab_ct G σ (cE_494 sc) 159 = ab_ct G σ (ab_E0 sc) 159 := by
  have h : (cE_494 sc).1 159 = (ab_E0 sc).1 159 := rfl
  unfold ab_ct
  rw [h]
  rfl
set_option maxRecDepth 100000 in
theorem ec_160 {G : ab_G} {σ : ab_S} : ab_ct G σ (cE_494 sc) 160 = ab_ct G σ (ab_E0 sc) 160 := by
  have h : (cE_494 sc).1 160 = (ab_E0 sc).1 160 := rfl
  unfold ab_ct
  rw [h]
  exact la_cc (fun j hj => match j, hj with | 0, _ => rfl | 1, _ => rfl | 2, _ => rfl | 3, _ => rfl | 4, _ => rfl | 5, _ => rfl | 6, _ => rfl | 7, _ => rfl | 8, _ => rfl | n + 9, hj => absurd hj (fun q => by have h9 : n + 9 < 9 := q; omega))
set_option maxRecDepth 100000 in
theorem ec_161 {G : ab_G} {σ : ab_S} : ab_ct G σ (cE_494 sc) 161 = ab_ct G σ (ab_E0 sc) 161 := by
  have h : (cE_494 sc).1 161 = (ab_E0 sc).1 161 := rfl
  unfold ab_ct
  rw [h]
  rfl
set_option maxRecDepth 100000 in
theorem ec_162 {G : ab_G} {σ : ab_S} : ab_ct G σ (cE_494 sc) 162 = ab_ct G σ (ab_E0 sc) 162 := by
  have h : (cE_494 sc).1 162 = (ab_E0 sc).1 162 := rfl
  unfold ab_ct
  rw [h]
  rfl
set_option maxRecDepth 100000 in
theorem ec_163 {G : ab_G} {σ : ab_S} : ab_ct G σ (cE_494 sc) 163 = ab_ct G σ (ab_E0 sc) 163 := by
  have h : (cE_494 sc).1 163 = (ab_E0 sc).1 163 := rfl
  unfold ab_ct
  rw [h]
  rfl
set_option maxRecDepth 100000 in
theorem ec_164 {G : ab_G} {σ : ab_S} : ab_ct G σ (cE_494 sc) 164 = ab_ct G σ (ab_E0 sc) 164 := by
  have h : (cE_494 sc).1 164 = (ab_E0 sc).1 164 := rfl
  unfold ab_ct
  rw [h]
  rfl
set_option maxRecDepth 100000 in
theorem ec_165 {G : ab_G} {σ : ab_S} : ab_ct G σ (cE_494 sc) 165 = ab_ct G σ (ab_E0 sc) 165 := by
  have h : (cE_494 sc).1 165 = (ab_E0 sc).1 165 := rfl
  unfold ab_ct
  rw [h]
  rfl
set_option maxRecDepth 100000 in
theorem ec_166 {G : ab_G} {σ : ab_S} : ab_ct G σ (cE_494 sc) 166 = ab_ct G σ (ab_E0 sc) 166 := by
  have h : (cE_494 sc).1 166 = (ab_E0 sc).1 166 := rfl
  unfold ab_ct
  rw [h]
  rfl
set_option maxRecDepth 100000 in
theorem ec_167 {G : ab_G} {σ : ab_S} : ab_ct G σ (cE_494 sc) 167 = ab_ct G σ (ab_E0 sc) 167 := by
  have h : (cE_494 sc).1 167 = (ab_E0 sc).1 167 := rfl
  unfold ab_ct
  rw [h]
  rfl
set_option maxRecDepth 100000 in
theorem ec_168 {G : ab_G} {σ : ab_S} : ab_ct G σ (cE_494 sc) 168 = ab_ct G σ (ab_E0 sc) 168 := by
  have h : (cE_494 sc).1 168 = (ab_E0 sc).1 168 := rfl
  unfold ab_ct
  rw [h]
  rfl
set_option maxRecDepth 100000 in
theorem ec_169 {G : ab_G} {σ : ab_S} : ab_ct G σ (cE_494 sc) 169 = ab_ct G σ (ab_E0 sc) 169 := by
  have h : (cE_494 sc).1 169 = (ab_E0 sc).1 169 := rfl
  unfold ab_ct
  rw [h]
  exact la_cc (fun j hj => match j, hj with | 0, _ => rfl | 1, _ => rfl | 2, _ => rfl | 3, _ => rfl | 4, _ => rfl | 5, _ => rfl | 6, _ => rfl | 7, _ => rfl | 8, _ => rfl | 9, _ => rfl | 10, _ => rfl | 11, _ => rfl | 12, _ => rfl | 13, _ => rfl | n + 14, hj => absurd hj (fun q => by have h9 : n + 14 < 14 := q; omega))
set_option maxRecDepth 100000 in
theorem ec_170 {G : ab_G} {σ : ab_S} : ab_ct G σ (cE_494 sc) 170 = ab_ct G σ (ab_E0 sc) 170 := by
  have h : (cE_494 sc).1 170 = (ab_E0 sc).1 170 := rfl
  unfold ab_ct
  rw [h]
  rfl
set_option maxRecDepth 100000 in
theorem ec_171 {G : ab_G} {σ : ab_S} : ab_ct G σ (cE_494 sc) 171 = ab_ct G σ (ab_E0 sc) 171 := by
  have h : (cE_494 sc).1 171 = (ab_E0 sc).1 171 := rfl
  unfold ab_ct
  rw [h]
  rfl
set_option maxRecDepth 100000 in
theorem ec_172 {G : ab_G} {σ : ab_S} : ab_ct G σ (cE_494 sc) 172 = ab_ct G σ (ab_E0 sc) 172 := by
  have h : (cE_494 sc).1 172 = (ab_E0 sc).1 172 := rfl
  unfold ab_ct
  rw [h]
  rfl
set_option maxRecDepth 100000 in
theorem ec_173 {G : ab_G} {σ : ab_S} : ab_ct G σ (cE_494 sc) 173 = ab_ct G σ (ab_E0 sc) 173 := by
  have h : (cE_494 sc).1 173 = (ab_E0 sc).1 173 := rfl
  unfold ab_ct
  rw [h]
  rfl
set_option maxRecDepth 100000 in
theorem ec_174 {G : ab_G} {σ : ab_S} : ab_ct G σ (cE_494 sc) 174 = ab_ct G σ (ab_E0 sc) 174 := by
  have h : (cE_494 sc).1 174 = (ab_E0 sc).1 174 := rfl
  unfold ab_ct
  rw [h]
  rfl
set_option maxRecDepth 100000 in
theorem ec_175 {G : ab_G} {σ : ab_S} : ab_ct G σ (cE_494 sc) 175 = ab_ct G σ (ab_E0 sc) 175 := by
  have h : (cE_494 sc).1 175 = (ab_E0 sc).1 175 := rfl
  unfold ab_ct
  rw [h]
  rfl
set_option maxRecDepth 100000 in
theorem ec_176 {G : ab_G} {σ : ab_S} : ab_ct G σ (cE_494 sc) 176 = ab_ct G σ (ab_E0 sc) 176 := by
  have h : (cE_494 sc).1 176 = (ab_E0 sc).1 176 := rfl
  unfold ab_ct
  rw [h]
  rfl
set_option maxRecDepth 100000 in
theorem ec_177 {G : ab_G} {σ : ab_S} : ab_ct G σ (cE_494 sc) 177 = ab_ct G σ (ab_E0 sc) 177 := by
  have h : (cE_494 sc).1 177 = (ab_E0 sc).1 177 := rfl
  unfold ab_ct
  rw [h]
  rfl
set_option maxRecDepth 100000 in
theorem ec_178 {G : ab_G} {σ : ab_S} : ab_ct G σ (cE_494 sc) 178 = ab_ct G σ (ab_E0 sc) 178 := by
  have h : (cE_494 sc).1 178 = (ab_E0 sc).1 178 := rfl
  unfold ab_ct
  rw [h]
  rfl
set_option maxRecDepth 100000 in
theorem ec_179 {G : ab_G} {σ : ab_S} : ab_ct G σ (cE_494 sc) 179 = ab_ct G σ (ab_E0 sc) 179 := by
  have h : (cE_494 sc).1 179 = (ab_E0 sc).1 179 := rfl
  unfold ab_ct
  rw [h]
  exact la_cc (fun j hj => match j, hj with | 0, _ => rfl | 1, _ => rfl | 2, _ => rfl | 3, _ => rfl | 4, _ => rfl | 5, _ => rfl | 6, _ => rfl | 7, _ => rfl | n + 8, hj => absurd hj (fun q => by have h9 : n + 8 < 8 := q; omega))
set_option maxRecDepth 100000 in
theorem ec_180 {G : ab_G} {σ : ab_S} : ab_ct G σ (cE_494 sc) 180 = ab_ct G σ (ab_E0 sc) 180 := by
  have h : (cE_494 sc).1 180 = (ab_E0 sc).1 180 := rfl
  unfold ab_ct
  rw [h]
  rfl
set_option maxRecDepth 100000 in
theorem ec_181 {G : ab_G} {σ : ab_S} : ab_ct G σ (cE_494 sc) 181 = ab_ct G σ (ab_E0 sc) 181 := by
  have h : (cE_494 sc).1 181 = (ab_E0 sc).1 181 := rfl
  unfold ab_ct
  rw [h]
  rfl
set_option maxRecDepth 100000 in
theorem ec_182 {G : ab_G} {σ : ab_S} : ab_ct G σ (cE_494 sc) 182 = ab_ct G σ (ab_E0 sc) 182 := by
  have h : (cE_494 sc).1 182 = (ab_E0 sc).1 182 := rfl
  unfold ab_ct
  rw [h]
  rfl
set_option maxRecDepth 100000 in
theorem ec_183 {G : ab_G} {σ : ab_S} : ab_ct G σ (cE_494 sc) 183 = ab_ct G σ (ab_E0 sc) 183 := by
  have h : (cE_494 sc).1 183 = (ab_E0 sc).1 183 := rfl
  unfold ab_ct
  rw [h]
  rfl
set_option maxRecDepth 100000 in
theorem ec_184 {G : ab_G} {σ : ab_S} : ab_ct G σ (cE_494 sc) 184 = ab_ct G σ (ab_E0 sc) 184 := by
  have h : (cE_494 sc).1 184 = (ab_E0 sc).1 184 := rfl
  unfold ab_ct
  rw [h]
  rfl
set_option maxRecDepth 100000 in
theorem ec_185 {G : ab_G} {σ : ab_S} : ab_ct G σ (cE_494 sc) 185 = ab_ct G σ (ab_E0 sc) 185 := by
  have h : (cE_494 sc).1 185 = (ab_E0 sc).1 185 := rfl
  unfold ab_ct
  rw [h]
  exact la_cc (fun j hj => match j, hj with | 0, _ => rfl | 1, _ => rfl | 2, _ => rfl | 3, _ => rfl | 4, _ => rfl | 5, _ => rfl | 6, _ => rfl | 7, _ => rfl | n + 8, hj => absurd hj (fun q => by have h9 : n + 8 < 8 := q; omega))
set_option maxRecDepth 100000 in
theorem ec_186 {G : ab_G} {σ : ab_S} : ab_ct G σ (cE_494 sc) 186 = ab_ct G σ (ab_E0 sc) 186 := by
  have h : (cE_494 sc).1 186 = (ab_E0 sc).1 186 := rfl
  unfold ab_ct
  rw [h]
  rfl
set_option maxRecDepth 100000 in
theorem ec_187 {G : ab_G} {σ : ab_S} : ab_ct G σ (cE_494 sc) 187 = ab_ct G σ (ab_E0 sc) 187 := by
  have h : (cE_494 sc).1 187 = (ab_E0 sc).1 187 := rfl
  unfold ab_ct
  rw [h]
  rfl
set_option maxRecDepth 100000 in
theorem ec_188 {G : ab_G} {σ : ab_S} : ab_ct G σ (cE_494 sc) 188 = ab_ct G σ (ab_E0 sc) 188 := by
  have h : (cE_494 sc).1 188 = (ab_E0 sc).1 188 := rfl
  unfold ab_ct
  rw [h]
  rfl
set_option maxRecDepth 100000 in
theorem ec_189 {G : ab_G} {σ : ab_S} : ab_ct G σ (cE_494 sc) 189 = ab_ct G σ (ab_E0 sc) 189 := by
  have h : (cE_494 sc).1 189 = (ab_E0 sc).1 189 := rfl
  unfold ab_ct
  rw [h]
  rfl
set_option maxRecDepth 100000 in
theorem ec_190 {G : ab_G} {σ : ab_S} : ab_ct G σ (cE_494 sc) 190 = ab_ct G σ (ab_E0 sc) 190 := by
  have h : (cE_494 sc).1 190 = (ab_E0 sc).1 190 := rfl
  unfold ab_ct
  rw [h]
  rfl
set_option maxRecDepth 100000 in
theorem ec_191 {G : ab_G} {σ : ab_S} : ab_ct G σ (cE_494 sc) 191 = ab_ct G σ (ab_E0 sc) 191 := by
  have h : (cE_494 sc).1 191 = (ab_E0 sc).1 191 := rfl
  unfold ab_ct
  rw [h]
  exact la_cc (fun j hj => match j, hj with | 0, _ => rfl | 1, _ => rfl | 2, _ => rfl | 3, _ => rfl | 4, _ => rfl | 5, _ => rfl | 6, _ => rfl | 7, _ => rfl | 8, _ => rfl | 9, _ => rfl | n + 10, hj => absurd hj (fun q => by have h9 : n + 10 < 10 := q; omega))
set_option maxRecDepth 100000 in
theorem ec_192 {G : ab_G} {σ : ab_S} : ab_ct G σ (cE_494 sc) 192 = ab_ct G σ (ab_E0 sc) 192 := by
  have h : (cE_494 sc).1 192 = (ab_E0 sc).1 192 := rfl
  unfold ab_ct
  rw [h]
  rfl
set_option maxRecDepth 100000 in
theorem ec_193 {G : ab_G} {σ : ab_S} : ab_ct G σ (cE_494 sc) 193 = ab_ct G σ (ab_E0 sc) 193 := by
  have h : (cE_494 sc).1 193 = (ab_E0 sc).1 193 := rfl
  unfold ab_ct
  rw [h]
  rfl
set_option maxRecDepth 100000 in
theorem ec_194 {G : ab_G} {σ : ab_S} : ab_ct G σ (cE_494 sc) 194 = ab_ct G σ (ab_E0 sc) 194 := by
  have h : (cE_494 sc).1 194 = (ab_E0 sc).1 194 := rfl
  unfold ab_ct
  rw [h]
  rfl
set_option maxRecDepth 100000 in
theorem ec_195 {G : ab_G} {σ : ab_S} : ab_ct G σ (cE_494 sc) 195 = ab_ct G σ (ab_E0 sc) 195 := by
  have h : (cE_494 sc).1 195 = (ab_E0 sc).1 195 := rfl
  unfold ab_ct
  rw [h]
  rfl
set_option maxRecDepth 100000 in
theorem ec_196 {G : ab_G} {σ : ab_S} : ab_ct G σ (cE_494 sc) 196 = ab_ct G σ (ab_E0 sc) 196 := by
  have h : (cE_494 sc).1 196 = (ab_E0 sc).1 196 := rfl
  unfold ab_ct
  rw [h]
  rfl
set_option maxRecDepth 100000 in
theorem ec_197 {G : ab_G} {σ : ab_S} : ab_ct G σ (cE_494 sc) 197 = ab_ct G σ (ab_E0 sc) 197 := by
  have h : (cE_494 sc).1 197 = (ab_E0 sc).1 197 := rfl
  unfold ab_ct
  rw [h]
  rfl
set_option maxRecDepth 100000 in
theorem ec_198 {G : ab_G} {σ : ab_S} : ab_ct G σ (cE_494 sc) 198 = ab_ct G σ (ab_E0 sc) 198 := by
  have h : (cE_494 sc).1 198 = (ab_E0 sc).1 198 := rfl
  unfold ab_ct
  rw [h]
  rfl
set_option maxRecDepth 100000 in
theorem ec_199 {G : ab_G} {σ : ab_S} : ab_ct G σ (cE_494 sc) 199 = ab_ct G σ (ab_E0 sc) 199 := by
  have h : (cE_494 sc).1 199 = (ab_E0 sc).1 199 := rfl
  unfold ab_ct
  rw [h]
  exact la_cc (fun j hj => match j, hj with | 0, _ => rfl | 1, _ => rfl | 2, _ => rfl | 3, _ => rfl | 4, _ => rfl | 5, _ => rfl | n + 6, hj => absurd hj (fun q => by have h9 : n + 6 < 6 := q; omega))
set_option maxRecDepth 100000 in
theorem ec_200 {G : ab_G} {σ : ab_S} : ab_ct G σ (cE_494 sc) 200 = ab_ct G σ (ab_E0 sc) 200 := by
  have h : (cE_494 sc).1 200 = (ab_E0 sc).1 200 := rfl
  unfold ab_ct
  rw [h]
  rfl
set_option maxRecDepth 100000 in
theorem ec_201 {G : ab_G} {σ : ab_S} : ab_ct G σ (cE_494 sc) 201 = ab_ct G σ (ab_E0 sc) 201 := by
  have h : (cE_494 sc).1 201 = (ab_E0 sc).1 201 := rfl
  unfold ab_ct
  rw [h]
  rfl
set_option maxRecDepth 100000 in
theorem ec_202 {G : ab_G} {σ : ab_S} : ab_ct G σ (cE_494 sc) 202 = ab_ct G σ (ab_E0 sc) 202 := by
  have h : (cE_494 sc).1 202 = (ab_E0 sc).1 202 := rfl
  unfold ab_ct
  rw [h]
  exact la_cc (fun j hj => match j, hj with | 0, _ => rfl | 1, _ => rfl | n + 2, hj => absurd hj (fun q => by have h9 : n + 2 < 2 := q; omega))
set_option maxRecDepth 100000 in
theorem ec_203 {G : ab_G} {σ : ab_S} : ab_ct G σ (cE_494 sc) 203 = ab_ct G σ (ab_E0 sc) 203 := by
  have h : (cE_494 sc).1 203 = (ab_E0 sc).1 203 := rfl
  unfold ab_ct
  rw [h]
  rfl
set_option maxRecDepth 100000 in
theorem ec_204 {G : ab_G} {σ : ab_S} : ab_ct G σ (cE_494 sc) 204 = ab_ct G σ (ab_E0 sc) 204 := by
  have h : (cE_494 sc).1 204 = (ab_E0 sc).1 204 := rfl
  unfold ab_ct
  rw [h]
  rfl
set_option maxRecDepth 100000 in
theorem ec_205 {G : ab_G} {σ : ab_S} : ab_ct G σ (cE_494 sc) 205 = ab_ct G σ (ab_E0 sc) 205 := by
  have h : (cE_494 sc).1 205 = (ab_E0 sc).1 205 := rfl
  unfold ab_ct
  rw [h]
  exact la_cc (fun j hj => match j, hj with | 0, _ => rfl | 1, _ => rfl | 2, _ => rfl | 3, _ => rfl | 4, _ => rfl | 5, _ => rfl | 6, _ => rfl | 7, _ => rfl | 8, _ => rfl | 9, _ => rfl | 10, _ => rfl | 11, _ => rfl | 12, _ => rfl | 13, _ => rfl | 14, _ => rfl | 15, _ => rfl | 16, _ => rfl | 17, _ => rfl | 18, _ => rfl | 19, _ => rfl | 20, _ => rfl | 21, _ => rfl | 22, _ => rfl | 23, _ => rfl | 24, _ => rfl | 25, _ => rfl | 26, _ => rfl | 27, _ => rfl | 28, _ => rfl | 29, _ => rfl | 30, _ => rfl | 31, _ => rfl | 32, _ => rfl | 33, _ => rfl | 34, _ => rfl | 35, _ => rfl | 36, _ => rfl | 37, _ => rfl | 38, _ => rfl | 39, _ => rfl | 40, _ => rfl | 41, _ => rfl | 42, _ => rfl | 43, _ => rfl | 44, _ => rfl | 45, _ => rfl | 46, _ => rfl | 47, _ => rfl | 48, _ => rfl | 49, _ => rfl | 50, _ => rfl | 51, _ => rfl | 52, _ => rfl | 53, _ => rfl | 54, _ => rfl | 55, _ => rfl | 56, _ => rfl | 57, _ => rfl | 58, _ => rfl | 59, _ => rfl | 60, _ => rfl | 61, _ => rfl | 62, _ => rfl | 63, _ => rfl | 64, _ => rfl | 65, _ => rfl | 66, _ => rfl | 67, _ => rfl | 68, _ => rfl | 69, _ => rfl | n + 70, hj => absurd hj (fun q => by have h9 : n + 70 < 70 := q; omega))
set_option maxRecDepth 100000 in
theorem ec_206 {G : ab_G} {σ : ab_S} : ab_ct G σ (cE_494 sc) 206 = ab_ct G σ (ab_E0 sc) 206 := by
  have h : (cE_494 sc).1 206 = (ab_E0 sc).1 206 := rfl
  unfold ab_ct
  rw [h]
  rfl
set_option maxRecDepth 100000 in
theorem ec_207 {G : ab_G} {σ : ab_S} : ab_ct G σ (cE_494 sc) 207 = ab_ct G σ (ab_E0 sc) 207 := by
  have h : (cE_494 sc).1 207 = (ab_E0 sc).1 207 := rfl
  unfold ab_ct
  rw [h]
  rfl
set_option maxRecDepth 100000 in
theorem ec_208 {G : ab_G} {σ : ab_S} : ab_ct G σ (cE_494 sc) 208 = ab_ct G σ (ab_E0 sc) 208 := by
  have h : (cE_494 sc).1 208 = (ab_E0 sc).1 208 := rfl
  unfold ab_ct
  rw [h]
  rfl
set_option maxRecDepth 100000 in
theorem ec_209 {G : ab_G} {σ : ab_S} : ab_ct G σ (cE_494 sc) 209 = ab_ct G σ (ab_E0 sc) 209 := by
  have h : (cE_494 sc).1 209 = (ab_E0 sc).1 209 := rfl
  unfold ab_ct
  rw [h]
  rfl
set_option maxRecDepth 100000 in
theorem ec_210 {G : ab_G} {σ : ab_S} : ab_ct G σ (cE_494 sc) 210 = ab_ct G σ (ab_E0 sc) 210 := by
  have h : (cE_494 sc).1 210 = (ab_E0 sc).1 210 := rfl
  unfold ab_ct
  rw [h]
  rfl
set_option maxRecDepth 100000 in
theorem ec_211 {G : ab_G} {σ : ab_S} : ab_ct G σ (cE_494 sc) 211 = ab_ct G σ (ab_E0 sc) 211 := by
  have h : (cE_494 sc).1 211 = (ab_E0 sc).1 211 := rfl
  unfold ab_ct
  rw [h]
  rfl
set_option maxRecDepth 100000 in
theorem ec_212 {G : ab_G} {σ : ab_S} : ab_ct G σ (cE_494 sc) 212 = ab_ct G σ (ab_E0 sc) 212 := by
  have h : (cE_494 sc).1 212 = (ab_E0 sc).1 212 := rfl
  unfold ab_ct
  rw [h]
  rfl
set_option maxRecDepth 100000 in
theorem ec_213 {G : ab_G} {σ : ab_S} : ab_ct G σ (cE_494 sc) 213 = ab_ct G σ (ab_E0 sc) 213 := by
  have h : (cE_494 sc).1 213 = (ab_E0 sc).1 213 := rfl
  unfold ab_ct
  rw [h]
  rfl
set_option maxRecDepth 100000 in
theorem ec_214 {G : ab_G} {σ : ab_S} : ab_ct G σ (cE_494 sc) 214 = ab_ct G σ (ab_E0 sc) 214 := by
  have h : (cE_494 sc).1 214 = (ab_E0 sc).1 214 := rfl
  unfold ab_ct
  rw [h]
  rfl
set_option maxRecDepth 100000 in
theorem ec_215 {G : ab_G} {σ : ab_S} : ab_ct G σ (cE_494 sc) 215 = ab_ct G σ (ab_E0 sc) 215 := by
  have h : (cE_494 sc).1 215 = (ab_E0 sc).1 215 := rfl
  unfold ab_ct
  rw [h]
  rfl
set_option maxRecDepth 100000 in
theorem ec_216 {G : ab_G} {σ : ab_S} : ab_ct G σ (cE_494 sc) 216 = ab_ct G σ (ab_E0 sc) 216 := by
  have h : (cE_494 sc).1 216 = (ab_E0 sc).1 216 := rfl
  unfold ab_ct
  rw [h]
  rfl
set_option maxRecDepth 100000 in
theorem ec_217 {G : ab_G} {σ : ab_S} : ab_ct G σ (cE_494 sc) 217 = ab_ct G σ (ab_E0 sc) 217 := by
  have h : (cE_494 sc).1 217 = (ab_E0 sc).1 217 := rfl
  unfold ab_ct
  rw [h]
  rfl
set_option maxRecDepth 100000 in
theorem ec_218 {G : ab_G} {σ : ab_S} : ab_ct G σ (cE_494 sc) 218 = ab_ct G σ (ab_E0 sc) 218 := by
  have h : (cE_494 sc).1 218 = (ab_E0 sc).1 218 := rfl
  unfold ab_ct
  rw [h]
  rfl
set_option maxRecDepth 100000 in
theorem ec_219 {G : ab_G} {σ : ab_S} : ab_ct G σ (cE_494 sc) 219 = ab_ct G σ (ab_E0 sc) 219 := by
  have h : (cE_494 sc).1 219 = (ab_E0 sc).1 219 := rfl
  unfold ab_ct
  rw [h]
  rfl
set_option maxRecDepth 100000 in
theorem ec_220 {G : ab_G} {σ : ab_S} : ab_ct G σ (cE_494 sc) 220 = ab_ct G σ (ab_E0 sc) 220 := by
  have h : (cE_494 sc).1 220 = (ab_E0 sc).1 220 := rfl
  unfold ab_ct
  rw [h]
  rfl
set_option maxRecDepth 100000 in
theorem ec_221 {G : ab_G} {σ : ab_S} : ab_ct G σ (cE_494 sc) 221 = ab_ct G σ (ab_E0 sc) 221 := by
  have h : (cE_494 sc).1 221 = (ab_E0 sc).1 221 := rfl
  unfold ab_ct
  rw [h]
  rfl
set_option maxRecDepth 100000 in
theorem ec_222 {G : ab_G} {σ : ab_S} : ab_ct G σ (cE_494 sc) 222 = ab_ct G σ (ab_E0 sc) 222 := by
  have h : (cE_494 sc).1 222 = (ab_E0 sc).1 222 := rfl
  unfold ab_ct
  rw [h]
  rfl
set_option maxRecDepth 100000 in
theorem ec_223 {G : ab_G} {σ : ab_S} : ab_ct G σ (cE_494 sc) 223 = ab_ct G σ (ab_E0 sc) 223 := by
  have h : (cE_494 sc).1 223 = (ab_E0 sc).1 223 := rfl
  unfold ab_ct
  rw [h]
  rfl
set_option maxRecDepth 100000 in
theorem ec_224 {G : ab_G} {σ : ab_S} : ab_ct G σ (cE_494 sc) 224 = ab_ct G σ (ab_E0 sc) 224 := by
  have h : (cE_494 sc).1 224 = (ab_E0 sc).1 224 := rfl
  unfold ab_ct
  rw [h]
  rfl
set_option maxRecDepth 100000 in
theorem ec_225 {G : ab_G} {σ : ab_S} : ab_ct G σ (cE_494 sc) 225 = ab_ct G σ (ab_E0 sc) 225 := by
  have h : (cE_494 sc).1 225 = (ab_E0 sc).1 225 := rfl
  unfold ab_ct
  rw [h]
  rfl
set_option maxRecDepth 100000 in
theorem ec_226 {G : ab_G} {σ : ab_S} : ab_ct G σ (cE_494 sc) 226 = ab_ct G σ (ab_E0 sc) 226 := by
  have h : (cE_494 sc).1 226 = (ab_E0 sc).1 226 := rfl
  unfold ab_ct
  rw [h]
  rfl
set_option maxRecDepth 100000 in
theorem ec_227 {G : ab_G} {σ : ab_S} : ab_ct G σ (cE_494 sc) 227 = ab_ct G σ (ab_E0 sc) 227 := by
  have h : (cE_494 sc).1 227 = (ab_E0 sc).1 227 := rfl
  unfold ab_ct
  rw [h]
  rfl
set_option maxRecDepth 100000 in
theorem ec_228 {G : ab_G} {σ : ab_S} : ab_ct G σ (cE_494 sc) 228 = ab_ct G σ (ab_E0 sc) 228 := by
  have h : (cE_494 sc).1 228 = (ab_E0 sc).1 228 := rfl
  unfold ab_ct
  rw [h]
  rfl
set_option maxRecDepth 100000 in
theorem ec_229 {G : ab_G} {σ : ab_S} : ab_ct G σ (cE_494 sc) 229 = ab_ct G σ (ab_E0 sc) 229 := by
  have h : (cE_494 sc).1 229 = (ab_E0 sc).1 229 := rfl
  unfold ab_ct
  rw [h]
  rfl
set_option maxRecDepth 100000 in
theorem ec_230 {G : ab_G} {σ : ab_S} : ab_ct G σ (cE_494 sc) 230 = ab_ct G σ (ab_E0 sc) 230 := by
  have h : (cE_494 sc).1 230 = (ab_E0 sc).1 230 := rfl
  unfold ab_ct
  rw [h]
  rfl
set_option maxRecDepth 100000 in
theorem ec_231 {G : ab_G} {σ : ab_S} : ab_ct G σ (cE_494 sc) 231 = ab_ct G σ (ab_E0 sc) 231 := by
  have h : (cE_494 sc).1 231 = (ab_E0 sc).1 231 := rfl
  unfold ab_ct
  rw [h]
  rfl
set_option maxRecDepth 100000 in
theorem ec_232 {G : ab_G} {σ : ab_S} : ab_ct G σ (cE_494 sc) 232 = ab_ct G σ (ab_E0 sc) 232 := by
  have h : (cE_494 sc).1 232 = (ab_E0 sc).1 232 := rfl
  unfold ab_ct
  rw [h]
  rfl
set_option maxRecDepth 100000 in
theorem ec_233 {G : ab_G} {σ : ab_S} : ab_ct G σ (cE_494 sc) 233 = ab_ct G σ (ab_E0 sc) 233 := by
  have h : (cE_494 sc).1 233 = (ab_E0 sc).1 233 := rfl
  unfold ab_ct
  rw [h]
  rfl
set_option maxRecDepth 100000 in
theorem ec_234 {G : ab_G} {σ : ab_S} : ab_ct G σ (cE_494 sc) 234 = ab_ct G σ (ab_E0 sc) 234 := by
  have h : (cE_494 sc).1 234 = (ab_E0 sc).1 234 := rfl
  unfold ab_ct
  rw [h]
  rfl
set_option maxRecDepth 100000 in
theorem ec_235 {G : ab_G} {σ : ab_S} : ab_ct G σ (cE_494 sc) 235 = ab_ct G σ (ab_E0 sc) 235 := by
  have h : (cE_494 sc).1 235 = (ab_E0 sc).1 235 := rfl
  unfold ab_ct
  rw [h]
  rfl
set_option maxRecDepth 100000 in
theorem ec_236 {G : ab_G} {σ : ab_S} : ab_ct G σ (cE_494 sc) 236 = ab_ct G σ (ab_E0 sc) 236 := by
  have h : (cE_494 sc).1 236 = (ab_E0 sc).1 236 := rfl
  unfold ab_ct
  rw [h]
  rfl
set_option maxRecDepth 100000 in
theorem ec_237 {G : ab_G} {σ : ab_S} : ab_ct G σ (cE_494 sc) 237 = ab_ct G σ (ab_E0 sc) 237 := by
  have h : (cE_494 sc).1 237 = (ab_E0 sc).1 237 := rfl
  unfold ab_ct
  rw [h]
  rfl
set_option maxRecDepth 100000 in
theorem ec_238 {G : ab_G} {σ : ab_S} : ab_ct G σ (cE_494 sc) 238 = ab_ct G σ (ab_E0 sc) 238 := by
  have h : (cE_494 sc).1 238 = (ab_E0 sc).1 238 := rfl
  unfold ab_ct
  rw [h]
  rfl
set_option maxRecDepth 100000 in
theorem ec_239 {G : ab_G} {σ : ab_S} : ab_ct G σ (cE_494 sc) 239 = ab_ct G σ (ab_E0 sc) 239 := by
  have h : (cE_494 sc).1 239 = (ab_E0 sc).1 239 := rfl
  unfold ab_ct
  rw [h]
  rfl
set_option maxRecDepth 100000 in
theorem ec_240 {G : ab_G} {σ : ab_S} : ab_ct G σ (cE_494 sc) 240 = ab_ct G σ (ab_E0 sc) 240 := by
  have h : (cE_494 sc).1 240 = (ab_E0 sc).1 240 := rfl
  unfold ab_ct
  rw [h]
  rfl
set_option maxRecDepth 100000 in
theorem ec_241 {G : ab_G} {σ : ab_S} : ab_ct G σ (cE_494 sc) 241 = ab_ct G σ (ab_E0 sc) 241 := by
  have h : (cE_494 sc).1 241 = (ab_E0 sc).1 241 := rfl
  unfold ab_ct
  rw [h]
  rfl
set_option maxRecDepth 100000 in
theorem ec_242 {G : ab_G} {σ : ab_S} : ab_ct G σ (cE_494 sc) 242 = ab_ct G σ (ab_E0 sc) 242 := by
  have h : (cE_494 sc).1 242 = (ab_E0 sc).1 242 := rfl
  unfold ab_ct
  rw [h]
  rfl
set_option maxRecDepth 100000 in
theorem ec_243 {G : ab_G} {σ : ab_S} : ab_ct G σ (cE_494 sc) 243 = ab_ct G σ (ab_E0 sc) 243 := by
  have h : (cE_494 sc).1 243 = (ab_E0 sc).1 243 := rfl
  unfold ab_ct
  rw [h]
  rfl
set_option maxRecDepth 100000 in
theorem ec_244 {G : ab_G} {σ : ab_S} : ab_ct G σ (cE_494 sc) 244 = ab_ct G σ (ab_E0 sc) 244 := by
  have h : (cE_494 sc).1 244 = (ab_E0 sc).1 244 := rfl
  unfold ab_ct
  rw [h]
  rfl
set_option maxRecDepth 100000 in
theorem ec_245 {G : ab_G} {σ : ab_S} : ab_ct G σ (cE_494 sc) 245 = ab_ct G σ (ab_E0 sc) 245 := by
  have h : (cE_494 sc).1 245 = (ab_E0 sc).1 245 := rfl
  unfold ab_ct
  rw [h]
  rfl
set_option maxRecDepth 100000 in
theorem ec_246 {G : ab_G} {σ : ab_S} : ab_ct G σ (cE_494 sc) 246 = ab_ct G σ (ab_E0 sc) 246 := by
  have h : (cE_494 sc).1 246 = (ab_E0 sc).1 246 := rfl
  unfold ab_ct
  rw [h]
  rfl
set_option maxRecDepth 100000 in
theorem ec_247 {G : ab_G} {σ : ab_S} : ab_ct G σ (cE_494 sc) 247 = ab_ct G σ (ab_E0 sc) 247 := by
  have h : (cE_494 sc).1 247 = (ab_E0 sc).1 247 := rfl
  unfold ab_ct
  rw [h]
  rfl
set_option maxRecDepth 100000 in
theorem ec_248 {G : ab_G} {σ : ab_S} : ab_ct G σ (cE_494 sc) 248 = ab_ct G σ (ab_E0 sc) 248 := by
  have h : (cE_494 sc).1 248 = (ab_E0 sc).1 248 := rfl
  unfold ab_ct
  rw [h]
  rfl
set_option maxRecDepth 100000 in
theorem ec_249 {G : ab_G} {σ : ab_S} : ab_ct G σ (cE_494 sc) 249 = ab_ct G σ (ab_E0 sc) 249 := by
  have h : (cE_494 sc).1 249 = (ab_E0 sc).1 249 := rfl
  unfold ab_ct
  rw [h]
  rfl
theorem la_w {G : ab_G} {σ : ab_S} : ab_w G σ (cE_494 sc) = ab_w G σ (ab_E0 sc) := by
  unfold ab_w
  show (List.range 247).map _ = (List.range 247).map _
  apply List.map_congr_left
  intro i hi
  have hi2 := List.mem_range.mp hi
  congr 1
  match i, hi2 with
  | 0, _ => exact ec_3
  | 1, _ => exact ec_4
  | 2, _ => exact ec_5
  | 3, _ => exact ec_6
  | 4, _ => exact ec_7
  | 5, _ => exact ec_8
  | 6, _ => exact ec_9
  | 7, _ => exact ec_10
  | 8, _ => exact ec_11
  | 9, _ => exact ec_12
  | 10, _ => exact ec_13
  | 11, _ => exact ec_14
  | 12, _ => exact ec_15
  | 13, _ => exact ec_16
  | 14, _ => exact ec_17
  | 15, _ => exact ec_18
  | 16, _ => exact ec_19
  | 17, _ => exact ec_20
  | 18, _ => exact ec_21
  | 19, _ => exact ec_22
  | 20, _ => exact ec_23
  | 21, _ => exact ec_24
  | 22, _ => exact ec_25
  | 23, _ => exact ec_26
  | 24, _ => exact ec_27
  | 25, _ => exact ec_28
  | 26, _ => exact ec_29
  | 27, _ => exact ec_30
  | 28, _ => exact ec_31
  | 29, _ => exact ec_32
  | 30, _ => exact ec_33
  | 31, _ => exact ec_34
  | 32, _ => exact ec_35
  | 33, _ => exact ec_36
  | 34, _ => exact ec_37
  | 35, _ => exact ec_38
  | 36, _ => exact ec_39
  | 37, _ => exact ec_40
  | 38, _ => exact ec_41
  | 39, _ => exact ec_42
  | 40, _ => exact ec_43
  | 41, _ => exact ec_44
  | 42, _ => exact ec_45
  | 43, _ => exact ec_46
  | 44, _ => exact ec_47
  | 45, _ => exact ec_48
  | 46, _ => exact ec_49
  | 47, _ => exact ec_50
  | 48, _ => exact ec_51
  | 49, _ => exact ec_52
  | 50, _ => exact ec_53
  | 51, _ => exact ec_54
  | 52, _ => exact ec_55
  | 53, _ => exact ec_56
  | 54, _ => exact ec_57
  | 55, _ => exact ec_58
  | 56, _ => exact ec_59
  | 57, _ => exact ec_60
  | 58, _ => exact ec_61
  | 59, _ => exact ec_62
  | 60, _ => exact ec_63
  | 61, _ => exact ec_64
  | 62, _ => exact ec_65
  | 63, _ => exact ec_66
  | 64, _ => exact ec_67
  | 65, _ => exact ec_68
  | 66, _ => exact ec_69
  | 67, _ => exact ec_70
  | 68, _ => exact ec_71
  | 69, _ => exact ec_72
  | 70, _ => exact ec_73
  | 71, _ => exact ec_74
  | 72, _ => exact ec_75
  | 73, _ => exact ec_76
  | 74, _ => exact ec_77
  | 75, _ => exact ec_78
  | 76, _ => exact ec_79
  | 77, _ => exact ec_80
  | 78, _ => exact ec_81
  | 79, _ => exact ec_82
  | 80, _ => exact ec_83
  | 81, _ => exact ec_84
  | 82, _ => exact ec_85
  | 83, _ => exact ec_86
  | 84, _ => exact ec_87
  | 85, _ => exact ec_88
  | 86, _ => exact ec_89
  | 87, _ => exact ec_90
  | 88, _ => exact ec_91
  | 89, _ => exact ec_92
  | 90, _ => exact ec_93
  | 91, _ => exact ec_94
  | 92, _ => exact ec_95
  | 93, _ => exact ec_96
  | 94, _ => exact ec_97
  | 95, _ => exact ec_98
  | 96, _ => exact ec_99
  | 97, _ => exact ec_100
  | 98, _ => exact ec_101
  | 99, _ => exact ec_102
  | 100, _ => exact ec_103
  | 101, _ => exact ec_104
  | 102, _ => exact ec_105
  | 103, _ => exact ec_106
  | 104, _ => exact ec_107
  | 105, _ => exact ec_108
  | 106, _ => exact ec_109
  | 107, _ => exact ec_110
  | 108, _ => exact ec_111
  | 109, _ => exact ec_112
  | 110, _ => exact ec_113
  | 111, _ => exact ec_114
  | 112, _ => exact ec_115
  | 113, _ => exact ec_116
  | 114, _ => exact ec_117
  | 115, _ => exact ec_118
  | 116, _ => exact ec_119
  | 117, _ => exact ec_120
  | 118, _ => exact ec_121
  | 119, _ => exact ec_122
  | 120, _ => exact ec_123
  | 121, _ => exact ec_124
  | 122, _ => exact ec_125
  | 123, _ => exact ec_126
  | 124, _ => exact ec_127
  | 125, _ => exact ec_128
  | 126, _ => exact ec_129
  | 127, _ => exact ec_130
  | 128, _ => exact ec_131
  | 129, _ => exact ec_132
  | 130, _ => exact ec_133
  | 131, _ => exact ec_134
  | 132, _ => exact ec_135
  | 133, _ => exact ec_136
  | 134, _ => exact ec_137
  | 135, _ => exact ec_138
  | 136, _ => exact ec_139
  | 137, _ => exact ec_140
  | 138, _ => exact ec_141
  | 139, _ => exact ec_142
  | 140, _ => exact ec_143
  | 141, _ => exact ec_144
  | 142, _ => exact ec_145
  | 143, _ => exact ec_146
  | 144, _ => exact ec_147
  | 145, _ => exact ec_148
  | 146, _ => exact ec_149
  | 147, _ => exact ec_150
  | 148, _ => exact ec_151
  | 149, _ => exact ec_152
  | 150, _ => exact ec_153
  | 151, _ => exact ec_154
  | 152, _ => exact ec_155
  | 153, _ => exact ec_156
  | 154, _ => exact ec_157
  | 155, _ => exact ec_158
  | 156, _ => exact ec_159
  | 157, _ => exact ec_160
  | 158, _ => exact ec_161
  | 159, _ => exact ec_162
  | 160, _ => exact ec_163
  | 161, _ => exact ec_164
  | 162, _ => exact ec_165
  | 163, _ => exact ec_166
  | 164, _ => exact ec_167
  | 165, _ => exact ec_168
  | 166, _ => exact ec_169
  | 167, _ => exact ec_170
  | 168, _ => exact ec_171
  | 169, _ => exact ec_172
  | 170, _ => exact ec_173
  | 171, _ => exact ec_174
  | 172, _ => exact ec_175
  | 173, _ => exact ec_176
  | 174, _ => exact ec_177
  | 175, _ => exact ec_178
  | 176, _ => exact ec_179
  | 177, _ => exact ec_180
  | 178, _ => exact ec_181
  | 179, _ => exact ec_182
  | 180, _ => exact ec_183
  | 181, _ => exact ec_184
  | 182, _ => exact ec_185
  | 183, _ => exact ec_186
  | 184, _ => exact ec_187
  | 185, _ => exact ec_188
  | 186, _ => exact ec_189
  | 187, _ => exact ec_190
  | 188, _ => exact ec_191
  | 189, _ => exact ec_192
  | 190, _ => exact ec_193
  | 191, _ => exact ec_194
  | 192, _ => exact ec_195
  | 193, _ => exact ec_196
  | 194, _ => exact ec_197
  | 195, _ => exact ec_198
  | 196, _ => exact ec_199
  | 197, _ => exact ec_200
  | 198, _ => exact ec_201
  | 199, _ => exact ec_202
  | 200, _ => exact ec_203
  | 201, _ => exact ec_204
  | 202, _ => exact ec_205
  | 203, _ => exact ec_206
  | 204, _ => exact ec_207
  | 205, _ => exact ec_208
  | 206, _ => exact ec_209
  | 207, _ => exact ec_210
  | 208, _ => exact ec_211
  | 209, _ => exact ec_212
  | 210, _ => exact ec_213
  | 211, _ => exact ec_214
  | 212, _ => exact ec_215
  | 213, _ => exact ec_216
  | 214, _ => exact ec_217
  | 215, _ => exact ec_218
  | 216, _ => exact ec_219
  | 217, _ => exact ec_220
  | 218, _ => exact ec_221
  | 219, _ => exact ec_222
  | 220, _ => exact ec_223
  | 221, _ => exact ec_224
  | 222, _ => exact ec_225
  | 223, _ => exact ec_226
  | 224, _ => exact ec_227
  | 225, _ => exact ec_228
  | 226, _ => exact ec_229
  | 227, _ => exact ec_230
  | 228, _ => exact ec_231
  | 229, _ => exact ec_232
  | 230, _ => exact ec_233
  | 231, _ => exact ec_234
  | 232, _ => exact ec_235
  | 233, _ => exact ec_236
  | 234, _ => exact ec_237
  | 235, _ => exact ec_238
  | 236, _ => exact ec_239
  | 237, _ => exact ec_240
  | 238, _ => exact ec_241
  | 239, _ => exact ec_242
  | 240, _ => exact ec_243
  | 241, _ => exact ec_244
  | 242, _ => exact ec_245
  | 243, _ => exact ec_246
  | 244, _ => exact ec_247
  | 245, _ => exact ec_248
  | 246, _ => exact ec_249
  | n + 247, h => exact absurd h (by omega)
set_option maxRecDepth 100000 in
theorem la_H {G : ab_G} {σ : ab_S} {H : Heap} (h : ab_H G σ (cE_494 sc) H) : ab_H G σ (ab_E0 sc) H := by
  obtain ⟨h1, h2, h3, h4⟩ := h
  rw [la_w] at h1
  refine ⟨h1, h2, fun k hk => match k, hk with
    | 0, _ => ⟨0, _, rfl⟩
    | 1, _ => ⟨1, _, rfl⟩
    | 2, _ => ⟨2, _, rfl⟩
    | n + 3, h => absurd h (by omega), fun k hk => ?_⟩
  have hk2 : 250 ≤ k := hk
  show ab_kd.getD k (.inr (9, 0)) = .inr (9, 0)
  rw [List.getD_eq_getElem?_getD, List.getElem?_eq_none (by rw [show ab_kd.length = 250 from rfl]; exact hk2)]
  rfl
theorem la_conv {M : ab_M} {d : Nat} {Q : ab_Qt} {pc : Nat} {L : List (Option Value)} {st : List Value} {cz : Nat × Nat} {σ : ab_S} (h : ab_Fr M d Q pc L st cz σ (ab_E0 sc)) : ab_Fr M d Q pc L st cz σ (cE_494 sc) := by
  intro p l e s mid args below meth c G H locs ls Z C hH hS hL hR
  exact h p l e s mid args below meth c G H locs ls Z C (la_H hH) hS hL hR
end AG
def la_l (l : List ((Nat × Nat) × Int64)) : Nat → Nat → Int64 := fun a b => match l.find? (fun p => p.1 == (a, b)) with
  | some p => p.2
  | none => 0
def la_i (l : List ((Nat × Nat) × Int32)) : Nat → Nat → Int32 := fun a b => match l.find? (fun p => p.1 == (a, b)) with
  | some p => p.2
  | none => 0
def la_d (l : List ((Nat × Nat) × Value)) : Nat → Nat → Value := fun a b => match l.find? (fun p => p.1 == (a, b)) with
  | some p => p.2
  | none => .null
theorem la_zn {α β : Type} (l : List ((Nat × Nat) × β)) (k a b : Nat) (h : (l.all (fun p => !(p.1.1 == k))) = true) (e : a = k) : l.find? (fun p => p.1 == (a, b)) = none := by
  subst e
  rw [List.find?_eq_none]
  intro p hp hq
  have h1 := List.all_eq_true.mp h p hp
  have h2 : p.1 = (a, b) := by simpa using hq
  rw [h2] at h1
  simp at h1
theorem la_ms {li : List ((Nat × Nat) × Int32)} {ll : List ((Nat × Nat) × Int64)} {ld : List ((Nat × Nat) × Value)} {k : Nat} (h1 : (li.all (fun p => !(p.1.1 == k))) = true) (h2 : (ll.all (fun p => !(p.1.1 == k))) = true) (h3 : (ld.all (fun p => !(p.1.1 == k))) = true) : ab_mkS (la_i li, la_l ll, la_d ld, 0) k = (la_i li, la_l ll, la_d ld, 0) := by
  unfold ab_mkS
  refine Prod.ext ?_ (Prod.ext ?_ (Prod.ext ?_ rfl))
  · funext a b
    show ab_z (la_i li) k 0 a b = la_i li a b
    unfold ab_z
    split
    · rename_i e
      unfold la_i
      rw [la_zn (α := Nat) li k a b h1 e]
    · rfl
  · funext a b
    show ab_z (la_l ll) k 0 a b = la_l ll a b
    unfold ab_z
    split
    · rename_i e
      unfold la_l
      rw [la_zn (α := Nat) ll k a b h2 e]
    · rfl
  · funext a b
    show ab_z (la_d ld) k .null a b = la_d ld a b
    unfold ab_z
    split
    · rename_i e
      unfold la_d
      rw [la_zn (α := Nat) ld k a b h3 e]
    · rfl
theorem la_bq (k j a b : Nat) : ((k, j) == (a, b)) = decide (a = k ∧ b = j) := by
  by_cases h : a = k ∧ b = j
  · obtain ⟨rfl, rfl⟩ := h
    simp
  · have h2 : ¬ ((k, j) = (a, b)) := fun q => by cases q; exact h ⟨rfl, rfl⟩
    simp only [h, decide_false]
    exact beq_false_of_ne h2
theorem la_ui {l : List ((Nat × Nat) × Int32)} {k j : Nat} {v : Int32} : ab_u (la_i l) k j v = la_i (((k, j), v) :: l) := by
  funext a b
  unfold ab_u la_i
  rw [List.find?_cons]
  dsimp only
  rw [la_bq]
  by_cases h : a = k ∧ b = j <;> simp [h]
theorem la_ul {l : List ((Nat × Nat) × Int64)} {k j : Nat} {v : Int64} : ab_u (la_l l) k j v = la_l (((k, j), v) :: l) := by
  funext a b
  unfold ab_u la_l
  rw [List.find?_cons]
  dsimp only
  rw [la_bq]
  by_cases h : a = k ∧ b = j <;> simp [h]
theorem la_ud {l : List ((Nat × Nat) × Value)} {k j : Nat} {v : Value} : ab_u (la_d l) k j v = la_d (((k, j), v) :: l) := by
  funext a b
  unfold ab_u la_d
  rw [List.find?_cons]
  dsimp only
  rw [la_bq]
  by_cases h : a = k ∧ b = j <;> simp [h]
def la_I0 : List ((Nat × Nat) × Int32) := []
def la_J0 : List ((Nat × Nat) × Int64) := []
def la_D0 : List ((Nat × Nat) × Value) := []
theorem cs_0 : cS_0 = (la_i la_I0, la_l la_J0, la_d la_D0, 0) := rfl
theorem cs_1 : cS_1 = (la_i la_I0, la_l la_J0, la_d la_D0, 0) := by
  unfold cS_1
  rw [cs_0]
  exact la_ms rfl rfl rfl
theorem cs_2 : cS_2 = (la_i la_I0, la_l la_J0, la_d la_D0, 0) := by
  unfold cS_2
  rw [cs_1]
  exact la_ms rfl rfl rfl
theorem cs_3 : cS_3 = (la_i la_I0, la_l la_J0, la_d la_D0, 0) := by
  unfold cS_3
  rw [cs_2]
  exact la_ms rfl rfl rfl
theorem cs_4 : cS_4 = (la_i la_I0, la_l la_J0, la_d la_D0, 0) := by
  unfold cS_4
  rw [cs_3]
  exact la_ms rfl rfl rfl
theorem cs_5 : cS_5 = (la_i la_I0, la_l la_J0, la_d la_D0, 0) := by
  unfold cS_5
  rw [cs_4]
  exact la_ms rfl rfl rfl
def la_I1 : List ((Nat × Nat) × Int32) := ((7, 5), (-1)) :: la_I0
theorem cs_6 : cS_6 = (la_i la_I1, la_l la_J0, la_d la_D0, 0) := by
  unfold cS_6
  rw [cs_5]
  exact congrArg (fun f => ((f, la_l la_J0, la_d la_D0, 0) : ab_S)) (show ab_u (la_i la_I0) 7 5 (-1) = la_i la_I1 from la_ui)
theorem cs_7 : cS_7 = (la_i la_I1, la_l la_J0, la_d la_D0, 0) := by
  unfold cS_7
  rw [cs_6]
  exact la_ms rfl rfl rfl
theorem cs_8 : cS_8 = (la_i la_I1, la_l la_J0, la_d la_D0, 0) := by
  unfold cS_8
  rw [cs_7]
  exact la_ms rfl rfl rfl
theorem cs_9 : cS_9 = (la_i la_I1, la_l la_J0, la_d la_D0, 0) := by
  unfold cS_9
  rw [cs_8]
  exact la_ms rfl rfl rfl
theorem cs_10 : cS_10 = (la_i la_I1, la_l la_J0, la_d la_D0, 0) := by
  unfold cS_10
  rw [cs_9]
  exact la_ms rfl rfl rfl
theorem cs_11 : cS_11 = (la_i la_I1, la_l la_J0, la_d la_D0, 0) := by
  unfold cS_11
  rw [cs_10]
  exact la_ms rfl rfl rfl
theorem cs_12 : cS_12 = (la_i la_I1, la_l la_J0, la_d la_D0, 0) := by
  unfold cS_12
  rw [cs_11]
  exact la_ms rfl rfl rfl
theorem cs_13 : cS_13 = (la_i la_I1, la_l la_J0, la_d la_D0, 0) := by
  unfold cS_13
  rw [cs_12]
  exact la_ms rfl rfl rfl
theorem cs_14 : cS_14 = (la_i la_I1, la_l la_J0, la_d la_D0, 0) := by
  unfold cS_14
  rw [cs_13]
  exact la_ms rfl rfl rfl
theorem cs_15 : cS_15 = (la_i la_I1, la_l la_J0, la_d la_D0, 0) := by
  unfold cS_15
  rw [cs_14]
  exact la_ms rfl rfl rfl
theorem cs_16 : cS_16 = (la_i la_I1, la_l la_J0, la_d la_D0, 0) := by
  unfold cS_16
  rw [cs_15]
  exact la_ms rfl rfl rfl
theorem cs_17 : cS_17 = (la_i la_I1, la_l la_J0, la_d la_D0, 0) := by
  unfold cS_17
  rw [cs_16]
  exact la_ms rfl rfl rfl
theorem cs_18 : cS_18 = (la_i la_I1, la_l la_J0, la_d la_D0, 0) := by
  unfold cS_18
  rw [cs_17]
  exact la_ms rfl rfl rfl
theorem cs_19 : cS_19 = (la_i la_I1, la_l la_J0, la_d la_D0, 0) := by
  unfold cS_19
  rw [cs_18]
  exact la_ms rfl rfl rfl
theorem cs_20 : cS_20 = (la_i la_I1, la_l la_J0, la_d la_D0, 0) := by
  unfold cS_20
  rw [cs_19]
  exact la_ms rfl rfl rfl
theorem cs_21 : cS_21 = (la_i la_I1, la_l la_J0, la_d la_D0, 0) := by
  unfold cS_21
  rw [cs_20]
  exact la_ms rfl rfl rfl
theorem cs_22 : cS_22 = (la_i la_I1, la_l la_J0, la_d la_D0, 0) := by
  unfold cS_22
  rw [cs_21]
  exact la_ms rfl rfl rfl
theorem cs_23 : cS_23 = (la_i la_I1, la_l la_J0, la_d la_D0, 0) := by
  unfold cS_23
  rw [cs_22]
  exact la_ms rfl rfl rfl
theorem cs_24 : cS_24 = (la_i la_I1, la_l la_J0, la_d la_D0, 0) := by
  unfold cS_24
  rw [cs_23]
  exact la_ms rfl rfl rfl
theorem cs_25 : cS_25 = (la_i la_I1, la_l la_J0, la_d la_D0, 0) := by
  unfold cS_25
  rw [cs_24]
  exact la_ms rfl rfl rfl
theorem cs_26 : cS_26 = (la_i la_I1, la_l la_J0, la_d la_D0, 0) := by
  unfold cS_26
  rw [cs_25]
  exact la_ms rfl rfl rfl
theorem cs_27 : cS_27 = (la_i la_I1, la_l la_J0, la_d la_D0, 0) := by
  unfold cS_27
  rw [cs_26]
  exact la_ms rfl rfl rfl
theorem cs_28 : cS_28 = (la_i la_I1, la_l la_J0, la_d la_D0, 0) := by
  unfold cS_28
  rw [cs_27]
  exact la_ms rfl rfl rfl
theorem cs_29 : cS_29 = (la_i la_I1, la_l la_J0, la_d la_D0, 0) := by
  unfold cS_29
  rw [cs_28]
  exact la_ms rfl rfl rfl
theorem cs_30 : cS_30 = (la_i la_I1, la_l la_J0, la_d la_D0, 0) := by
  unfold cS_30
  rw [cs_29]
  exact la_ms rfl rfl rfl
theorem cs_31 : cS_31 = (la_i la_I1, la_l la_J0, la_d la_D0, 0) := by
  unfold cS_31
  rw [cs_30]
  exact la_ms rfl rfl rfl
theorem cs_32 : cS_32 = (la_i la_I1, la_l la_J0, la_d la_D0, 0) := by
  unfold cS_32
  rw [cs_31]
  exact la_ms rfl rfl rfl
theorem cs_33 : cS_33 = (la_i la_I1, la_l la_J0, la_d la_D0, 0) := by
  unfold cS_33
  rw [cs_32]
  exact la_ms rfl rfl rfl
theorem cs_34 : cS_34 = (la_i la_I1, la_l la_J0, la_d la_D0, 0) := by
  unfold cS_34
  rw [cs_33]
  exact la_ms rfl rfl rfl
theorem cs_35 : cS_35 = (la_i la_I1, la_l la_J0, la_d la_D0, 0) := by
  unfold cS_35
  rw [cs_34]
  exact la_ms rfl rfl rfl
theorem cs_36 : cS_36 = (la_i la_I1, la_l la_J0, la_d la_D0, 0) := by
  unfold cS_36
  rw [cs_35]
  exact la_ms rfl rfl rfl
theorem cs_37 : cS_37 = (la_i la_I1, la_l la_J0, la_d la_D0, 0) := by
  unfold cS_37
  rw [cs_36]
  exact la_ms rfl rfl rfl
theorem cs_38 : cS_38 = (la_i la_I1, la_l la_J0, la_d la_D0, 0) := by
  unfold cS_38
  rw [cs_37]
  exact la_ms rfl rfl rfl
theorem cs_39 : cS_39 = (la_i la_I1, la_l la_J0, la_d la_D0, 0) := by
  unfold cS_39
  rw [cs_38]
  exact la_ms rfl rfl rfl
theorem cs_40 : cS_40 = (la_i la_I1, la_l la_J0, la_d la_D0, 0) := by
  unfold cS_40
  rw [cs_39]
  exact la_ms rfl rfl rfl
theorem cs_41 : cS_41 = (la_i la_I1, la_l la_J0, la_d la_D0, 0) := by
  unfold cS_41
  rw [cs_40]
  exact la_ms rfl rfl rfl
theorem cs_42 : cS_42 = (la_i la_I1, la_l la_J0, la_d la_D0, 0) := by
  unfold cS_42
  rw [cs_41]
  exact la_ms rfl rfl rfl
theorem cs_43 : cS_43 = (la_i la_I1, la_l la_J0, la_d la_D0, 0) := by
  unfold cS_43
  rw [cs_42]
  exact la_ms rfl rfl rfl
theorem cs_44 : cS_44 = (la_i la_I1, la_l la_J0, la_d la_D0, 0) := by
  unfold cS_44
  rw [cs_43]
  exact la_ms rfl rfl rfl
theorem cs_45 : cS_45 = (la_i la_I1, la_l la_J0, la_d la_D0, 0) := by
  unfold cS_45
  rw [cs_44]
  exact la_ms rfl rfl rfl
theorem cs_46 : cS_46 = (la_i la_I1, la_l la_J0, la_d la_D0, 0) := by
  unfold cS_46
  rw [cs_45]
  exact la_ms rfl rfl rfl
theorem cs_47 : cS_47 = (la_i la_I1, la_l la_J0, la_d la_D0, 0) := by
  unfold cS_47
  rw [cs_46]
  exact la_ms rfl rfl rfl
theorem cs_48 : cS_48 = (la_i la_I1, la_l la_J0, la_d la_D0, 0) := by
  unfold cS_48
  rw [cs_47]
  exact la_ms rfl rfl rfl
theorem cs_49 : cS_49 = (la_i la_I1, la_l la_J0, la_d la_D0, 0) := by
  unfold cS_49
  rw [cs_48]
  exact la_ms rfl rfl rfl
theorem cs_50 : cS_50 = (la_i la_I1, la_l la_J0, la_d la_D0, 0) := by
  unfold cS_50
  rw [cs_49]
  exact la_ms rfl rfl rfl
theorem cs_51 : cS_51 = (la_i la_I1, la_l la_J0, la_d la_D0, 0) := by
  unfold cS_51
  rw [cs_50]
  exact la_ms rfl rfl rfl
theorem cs_52 : cS_52 = (la_i la_I1, la_l la_J0, la_d la_D0, 0) := by
  unfold cS_52
  rw [cs_51]
  exact la_ms rfl rfl rfl
theorem cs_53 : cS_53 = (la_i la_I1, la_l la_J0, la_d la_D0, 0) := by
  unfold cS_53
  rw [cs_52]
  exact la_ms rfl rfl rfl
theorem cs_54 : cS_54 = (la_i la_I1, la_l la_J0, la_d la_D0, 0) := by
  unfold cS_54
  rw [cs_53]
  exact la_ms rfl rfl rfl
theorem cs_55 : cS_55 = (la_i la_I1, la_l la_J0, la_d la_D0, 0) := by
  unfold cS_55
  rw [cs_54]
  exact la_ms rfl rfl rfl
theorem cs_56 : cS_56 = (la_i la_I1, la_l la_J0, la_d la_D0, 0) := by
  unfold cS_56
  rw [cs_55]
  exact la_ms rfl rfl rfl
def la_I2 : List ((Nat × Nat) × Int32) := ((57, 5), (-1)) :: la_I1
theorem cs_57 : cS_57 = (la_i la_I2, la_l la_J0, la_d la_D0, 0) := by
  unfold cS_57
  rw [cs_56]
  exact congrArg (fun f => ((f, la_l la_J0, la_d la_D0, 0) : ab_S)) (show ab_u (la_i la_I1) 57 5 (-1) = la_i la_I2 from la_ui)
theorem cs_58 : cS_58 = (la_i la_I2, la_l la_J0, la_d la_D0, 0) := by
  unfold cS_58
  rw [cs_57]
  exact la_ms rfl rfl rfl
theorem cs_59 : cS_59 = (la_i la_I2, la_l la_J0, la_d la_D0, 0) := by
  unfold cS_59
  rw [cs_58]
  exact la_ms rfl rfl rfl
theorem cs_60 : cS_60 = (la_i la_I2, la_l la_J0, la_d la_D0, 0) := by
  unfold cS_60
  rw [cs_59]
  exact la_ms rfl rfl rfl
theorem cs_61 : cS_61 = (la_i la_I2, la_l la_J0, la_d la_D0, 0) := by
  unfold cS_61
  rw [cs_60]
  exact la_ms rfl rfl rfl
theorem cs_62 : cS_62 = (la_i la_I2, la_l la_J0, la_d la_D0, 0) := by
  unfold cS_62
  rw [cs_61]
  exact la_ms rfl rfl rfl
theorem cs_63 : cS_63 = (la_i la_I2, la_l la_J0, la_d la_D0, 0) := by
  unfold cS_63
  rw [cs_62]
  exact la_ms rfl rfl rfl
theorem cs_64 : cS_64 = (la_i la_I2, la_l la_J0, la_d la_D0, 0) := by
  unfold cS_64
  rw [cs_63]
  exact la_ms rfl rfl rfl
theorem cs_65 : cS_65 = (la_i la_I2, la_l la_J0, la_d la_D0, 0) := by
  unfold cS_65
  rw [cs_64]
  exact la_ms rfl rfl rfl
theorem cs_66 : cS_66 = (la_i la_I2, la_l la_J0, la_d la_D0, 0) := by
  unfold cS_66
  rw [cs_65]
  exact la_ms rfl rfl rfl
theorem cs_67 : cS_67 = (la_i la_I2, la_l la_J0, la_d la_D0, 0) := by
  unfold cS_67
  rw [cs_66]
  exact la_ms rfl rfl rfl
theorem cs_68 : cS_68 = (la_i la_I2, la_l la_J0, la_d la_D0, 0) := by
  unfold cS_68
  rw [cs_67]
  exact la_ms rfl rfl rfl
theorem cs_69 : cS_69 = (la_i la_I2, la_l la_J0, la_d la_D0, 0) := by
  unfold cS_69
  rw [cs_68]
  exact la_ms rfl rfl rfl
theorem cs_70 : cS_70 = (la_i la_I2, la_l la_J0, la_d la_D0, 0) := by
  unfold cS_70
  rw [cs_69]
  exact la_ms rfl rfl rfl
theorem cs_71 : cS_71 = (la_i la_I2, la_l la_J0, la_d la_D0, 0) := by
  unfold cS_71
  rw [cs_70]
  exact la_ms rfl rfl rfl
theorem cs_72 : cS_72 = (la_i la_I2, la_l la_J0, la_d la_D0, 0) := by
  unfold cS_72
  rw [cs_71]
  exact la_ms rfl rfl rfl
theorem cs_73 : cS_73 = (la_i la_I2, la_l la_J0, la_d la_D0, 0) := by
  unfold cS_73
  rw [cs_72]
  exact la_ms rfl rfl rfl
theorem cs_74 : cS_74 = (la_i la_I2, la_l la_J0, la_d la_D0, 0) := by
  unfold cS_74
  rw [cs_73]
  exact la_ms rfl rfl rfl
theorem cs_75 : cS_75 = (la_i la_I2, la_l la_J0, la_d la_D0, 0) := by
  unfold cS_75
  rw [cs_74]
  exact la_ms rfl rfl rfl
theorem cs_76 : cS_76 = (la_i la_I2, la_l la_J0, la_d la_D0, 0) := by
  unfold cS_76
  rw [cs_75]
  exact la_ms rfl rfl rfl
theorem cs_77 : cS_77 = (la_i la_I2, la_l la_J0, la_d la_D0, 0) := by
  unfold cS_77
  rw [cs_76]
  exact la_ms rfl rfl rfl
theorem cs_78 : cS_78 = (la_i la_I2, la_l la_J0, la_d la_D0, 0) := by
  unfold cS_78
  rw [cs_77]
  exact la_ms rfl rfl rfl
theorem cs_79 : cS_79 = (la_i la_I2, la_l la_J0, la_d la_D0, 0) := by
  unfold cS_79
  rw [cs_78]
  exact la_ms rfl rfl rfl
theorem cs_80 : cS_80 = (la_i la_I2, la_l la_J0, la_d la_D0, 0) := by
  unfold cS_80
  rw [cs_79]
  exact la_ms rfl rfl rfl
theorem cs_81 : cS_81 = (la_i la_I2, la_l la_J0, la_d la_D0, 0) := by
  unfold cS_81
  rw [cs_80]
  exact la_ms rfl rfl rfl
theorem cs_82 : cS_82 = (la_i la_I2, la_l la_J0, la_d la_D0, 0) := by
  unfold cS_82
  rw [cs_81]
  exact la_ms rfl rfl rfl
theorem cs_83 : cS_83 = (la_i la_I2, la_l la_J0, la_d la_D0, 0) := by
  unfold cS_83
  rw [cs_82]
  exact la_ms rfl rfl rfl
theorem cs_84 : cS_84 = (la_i la_I2, la_l la_J0, la_d la_D0, 0) := by
  unfold cS_84
  rw [cs_83]
  exact la_ms rfl rfl rfl
theorem cs_85 : cS_85 = (la_i la_I2, la_l la_J0, la_d la_D0, 0) := by
  unfold cS_85
  rw [cs_84]
  exact la_ms rfl rfl rfl
theorem cs_86 : cS_86 = (la_i la_I2, la_l la_J0, la_d la_D0, 0) := by
  unfold cS_86
  rw [cs_85]
  exact la_ms rfl rfl rfl
theorem cs_87 : cS_87 = (la_i la_I2, la_l la_J0, la_d la_D0, 0) := by
  unfold cS_87
  rw [cs_86]
  exact la_ms rfl rfl rfl
theorem cs_88 : cS_88 = (la_i la_I2, la_l la_J0, la_d la_D0, 0) := by
  unfold cS_88
  rw [cs_87]
  exact la_ms rfl rfl rfl
theorem cs_89 : cS_89 = (la_i la_I2, la_l la_J0, la_d la_D0, 0) := by
  unfold cS_89
  rw [cs_88]
  exact la_ms rfl rfl rfl
theorem cs_90 : cS_90 = (la_i la_I2, la_l la_J0, la_d la_D0, 0) := by
  unfold cS_90
  rw [cs_89]
  exact la_ms rfl rfl rfl
theorem cs_91 : cS_91 = (la_i la_I2, la_l la_J0, la_d la_D0, 0) := by
  unfold cS_91
  rw [cs_90]
  exact la_ms rfl rfl rfl
theorem cs_92 : cS_92 = (la_i la_I2, la_l la_J0, la_d la_D0, 0) := by
  unfold cS_92
  rw [cs_91]
  exact la_ms rfl rfl rfl
theorem cs_93 : cS_93 = (la_i la_I2, la_l la_J0, la_d la_D0, 0) := by
  unfold cS_93
  rw [cs_92]
  exact la_ms rfl rfl rfl
theorem cs_94 : cS_94 = (la_i la_I2, la_l la_J0, la_d la_D0, 0) := by
  unfold cS_94
  rw [cs_93]
  exact la_ms rfl rfl rfl
theorem cs_95 : cS_95 = (la_i la_I2, la_l la_J0, la_d la_D0, 0) := by
  unfold cS_95
  rw [cs_94]
  exact la_ms rfl rfl rfl
theorem cs_96 : cS_96 = (la_i la_I2, la_l la_J0, la_d la_D0, 0) := by
  unfold cS_96
  rw [cs_95]
  exact la_ms rfl rfl rfl
theorem cs_97 : cS_97 = (la_i la_I2, la_l la_J0, la_d la_D0, 0) := by
  unfold cS_97
  rw [cs_96]
  exact la_ms rfl rfl rfl
theorem cs_98 : cS_98 = (la_i la_I2, la_l la_J0, la_d la_D0, 0) := by
  unfold cS_98
  rw [cs_97]
  exact la_ms rfl rfl rfl
theorem cs_99 : cS_99 = (la_i la_I2, la_l la_J0, la_d la_D0, 0) := by
  unfold cS_99
  rw [cs_98]
  exact la_ms rfl rfl rfl
theorem cs_100 : cS_100 = (la_i la_I2, la_l la_J0, la_d la_D0, 0) := by
  unfold cS_100
  rw [cs_99]
  exact la_ms rfl rfl rfl
theorem cs_101 : cS_101 = (la_i la_I2, la_l la_J0, la_d la_D0, 0) := by
  unfold cS_101
  rw [cs_100]
  exact la_ms rfl rfl rfl
theorem cs_102 : cS_102 = (la_i la_I2, la_l la_J0, la_d la_D0, 0) := by
  unfold cS_102
  rw [cs_101]
  exact la_ms rfl rfl rfl
theorem cs_103 : cS_103 = (la_i la_I2, la_l la_J0, la_d la_D0, 0) := by
  unfold cS_103
  rw [cs_102]
  exact la_ms rfl rfl rfl
theorem cs_104 : cS_104 = (la_i la_I2, la_l la_J0, la_d la_D0, 0) := by
  unfold cS_104
  rw [cs_103]
  exact la_ms rfl rfl rfl
theorem cs_105 : cS_105 = (la_i la_I2, la_l la_J0, la_d la_D0, 0) := by
  unfold cS_105
  rw [cs_104]
  exact la_ms rfl rfl rfl
theorem cs_106 : cS_106 = (la_i la_I2, la_l la_J0, la_d la_D0, 0) := by
  unfold cS_106
  rw [cs_105]
  exact la_ms rfl rfl rfl
theorem cs_107 : cS_107 = (la_i la_I2, la_l la_J0, la_d la_D0, 0) := by
  unfold cS_107
  rw [cs_106]
  exact la_ms rfl rfl rfl
def la_I3 : List ((Nat × Nat) × Int32) := ((107, 5), (-1)) :: la_I2
theorem cs_108 : cS_108 = (la_i la_I3, la_l la_J0, la_d la_D0, 0) := by
  unfold cS_108
  rw [cs_107]
  exact congrArg (fun f => ((f, la_l la_J0, la_d la_D0, 0) : ab_S)) (show ab_u (la_i la_I2) 107 5 (-1) = la_i la_I3 from la_ui)
theorem cs_109 : cS_109 = (la_i la_I3, la_l la_J0, la_d la_D0, 0) := by
  unfold cS_109
  rw [cs_108]
  exact la_ms rfl rfl rfl
theorem cs_110 : cS_110 = (la_i la_I3, la_l la_J0, la_d la_D0, 0) := by
  unfold cS_110
  rw [cs_109]
  exact la_ms rfl rfl rfl
theorem cs_111 : cS_111 = (la_i la_I3, la_l la_J0, la_d la_D0, 0) := by
  unfold cS_111
  rw [cs_110]
  exact la_ms rfl rfl rfl
theorem cs_112 : cS_112 = (la_i la_I3, la_l la_J0, la_d la_D0, 0) := by
  unfold cS_112
  rw [cs_111]
  exact la_ms rfl rfl rfl
theorem cs_113 : cS_113 = (la_i la_I3, la_l la_J0, la_d la_D0, 0) := by
  unfold cS_113
  rw [cs_112]
  exact la_ms rfl rfl rfl
theorem cs_114 : cS_114 = (la_i la_I3, la_l la_J0, la_d la_D0, 0) := by
  unfold cS_114
  rw [cs_113]
  exact la_ms rfl rfl rfl
theorem cs_115 : cS_115 = (la_i la_I3, la_l la_J0, la_d la_D0, 0) := by
  unfold cS_115
  rw [cs_114]
  exact la_ms rfl rfl rfl
theorem cs_116 : cS_116 = (la_i la_I3, la_l la_J0, la_d la_D0, 0) := by
  unfold cS_116
  rw [cs_115]
  exact la_ms rfl rfl rfl
theorem cs_117 : cS_117 = (la_i la_I3, la_l la_J0, la_d la_D0, 0) := by
  unfold cS_117
  rw [cs_116]
  exact la_ms rfl rfl rfl
theorem cs_118 : cS_118 = (la_i la_I3, la_l la_J0, la_d la_D0, 0) := by
  unfold cS_118
  rw [cs_117]
  exact la_ms rfl rfl rfl
theorem cs_119 : cS_119 = (la_i la_I3, la_l la_J0, la_d la_D0, 0) := by
  unfold cS_119
  rw [cs_118]
  exact la_ms rfl rfl rfl
theorem cs_120 : cS_120 = (la_i la_I3, la_l la_J0, la_d la_D0, 0) := by
  unfold cS_120
  rw [cs_119]
  exact la_ms rfl rfl rfl
theorem cs_121 : cS_121 = (la_i la_I3, la_l la_J0, la_d la_D0, 0) := by
  unfold cS_121
  rw [cs_120]
  exact la_ms rfl rfl rfl
theorem cs_122 : cS_122 = (la_i la_I3, la_l la_J0, la_d la_D0, 0) := by
  unfold cS_122
  rw [cs_121]
  exact la_ms rfl rfl rfl
theorem cs_123 : cS_123 = (la_i la_I3, la_l la_J0, la_d la_D0, 0) := by
  unfold cS_123
  rw [cs_122]
  exact la_ms rfl rfl rfl
theorem cs_124 : cS_124 = (la_i la_I3, la_l la_J0, la_d la_D0, 0) := by
  unfold cS_124
  rw [cs_123]
  exact la_ms rfl rfl rfl
theorem cs_125 : cS_125 = (la_i la_I3, la_l la_J0, la_d la_D0, 0) := by
  unfold cS_125
  rw [cs_124]
  exact la_ms rfl rfl rfl
theorem cs_126 : cS_126 = (la_i la_I3, la_l la_J0, la_d la_D0, 0) := by
  unfold cS_126
  rw [cs_125]
  exact la_ms rfl rfl rfl
theorem cs_127 : cS_127 = (la_i la_I3, la_l la_J0, la_d la_D0, 0) := by
  unfold cS_127
  rw [cs_126]
  exact la_ms rfl rfl rfl
theorem cs_128 : cS_128 = (la_i la_I3, la_l la_J0, la_d la_D0, 0) := by
  unfold cS_128
  rw [cs_127]
  exact la_ms rfl rfl rfl
theorem cs_129 : cS_129 = (la_i la_I3, la_l la_J0, la_d la_D0, 0) := by
  unfold cS_129
  rw [cs_128]
  exact la_ms rfl rfl rfl
theorem cs_130 : cS_130 = (la_i la_I3, la_l la_J0, la_d la_D0, 0) := by
  unfold cS_130
  rw [cs_129]
  exact la_ms rfl rfl rfl
theorem cs_131 : cS_131 = (la_i la_I3, la_l la_J0, la_d la_D0, 0) := by
  unfold cS_131
  rw [cs_130]
  exact la_ms rfl rfl rfl
theorem cs_132 : cS_132 = (la_i la_I3, la_l la_J0, la_d la_D0, 0) := by
  unfold cS_132
  rw [cs_131]
  exact la_ms rfl rfl rfl
theorem cs_133 : cS_133 = (la_i la_I3, la_l la_J0, la_d la_D0, 0) := by
  unfold cS_133
  rw [cs_132]
  exact la_ms rfl rfl rfl
theorem cs_134 : cS_134 = (la_i la_I3, la_l la_J0, la_d la_D0, 0) := by
  unfold cS_134
  rw [cs_133]
  exact la_ms rfl rfl rfl
theorem cs_135 : cS_135 = (la_i la_I3, la_l la_J0, la_d la_D0, 0) := by
  unfold cS_135
  rw [cs_134]
  exact la_ms rfl rfl rfl
theorem cs_136 : cS_136 = (la_i la_I3, la_l la_J0, la_d la_D0, 0) := by
  unfold cS_136
  rw [cs_135]
  exact la_ms rfl rfl rfl
theorem cs_137 : cS_137 = (la_i la_I3, la_l la_J0, la_d la_D0, 0) := by
  unfold cS_137
  rw [cs_136]
  exact la_ms rfl rfl rfl
theorem cs_138 : cS_138 = (la_i la_I3, la_l la_J0, la_d la_D0, 0) := by
  unfold cS_138
  rw [cs_137]
  exact la_ms rfl rfl rfl
theorem cs_139 : cS_139 = (la_i la_I3, la_l la_J0, la_d la_D0, 0) := by
  unfold cS_139
  rw [cs_138]
  exact la_ms rfl rfl rfl
theorem cs_140 : cS_140 = (la_i la_I3, la_l la_J0, la_d la_D0, 0) := by
  unfold cS_140
  rw [cs_139]
  exact la_ms rfl rfl rfl
theorem cs_141 : cS_141 = (la_i la_I3, la_l la_J0, la_d la_D0, 0) := by
  unfold cS_141
  rw [cs_140]
  exact la_ms rfl rfl rfl
theorem cs_142 : cS_142 = (la_i la_I3, la_l la_J0, la_d la_D0, 0) := by
  unfold cS_142
  rw [cs_141]
  exact la_ms rfl rfl rfl
theorem cs_143 : cS_143 = (la_i la_I3, la_l la_J0, la_d la_D0, 0) := by
  unfold cS_143
  rw [cs_142]
  exact la_ms rfl rfl rfl
theorem cs_144 : cS_144 = (la_i la_I3, la_l la_J0, la_d la_D0, 0) := by
  unfold cS_144
  rw [cs_143]
  exact la_ms rfl rfl rfl
theorem cs_145 : cS_145 = (la_i la_I3, la_l la_J0, la_d la_D0, 0) := by
  unfold cS_145
  rw [cs_144]
  exact la_ms rfl rfl rfl
theorem cs_146 : cS_146 = (la_i la_I3, la_l la_J0, la_d la_D0, 0) := by
  unfold cS_146
  rw [cs_145]
  exact la_ms rfl rfl rfl
theorem cs_147 : cS_147 = (la_i la_I3, la_l la_J0, la_d la_D0, 0) := by
  unfold cS_147
  rw [cs_146]
  exact la_ms rfl rfl rfl
theorem cs_148 : cS_148 = (la_i la_I3, la_l la_J0, la_d la_D0, 0) := by
  unfold cS_148
  rw [cs_147]
  exact la_ms rfl rfl rfl
theorem cs_149 : cS_149 = (la_i la_I3, la_l la_J0, la_d la_D0, 0) := by
  unfold cS_149
  rw [cs_148]
  exact la_ms rfl rfl rfl
theorem cs_150 : cS_150 = (la_i la_I3, la_l la_J0, la_d la_D0, 0) := by
  unfold cS_150
  rw [cs_149]
  exact la_ms rfl rfl rfl
theorem cs_151 : cS_151 = (la_i la_I3, la_l la_J0, la_d la_D0, 0) := by
  unfold cS_151
  rw [cs_150]
  exact la_ms rfl rfl rfl
theorem cs_152 : cS_152 = (la_i la_I3, la_l la_J0, la_d la_D0, 0) := by
  unfold cS_152
  rw [cs_151]
  exact la_ms rfl rfl rfl
theorem cs_153 : cS_153 = (la_i la_I3, la_l la_J0, la_d la_D0, 0) := by
  unfold cS_153
  rw [cs_152]
  exact la_ms rfl rfl rfl
theorem cs_154 : cS_154 = (la_i la_I3, la_l la_J0, la_d la_D0, 0) := by
  unfold cS_154
  rw [cs_153]
  exact la_ms rfl rfl rfl
theorem cs_155 : cS_155 = (la_i la_I3, la_l la_J0, la_d la_D0, 0) := by
  unfold cS_155
  rw [cs_154]
  exact la_ms rfl rfl rfl
theorem cs_156 : cS_156 = (la_i la_I3, la_l la_J0, la_d la_D0, 0) := by
  unfold cS_156
  rw [cs_155]
  exact la_ms rfl rfl rfl
theorem cs_157 : cS_157 = (la_i la_I3, la_l la_J0, la_d la_D0, 0) := by
  unfold cS_157
  rw [cs_156]
  exact la_ms rfl rfl rfl
def la_D1 : List ((Nat × Nat) × Value) := ((3, 11), .ref 7) :: la_D0
theorem cs_158 : cS_158 = (la_i la_I3, la_l la_J0, la_d la_D1, 0) := by
  unfold cS_158
  rw [cs_157]
  exact congrArg (fun f => ((la_i la_I3, la_l la_J0, f, 0) : ab_S)) (show ab_u (la_d la_D0) 3 11 (.ref 7) = la_d la_D1 from la_ud)
theorem cs_159 : cS_159 = (la_i la_I3, la_l la_J0, la_d la_D1, 0) := by
  unfold cS_159
  rw [cs_158]
  exact la_ms rfl rfl rfl
def la_D2 : List ((Nat × Nat) × Value) := ((157, 2), .ref 7) :: la_D1
theorem cs_160 : cS_160 = (la_i la_I3, la_l la_J0, la_d la_D2, 0) := by
  unfold cS_160
  rw [cs_159]
  exact congrArg (fun f => ((la_i la_I3, la_l la_J0, f, 0) : ab_S)) (show ab_u (la_d la_D1) 157 2 (.ref 7) = la_d la_D2 from la_ud)
theorem cs_161 : cS_161 = (la_i la_I3, la_l la_J0, la_d la_D2, 0) := by
  unfold cS_161
  rw [cs_160]
  exact la_ms rfl rfl rfl
theorem cs_162 : cS_162 = (la_i la_I3, la_l la_J0, la_d la_D2, 0) := by
  unfold cS_162
  rw [cs_161]
  exact la_ms rfl rfl rfl
theorem cs_163 : cS_163 = (la_i la_I3, la_l la_J0, la_d la_D2, 0) := by
  unfold cS_163
  rw [cs_162]
  exact la_ms rfl rfl rfl
def la_D3 : List ((Nat × Nat) × Value) := ((160, 0), .ref 7) :: la_D2
theorem cs_164 : cS_164 = (la_i la_I3, la_l la_J0, la_d la_D3, 0) := by
  unfold cS_164
  rw [cs_163]
  exact congrArg (fun f => ((la_i la_I3, la_l la_J0, f, 0) : ab_S)) (show ab_u (la_d la_D2) 160 0 (.ref 7) = la_d la_D3 from la_ud)
theorem cs_165 : cS_165 = (la_i la_I3, la_l la_J0, la_d la_D3, 0) := by
  unfold cS_165
  rw [cs_164]
  exact la_ms rfl rfl rfl
theorem cs_166 : cS_166 = (la_i la_I3, la_l la_J0, la_d la_D3, 0) := by
  unfold cS_166
  rw [cs_165]
  exact la_ms rfl rfl rfl
theorem cs_167 : cS_167 = (la_i la_I3, la_l la_J0, la_d la_D3, 0) := by
  unfold cS_167
  rw [cs_166]
  exact la_ms rfl rfl rfl
theorem cs_168 : cS_168 = (la_i la_I3, la_l la_J0, la_d la_D3, 0) := by
  unfold cS_168
  rw [cs_167]
  exact la_ms rfl rfl rfl
theorem cs_169 : cS_169 = (la_i la_I3, la_l la_J0, la_d la_D3, 0) := by
  unfold cS_169
  rw [cs_168]
  exact la_ms rfl rfl rfl
theorem cs_170 : cS_170 = (la_i la_I3, la_l la_J0, la_d la_D3, 0) := by
  unfold cS_170
  rw [cs_169]
  exact la_ms rfl rfl rfl
theorem cs_171 : cS_171 = (la_i la_I3, la_l la_J0, la_d la_D3, 0) := by
  unfold cS_171
  rw [cs_170]
  exact la_ms rfl rfl rfl
theorem cs_172 : cS_172 = (la_i la_I3, la_l la_J0, la_d la_D3, 0) := by
  unfold cS_172
  rw [cs_171]
  exact la_ms rfl rfl rfl
theorem cs_173 : cS_173 = (la_i la_I3, la_l la_J0, la_d la_D3, 0) := by
  unfold cS_173
  rw [cs_172]
  exact la_ms rfl rfl rfl
def la_D4 : List ((Nat × Nat) × Value) := ((169, 1), .ref 7) :: la_D3
theorem cs_174 : cS_174 = (la_i la_I3, la_l la_J0, la_d la_D4, 0) := by
  unfold cS_174
  rw [cs_173]
  exact congrArg (fun f => ((la_i la_I3, la_l la_J0, f, 0) : ab_S)) (show ab_u (la_d la_D3) 169 1 (.ref 7) = la_d la_D4 from la_ud)
theorem cs_175 : cS_175 = (la_i la_I3, la_l la_J0, la_d la_D4, 0) := by
  unfold cS_175
  rw [cs_174]
  exact la_ms rfl rfl rfl
theorem cs_176 : cS_176 = (la_i la_I3, la_l la_J0, la_d la_D4, 0) := by
  unfold cS_176
  rw [cs_175]
  exact la_ms rfl rfl rfl
theorem cs_177 : cS_177 = (la_i la_I3, la_l la_J0, la_d la_D4, 0) := by
  unfold cS_177
  rw [cs_176]
  exact la_ms rfl rfl rfl
theorem cs_178 : cS_178 = (la_i la_I3, la_l la_J0, la_d la_D4, 0) := by
  unfold cS_178
  rw [cs_177]
  exact la_ms rfl rfl rfl
theorem cs_179 : cS_179 = (la_i la_I3, la_l la_J0, la_d la_D4, 0) := by
  unfold cS_179
  rw [cs_178]
  exact la_ms rfl rfl rfl
theorem cs_180 : cS_180 = (la_i la_I3, la_l la_J0, la_d la_D4, 0) := by
  unfold cS_180
  rw [cs_179]
  exact la_ms rfl rfl rfl
def la_I4 : List ((Nat × Nat) × Int32) := ((174, 0), (-1)) :: la_I3
theorem cs_181 : cS_181 = (la_i la_I4, la_l la_J0, la_d la_D4, 0) := by
  unfold cS_181
  rw [cs_180]
  exact congrArg (fun f => ((f, la_l la_J0, la_d la_D4, 0) : ab_S)) (show ab_u (la_i la_I3) 174 0 (-1) = la_i la_I4 from la_ui)
def la_I5 : List ((Nat × Nat) × Int32) := ((175, 0), (-1)) :: la_I4
theorem cs_182 : cS_182 = (la_i la_I5, la_l la_J0, la_d la_D4, 0) := by
  unfold cS_182
  rw [cs_181]
  exact congrArg (fun f => ((f, la_l la_J0, la_d la_D4, 0) : ab_S)) (show ab_u (la_i la_I4) 175 0 (-1) = la_i la_I5 from la_ui)
def la_I6 : List ((Nat × Nat) × Int32) := ((174, 1), (-1)) :: la_I5
theorem cs_183 : cS_183 = (la_i la_I6, la_l la_J0, la_d la_D4, 0) := by
  unfold cS_183
  rw [cs_182]
  exact congrArg (fun f => ((f, la_l la_J0, la_d la_D4, 0) : ab_S)) (show ab_u (la_i la_I5) 174 1 (-1) = la_i la_I6 from la_ui)
def la_I7 : List ((Nat × Nat) × Int32) := ((175, 1), (-1)) :: la_I6
theorem cs_184 : cS_184 = (la_i la_I7, la_l la_J0, la_d la_D4, 0) := by
  unfold cS_184
  rw [cs_183]
  exact congrArg (fun f => ((f, la_l la_J0, la_d la_D4, 0) : ab_S)) (show ab_u (la_i la_I6) 175 1 (-1) = la_i la_I7 from la_ui)
def la_I8 : List ((Nat × Nat) × Int32) := ((174, 2), (-1)) :: la_I7
theorem cs_185 : cS_185 = (la_i la_I8, la_l la_J0, la_d la_D4, 0) := by
  unfold cS_185
  rw [cs_184]
  exact congrArg (fun f => ((f, la_l la_J0, la_d la_D4, 0) : ab_S)) (show ab_u (la_i la_I7) 174 2 (-1) = la_i la_I8 from la_ui)
def la_I9 : List ((Nat × Nat) × Int32) := ((175, 2), (-1)) :: la_I8
theorem cs_186 : cS_186 = (la_i la_I9, la_l la_J0, la_d la_D4, 0) := by
  unfold cS_186
  rw [cs_185]
  exact congrArg (fun f => ((f, la_l la_J0, la_d la_D4, 0) : ab_S)) (show ab_u (la_i la_I8) 175 2 (-1) = la_i la_I9 from la_ui)
def la_I10 : List ((Nat × Nat) × Int32) := ((174, 3), (-1)) :: la_I9
theorem cs_187 : cS_187 = (la_i la_I10, la_l la_J0, la_d la_D4, 0) := by
  unfold cS_187
  rw [cs_186]
  exact congrArg (fun f => ((f, la_l la_J0, la_d la_D4, 0) : ab_S)) (show ab_u (la_i la_I9) 174 3 (-1) = la_i la_I10 from la_ui)
def la_I11 : List ((Nat × Nat) × Int32) := ((175, 3), (-1)) :: la_I10
theorem cs_188 : cS_188 = (la_i la_I11, la_l la_J0, la_d la_D4, 0) := by
  unfold cS_188
  rw [cs_187]
  exact congrArg (fun f => ((f, la_l la_J0, la_d la_D4, 0) : ab_S)) (show ab_u (la_i la_I10) 175 3 (-1) = la_i la_I11 from la_ui)
def la_I12 : List ((Nat × Nat) × Int32) := ((174, 4), (-1)) :: la_I11
theorem cs_189 : cS_189 = (la_i la_I12, la_l la_J0, la_d la_D4, 0) := by
  unfold cS_189
  rw [cs_188]
  exact congrArg (fun f => ((f, la_l la_J0, la_d la_D4, 0) : ab_S)) (show ab_u (la_i la_I11) 174 4 (-1) = la_i la_I12 from la_ui)
def la_I13 : List ((Nat × Nat) × Int32) := ((175, 4), (-1)) :: la_I12
theorem cs_190 : cS_190 = (la_i la_I13, la_l la_J0, la_d la_D4, 0) := by
  unfold cS_190
  rw [cs_189]
  exact congrArg (fun f => ((f, la_l la_J0, la_d la_D4, 0) : ab_S)) (show ab_u (la_i la_I12) 175 4 (-1) = la_i la_I13 from la_ui)
def la_I14 : List ((Nat × Nat) × Int32) := ((174, 5), (-1)) :: la_I13
theorem cs_191 : cS_191 = (la_i la_I14, la_l la_J0, la_d la_D4, 0) := by
  unfold cS_191
  rw [cs_190]
  exact congrArg (fun f => ((f, la_l la_J0, la_d la_D4, 0) : ab_S)) (show ab_u (la_i la_I13) 174 5 (-1) = la_i la_I14 from la_ui)
def la_I15 : List ((Nat × Nat) × Int32) := ((175, 5), (-1)) :: la_I14
theorem cs_192 : cS_192 = (la_i la_I15, la_l la_J0, la_d la_D4, 0) := by
  unfold cS_192
  rw [cs_191]
  exact congrArg (fun f => ((f, la_l la_J0, la_d la_D4, 0) : ab_S)) (show ab_u (la_i la_I14) 175 5 (-1) = la_i la_I15 from la_ui)
def la_I16 : List ((Nat × Nat) × Int32) := ((174, 6), (-1)) :: la_I15
theorem cs_193 : cS_193 = (la_i la_I16, la_l la_J0, la_d la_D4, 0) := by
  unfold cS_193
  rw [cs_192]
  exact congrArg (fun f => ((f, la_l la_J0, la_d la_D4, 0) : ab_S)) (show ab_u (la_i la_I15) 174 6 (-1) = la_i la_I16 from la_ui)
def la_I17 : List ((Nat × Nat) × Int32) := ((175, 6), (-1)) :: la_I16
theorem cs_194 : cS_194 = (la_i la_I17, la_l la_J0, la_d la_D4, 0) := by
  unfold cS_194
  rw [cs_193]
  exact congrArg (fun f => ((f, la_l la_J0, la_d la_D4, 0) : ab_S)) (show ab_u (la_i la_I16) 175 6 (-1) = la_i la_I17 from la_ui)
def la_I18 : List ((Nat × Nat) × Int32) := ((174, 7), (-1)) :: la_I17
theorem cs_195 : cS_195 = (la_i la_I18, la_l la_J0, la_d la_D4, 0) := by
  unfold cS_195
  rw [cs_194]
  exact congrArg (fun f => ((f, la_l la_J0, la_d la_D4, 0) : ab_S)) (show ab_u (la_i la_I17) 174 7 (-1) = la_i la_I18 from la_ui)
def la_I19 : List ((Nat × Nat) × Int32) := ((175, 7), (-1)) :: la_I18
theorem cs_196 : cS_196 = (la_i la_I19, la_l la_J0, la_d la_D4, 0) := by
  unfold cS_196
  rw [cs_195]
  exact congrArg (fun f => ((f, la_l la_J0, la_d la_D4, 0) : ab_S)) (show ab_u (la_i la_I18) 175 7 (-1) = la_i la_I19 from la_ui)
def la_I20 : List ((Nat × Nat) × Int32) := ((174, 8), (-1)) :: la_I19
theorem cs_197 : cS_197 = (la_i la_I20, la_l la_J0, la_d la_D4, 0) := by
  unfold cS_197
  rw [cs_196]
  exact congrArg (fun f => ((f, la_l la_J0, la_d la_D4, 0) : ab_S)) (show ab_u (la_i la_I19) 174 8 (-1) = la_i la_I20 from la_ui)
def la_I21 : List ((Nat × Nat) × Int32) := ((175, 8), (-1)) :: la_I20
theorem cs_198 : cS_198 = (la_i la_I21, la_l la_J0, la_d la_D4, 0) := by
  unfold cS_198
  rw [cs_197]
  exact congrArg (fun f => ((f, la_l la_J0, la_d la_D4, 0) : ab_S)) (show ab_u (la_i la_I20) 175 8 (-1) = la_i la_I21 from la_ui)
def la_I22 : List ((Nat × Nat) × Int32) := ((174, 9), (-1)) :: la_I21
theorem cs_199 : cS_199 = (la_i la_I22, la_l la_J0, la_d la_D4, 0) := by
  unfold cS_199
  rw [cs_198]
  exact congrArg (fun f => ((f, la_l la_J0, la_d la_D4, 0) : ab_S)) (show ab_u (la_i la_I21) 174 9 (-1) = la_i la_I22 from la_ui)
def la_I23 : List ((Nat × Nat) × Int32) := ((175, 9), (-1)) :: la_I22
theorem cs_200 : cS_200 = (la_i la_I23, la_l la_J0, la_d la_D4, 0) := by
  unfold cS_200
  rw [cs_199]
  exact congrArg (fun f => ((f, la_l la_J0, la_d la_D4, 0) : ab_S)) (show ab_u (la_i la_I22) 175 9 (-1) = la_i la_I23 from la_ui)
def la_I24 : List ((Nat × Nat) × Int32) := ((174, 10), (-1)) :: la_I23
theorem cs_201 : cS_201 = (la_i la_I24, la_l la_J0, la_d la_D4, 0) := by
  unfold cS_201
  rw [cs_200]
  exact congrArg (fun f => ((f, la_l la_J0, la_d la_D4, 0) : ab_S)) (show ab_u (la_i la_I23) 174 10 (-1) = la_i la_I24 from la_ui)
def la_I25 : List ((Nat × Nat) × Int32) := ((175, 10), (-1)) :: la_I24
theorem cs_202 : cS_202 = (la_i la_I25, la_l la_J0, la_d la_D4, 0) := by
  unfold cS_202
  rw [cs_201]
  exact congrArg (fun f => ((f, la_l la_J0, la_d la_D4, 0) : ab_S)) (show ab_u (la_i la_I24) 175 10 (-1) = la_i la_I25 from la_ui)
def la_I26 : List ((Nat × Nat) × Int32) := ((174, 11), (-1)) :: la_I25
theorem cs_203 : cS_203 = (la_i la_I26, la_l la_J0, la_d la_D4, 0) := by
  unfold cS_203
  rw [cs_202]
  exact congrArg (fun f => ((f, la_l la_J0, la_d la_D4, 0) : ab_S)) (show ab_u (la_i la_I25) 174 11 (-1) = la_i la_I26 from la_ui)
def la_I27 : List ((Nat × Nat) × Int32) := ((175, 11), (-1)) :: la_I26
theorem cs_204 : cS_204 = (la_i la_I27, la_l la_J0, la_d la_D4, 0) := by
  unfold cS_204
  rw [cs_203]
  exact congrArg (fun f => ((f, la_l la_J0, la_d la_D4, 0) : ab_S)) (show ab_u (la_i la_I26) 175 11 (-1) = la_i la_I27 from la_ui)
def la_I28 : List ((Nat × Nat) × Int32) := ((174, 12), (-1)) :: la_I27
theorem cs_205 : cS_205 = (la_i la_I28, la_l la_J0, la_d la_D4, 0) := by
  unfold cS_205
  rw [cs_204]
  exact congrArg (fun f => ((f, la_l la_J0, la_d la_D4, 0) : ab_S)) (show ab_u (la_i la_I27) 174 12 (-1) = la_i la_I28 from la_ui)
def la_I29 : List ((Nat × Nat) × Int32) := ((175, 12), (-1)) :: la_I28
theorem cs_206 : cS_206 = (la_i la_I29, la_l la_J0, la_d la_D4, 0) := by
  unfold cS_206
  rw [cs_205]
  exact congrArg (fun f => ((f, la_l la_J0, la_d la_D4, 0) : ab_S)) (show ab_u (la_i la_I28) 175 12 (-1) = la_i la_I29 from la_ui)
def la_I30 : List ((Nat × Nat) × Int32) := ((174, 13), (-1)) :: la_I29
theorem cs_207 : cS_207 = (la_i la_I30, la_l la_J0, la_d la_D4, 0) := by
  unfold cS_207
  rw [cs_206]
  exact congrArg (fun f => ((f, la_l la_J0, la_d la_D4, 0) : ab_S)) (show ab_u (la_i la_I29) 174 13 (-1) = la_i la_I30 from la_ui)
def la_I31 : List ((Nat × Nat) × Int32) := ((175, 13), (-1)) :: la_I30
theorem cs_208 : cS_208 = (la_i la_I31, la_l la_J0, la_d la_D4, 0) := by
  unfold cS_208
  rw [cs_207]
  exact congrArg (fun f => ((f, la_l la_J0, la_d la_D4, 0) : ab_S)) (show ab_u (la_i la_I30) 175 13 (-1) = la_i la_I31 from la_ui)
def la_I32 : List ((Nat × Nat) × Int32) := ((174, 14), (-1)) :: la_I31
theorem cs_209 : cS_209 = (la_i la_I32, la_l la_J0, la_d la_D4, 0) := by
  unfold cS_209
  rw [cs_208]
  exact congrArg (fun f => ((f, la_l la_J0, la_d la_D4, 0) : ab_S)) (show ab_u (la_i la_I31) 174 14 (-1) = la_i la_I32 from la_ui)
def la_I33 : List ((Nat × Nat) × Int32) := ((175, 14), (-1)) :: la_I32
theorem cs_210 : cS_210 = (la_i la_I33, la_l la_J0, la_d la_D4, 0) := by
  unfold cS_210
  rw [cs_209]
  exact congrArg (fun f => ((f, la_l la_J0, la_d la_D4, 0) : ab_S)) (show ab_u (la_i la_I32) 175 14 (-1) = la_i la_I33 from la_ui)
def la_I34 : List ((Nat × Nat) × Int32) := ((174, 15), (-1)) :: la_I33
theorem cs_211 : cS_211 = (la_i la_I34, la_l la_J0, la_d la_D4, 0) := by
  unfold cS_211
  rw [cs_210]
  exact congrArg (fun f => ((f, la_l la_J0, la_d la_D4, 0) : ab_S)) (show ab_u (la_i la_I33) 174 15 (-1) = la_i la_I34 from la_ui)
def la_I35 : List ((Nat × Nat) × Int32) := ((175, 15), (-1)) :: la_I34
theorem cs_212 : cS_212 = (la_i la_I35, la_l la_J0, la_d la_D4, 0) := by
  unfold cS_212
  rw [cs_211]
  exact congrArg (fun f => ((f, la_l la_J0, la_d la_D4, 0) : ab_S)) (show ab_u (la_i la_I34) 175 15 (-1) = la_i la_I35 from la_ui)
def la_I36 : List ((Nat × Nat) × Int32) := ((174, 16), (-1)) :: la_I35
theorem cs_213 : cS_213 = (la_i la_I36, la_l la_J0, la_d la_D4, 0) := by
  unfold cS_213
  rw [cs_212]
  exact congrArg (fun f => ((f, la_l la_J0, la_d la_D4, 0) : ab_S)) (show ab_u (la_i la_I35) 174 16 (-1) = la_i la_I36 from la_ui)
def la_I37 : List ((Nat × Nat) × Int32) := ((175, 16), (-1)) :: la_I36
theorem cs_214 : cS_214 = (la_i la_I37, la_l la_J0, la_d la_D4, 0) := by
  unfold cS_214
  rw [cs_213]
  exact congrArg (fun f => ((f, la_l la_J0, la_d la_D4, 0) : ab_S)) (show ab_u (la_i la_I36) 175 16 (-1) = la_i la_I37 from la_ui)
def la_I38 : List ((Nat × Nat) × Int32) := ((174, 17), (-1)) :: la_I37
theorem cs_215 : cS_215 = (la_i la_I38, la_l la_J0, la_d la_D4, 0) := by
  unfold cS_215
  rw [cs_214]
  exact congrArg (fun f => ((f, la_l la_J0, la_d la_D4, 0) : ab_S)) (show ab_u (la_i la_I37) 174 17 (-1) = la_i la_I38 from la_ui)
def la_I39 : List ((Nat × Nat) × Int32) := ((175, 17), (-1)) :: la_I38
theorem cs_216 : cS_216 = (la_i la_I39, la_l la_J0, la_d la_D4, 0) := by
  unfold cS_216
  rw [cs_215]
  exact congrArg (fun f => ((f, la_l la_J0, la_d la_D4, 0) : ab_S)) (show ab_u (la_i la_I38) 175 17 (-1) = la_i la_I39 from la_ui)
def la_I40 : List ((Nat × Nat) × Int32) := ((174, 18), (-1)) :: la_I39
theorem cs_217 : cS_217 = (la_i la_I40, la_l la_J0, la_d la_D4, 0) := by
  unfold cS_217
  rw [cs_216]
  exact congrArg (fun f => ((f, la_l la_J0, la_d la_D4, 0) : ab_S)) (show ab_u (la_i la_I39) 174 18 (-1) = la_i la_I40 from la_ui)
def la_I41 : List ((Nat × Nat) × Int32) := ((175, 18), (-1)) :: la_I40
theorem cs_218 : cS_218 = (la_i la_I41, la_l la_J0, la_d la_D4, 0) := by
  unfold cS_218
  rw [cs_217]
  exact congrArg (fun f => ((f, la_l la_J0, la_d la_D4, 0) : ab_S)) (show ab_u (la_i la_I40) 175 18 (-1) = la_i la_I41 from la_ui)
def la_I42 : List ((Nat × Nat) × Int32) := ((174, 19), (-1)) :: la_I41
theorem cs_219 : cS_219 = (la_i la_I42, la_l la_J0, la_d la_D4, 0) := by
  unfold cS_219
  rw [cs_218]
  exact congrArg (fun f => ((f, la_l la_J0, la_d la_D4, 0) : ab_S)) (show ab_u (la_i la_I41) 174 19 (-1) = la_i la_I42 from la_ui)
def la_I43 : List ((Nat × Nat) × Int32) := ((175, 19), (-1)) :: la_I42
theorem cs_220 : cS_220 = (la_i la_I43, la_l la_J0, la_d la_D4, 0) := by
  unfold cS_220
  rw [cs_219]
  exact congrArg (fun f => ((f, la_l la_J0, la_d la_D4, 0) : ab_S)) (show ab_u (la_i la_I42) 175 19 (-1) = la_i la_I43 from la_ui)
def la_I44 : List ((Nat × Nat) × Int32) := ((174, 20), (-1)) :: la_I43
theorem cs_221 : cS_221 = (la_i la_I44, la_l la_J0, la_d la_D4, 0) := by
  unfold cS_221
  rw [cs_220]
  exact congrArg (fun f => ((f, la_l la_J0, la_d la_D4, 0) : ab_S)) (show ab_u (la_i la_I43) 174 20 (-1) = la_i la_I44 from la_ui)
def la_I45 : List ((Nat × Nat) × Int32) := ((175, 20), (-1)) :: la_I44
theorem cs_222 : cS_222 = (la_i la_I45, la_l la_J0, la_d la_D4, 0) := by
  unfold cS_222
  rw [cs_221]
  exact congrArg (fun f => ((f, la_l la_J0, la_d la_D4, 0) : ab_S)) (show ab_u (la_i la_I44) 175 20 (-1) = la_i la_I45 from la_ui)
def la_J1 : List ((Nat × Nat) × Int64) := ((169, 7), (-1)) :: la_J0
theorem cs_223 : cS_223 = (la_i la_I45, la_l la_J1, la_d la_D4, 0) := by
  unfold cS_223
  rw [cs_222]
  exact congrArg (fun f => ((la_i la_I45, f, la_d la_D4, 0) : ab_S)) (show ab_u (la_l la_J0) 169 7 (-1) = la_l la_J1 from la_ul)
def la_J2 : List ((Nat × Nat) × Int64) := ((169, 8), (-1)) :: la_J1
theorem cs_224 : cS_224 = (la_i la_I45, la_l la_J2, la_d la_D4, 0) := by
  unfold cS_224
  rw [cs_223]
  exact congrArg (fun f => ((la_i la_I45, f, la_d la_D4, 0) : ab_S)) (show ab_u (la_l la_J1) 169 8 (-1) = la_l la_J2 from la_ul)
theorem cs_225 : cS_225 = (la_i la_I45, la_l la_J2, la_d la_D4, 0) := by
  unfold cS_225
  rw [cs_224]
  exact la_ms rfl rfl rfl
theorem cs_226 : cS_226 = (la_i la_I45, la_l la_J2, la_d la_D4, 0) := by
  unfold cS_226
  rw [cs_225]
  exact la_ms rfl rfl rfl
theorem cs_227 : cS_227 = (la_i la_I45, la_l la_J2, la_d la_D4, 0) := by
  unfold cS_227
  rw [cs_226]
  exact la_ms rfl rfl rfl
theorem cs_228 : cS_228 = (la_i la_I45, la_l la_J2, la_d la_D4, 0) := by
  unfold cS_228
  rw [cs_227]
  exact la_ms rfl rfl rfl
def la_D5 : List ((Nat × Nat) × Value) := ((179, 0), .ref 7) :: la_D4
theorem cs_229 : cS_229 = (la_i la_I45, la_l la_J2, la_d la_D5, 0) := by
  unfold cS_229
  rw [cs_228]
  exact congrArg (fun f => ((la_i la_I45, la_l la_J2, f, 0) : ab_S)) (show ab_u (la_d la_D4) 179 0 (.ref 7) = la_d la_D5 from la_ud)
theorem cs_230 : cS_230 = (la_i la_I45, la_l la_J2, la_d la_D5, 0) := by
  unfold cS_230
  rw [cs_229]
  exact la_ms rfl rfl rfl
theorem cs_231 : cS_231 = (la_i la_I45, la_l la_J2, la_d la_D5, 0) := by
  unfold cS_231
  rw [cs_230]
  exact la_ms rfl rfl rfl
theorem cs_232 : cS_232 = (la_i la_I45, la_l la_J2, la_d la_D5, 0) := by
  unfold cS_232
  rw [cs_231]
  exact la_ms rfl rfl rfl
theorem cs_233 : cS_233 = (la_i la_I45, la_l la_J2, la_d la_D5, 0) := by
  unfold cS_233
  rw [cs_232]
  exact la_ms rfl rfl rfl
theorem cs_234 : cS_234 = (la_i la_I45, la_l la_J2, la_d la_D5, 0) := by
  unfold cS_234
  rw [cs_233]
  exact la_ms rfl rfl rfl
theorem cs_235 : cS_235 = (la_i la_I45, la_l la_J2, la_d la_D5, 0) := by
  unfold cS_235
  rw [cs_234]
  exact la_ms rfl rfl rfl
def la_D6 : List ((Nat × Nat) × Value) := ((185, 0), .ref 7) :: la_D5
theorem cs_236 : cS_236 = (la_i la_I45, la_l la_J2, la_d la_D6, 0) := by
  unfold cS_236
  rw [cs_235]
  exact congrArg (fun f => ((la_i la_I45, la_l la_J2, f, 0) : ab_S)) (show ab_u (la_d la_D5) 185 0 (.ref 7) = la_d la_D6 from la_ud)
theorem cs_237 : cS_237 = (la_i la_I45, la_l la_J2, la_d la_D6, 0) := by
  unfold cS_237
  rw [cs_236]
  exact la_ms rfl rfl rfl
theorem cs_238 : cS_238 = (la_i la_I45, la_l la_J2, la_d la_D6, 0) := by
  unfold cS_238
  rw [cs_237]
  exact la_ms rfl rfl rfl
theorem cs_239 : cS_239 = (la_i la_I45, la_l la_J2, la_d la_D6, 0) := by
  unfold cS_239
  rw [cs_238]
  exact la_ms rfl rfl rfl
theorem cs_240 : cS_240 = (la_i la_I45, la_l la_J2, la_d la_D6, 0) := by
  unfold cS_240
  rw [cs_239]
  exact la_ms rfl rfl rfl
theorem cs_241 : cS_241 = (la_i la_I45, la_l la_J2, la_d la_D6, 0) := by
  unfold cS_241
  rw [cs_240]
  exact la_ms rfl rfl rfl
theorem cs_242 : cS_242 = (la_i la_I45, la_l la_J2, la_d la_D6, 0) := by
  unfold cS_242
  rw [cs_241]
  exact la_ms rfl rfl rfl
theorem cs_243 : cS_243 = (la_i la_I45, la_l la_J2, la_d la_D6, 0) := by
  unfold cS_243
  rw [cs_242]
  exact la_ms rfl rfl rfl
theorem cs_244 : cS_244 = (la_i la_I45, la_l la_J2, la_d la_D6, 0) := by
  unfold cS_244
  rw [cs_243]
  exact la_ms rfl rfl rfl
def la_J3 : List ((Nat × Nat) × Int64) := ((191, 3), (-1)) :: la_J2
theorem cs_245 : cS_245 = (la_i la_I45, la_l la_J3, la_d la_D6, 0) := by
  unfold cS_245
  rw [cs_244]
  exact congrArg (fun f => ((la_i la_I45, f, la_d la_D6, 0) : ab_S)) (show ab_u (la_l la_J2) 191 3 (-1) = la_l la_J3 from la_ul)
theorem cs_246 : cS_246 = (la_i la_I45, la_l la_J3, la_d la_D6, 0) := by
  unfold cS_246
  rw [cs_245]
  exact la_ms rfl rfl rfl
theorem cs_247 : cS_247 = (la_i la_I45, la_l la_J3, la_d la_D6, 0) := by
  unfold cS_247
  rw [cs_246]
  exact la_ms rfl rfl rfl
theorem cs_248 : cS_248 = (la_i la_I45, la_l la_J3, la_d la_D6, 0) := by
  unfold cS_248
  rw [cs_247]
  exact la_ms rfl rfl rfl
theorem cs_249 : cS_249 = (la_i la_I45, la_l la_J3, la_d la_D6, 0) := by
  unfold cS_249
  rw [cs_248]
  exact la_ms rfl rfl rfl
theorem cs_250 : cS_250 = (la_i la_I45, la_l la_J3, la_d la_D6, 0) := by
  unfold cS_250
  rw [cs_249]
  exact la_ms rfl rfl rfl
def la_I46 : List ((Nat × Nat) × Int32) := ((198, 0), (-1)) :: la_I45
theorem cs_251 : cS_251 = (la_i la_I46, la_l la_J3, la_d la_D6, 0) := by
  unfold cS_251
  rw [cs_250]
  exact congrArg (fun f => ((f, la_l la_J3, la_d la_D6, 0) : ab_S)) (show ab_u (la_i la_I45) 198 0 (-1) = la_i la_I46 from la_ui)
def la_I47 : List ((Nat × Nat) × Int32) := ((198, 1), (-1)) :: la_I46
theorem cs_252 : cS_252 = (la_i la_I47, la_l la_J3, la_d la_D6, 0) := by
  unfold cS_252
  rw [cs_251]
  exact congrArg (fun f => ((f, la_l la_J3, la_d la_D6, 0) : ab_S)) (show ab_u (la_i la_I46) 198 1 (-1) = la_i la_I47 from la_ui)
def la_I48 : List ((Nat × Nat) × Int32) := ((198, 2), (-1)) :: la_I47
theorem cs_253 : cS_253 = (la_i la_I48, la_l la_J3, la_d la_D6, 0) := by
  unfold cS_253
  rw [cs_252]
  exact congrArg (fun f => ((f, la_l la_J3, la_d la_D6, 0) : ab_S)) (show ab_u (la_i la_I47) 198 2 (-1) = la_i la_I48 from la_ui)
def la_I49 : List ((Nat × Nat) × Int32) := ((198, 3), (-1)) :: la_I48
theorem cs_254 : cS_254 = (la_i la_I49, la_l la_J3, la_d la_D6, 0) := by
  unfold cS_254
  rw [cs_253]
  exact congrArg (fun f => ((f, la_l la_J3, la_d la_D6, 0) : ab_S)) (show ab_u (la_i la_I48) 198 3 (-1) = la_i la_I49 from la_ui)
def la_I50 : List ((Nat × Nat) × Int32) := ((198, 4), (-1)) :: la_I49
theorem cs_255 : cS_255 = (la_i la_I50, la_l la_J3, la_d la_D6, 0) := by
  unfold cS_255
  rw [cs_254]
  exact congrArg (fun f => ((f, la_l la_J3, la_d la_D6, 0) : ab_S)) (show ab_u (la_i la_I49) 198 4 (-1) = la_i la_I50 from la_ui)
def la_I51 : List ((Nat × Nat) × Int32) := ((198, 5), (-1)) :: la_I50
theorem cs_256 : cS_256 = (la_i la_I51, la_l la_J3, la_d la_D6, 0) := by
  unfold cS_256
  rw [cs_255]
  exact congrArg (fun f => ((f, la_l la_J3, la_d la_D6, 0) : ab_S)) (show ab_u (la_i la_I50) 198 5 (-1) = la_i la_I51 from la_ui)
def la_I52 : List ((Nat × Nat) × Int32) := ((198, 6), (-1)) :: la_I51
theorem cs_257 : cS_257 = (la_i la_I52, la_l la_J3, la_d la_D6, 0) := by
  unfold cS_257
  rw [cs_256]
  exact congrArg (fun f => ((f, la_l la_J3, la_d la_D6, 0) : ab_S)) (show ab_u (la_i la_I51) 198 6 (-1) = la_i la_I52 from la_ui)
def la_I53 : List ((Nat × Nat) × Int32) := ((198, 7), (-1)) :: la_I52
theorem cs_258 : cS_258 = (la_i la_I53, la_l la_J3, la_d la_D6, 0) := by
  unfold cS_258
  rw [cs_257]
  exact congrArg (fun f => ((f, la_l la_J3, la_d la_D6, 0) : ab_S)) (show ab_u (la_i la_I52) 198 7 (-1) = la_i la_I53 from la_ui)
theorem cs_259 : cS_259 = (la_i la_I53, la_l la_J3, la_d la_D6, 0) := by
  unfold cS_259
  rw [cs_258]
  exact la_ms rfl rfl rfl
def la_D7 : List ((Nat × Nat) × Value) := ((199, 0), .ref 7) :: la_D6
theorem cs_260 : cS_260 = (la_i la_I53, la_l la_J3, la_d la_D7, 0) := by
  unfold cS_260
  rw [cs_259]
  exact congrArg (fun f => ((la_i la_I53, la_l la_J3, f, 0) : ab_S)) (show ab_u (la_d la_D6) 199 0 (.ref 7) = la_d la_D7 from la_ud)
def la_D8 : List ((Nat × Nat) × Value) := ((199, 1), .ref 12) :: la_D7
theorem cs_261 : cS_261 = (la_i la_I53, la_l la_J3, la_d la_D8, 0) := by
  unfold cS_261
  rw [cs_260]
  exact congrArg (fun f => ((la_i la_I53, la_l la_J3, f, 0) : ab_S)) (show ab_u (la_d la_D7) 199 1 (.ref 12) = la_d la_D8 from la_ud)
def la_D9 : List ((Nat × Nat) × Value) := ((199, 2), .ref 18) :: la_D8
theorem cs_262 : cS_262 = (la_i la_I53, la_l la_J3, la_d la_D9, 0) := by
  unfold cS_262
  rw [cs_261]
  exact congrArg (fun f => ((la_i la_I53, la_l la_J3, f, 0) : ab_S)) (show ab_u (la_d la_D8) 199 2 (.ref 18) = la_d la_D9 from la_ud)
theorem cs_263 : cS_263 = (la_i la_I53, la_l la_J3, la_d la_D9, 0) := by
  unfold cS_263
  rw [cs_262]
  exact la_ms rfl rfl rfl
theorem cs_264 : cS_264 = (la_i la_I53, la_l la_J3, la_d la_D9, 0) := by
  unfold cS_264
  rw [cs_263]
  exact la_ms rfl rfl rfl
theorem cs_265 : cS_265 = (la_i la_I53, la_l la_J3, la_d la_D9, 0) := by
  unfold cS_265
  rw [cs_264]
  exact la_ms rfl rfl rfl
theorem cs_266 : cS_266 = (la_i la_I53, la_l la_J3, la_d la_D9, 0) := by
  unfold cS_266
  rw [cs_265]
  exact la_ms rfl rfl rfl
theorem cs_267 : cS_267 = (la_i la_I53, la_l la_J3, la_d la_D9, 0) := by
  unfold cS_267
  rw [cs_266]
  exact la_ms rfl rfl rfl
theorem cs_268 : cS_268 = (la_i la_I53, la_l la_J3, la_d la_D9, 0) := by
  unfold cS_268
  rw [cs_267]
  exact la_ms rfl rfl rfl
theorem cs_269 : cS_269 = (la_i la_I53, la_l la_J3, la_d la_D9, 0) := by
  unfold cS_269
  rw [cs_268]
  exact la_ms rfl rfl rfl
theorem cs_270 : cS_270 = (la_i la_I53, la_l la_J3, la_d la_D9, 0) := by
  unfold cS_270
  rw [cs_269]
  exact la_ms rfl rfl rfl
theorem cs_271 : cS_271 = (la_i la_I53, la_l la_J3, la_d la_D9, 0) := by
  unfold cS_271
  rw [cs_270]
  exact la_ms rfl rfl rfl
theorem cs_272 : cS_272 = (la_i la_I53, la_l la_J3, la_d la_D9, 0) := by
  unfold cS_272
  rw [cs_271]
  exact la_ms rfl rfl rfl
theorem cs_273 : cS_273 = (la_i la_I53, la_l la_J3, la_d la_D9, 0) := by
  unfold cS_273
  rw [cs_272]
  exact la_ms rfl rfl rfl
theorem cs_274 : cS_274 = (la_i la_I53, la_l la_J3, la_d la_D9, 0) := by
  unfold cS_274
  rw [cs_273]
  exact la_ms rfl rfl rfl
theorem cs_275 : cS_275 = (la_i la_I53, la_l la_J3, la_d la_D9, 0) := by
  unfold cS_275
  rw [cs_274]
  exact la_ms rfl rfl rfl
theorem cs_276 : cS_276 = (la_i la_I53, la_l la_J3, la_d la_D9, 0) := by
  unfold cS_276
  rw [cs_275]
  exact la_ms rfl rfl rfl
theorem cs_277 : cS_277 = (la_i la_I53, la_l la_J3, la_d la_D9, 0) := by
  unfold cS_277
  rw [cs_276]
  exact la_ms rfl rfl rfl
theorem cs_278 : cS_278 = (la_i la_I53, la_l la_J3, la_d la_D9, 0) := by
  unfold cS_278
  rw [cs_277]
  exact la_ms rfl rfl rfl
theorem cs_279 : cS_279 = (la_i la_I53, la_l la_J3, la_d la_D9, 0) := by
  unfold cS_279
  rw [cs_278]
  exact la_ms rfl rfl rfl
theorem cs_280 : cS_280 = (la_i la_I53, la_l la_J3, la_d la_D9, 0) := by
  unfold cS_280
  rw [cs_279]
  exact la_ms rfl rfl rfl
theorem cs_281 : cS_281 = (la_i la_I53, la_l la_J3, la_d la_D9, 0) := by
  unfold cS_281
  rw [cs_280]
  exact la_ms rfl rfl rfl
theorem cs_282 : cS_282 = (la_i la_I53, la_l la_J3, la_d la_D9, 0) := by
  unfold cS_282
  rw [cs_281]
  exact la_ms rfl rfl rfl
theorem cs_283 : cS_283 = (la_i la_I53, la_l la_J3, la_d la_D9, 0) := by
  unfold cS_283
  rw [cs_282]
  exact la_ms rfl rfl rfl
theorem cs_284 : cS_284 = (la_i la_I53, la_l la_J3, la_d la_D9, 0) := by
  unfold cS_284
  rw [cs_283]
  exact la_ms rfl rfl rfl
theorem cs_285 : cS_285 = (la_i la_I53, la_l la_J3, la_d la_D9, 0) := by
  unfold cS_285
  rw [cs_284]
  exact la_ms rfl rfl rfl
theorem cs_286 : cS_286 = (la_i la_I53, la_l la_J3, la_d la_D9, 0) := by
  unfold cS_286
  rw [cs_285]
  exact la_ms rfl rfl rfl
theorem cs_287 : cS_287 = (la_i la_I53, la_l la_J3, la_d la_D9, 0) := by
  unfold cS_287
  rw [cs_286]
  exact la_ms rfl rfl rfl
theorem cs_288 : cS_288 = (la_i la_I53, la_l la_J3, la_d la_D9, 0) := by
  unfold cS_288
  rw [cs_287]
  exact la_ms rfl rfl rfl
theorem cs_289 : cS_289 = (la_i la_I53, la_l la_J3, la_d la_D9, 0) := by
  unfold cS_289
  rw [cs_288]
  exact la_ms rfl rfl rfl
theorem cs_290 : cS_290 = (la_i la_I53, la_l la_J3, la_d la_D9, 0) := by
  unfold cS_290
  rw [cs_289]
  exact la_ms rfl rfl rfl
theorem cs_291 : cS_291 = (la_i la_I53, la_l la_J3, la_d la_D9, 0) := by
  unfold cS_291
  rw [cs_290]
  exact la_ms rfl rfl rfl
theorem cs_292 : cS_292 = (la_i la_I53, la_l la_J3, la_d la_D9, 0) := by
  unfold cS_292
  rw [cs_291]
  exact la_ms rfl rfl rfl
theorem cs_293 : cS_293 = (la_i la_I53, la_l la_J3, la_d la_D9, 0) := by
  unfold cS_293
  rw [cs_292]
  exact la_ms rfl rfl rfl
theorem cs_294 : cS_294 = (la_i la_I53, la_l la_J3, la_d la_D9, 0) := by
  unfold cS_294
  rw [cs_293]
  exact la_ms rfl rfl rfl
theorem cs_295 : cS_295 = (la_i la_I53, la_l la_J3, la_d la_D9, 0) := by
  unfold cS_295
  rw [cs_294]
  exact la_ms rfl rfl rfl
theorem cs_296 : cS_296 = (la_i la_I53, la_l la_J3, la_d la_D9, 0) := by
  unfold cS_296
  rw [cs_295]
  exact la_ms rfl rfl rfl
theorem cs_297 : cS_297 = (la_i la_I53, la_l la_J3, la_d la_D9, 0) := by
  unfold cS_297
  rw [cs_296]
  exact la_ms rfl rfl rfl
theorem cs_298 : cS_298 = (la_i la_I53, la_l la_J3, la_d la_D9, 0) := by
  unfold cS_298
  rw [cs_297]
  exact la_ms rfl rfl rfl
theorem cs_299 : cS_299 = (la_i la_I53, la_l la_J3, la_d la_D9, 0) := by
  unfold cS_299
  rw [cs_298]
  exact la_ms rfl rfl rfl
theorem cs_300 : cS_300 = (la_i la_I53, la_l la_J3, la_d la_D9, 0) := by
  unfold cS_300
  rw [cs_299]
  exact la_ms rfl rfl rfl
theorem cs_301 : cS_301 = (la_i la_I53, la_l la_J3, la_d la_D9, 0) := by
  unfold cS_301
  rw [cs_300]
  exact la_ms rfl rfl rfl
theorem cs_302 : cS_302 = (la_i la_I53, la_l la_J3, la_d la_D9, 0) := by
  unfold cS_302
  rw [cs_301]
  exact la_ms rfl rfl rfl
theorem cs_303 : cS_303 = (la_i la_I53, la_l la_J3, la_d la_D9, 0) := by
  unfold cS_303
  rw [cs_302]
  exact la_ms rfl rfl rfl
theorem cs_304 : cS_304 = (la_i la_I53, la_l la_J3, la_d la_D9, 0) := by
  unfold cS_304
  rw [cs_303]
  exact la_ms rfl rfl rfl
theorem cs_305 : cS_305 = (la_i la_I53, la_l la_J3, la_d la_D9, 0) := by
  unfold cS_305
  rw [cs_304]
  exact la_ms rfl rfl rfl
theorem cs_306 : cS_306 = (la_i la_I53, la_l la_J3, la_d la_D9, 0) := by
  unfold cS_306
  rw [cs_305]
  exact la_ms rfl rfl rfl
def la_J4 : List ((Nat × Nat) × Int64) := ((205, 61), (-1)) :: la_J3
theorem cs_307 : cS_307 = (la_i la_I53, la_l la_J4, la_d la_D9, 0) := by
  unfold cS_307
  rw [cs_306]
  exact congrArg (fun f => ((la_i la_I53, f, la_d la_D9, 0) : ab_S)) (show ab_u (la_l la_J3) 205 61 (-1) = la_l la_J4 from la_ul)
theorem cs_308 : cS_308 = (la_i la_I53, la_l la_J4, la_d la_D9, 0) := by
  unfold cS_308
  rw [cs_307]
  exact la_ms rfl rfl rfl
theorem cs_309 : cS_309 = (la_i la_I53, la_l la_J4, la_d la_D9, 0) := by
  unfold cS_309
  rw [cs_308]
  exact la_ms rfl rfl rfl
theorem cs_310 : cS_310 = (la_i la_I53, la_l la_J4, la_d la_D9, 0) := by
  unfold cS_310
  rw [cs_309]
  exact la_ms rfl rfl rfl
theorem cs_311 : cS_311 = (la_i la_I53, la_l la_J4, la_d la_D9, 0) := by
  unfold cS_311
  rw [cs_310]
  exact la_ms rfl rfl rfl
theorem cs_312 : cS_312 = (la_i la_I53, la_l la_J4, la_d la_D9, 0) := by
  unfold cS_312
  rw [cs_311]
  exact la_ms rfl rfl rfl
theorem cs_313 : cS_313 = (la_i la_I53, la_l la_J4, la_d la_D9, 0) := by
  unfold cS_313
  rw [cs_312]
  exact la_ms rfl rfl rfl
def la_S0 : ab_S := (la_i la_I53, la_l la_J4, la_d la_D9, 0)
theorem la_all_of {I : ab_S → Prop} (h0 : I la_S0) (ha : ∀ sc : Nat × (Nat → Int32), sc.1 ≤ 3072 → la_all 1310 sc I) (sc : Nat × (Nat → Int32)) (hs : sc.1 ≤ 3072) : ab_Fr ML_law 1312 (fun o _ _ => o = some (some (.int 1))) 0 [some (.ref 0), none, none, none, none, none, none, none] [] (0, 0) cS_0 (cE_0 sc) := by
  refine law_first (d := 1307) (la_conv ?_)
  rw [cs_313]
  exact la_loop (d := 1310) (I := I) hs (ha sc hs) (fun _ _ => rfl) sc.1 0 247 197416 la_S0 (by omega) (Or.inr rfl) (Nat.le_refl _) (Nat.le_refl _) h0
