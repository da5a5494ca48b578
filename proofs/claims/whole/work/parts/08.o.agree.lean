/-! ## what the constructors leave is the memory M0: arrays agree below their length -/
theorem arrV_congr {cI : ClassId} {N : Nat} {f g : Nat → Value} (h : ∀ j, j < N → f j = g j) : arrV cI N f = arrV cI N g := by
  have e : (Array.ofFn (n := N) fun j => f j.val) = Array.ofFn (n := N) fun j => g j.val := by
    congr 1
    funext j
    exact h j.val j.isLt
  unfold arrV
  rw [e]
def same (x y : va_E) : Prop := ∀ (D : va_G) (a : Nat) (H : Heap), va_at D vwCl (a, x) H → va_at D vwCl (a, y) H
theorem sm_r {x y : va_E} (h : x = y) : same x y := by
  subst h
  exact fun _ _ _ h => h
theorem sm_i {c : ClassId} {n : Nat} {f g : Nat → Int32} (h : ∀ j, j < n → f j = g j) : same (.inl (c, n, .inl f)) (.inl (c, n, .inl g)) := by
  intro D a H z
  show H[a]? = some (vp_cell c (n, .inl g))
  rw [vp_cell_i, ← arrV_congr (f := fun j => .int (f j)) (g := fun j => .int (g j)) (fun j hj => by rw [h j hj]), ← vp_cell_i]
  exact z
theorem sm_q {c : ClassId} {n : Nat} {f g : Nat → Option Nat} (h : ∀ j, j < n → f j = g j) : same (.inl (c, n, .inr (.inr (.inr (.inr f))))) (.inl (c, n, .inr (.inr (.inr (.inr g))))) := by
  intro D a H z
  show H[a]? = some (vp_cell c (n, .inr (.inr (.inr (.inr g)))))
  rw [vp_cell_q, ← arrV_congr (f := fun j => va_rf (f j)) (g := fun j => va_rf (g j)) (fun j hj => by rw [h j hj]), ← vp_cell_q]
  exact z
/-- the cell at k, as the constructors leave it and as M0 has it -/
def FP (B : Nat) (cA : cAt) (k : Nat) : Prop := same (mdW B cA 8 (hpW B cA 8 2) k) (sh B cA k (M0 k))
theorem fp_0 (B : Nat) (cA : cAt) : ∀ k, k < 0 → FP B cA k := fun k h => absurd h (Nat.not_lt_zero k)
theorem fp_s {B : Nat} {cA : cAt} {n : Nat} (h : ∀ k, k < n → FP B cA k) (hn : FP B cA n) : ∀ k, k < n + 1 → FP B cA k := by
  intro k hk
  rcases Nat.lt_or_ge k n with z | z
  · exact h k z
  · have e : k = n := by omega
    subst e
    exact hn
theorem fp_at_0 (B : Nat) (cA : cAt) : FP B cA 0 := sm_r rfl
theorem fp_at_1 (B : Nat) (cA : cAt) : FP B cA 1 := sm_q fun j hj => if_pos hj
theorem fp_at_2 (B : Nat) (cA : cAt) : FP B cA 2 := sm_r rfl
theorem fp_at_3 (B : Nat) (cA : cAt) : FP B cA 3 := sm_i fun j hj => rfl
theorem fp_at_4 (B : Nat) (cA : cAt) : FP B cA 4 := sm_r rfl
theorem fp_at_5 (B : Nat) (cA : cAt) : FP B cA 5 := sm_q fun j hj => if_pos hj
theorem fp_at_6 (B : Nat) (cA : cAt) : FP B cA 6 := sm_r rfl
theorem fp_at_7 (B : Nat) (cA : cAt) : FP B cA 7 := sm_r rfl
theorem fp_at_8 (B : Nat) (cA : cAt) : FP B cA 8 := sm_r rfl
theorem fp_at_9 (B : Nat) (cA : cAt) : FP B cA 9 := sm_r rfl
theorem fp_at_10 (B : Nat) (cA : cAt) : FP B cA 10 := sm_r rfl
theorem fp_at_11 (B : Nat) (cA : cAt) : FP B cA 11 := sm_r rfl
theorem fp_at_12 (B : Nat) (cA : cAt) : FP B cA 12 := sm_q fun j hj => if_pos hj
theorem fp_at_13 (B : Nat) (cA : cAt) : FP B cA 13 := sm_r rfl
theorem fp_at_14 (B : Nat) (cA : cAt) : FP B cA 14 := sm_r rfl
theorem fp_at_15 (B : Nat) (cA : cAt) : FP B cA 15 := sm_r rfl
theorem fp_at_16 (B : Nat) (cA : cAt) : FP B cA 16 := sm_r rfl
theorem fp_at_17 (B : Nat) (cA : cAt) : FP B cA 17 := sm_r rfl
theorem fp_at_18 (B : Nat) (cA : cAt) : FP B cA 18 := sm_r rfl
theorem fp_at_19 (B : Nat) (cA : cAt) : FP B cA 19 := sm_q fun j hj => if_pos hj
theorem fp_at_20 (B : Nat) (cA : cAt) : FP B cA 20 := sm_r rfl
theorem fp_at_21 (B : Nat) (cA : cAt) : FP B cA 21 := sm_r rfl
theorem fp_at_22 (B : Nat) (cA : cAt) : FP B cA 22 := sm_r rfl
theorem fp_at_23 (B : Nat) (cA : cAt) : FP B cA 23 := sm_r rfl
theorem fp_at_24 (B : Nat) (cA : cAt) : FP B cA 24 := sm_r rfl
theorem fp_at_25 (B : Nat) (cA : cAt) : FP B cA 25 := sm_q fun j hj => if_pos hj
theorem fp_at_26 (B : Nat) (cA : cAt) : FP B cA 26 := sm_r rfl
theorem fp_at_27 (B : Nat) (cA : cAt) : FP B cA 27 := sm_q fun j hj => (if_pos hj).trans (by show some (B + (28 + 7 * j)) = some (B + (28 + 7 * (nI j).toNatClampNeg)); rw [nI_clamp (by omega)])
theorem fp_at_28 (B : Nat) (cA : cAt) : FP B cA 28 := sm_r rfl
theorem fp_at_29 (B : Nat) (cA : cAt) : FP B cA 29 := sm_q fun j hj => if_pos hj
theorem fp_at_30 (B : Nat) (cA : cAt) : FP B cA 30 := sm_r rfl
theorem fp_at_31 (B : Nat) (cA : cAt) : FP B cA 31 := sm_r rfl
theorem fp_at_32 (B : Nat) (cA : cAt) : FP B cA 32 := sm_r rfl
theorem fp_at_33 (B : Nat) (cA : cAt) : FP B cA 33 := sm_r rfl
theorem fp_at_34 (B : Nat) (cA : cAt) : FP B cA 34 := sm_r rfl
theorem fp_at_35 (B : Nat) (cA : cAt) : FP B cA 35 := sm_r rfl
theorem fp_at_36 (B : Nat) (cA : cAt) : FP B cA 36 := sm_q fun j hj => if_pos hj
theorem fp_at_37 (B : Nat) (cA : cAt) : FP B cA 37 := sm_r rfl
theorem fp_at_38 (B : Nat) (cA : cAt) : FP B cA 38 := sm_r rfl
theorem fp_at_39 (B : Nat) (cA : cAt) : FP B cA 39 := sm_r rfl
theorem fp_at_40 (B : Nat) (cA : cAt) : FP B cA 40 := sm_r rfl
theorem fp_at_41 (B : Nat) (cA : cAt) : FP B cA 41 := sm_r rfl
theorem fp_at_42 (B : Nat) (cA : cAt) : FP B cA 42 := sm_r rfl
theorem fp_at_43 (B : Nat) (cA : cAt) : FP B cA 43 := sm_q fun j hj => if_pos hj
theorem fp_at_44 (B : Nat) (cA : cAt) : FP B cA 44 := sm_r rfl
theorem fp_at_45 (B : Nat) (cA : cAt) : FP B cA 45 := sm_r rfl
theorem fp_at_46 (B : Nat) (cA : cAt) : FP B cA 46 := sm_r rfl
theorem fp_at_47 (B : Nat) (cA : cAt) : FP B cA 47 := sm_r rfl
theorem fp_at_48 (B : Nat) (cA : cAt) : FP B cA 48 := sm_r rfl
theorem fp_at_49 (B : Nat) (cA : cAt) : FP B cA 49 := sm_r rfl
theorem fp_at_50 (B : Nat) (cA : cAt) : FP B cA 50 := sm_q fun j hj => if_pos hj
theorem fp_at_51 (B : Nat) (cA : cAt) : FP B cA 51 := sm_r rfl
theorem fp_at_52 (B : Nat) (cA : cAt) : FP B cA 52 := sm_r rfl
theorem fp_at_53 (B : Nat) (cA : cAt) : FP B cA 53 := sm_r rfl
theorem fp_at_54 (B : Nat) (cA : cAt) : FP B cA 54 := sm_r rfl
theorem fp_at_55 (B : Nat) (cA : cAt) : FP B cA 55 := sm_r rfl
theorem fp_at_56 (B : Nat) (cA : cAt) : FP B cA 56 := sm_r rfl
theorem fp_at_57 (B : Nat) (cA : cAt) : FP B cA 57 := sm_q fun j hj => if_pos hj
theorem fp_at_58 (B : Nat) (cA : cAt) : FP B cA 58 := sm_r rfl
theorem fp_at_59 (B : Nat) (cA : cAt) : FP B cA 59 := sm_r rfl
theorem fp_at_60 (B : Nat) (cA : cAt) : FP B cA 60 := sm_r rfl
theorem fp_at_61 (B : Nat) (cA : cAt) : FP B cA 61 := sm_r rfl
theorem fp_at_62 (B : Nat) (cA : cAt) : FP B cA 62 := sm_r rfl
theorem fp_at_63 (B : Nat) (cA : cAt) : FP B cA 63 := sm_r rfl
theorem fp_at_64 (B : Nat) (cA : cAt) : FP B cA 64 := sm_q fun j hj => if_pos hj
theorem fp_at_65 (B : Nat) (cA : cAt) : FP B cA 65 := sm_r rfl
theorem fp_at_66 (B : Nat) (cA : cAt) : FP B cA 66 := sm_r rfl
theorem fp_at_67 (B : Nat) (cA : cAt) : FP B cA 67 := sm_r rfl
theorem fp_at_68 (B : Nat) (cA : cAt) : FP B cA 68 := sm_r rfl
theorem fp_at_69 (B : Nat) (cA : cAt) : FP B cA 69 := sm_r rfl
theorem fp_at_70 (B : Nat) (cA : cAt) : FP B cA 70 := sm_r rfl
theorem fp_at_71 (B : Nat) (cA : cAt) : FP B cA 71 := sm_q fun j hj => if_pos hj
theorem fp_at_72 (B : Nat) (cA : cAt) : FP B cA 72 := sm_r rfl
theorem fp_at_73 (B : Nat) (cA : cAt) : FP B cA 73 := sm_r rfl
theorem fp_at_74 (B : Nat) (cA : cAt) : FP B cA 74 := sm_r rfl
theorem fp_at_75 (B : Nat) (cA : cAt) : FP B cA 75 := sm_r rfl
theorem fp_at_76 (B : Nat) (cA : cAt) : FP B cA 76 := sm_r rfl
theorem fp_at_77 (B : Nat) (cA : cAt) : FP B cA 77 := sm_r rfl
theorem fp_at_78 (B : Nat) (cA : cAt) : FP B cA 78 := sm_q fun j hj => if_pos hj
theorem fp_at_79 (B : Nat) (cA : cAt) : FP B cA 79 := sm_r rfl
theorem fp_at_80 (B : Nat) (cA : cAt) : FP B cA 80 := sm_r rfl
theorem fp_at_81 (B : Nat) (cA : cAt) : FP B cA 81 := sm_r rfl
theorem fp_at_82 (B : Nat) (cA : cAt) : FP B cA 82 := sm_r rfl
theorem fp_at_83 (B : Nat) (cA : cAt) : FP B cA 83 := sm_r rfl
theorem fp_at_84 (B : Nat) (cA : cAt) : FP B cA 84 := sm_r rfl
theorem fp_at_85 (B : Nat) (cA : cAt) : FP B cA 85 := sm_q fun j hj => if_pos hj
theorem fp_at_86 (B : Nat) (cA : cAt) : FP B cA 86 := sm_r rfl
theorem fp_at_87 (B : Nat) (cA : cAt) : FP B cA 87 := sm_r rfl
theorem fp_at_88 (B : Nat) (cA : cAt) : FP B cA 88 := sm_r rfl
theorem fp_at_89 (B : Nat) (cA : cAt) : FP B cA 89 := sm_r rfl
theorem fp_at_90 (B : Nat) (cA : cAt) : FP B cA 90 := sm_r rfl
theorem fp_at_91 (B : Nat) (cA : cAt) : FP B cA 91 := sm_r rfl
theorem fp_at_92 (B : Nat) (cA : cAt) : FP B cA 92 := sm_q fun j hj => if_pos hj
theorem fp_at_93 (B : Nat) (cA : cAt) : FP B cA 93 := sm_r rfl
theorem fp_at_94 (B : Nat) (cA : cAt) : FP B cA 94 := sm_r rfl
theorem fp_at_95 (B : Nat) (cA : cAt) : FP B cA 95 := sm_r rfl
theorem fp_at_96 (B : Nat) (cA : cAt) : FP B cA 96 := sm_r rfl
theorem fp_at_97 (B : Nat) (cA : cAt) : FP B cA 97 := sm_r rfl
theorem fp_at_98 (B : Nat) (cA : cAt) : FP B cA 98 := sm_r rfl
theorem fp_at_99 (B : Nat) (cA : cAt) : FP B cA 99 := sm_q fun j hj => if_pos hj
theorem fp_at_100 (B : Nat) (cA : cAt) : FP B cA 100 := sm_r rfl
theorem fp_at_101 (B : Nat) (cA : cAt) : FP B cA 101 := sm_r rfl
theorem fp_at_102 (B : Nat) (cA : cAt) : FP B cA 102 := sm_r rfl
theorem fp_at_103 (B : Nat) (cA : cAt) : FP B cA 103 := sm_r rfl
theorem fp_at_104 (B : Nat) (cA : cAt) : FP B cA 104 := sm_r rfl
theorem fp_at_105 (B : Nat) (cA : cAt) : FP B cA 105 := sm_r rfl
theorem fp_at_106 (B : Nat) (cA : cAt) : FP B cA 106 := sm_q fun j hj => if_pos hj
theorem fp_at_107 (B : Nat) (cA : cAt) : FP B cA 107 := sm_r rfl
theorem fp_at_108 (B : Nat) (cA : cAt) : FP B cA 108 := sm_r rfl
theorem fp_at_109 (B : Nat) (cA : cAt) : FP B cA 109 := sm_r rfl
theorem fp_at_110 (B : Nat) (cA : cAt) : FP B cA 110 := sm_r rfl
theorem fp_at_111 (B : Nat) (cA : cAt) : FP B cA 111 := sm_r rfl
theorem fp_at_112 (B : Nat) (cA : cAt) : FP B cA 112 := sm_r rfl
theorem fp_at_113 (B : Nat) (cA : cAt) : FP B cA 113 := sm_q fun j hj => if_pos hj
theorem fp_at_114 (B : Nat) (cA : cAt) : FP B cA 114 := sm_r rfl
theorem fp_at_115 (B : Nat) (cA : cAt) : FP B cA 115 := sm_r rfl
theorem fp_at_116 (B : Nat) (cA : cAt) : FP B cA 116 := sm_r rfl
theorem fp_at_117 (B : Nat) (cA : cAt) : FP B cA 117 := sm_r rfl
theorem fp_at_118 (B : Nat) (cA : cAt) : FP B cA 118 := sm_r rfl
theorem fp_at_119 (B : Nat) (cA : cAt) : FP B cA 119 := sm_r rfl
theorem fp_at_120 (B : Nat) (cA : cAt) : FP B cA 120 := sm_q fun j hj => if_pos hj
theorem fp_at_121 (B : Nat) (cA : cAt) : FP B cA 121 := sm_r rfl
theorem fp_at_122 (B : Nat) (cA : cAt) : FP B cA 122 := sm_r rfl
theorem fp_at_123 (B : Nat) (cA : cAt) : FP B cA 123 := sm_r rfl
theorem fp_at_124 (B : Nat) (cA : cAt) : FP B cA 124 := sm_r rfl
theorem fp_at_125 (B : Nat) (cA : cAt) : FP B cA 125 := sm_r rfl
theorem fp_at_126 (B : Nat) (cA : cAt) : FP B cA 126 := sm_r rfl
theorem fp_at_127 (B : Nat) (cA : cAt) : FP B cA 127 := sm_q fun j hj => if_pos hj
theorem fp_at_128 (B : Nat) (cA : cAt) : FP B cA 128 := sm_r rfl
theorem fp_at_129 (B : Nat) (cA : cAt) : FP B cA 129 := sm_r rfl
theorem fp_at_130 (B : Nat) (cA : cAt) : FP B cA 130 := sm_r rfl
theorem fp_at_131 (B : Nat) (cA : cAt) : FP B cA 131 := sm_r rfl
theorem fp_at_132 (B : Nat) (cA : cAt) : FP B cA 132 := sm_r rfl
theorem fp_at_133 (B : Nat) (cA : cAt) : FP B cA 133 := sm_r rfl
theorem fp_at_134 (B : Nat) (cA : cAt) : FP B cA 134 := sm_q fun j hj => if_pos hj
theorem fp_at_135 (B : Nat) (cA : cAt) : FP B cA 135 := sm_r rfl
theorem fp_at_136 (B : Nat) (cA : cAt) : FP B cA 136 := sm_r rfl
theorem fp_at_137 (B : Nat) (cA : cAt) : FP B cA 137 := sm_r rfl
theorem fp_at_138 (B : Nat) (cA : cAt) : FP B cA 138 := sm_r rfl
theorem fp_at_139 (B : Nat) (cA : cAt) : FP B cA 139 := sm_r rfl
theorem fp_at_140 (B : Nat) (cA : cAt) : FP B cA 140 := sm_r rfl
theorem fp_at_141 (B : Nat) (cA : cAt) : FP B cA 141 := sm_q fun j hj => if_pos hj
theorem fp_at_142 (B : Nat) (cA : cAt) : FP B cA 142 := sm_r rfl
theorem fp_at_143 (B : Nat) (cA : cAt) : FP B cA 143 := sm_r rfl
theorem fp_at_144 (B : Nat) (cA : cAt) : FP B cA 144 := sm_r rfl
theorem fp_at_145 (B : Nat) (cA : cAt) : FP B cA 145 := sm_r rfl
theorem fp_at_146 (B : Nat) (cA : cAt) : FP B cA 146 := sm_r rfl
theorem fp_at_147 (B : Nat) (cA : cAt) : FP B cA 147 := sm_r rfl
theorem fp_at_148 (B : Nat) (cA : cAt) : FP B cA 148 := sm_q fun j hj => if_pos hj
theorem fp_at_149 (B : Nat) (cA : cAt) : FP B cA 149 := sm_r rfl
theorem fp_at_150 (B : Nat) (cA : cAt) : FP B cA 150 := sm_r rfl
theorem fp_at_151 (B : Nat) (cA : cAt) : FP B cA 151 := sm_r rfl
theorem fp_at_152 (B : Nat) (cA : cAt) : FP B cA 152 := sm_r rfl
theorem fp_at_153 (B : Nat) (cA : cAt) : FP B cA 153 := sm_r rfl
theorem fp_at_154 (B : Nat) (cA : cAt) : FP B cA 154 := sm_r rfl
theorem fp_at_155 (B : Nat) (cA : cAt) : FP B cA 155 := sm_q fun j hj => if_pos hj
theorem fp_at_156 (B : Nat) (cA : cAt) : FP B cA 156 := sm_r rfl
theorem fp_at_157 (B : Nat) (cA : cAt) : FP B cA 157 := sm_r rfl
theorem fp_at_158 (B : Nat) (cA : cAt) : FP B cA 158 := sm_r rfl
theorem fp_at_159 (B : Nat) (cA : cAt) : FP B cA 159 := sm_r rfl
theorem fp_at_160 (B : Nat) (cA : cAt) : FP B cA 160 := sm_r rfl
theorem fp_at_161 (B : Nat) (cA : cAt) : FP B cA 161 := sm_r rfl
theorem fp_at_162 (B : Nat) (cA : cAt) : FP B cA 162 := sm_q fun j hj => if_pos hj
theorem fp_at_163 (B : Nat) (cA : cAt) : FP B cA 163 := sm_r rfl
theorem fp_at_164 (B : Nat) (cA : cAt) : FP B cA 164 := sm_r rfl
theorem fp_at_165 (B : Nat) (cA : cAt) : FP B cA 165 := sm_r rfl
theorem fp_at_166 (B : Nat) (cA : cAt) : FP B cA 166 := sm_r rfl
theorem fp_at_167 (B : Nat) (cA : cAt) : FP B cA 167 := sm_r rfl
theorem fp_at_168 (B : Nat) (cA : cAt) : FP B cA 168 := sm_r rfl
theorem fp_at_169 (B : Nat) (cA : cAt) : FP B cA 169 := sm_q fun j hj => if_pos hj
theorem fp_at_170 (B : Nat) (cA : cAt) : FP B cA 170 := sm_r rfl
theorem fp_at_171 (B : Nat) (cA : cAt) : FP B cA 171 := sm_r rfl
theorem fp_at_172 (B : Nat) (cA : cAt) : FP B cA 172 := sm_r rfl
theorem fp_at_173 (B : Nat) (cA : cAt) : FP B cA 173 := sm_r rfl
theorem fp_at_174 (B : Nat) (cA : cAt) : FP B cA 174 := sm_r rfl
theorem fp_at_175 (B : Nat) (cA : cAt) : FP B cA 175 := sm_r rfl
theorem fp_at_176 (B : Nat) (cA : cAt) : FP B cA 176 := sm_q fun j hj => if_pos hj
theorem fp_at_177 (B : Nat) (cA : cAt) : FP B cA 177 := sm_r rfl
theorem fp_at_178 (B : Nat) (cA : cAt) : FP B cA 178 := sm_r rfl
theorem fp_at_179 (B : Nat) (cA : cAt) : FP B cA 179 := sm_r rfl
theorem fp_at_180 (B : Nat) (cA : cAt) : FP B cA 180 := sm_r rfl
theorem fp_at_181 (B : Nat) (cA : cAt) : FP B cA 181 := sm_r rfl
theorem fp_at_182 (B : Nat) (cA : cAt) : FP B cA 182 := sm_r rfl
theorem fp_at_183 (B : Nat) (cA : cAt) : FP B cA 183 := sm_q fun j hj => if_pos hj
theorem fp_at_184 (B : Nat) (cA : cAt) : FP B cA 184 := sm_r rfl
theorem fp_at_185 (B : Nat) (cA : cAt) : FP B cA 185 := sm_r rfl
theorem fp_at_186 (B : Nat) (cA : cAt) : FP B cA 186 := sm_r rfl
theorem fp_at_187 (B : Nat) (cA : cAt) : FP B cA 187 := sm_r rfl
theorem fp_at_188 (B : Nat) (cA : cAt) : FP B cA 188 := sm_r rfl
theorem fp_at_189 (B : Nat) (cA : cAt) : FP B cA 189 := sm_r rfl
theorem fp_at_190 (B : Nat) (cA : cAt) : FP B cA 190 := sm_q fun j hj => if_pos hj
theorem fp_at_191 (B : Nat) (cA : cAt) : FP B cA 191 := sm_r rfl
theorem fp_at_192 (B : Nat) (cA : cAt) : FP B cA 192 := sm_r rfl
theorem fp_at_193 (B : Nat) (cA : cAt) : FP B cA 193 := sm_r rfl
theorem fp_at_194 (B : Nat) (cA : cAt) : FP B cA 194 := sm_r rfl
theorem fp_at_195 (B : Nat) (cA : cAt) : FP B cA 195 := sm_r rfl
theorem fp_at_196 (B : Nat) (cA : cAt) : FP B cA 196 := sm_r rfl
theorem fp_at_197 (B : Nat) (cA : cAt) : FP B cA 197 := sm_i fun j hj => rfl
theorem fp_at_198 (B : Nat) (cA : cAt) : FP B cA 198 := sm_i fun j hj => rfl
theorem fp_at_199 (B : Nat) (cA : cAt) : FP B cA 199 := sm_i fun j hj => rfl
theorem fp_at_200 (B : Nat) (cA : cAt) : FP B cA 200 := sm_i fun j hj => rfl
theorem fp_at_201 (B : Nat) (cA : cAt) : FP B cA 201 := sm_i fun j hj => rfl
theorem fp_at_202 (B : Nat) (cA : cAt) : FP B cA 202 := sm_r rfl
theorem fp_at_203 (B : Nat) (cA : cAt) : FP B cA 203 := sm_i fun j hj => rfl
theorem fp_at_204 (B : Nat) (cA : cAt) : FP B cA 204 := sm_r rfl
theorem fp_at_205 (B : Nat) (cA : cAt) : FP B cA 205 := sm_i fun j hj => rfl
theorem fp_at_206 (B : Nat) (cA : cAt) : FP B cA 206 := sm_r rfl
theorem fp_at_207 (B : Nat) (cA : cAt) : FP B cA 207 := sm_i fun j hj => rfl
theorem fp_at_208 (B : Nat) (cA : cAt) : FP B cA 208 := sm_r rfl
theorem fp_at_209 (B : Nat) (cA : cAt) : FP B cA 209 := sm_i fun j hj => rfl
theorem fp_at_210 (B : Nat) (cA : cAt) : FP B cA 210 := sm_r rfl
theorem fp_at_211 (B : Nat) (cA : cAt) : FP B cA 211 := sm_i fun j hj => rfl
theorem fp_at_212 (B : Nat) (cA : cAt) : FP B cA 212 := sm_r rfl
theorem fp_at_213 (B : Nat) (cA : cAt) : FP B cA 213 := sm_i fun j hj => rfl
theorem fp_at_214 (B : Nat) (cA : cAt) : FP B cA 214 := sm_r rfl
theorem fp_at_215 (B : Nat) (cA : cAt) : FP B cA 215 := sm_i fun j hj => rfl
theorem fp_at_216 (B : Nat) (cA : cAt) : FP B cA 216 := sm_r rfl
theorem fp_at_217 (B : Nat) (cA : cAt) : FP B cA 217 := sm_i fun j hj => rfl
theorem fp_at_218 (B : Nat) (cA : cAt) : FP B cA 218 := sm_r rfl
theorem fp_at_219 (B : Nat) (cA : cAt) : FP B cA 219 := sm_i fun j hj => rfl
theorem fp_at_220 (B : Nat) (cA : cAt) : FP B cA 220 := sm_r rfl
theorem fp_at_221 (B : Nat) (cA : cAt) : FP B cA 221 := sm_q fun j hj => if_pos hj
theorem fp_at_222 (B : Nat) (cA : cAt) : FP B cA 222 := sm_r rfl
theorem fp_at_223 (B : Nat) (cA : cAt) : FP B cA 223 := sm_r rfl
theorem fp_at_224 (B : Nat) (cA : cAt) : FP B cA 224 := sm_r rfl
theorem fp_at_225 (B : Nat) (cA : cAt) : FP B cA 225 := sm_r rfl
theorem fp_at_226 (B : Nat) (cA : cAt) : FP B cA 226 := sm_r rfl
theorem fp_at_227 (B : Nat) (cA : cAt) : FP B cA 227 := sm_r rfl
theorem fp_at_228 (B : Nat) (cA : cAt) : FP B cA 228 := sm_q fun j hj => if_pos hj
theorem fp_at_229 (B : Nat) (cA : cAt) : FP B cA 229 := sm_r rfl
theorem fp_at_230 (B : Nat) (cA : cAt) : FP B cA 230 := sm_r rfl
theorem fp_at_231 (B : Nat) (cA : cAt) : FP B cA 231 := sm_r rfl
theorem fp_at_232 (B : Nat) (cA : cAt) : FP B cA 232 := sm_r rfl
theorem fp_at_233 (B : Nat) (cA : cAt) : FP B cA 233 := sm_r rfl
theorem fp_at_234 (B : Nat) (cA : cAt) : FP B cA 234 := sm_r rfl
theorem fp_at_235 (B : Nat) (cA : cAt) : FP B cA 235 := sm_i fun j hj => if_pos hj
theorem fp_at_236 (B : Nat) (cA : cAt) : FP B cA 236 := sm_i fun j hj => rfl
theorem fp_at_237 (B : Nat) (cA : cAt) : FP B cA 237 := sm_i fun j hj => rfl
theorem fp_at_238 (B : Nat) (cA : cAt) : FP B cA 238 := sm_i fun j hj => rfl
theorem fp_at_239 (B : Nat) (cA : cAt) : FP B cA 239 := sm_i fun j hj => rfl
theorem fp_at_240 (B : Nat) (cA : cAt) : FP B cA 240 := sm_i fun j hj => rfl
theorem fp_at_241 (B : Nat) (cA : cAt) : FP B cA 241 := sm_i fun j hj => rfl
theorem fp_at_242 (B : Nat) (cA : cAt) : FP B cA 242 := sm_i fun j hj => rfl
theorem fp_at_243 (B : Nat) (cA : cAt) : FP B cA 243 := sm_i fun j hj => rfl
theorem fp_at_244 (B : Nat) (cA : cAt) : FP B cA 244 := sm_i fun j hj => rfl
theorem fp_at_245 (B : Nat) (cA : cAt) : FP B cA 245 := sm_i fun j hj => rfl
theorem fp_at_246 (B : Nat) (cA : cAt) : FP B cA 246 := sm_i fun j hj => rfl
theorem fp_at_247 (B : Nat) (cA : cAt) : FP B cA 247 := sm_i fun j hj => rfl
theorem fp_at_248 (B : Nat) (cA : cAt) : FP B cA 248 := sm_i fun j hj => rfl
theorem fp_20 (B : Nat) (cA : cAt) : ∀ k, k < 20 → FP B cA k := fp_s (fp_s (fp_s (fp_s (fp_s (fp_s (fp_s (fp_s (fp_s (fp_s (fp_s (fp_s (fp_s (fp_s (fp_s (fp_s (fp_s (fp_s (fp_s (fp_s (fp_0 B cA) (fp_at_0 B cA)) (fp_at_1 B cA)) (fp_at_2 B cA)) (fp_at_3 B cA)) (fp_at_4 B cA)) (fp_at_5 B cA)) (fp_at_6 B cA)) (fp_at_7 B cA)) (fp_at_8 B cA)) (fp_at_9 B cA)) (fp_at_10 B cA)) (fp_at_11 B cA)) (fp_at_12 B cA)) (fp_at_13 B cA)) (fp_at_14 B cA)) (fp_at_15 B cA)) (fp_at_16 B cA)) (fp_at_17 B cA)) (fp_at_18 B cA)) (fp_at_19 B cA)
theorem fp_40 (B : Nat) (cA : cAt) : ∀ k, k < 40 → FP B cA k := fp_s (fp_s (fp_s (fp_s (fp_s (fp_s (fp_s (fp_s (fp_s (fp_s (fp_s (fp_s (fp_s (fp_s (fp_s (fp_s (fp_s (fp_s (fp_s (fp_s (fp_20 B cA) (fp_at_20 B cA)) (fp_at_21 B cA)) (fp_at_22 B cA)) (fp_at_23 B cA)) (fp_at_24 B cA)) (fp_at_25 B cA)) (fp_at_26 B cA)) (fp_at_27 B cA)) (fp_at_28 B cA)) (fp_at_29 B cA)) (fp_at_30 B cA)) (fp_at_31 B cA)) (fp_at_32 B cA)) (fp_at_33 B cA)) (fp_at_34 B cA)) (fp_at_35 B cA)) (fp_at_36 B cA)) (fp_at_37 B cA)) (fp_at_38 B cA)) (fp_at_39 B cA)
theorem fp_60 (B : Nat) (cA : cAt) : ∀ k, k < 60 → FP B cA k := fp_s (fp_s (fp_s (fp_s (fp_s (fp_s (fp_s (fp_s (fp_s (fp_s (fp_s (fp_s (fp_s (fp_s (fp_s (fp_s (fp_s (fp_s (fp_s (fp_s (fp_40 B cA) (fp_at_40 B cA)) (fp_at_41 B cA)) (fp_at_42 B cA)) (fp_at_43 B cA)) (fp_at_44 B cA)) (fp_at_45 B cA)) (fp_at_46 B cA)) (fp_at_47 B cA)) (fp_at_48 B cA)) (fp_at_49 B cA)) (fp_at_50 B cA)) (fp_at_51 B cA)) (fp_at_52 B cA)) (fp_at_53 B cA)) (fp_at_54 B cA)) (fp_at_55 B cA)) (fp_at_56 B cA)) (fp_at_57 B cA)) (fp_at_58 B cA)) (fp_at_59 B cA)
theorem fp_80 (B : Nat) (cA : cAt) : ∀ k, k < 80 → FP B cA k := fp_s (fp_s (fp_s (fp_s (fp_s (fp_s (fp_s (fp_s (fp_s (fp_s (fp_s (fp_s (fp_s (fp_s (fp_s (fp_s (fp_s (fp_s (fp_s (fp_s (fp_60 B cA) (fp_at_60 B cA)) (fp_at_61 B cA)) (fp_at_62 B cA)) (fp_at_63 B cA)) (fp_at_64 B cA)) (fp_at_65 B cA)) (fp_at_66 B cA)) (fp_at_67 B cA)) (fp_at_68 B cA)) (fp_at_69 B cA)) (fp_at_70 B cA)) (fp_at_71 B cA)) (fp_at_72 B cA)) (fp_at_73 B cA)) (fp_at_74 B cA)) (fp_at_75 B cA)) (fp_at_76 B cA)) (fp_at_77 B cA)) (fp_at_78 B cA)) (fp_at_79 B cA)
theorem fp_100 (B : Nat) (cA : cAt) : ∀ k, k < 100 → FP B cA k := fp_s (fp_s (fp_s (fp_s (fp_s (fp_s (fp_s (fp_s (fp_s (fp_s (fp_s (fp_s (fp_s (fp_s (fp_s (fp_s (fp_s (fp_s (fp_s (fp_s (fp_80 B cA) (fp_at_80 B cA)) (fp_at_81 B cA)) (fp_at_82 B cA)) (fp_at_83 B cA)) (fp_at_84 B cA)) (fp_at_85 B cA)) (fp_at_86 B cA)) (fp_at_87 B cA)) (fp_at_88 B cA)) (fp_at_89 B cA)) (fp_at_90 B cA)) (fp_at_91 B cA)) (fp_at_92 B cA)) (fp_at_93 B cA)) (fp_at_94 B cA)) (fp_at_95 B cA)) (fp_at_96 B cA)) (fp_at_97 B cA)) (fp_at_98 B cA)) (fp_at_99 B cA)
theorem fp_120 (B : Nat) (cA : cAt) : ∀ k, k < 120 → FP B cA k := fp_s (fp_s (fp_s (fp_s (fp_s (fp_s (fp_s (fp_s (fp_s (fp_s (fp_s (fp_s (fp_s (fp_s (fp_s (fp_s (fp_s (fp_s (fp_s (fp_s (fp_100 B cA) (fp_at_100 B cA)) (fp_at_101 B cA)) (fp_at_102 B cA)) (fp_at_103 B cA)) (fp_at_104 B cA)) (fp_at_105 B cA)) (fp_at_106 B cA)) (fp_at_107 B cA)) (fp_at_108 B cA)) (fp_at_109 B cA)) (fp_at_110 B cA)) (fp_at_111 B cA)) (fp_at_112 B cA)) (fp_at_113 B cA)) (fp_at_114 B cA)) (fp_at_115 B cA)) (fp_at_116 B cA)) (fp_at_117 B cA)) (fp_at_118 B cA)) (fp_at_119 B cA)
theorem fp_140 (B : Nat) (cA : cAt) : ∀ k, k < 140 → FP B cA k := fp_s (fp_s (fp_s (fp_s (fp_s (fp_s (fp_s (fp_s (fp_s (fp_s (fp_s (fp_s (fp_s (fp_s (fp_s (fp_s (fp_s (fp_s (fp_s (fp_s (fp_120 B cA) (fp_at_120 B cA)) (fp_at_121 B cA)) (fp_at_122 B cA)) (fp_at_123 B cA)) (fp_at_124 B cA)) (fp_at_125 B cA)) (fp_at_126 B cA)) (fp_at_127 B cA)) (fp_at_128 B cA)) (fp_at_129 B cA)) (fp_at_130 B cA)) (fp_at_131 B cA)) (fp_at_132 B cA)) (fp_at_133 B cA)) (fp_at_134 B cA)) (fp_at_135 B cA)) (fp_at_136 B cA)) (fp_at_137 B cA)) (fp_at_138 B cA)) (fp_at_139 B cA)
theorem fp_160 (B : Nat) (cA : cAt) : ∀ k, k < 160 → FP B cA k := fp_s (fp_s (fp_s (fp_s (fp_s (fp_s (fp_s (fp_s (fp_s (fp_s (fp_s (fp_s (fp_s (fp_s (fp_s (fp_s (fp_s (fp_s (fp_s (fp_s (fp_140 B cA) (fp_at_140 B cA)) (fp_at_141 B cA)) (fp_at_142 B cA)) (fp_at_143 B cA)) (fp_at_144 B cA)) (fp_at_145 B cA)) (fp_at_146 B cA)) (fp_at_147 B cA)) (fp_at_148 B cA)) (fp_at_149 B cA)) (fp_at_150 B cA)) (fp_at_151 B cA)) (fp_at_152 B cA)) (fp_at_153 B cA)) (fp_at_154 B cA)) (fp_at_155 B cA)) (fp_at_156 B cA)) (fp_at_157 B cA)) (fp_at_158 B cA)) (fp_at_159 B cA)
theorem fp_180 (B : Nat) (cA : cAt) : ∀ k, k < 180 → FP B cA k := fp_s (fp_s (fp_s (fp_s (fp_s (fp_s (fp_s (fp_s (fp_s (fp_s (fp_s (fp_s (fp_s (fp_s (fp_s (fp_s (fp_s (fp_s (fp_s (fp_s (fp_160 B cA) (fp_at_160 B cA)) (fp_at_161 B cA)) (fp_at_162 B cA)) (fp_at_163 B cA)) (fp_at_164 B cA)) (fp_at_165 B cA)) (fp_at_166 B cA)) (fp_at_167 B cA)) (fp_at_168 B cA)) (fp_at_169 B cA)) (fp_at_170 B cA)) (fp_at_171 B cA)) (fp_at_172 B cA)) (fp_at_173 B cA)) (fp_at_174 B cA)) (fp_at_175 B cA)) (fp_at_176 B cA)) (fp_at_177 B cA)) (fp_at_178 B cA)) (fp_at_179 B cA)
theorem fp_200 (B : Nat) (cA : cAt) : ∀ k, k < 200 → FP B cA k := fp_s (fp_s (fp_s (fp_s (fp_s (fp_s (fp_s (fp_s (fp_s (fp_s (fp_s (fp_s (fp_s (fp_s (fp_s (fp_s (fp_s (fp_s (fp_s (fp_s (fp_180 B cA) (fp_at_180 B cA)) (fp_at_181 B cA)) (fp_at_182 B cA)) (fp_at_183 B cA)) (fp_at_184 B cA)) (fp_at_185 B cA)) (fp_at_186 B cA)) (fp_at_187 B cA)) (fp_at_188 B cA)) (fp_at_189 B cA)) (fp_at_190 B cA)) (fp_at_191 B cA)) (fp_at_192 B cA)) (fp_at_193 B cA)) (fp_at_194 B cA)) (fp_at_195 B cA)) (fp_at_196 B cA)) (fp_at_197 B cA)) (fp_at_198 B cA)) (fp_at_199 B cA)
theorem fp_220 (B : Nat) (cA : cAt) : ∀ k, k < 220 → FP B cA k := fp_s (fp_s (fp_s (fp_s (fp_s (fp_s (fp_s (fp_s (fp_s (fp_s (fp_s (fp_s (fp_s (fp_s (fp_s (fp_s (fp_s (fp_s (fp_s (fp_s (fp_200 B cA) (fp_at_200 B cA)) (fp_at_201 B cA)) (fp_at_202 B cA)) (fp_at_203 B cA)) (fp_at_204 B cA)) (fp_at_205 B cA)) (fp_at_206 B cA)) (fp_at_207 B cA)) (fp_at_208 B cA)) (fp_at_209 B cA)) (fp_at_210 B cA)) (fp_at_211 B cA)) (fp_at_212 B cA)) (fp_at_213 B cA)) (fp_at_214 B cA)) (fp_at_215 B cA)) (fp_at_216 B cA)) (fp_at_217 B cA)) (fp_at_218 B cA)) (fp_at_219 B cA)
theorem fp_240 (B : Nat) (cA : cAt) : ∀ k, k < 240 → FP B cA k := fp_s (fp_s (fp_s (fp_s (fp_s (fp_s (fp_s (fp_s (fp_s (fp_s (fp_s (fp_s (fp_s (fp_s (fp_s (fp_s (fp_s (fp_s (fp_s (fp_s (fp_220 B cA) (fp_at_220 B cA)) (fp_at_221 B cA)) (fp_at_222 B cA)) (fp_at_223 B cA)) (fp_at_224 B cA)) (fp_at_225 B cA)) (fp_at_226 B cA)) (fp_at_227 B cA)) (fp_at_228 B cA)) (fp_at_229 B cA)) (fp_at_230 B cA)) (fp_at_231 B cA)) (fp_at_232 B cA)) (fp_at_233 B cA)) (fp_at_234 B cA)) (fp_at_235 B cA)) (fp_at_236 B cA)) (fp_at_237 B cA)) (fp_at_238 B cA)) (fp_at_239 B cA)
theorem fp_249 (B : Nat) (cA : cAt) : ∀ k, k < 249 → FP B cA k := fp_s (fp_s (fp_s (fp_s (fp_s (fp_s (fp_s (fp_s (fp_s (fp_240 B cA) (fp_at_240 B cA)) (fp_at_241 B cA)) (fp_at_242 B cA)) (fp_at_243 B cA)) (fp_at_244 B cA)) (fp_at_245 B cA)) (fp_at_246 B cA)) (fp_at_247 B cA)) (fp_at_248 B cA)
theorem fin_P {D : va_G} {B : Nat} {cA : cAt} {H : Heap} (h : va_P D vwCl (GL B 249 (mdW B cA 8 (hpW B cA 8 2))) H) : va_P D vwCl (WL B cA M0) H := by
  intro k q hk
  obtain ⟨hl, rfl⟩ := WL_get_inv hk
  exact fp_249 B cA k hl D _ H (h k _ (GL_get hl))
