theorem gx {t : Cond} (i : Nat) (h : lw_tbl[i]? = some t) (hg : goodWord t = true) : t ∈ gtb := gm (List.mem_of_getElem? h) hg
def wmp (y2 : MD) (n2 : Nat) : Prop := Cond.instanceMethod y2.1 ∈ gtb ∧ Cond.selects y2.1.cls y2.1 y2.1 ∈ gtb ∧ Cond.initialized y2.1.cls ∈ gtb ∧ Cond.code y2.1 y2.2.1 y2.2.2.1 y2.2.2.2.1 ∈ gtb ∧ y2.1.cls ≠ "java/lang/invoke/MethodHandle" ∧ y2.1.cls ≠ "java/lang/invoke/VarHandle" ∧ (parseMethodDescriptor y2.1.desc).map (fun d => d.parameters.length) = some n2
def wms (y2 : MD) (n2 : Nat) : Prop := Cond.static y2.1 ∈ gtb ∧ Cond.initialized y2.1.cls ∈ gtb ∧ Cond.code y2.1 y2.2.1 y2.2.2.1 y2.2.2.2.1 ∈ gtb ∧ y2.1.cls ≠ "java/lang/invoke/MethodHandle" ∧ y2.1.cls ≠ "java/lang/invoke/VarHandle" ∧ (parseMethodDescriptor y2.1.desc).map (fun d => d.parameters.length) = some n2
theorem cwp_of {own : String} {index n2 : Nat} {y2 : MD} (h : wmp y2 n2) (hl : Cond.methodLink own index y2.1 ∈ gtb) : cwp own index y2 n2 := by
  refine ⟨fun t ht => tbl_good t ?_, h.2.2.2.2⟩
  simp only [wsV, List.cons_append, List.nil_append, List.mem_cons, List.not_mem_nil, or_false] at ht
  rcases ht with rfl | rfl | rfl | rfl | rfl
  · exact hl
  · exact h.1
  · exact h.2.1
  · exact h.2.2.1
  · exact h.2.2.2.1
theorem csp_of {own : String} {index n2 : Nat} {y2 : MD} (h : wms y2 n2) (hl : Cond.methodLink own index y2.1 ∈ gtb) : csp own index y2 n2 := by
  refine ⟨fun t ht => tbl_good t ?_, h.2.2.2⟩
  simp only [va_wsS, List.cons_append, List.nil_append, List.mem_cons, List.not_mem_nil, or_false] at ht
  rcases ht with rfl | rfl | rfl | rfl
  · exact hl
  · exact h.1
  · exact h.2.1
  · exact h.2.2.1
theorem copyr : (([] : List Value).map fun v => v.category).sum + (nativeFrameWords "java/lang/System" "arraycopy" 5 + 11) ≤ 200 := by decide +kernel
theorem copyw : Cond.native arraycopyName ∈ gtb ∧ Cond.static arraycopyName ∈ gtb ∧ Cond.initialized "java/lang/System" ∈ gtb := ⟨gm (by decide +kernel) (by decide +kernel), gm (by decide +kernel) (by decide +kernel), gm (by decide +kernel) (by decide +kernel)⟩
theorem in_1 : ∀ t ∈ u_ws RX1 TX1 3, t ∈ gtb := fun t h => gm ((by decide +kernel : ∀ t ∈ u_ws RX1 TX1 3, t ∈ lw_tbl) t h) ((by decide +kernel : ∀ t ∈ u_ws RX1 TX1 3, goodWord t = true) t h)
theorem in_2 : ∀ t ∈ u_ws RX2 TX2 5, t ∈ gtb := fun t h => gm ((by decide +kernel : ∀ t ∈ u_ws RX2 TX2 5, t ∈ lw_tbl) t h) ((by decide +kernel : ∀ t ∈ u_ws RX2 TX2 5, goodWord t = true) t h)
theorem in_3 : ∀ t ∈ u_ws RX3 TX3 1, t ∈ gtb := fun t h => gm ((by decide +kernel : ∀ t ∈ u_ws RX3 TX3 1, t ∈ lw_tbl) t h) ((by decide +kernel : ∀ t ∈ u_ws RX3 TX3 1, goodWord t = true) t h)
theorem in_4 : ∀ t ∈ u_ws RX4 TX4 16, t ∈ gtb := fun t h => gm ((by decide +kernel : ∀ t ∈ u_ws RX4 TX4 16, t ∈ lw_tbl) t h) ((by decide +kernel : ∀ t ∈ u_ws RX4 TX4 16, goodWord t = true) t h)
theorem in_5 : ∀ t ∈ u_ws RX5 TX5 1, t ∈ gtb := fun t h => gm ((by decide +kernel : ∀ t ∈ u_ws RX5 TX5 1, t ∈ lw_tbl) t h) ((by decide +kernel : ∀ t ∈ u_ws RX5 TX5 1, goodWord t = true) t h)
theorem in_6 : ∀ t ∈ u_ws RX6 TX6 8, t ∈ gtb := fun t h => gm ((by decide +kernel : ∀ t ∈ u_ws RX6 TX6 8, t ∈ lw_tbl) t h) ((by decide +kernel : ∀ t ∈ u_ws RX6 TX6 8, goodWord t = true) t h)
theorem in_7 : ∀ t ∈ u_ws RX7 TX7 1, t ∈ gtb := fun t h => gm ((by decide +kernel : ∀ t ∈ u_ws RX7 TX7 1, t ∈ lw_tbl) t h) ((by decide +kernel : ∀ t ∈ u_ws RX7 TX7 1, goodWord t = true) t h)
theorem in_8 : ∀ t ∈ u_ws RX8 TX8 4, t ∈ gtb := fun t h => gm ((by decide +kernel : ∀ t ∈ u_ws RX8 TX8 4, t ∈ lw_tbl) t h) ((by decide +kernel : ∀ t ∈ u_ws RX8 TX8 4, goodWord t = true) t h)
theorem in_9 : ∀ t ∈ u_ws RX9 TX9 5, t ∈ gtb := fun t h => gm ((by decide +kernel : ∀ t ∈ u_ws RX9 TX9 5, t ∈ lw_tbl) t h) ((by decide +kernel : ∀ t ∈ u_ws RX9 TX9 5, goodWord t = true) t h)
theorem in_10 : ∀ t ∈ u_ws RX10 TX10 1, t ∈ gtb := fun t h => gm ((by decide +kernel : ∀ t ∈ u_ws RX10 TX10 1, t ∈ lw_tbl) t h) ((by decide +kernel : ∀ t ∈ u_ws RX10 TX10 1, goodWord t = true) t h)
theorem in_11 : ∀ t ∈ u_ws RX11 TX11 19, t ∈ gtb := fun t h => gm ((by decide +kernel : ∀ t ∈ u_ws RX11 TX11 19, t ∈ lw_tbl) t h) ((by decide +kernel : ∀ t ∈ u_ws RX11 TX11 19, goodWord t = true) t h)
theorem in_12 : ∀ t ∈ u_ws RX12 TX12 25, t ∈ gtb := fun t h => gm ((by decide +kernel : ∀ t ∈ u_ws RX12 TX12 25, t ∈ lw_tbl) t h) ((by decide +kernel : ∀ t ∈ u_ws RX12 TX12 25, goodWord t = true) t h)
theorem math_min : Cond.static Lib.Math.min.name ∈ gtb ∧ Cond.initialized "java/lang/Math" ∈ gtb ∧ Cond.code Lib.Math.min.name Lib.Math.min.code 2 (some .int) ∈ gtb := ⟨gm (by decide +kernel) (by decide +kernel), gm (by decide +kernel) (by decide +kernel), gm (by decide +kernel) (by decide +kernel)⟩
theorem math_max : Cond.static Lib.Math.max.name ∈ gtb ∧ Cond.initialized "java/lang/Math" ∈ gtb ∧ Cond.code Lib.Math.max.name Lib.Math.max.code 2 (some .int) ∈ gtb := ⟨gm (by decide +kernel) (by decide +kernel), gm (by decide +kernel) (by decide +kernel), gm (by decide +kernel) (by decide +kernel)⟩
theorem kc_0 : kd 0 = 11 := by decide
theorem kc_1 : kd 1 = 9 := by decide
theorem kc_2 : kd 2 = 13 := by decide
theorem lc_2 : ln 2 = 400 := by decide
theorem kc_3 : kd 3 = 4 := by decide
theorem kc_4 : kd 4 = 13 := by decide
theorem lc_4 : ln 4 = 8 := by decide
theorem kc_5 : kd 5 = 13 := by decide
theorem lc_5 : ln 5 = 8 := by decide
theorem kc_6 : kd 6 = 13 := by decide
theorem lc_6 : ln 6 = 8 := by decide
theorem kc_7 : kd 7 = 13 := by decide
theorem lc_7 : ln 7 = 8 := by decide
theorem kc_8 : kd 8 = 13 := by decide
theorem lc_8 : ln 8 = 64 := by decide
theorem kc_9 : kd 9 = 13 := by decide
theorem lc_9 : ln 9 = 64 := by decide
theorem kc_10 : kd 10 = 13 := by decide
theorem lc_10 : ln 10 = 64 := by decide
theorem kc_11 : kd 11 = 13 := by decide
theorem lc_11 : ln 11 = 60 := by decide
theorem kc_12 : kd 12 = 4 := by decide
theorem kc_13 : kd 13 = 13 := by decide
theorem lc_13 : ln 13 = 8 := by decide
theorem kc_14 : kd 14 = 13 := by decide
theorem lc_14 : ln 14 = 8 := by decide
theorem kc_15 : kd 15 = 13 := by decide
theorem lc_15 : ln 15 = 8 := by decide
theorem kc_16 : kd 16 = 13 := by decide
theorem lc_16 : ln 16 = 8 := by decide
theorem kc_17 : kd 17 = 13 := by decide
theorem lc_17 : ln 17 = 64 := by decide
theorem kc_18 : kd 18 = 13 := by decide
theorem lc_18 : ln 18 = 64 := by decide
theorem kc_19 : kd 19 = 13 := by decide
theorem lc_19 : ln 19 = 64 := by decide
theorem kc_20 : kd 20 = 13 := by decide
theorem lc_20 : ln 20 = 60 := by decide
theorem kc_21 : kd 21 = 4 := by decide
theorem kc_22 : kd 22 = 13 := by decide
theorem lc_22 : ln 22 = 8 := by decide
theorem kc_23 : kd 23 = 13 := by decide
theorem lc_23 : ln 23 = 8 := by decide
theorem kc_24 : kd 24 = 13 := by decide
theorem lc_24 : ln 24 = 8 := by decide
theorem kc_25 : kd 25 = 13 := by decide
theorem lc_25 : ln 25 = 8 := by decide
theorem kc_26 : kd 26 = 13 := by decide
theorem lc_26 : ln 26 = 64 := by decide
theorem kc_27 : kd 27 = 13 := by decide
theorem lc_27 : ln 27 = 64 := by decide
theorem kc_28 : kd 28 = 13 := by decide
theorem lc_28 : ln 28 = 64 := by decide
theorem kc_29 : kd 29 = 13 := by decide
theorem lc_29 : ln 29 = 60 := by decide
theorem kc_30 : kd 30 = 6 := by decide
theorem kc_31 : kd 31 = 13 := by decide
theorem lc_31 : ln 31 = 12 := by decide
theorem kc_32 : kd 32 = 13 := by decide
theorem lc_32 : ln 32 = 12 := by decide
theorem kc_33 : kd 33 = 13 := by decide
theorem lc_33 : ln 33 = 12 := by decide
theorem kc_34 : kd 34 = 13 := by decide
theorem lc_34 : ln 34 = 400 := by decide
theorem kc_35 : kd 35 = 13 := by decide
theorem lc_35 : ln 35 = 8 := by decide
theorem kc_36 : kd 36 = 13 := by decide
theorem lc_36 : ln 36 = 32 := by decide
theorem kc_37 : kd 37 = 6 := by decide
theorem kc_38 : kd 38 = 13 := by decide
theorem lc_38 : ln 38 = 12 := by decide
theorem kc_39 : kd 39 = 13 := by decide
theorem lc_39 : ln 39 = 12 := by decide
theorem kc_40 : kd 40 = 13 := by decide
theorem lc_40 : ln 40 = 12 := by decide
theorem kc_41 : kd 41 = 13 := by decide
theorem lc_41 : ln 41 = 400 := by decide
theorem kc_42 : kd 42 = 13 := by decide
theorem lc_42 : ln 42 = 8 := by decide
theorem kc_43 : kd 43 = 13 := by decide
theorem lc_43 : ln 43 = 32 := by decide
theorem kc_44 : kd 44 = 6 := by decide
theorem kc_45 : kd 45 = 13 := by decide
theorem lc_45 : ln 45 = 12 := by decide
theorem kc_46 : kd 46 = 13 := by decide
theorem lc_46 : ln 46 = 12 := by decide
theorem kc_47 : kd 47 = 13 := by decide
theorem lc_47 : ln 47 = 12 := by decide
theorem kc_48 : kd 48 = 13 := by decide
theorem lc_48 : ln 48 = 400 := by decide
theorem kc_49 : kd 49 = 13 := by decide
theorem lc_49 : ln 49 = 8 := by decide
theorem kc_50 : kd 50 = 13 := by decide
theorem lc_50 : ln 50 = 32 := by decide
theorem kc_51 : kd 51 = 5 := by decide
theorem kc_52 : kd 52 = 7 := by decide
theorem kc_53 : kd 53 = 1 := by decide
theorem kc_54 : kd 54 = 13 := by decide
theorem lc_54 : ln 54 = 8 := by decide
theorem kc_55 : kd 55 = 10 := by decide
theorem kc_56 : kd 56 = 8 := by decide
theorem kc_57 : kd 57 = 13 := by decide
theorem lc_57 : ln 57 = 8 := by decide
theorem kc_58 : kd 58 = 13 := by decide
theorem lc_58 : ln 58 = 8 := by decide
theorem kc_59 : kd 59 = 3 := by decide
theorem kc_60 : kd 60 = 2 := by decide
theorem kc_61 : kd 61 = 13 := by decide
theorem lc_61 : ln 61 = 8 := by decide
theorem kc_62 : kd 62 = 16 := by decide
theorem lc_62 : ln 62 = 12 := by decide
theorem kc_63 : kd 63 = 4 := by decide
theorem kc_64 : kd 64 = 13 := by decide
theorem lc_64 : ln 64 = 8 := by decide
theorem kc_65 : kd 65 = 13 := by decide
theorem lc_65 : ln 65 = 8 := by decide
theorem kc_66 : kd 66 = 13 := by decide
theorem lc_66 : ln 66 = 8 := by decide
theorem kc_67 : kd 67 = 13 := by decide
theorem lc_67 : ln 67 = 8 := by decide
theorem kc_68 : kd 68 = 13 := by decide
theorem lc_68 : ln 68 = 64 := by decide
theorem kc_69 : kd 69 = 13 := by decide
theorem lc_69 : ln 69 = 64 := by decide
theorem kc_70 : kd 70 = 13 := by decide
theorem lc_70 : ln 70 = 64 := by decide
theorem kc_71 : kd 71 = 13 := by decide
theorem lc_71 : ln 71 = 60 := by decide
theorem kc_72 : kd 72 = 4 := by decide
theorem kc_73 : kd 73 = 13 := by decide
theorem lc_73 : ln 73 = 8 := by decide
theorem kc_74 : kd 74 = 13 := by decide
theorem lc_74 : ln 74 = 8 := by decide
theorem kc_75 : kd 75 = 13 := by decide
theorem lc_75 : ln 75 = 8 := by decide
theorem kc_76 : kd 76 = 13 := by decide
theorem lc_76 : ln 76 = 8 := by decide
theorem kc_77 : kd 77 = 13 := by decide
theorem lc_77 : ln 77 = 64 := by decide
theorem kc_78 : kd 78 = 13 := by decide
theorem lc_78 : ln 78 = 64 := by decide
theorem kc_79 : kd 79 = 13 := by decide
theorem lc_79 : ln 79 = 64 := by decide
theorem kc_80 : kd 80 = 13 := by decide
theorem lc_80 : ln 80 = 60 := by decide
theorem kc_81 : kd 81 = 4 := by decide
theorem kc_82 : kd 82 = 13 := by decide
theorem lc_82 : ln 82 = 8 := by decide
theorem kc_83 : kd 83 = 13 := by decide
theorem lc_83 : ln 83 = 8 := by decide
theorem kc_84 : kd 84 = 13 := by decide
theorem lc_84 : ln 84 = 8 := by decide
theorem kc_85 : kd 85 = 13 := by decide
theorem lc_85 : ln 85 = 8 := by decide
theorem kc_86 : kd 86 = 13 := by decide
theorem lc_86 : ln 86 = 64 := by decide
theorem kc_87 : kd 87 = 13 := by decide
theorem lc_87 : ln 87 = 64 := by decide
theorem kc_88 : kd 88 = 13 := by decide
theorem lc_88 : ln 88 = 64 := by decide
theorem kc_89 : kd 89 = 13 := by decide
theorem lc_89 : ln 89 = 60 := by decide
theorem kc_90 : kd 90 = 4 := by decide
theorem kc_91 : kd 91 = 13 := by decide
theorem lc_91 : ln 91 = 8 := by decide
theorem kc_92 : kd 92 = 13 := by decide
theorem lc_92 : ln 92 = 8 := by decide
theorem kc_93 : kd 93 = 13 := by decide
theorem lc_93 : ln 93 = 8 := by decide
theorem kc_94 : kd 94 = 13 := by decide
theorem lc_94 : ln 94 = 8 := by decide
theorem kc_95 : kd 95 = 13 := by decide
theorem lc_95 : ln 95 = 64 := by decide
theorem kc_96 : kd 96 = 13 := by decide
theorem lc_96 : ln 96 = 64 := by decide
theorem kc_97 : kd 97 = 13 := by decide
theorem lc_97 : ln 97 = 64 := by decide
theorem kc_98 : kd 98 = 13 := by decide
theorem lc_98 : ln 98 = 60 := by decide
theorem kc_99 : kd 99 = 4 := by decide
theorem kc_100 : kd 100 = 13 := by decide
theorem lc_100 : ln 100 = 8 := by decide
theorem kc_101 : kd 101 = 13 := by decide
theorem lc_101 : ln 101 = 8 := by decide
theorem kc_102 : kd 102 = 13 := by decide
theorem lc_102 : ln 102 = 8 := by decide
theorem kc_103 : kd 103 = 13 := by decide
theorem lc_103 : ln 103 = 8 := by decide
theorem kc_104 : kd 104 = 13 := by decide
theorem lc_104 : ln 104 = 64 := by decide
theorem kc_105 : kd 105 = 13 := by decide
theorem lc_105 : ln 105 = 64 := by decide
theorem kc_106 : kd 106 = 13 := by decide
theorem lc_106 : ln 106 = 64 := by decide
theorem kc_107 : kd 107 = 13 := by decide
theorem lc_107 : ln 107 = 60 := by decide
theorem kc_108 : kd 108 = 4 := by decide
theorem kc_109 : kd 109 = 13 := by decide
theorem lc_109 : ln 109 = 8 := by decide
theorem kc_110 : kd 110 = 13 := by decide
theorem lc_110 : ln 110 = 8 := by decide
theorem kc_111 : kd 111 = 13 := by decide
theorem lc_111 : ln 111 = 8 := by decide
theorem kc_112 : kd 112 = 13 := by decide
theorem lc_112 : ln 112 = 8 := by decide
theorem kc_113 : kd 113 = 13 := by decide
theorem lc_113 : ln 113 = 64 := by decide
theorem kc_114 : kd 114 = 13 := by decide
theorem lc_114 : ln 114 = 64 := by decide
theorem kc_115 : kd 115 = 13 := by decide
theorem lc_115 : ln 115 = 64 := by decide
theorem kc_116 : kd 116 = 13 := by decide
theorem lc_116 : ln 116 = 60 := by decide
theorem kc_117 : kd 117 = 4 := by decide
theorem kc_118 : kd 118 = 13 := by decide
theorem lc_118 : ln 118 = 8 := by decide
theorem kc_119 : kd 119 = 13 := by decide
theorem lc_119 : ln 119 = 8 := by decide
theorem kc_120 : kd 120 = 13 := by decide
theorem lc_120 : ln 120 = 8 := by decide
theorem kc_121 : kd 121 = 13 := by decide
theorem lc_121 : ln 121 = 8 := by decide
theorem kc_122 : kd 122 = 13 := by decide
theorem lc_122 : ln 122 = 64 := by decide
theorem kc_123 : kd 123 = 13 := by decide
theorem lc_123 : ln 123 = 64 := by decide
theorem kc_124 : kd 124 = 13 := by decide
theorem lc_124 : ln 124 = 64 := by decide
theorem kc_125 : kd 125 = 13 := by decide
theorem lc_125 : ln 125 = 60 := by decide
theorem kc_126 : kd 126 = 4 := by decide
theorem kc_127 : kd 127 = 13 := by decide
theorem lc_127 : ln 127 = 8 := by decide
theorem kc_128 : kd 128 = 13 := by decide
theorem lc_128 : ln 128 = 8 := by decide
theorem kc_129 : kd 129 = 13 := by decide
theorem lc_129 : ln 129 = 8 := by decide
theorem kc_130 : kd 130 = 13 := by decide
theorem lc_130 : ln 130 = 8 := by decide
theorem kc_131 : kd 131 = 13 := by decide
theorem lc_131 : ln 131 = 64 := by decide
theorem kc_132 : kd 132 = 13 := by decide
theorem lc_132 : ln 132 = 64 := by decide
theorem kc_133 : kd 133 = 13 := by decide
theorem lc_133 : ln 133 = 64 := by decide
theorem kc_134 : kd 134 = 13 := by decide
theorem lc_134 : ln 134 = 60 := by decide
theorem kc_135 : kd 135 = 4 := by decide
theorem kc_136 : kd 136 = 13 := by decide
theorem lc_136 : ln 136 = 8 := by decide
theorem kc_137 : kd 137 = 13 := by decide
theorem lc_137 : ln 137 = 8 := by decide
theorem kc_138 : kd 138 = 13 := by decide
theorem lc_138 : ln 138 = 8 := by decide
theorem kc_139 : kd 139 = 13 := by decide
theorem lc_139 : ln 139 = 8 := by decide
theorem kc_140 : kd 140 = 13 := by decide
theorem lc_140 : ln 140 = 64 := by decide
theorem kc_141 : kd 141 = 13 := by decide
theorem lc_141 : ln 141 = 64 := by decide
theorem kc_142 : kd 142 = 13 := by decide
theorem lc_142 : ln 142 = 64 := by decide
theorem kc_143 : kd 143 = 13 := by decide
theorem lc_143 : ln 143 = 60 := by decide
theorem kc_144 : kd 144 = 4 := by decide
theorem kc_145 : kd 145 = 13 := by decide
theorem lc_145 : ln 145 = 8 := by decide
theorem kc_146 : kd 146 = 13 := by decide
theorem lc_146 : ln 146 = 8 := by decide
theorem kc_147 : kd 147 = 13 := by decide
theorem lc_147 : ln 147 = 8 := by decide
theorem kc_148 : kd 148 = 13 := by decide
theorem lc_148 : ln 148 = 8 := by decide
theorem kc_149 : kd 149 = 13 := by decide
theorem lc_149 : ln 149 = 64 := by decide
theorem kc_150 : kd 150 = 13 := by decide
theorem lc_150 : ln 150 = 64 := by decide
theorem kc_151 : kd 151 = 13 := by decide
theorem lc_151 : ln 151 = 64 := by decide
theorem kc_152 : kd 152 = 13 := by decide
theorem lc_152 : ln 152 = 60 := by decide
theorem kc_153 : kd 153 = 4 := by decide
theorem kc_154 : kd 154 = 13 := by decide
theorem lc_154 : ln 154 = 8 := by decide
theorem kc_155 : kd 155 = 13 := by decide
theorem lc_155 : ln 155 = 8 := by decide
theorem kc_156 : kd 156 = 13 := by decide
theorem lc_156 : ln 156 = 8 := by decide
theorem kc_157 : kd 157 = 13 := by decide
theorem lc_157 : ln 157 = 8 := by decide
theorem kc_158 : kd 158 = 13 := by decide
theorem lc_158 : ln 158 = 64 := by decide
theorem kc_159 : kd 159 = 13 := by decide
theorem lc_159 : ln 159 = 64 := by decide
theorem kc_160 : kd 160 = 13 := by decide
theorem lc_160 : ln 160 = 64 := by decide
theorem kc_161 : kd 161 = 13 := by decide
theorem lc_161 : ln 161 = 60 := by decide
theorem kc_162 : kd 162 = 4 := by decide
theorem kc_163 : kd 163 = 13 := by decide
theorem lc_163 : ln 163 = 8 := by decide
theorem kc_164 : kd 164 = 13 := by decide
theorem lc_164 : ln 164 = 8 := by decide
theorem kc_165 : kd 165 = 13 := by decide
theorem lc_165 : ln 165 = 8 := by decide
theorem kc_166 : kd 166 = 13 := by decide
theorem lc_166 : ln 166 = 8 := by decide
theorem kc_167 : kd 167 = 13 := by decide
theorem lc_167 : ln 167 = 64 := by decide
theorem kc_168 : kd 168 = 13 := by decide
theorem lc_168 : ln 168 = 64 := by decide
theorem kc_169 : kd 169 = 13 := by decide
theorem lc_169 : ln 169 = 64 := by decide
theorem kc_170 : kd 170 = 13 := by decide
theorem lc_170 : ln 170 = 60 := by decide
theorem kc_171 : kd 171 = 12 := by decide
theorem kc_172 : kd 172 = 13 := by decide
theorem lc_172 : ln 172 = 2172 := by decide
theorem kc_173 : kd 173 = 13 := by decide
theorem lc_173 : ln 173 = 1323 := by decide
theorem kc_174 : kd 174 = 13 := by decide
theorem lc_174 : ln 174 = 1323 := by decide
theorem kc_175 : kd 175 = 13 := by decide
theorem lc_175 : ln 175 = 474 := by decide
theorem kc_176 : kd 176 = 13 := by decide
theorem lc_176 : ln 176 = 5688 := by decide
theorem kc_177 : kd 177 = 14 := by decide
theorem lc_177 : ln 177 = 400 := by decide
theorem kc_178 : kd 178 = 13 := by decide
theorem lc_178 : ln 178 = 5 := by decide
theorem kc_179 : kd 179 = 13 := by decide
theorem lc_179 : ln 179 = 400 := by decide
theorem kc_180 : kd 180 = 13 := by decide
theorem lc_180 : ln 180 = 9 := by decide
theorem kc_181 : kd 181 = 13 := by decide
theorem lc_181 : ln 181 = 8 := by decide
theorem kc_182 : kd 182 = 13 := by decide
theorem lc_182 : ln 182 = 256 := by decide
theorem kc_183 : kd 183 = 15 := by decide
theorem lc_183 : ln 183 = 1 := by decide
theorem V_iincC {y : MD} {w : TG} {g : VG} {kc ks : Nat} {Q : State → Prop} {β : Type} {κ : β → Prop} {pc : Nat} {vs : List (Option Value)} {rest : List Value} {σ : MS} {X : Option β} {i : Nat} {n : Int} {x c : Int32} {vs' : List (Option Value)} (hd : decode y.2.1 pc = .ok (.iinc i n, 3)) (hn : i < y.2.2.1) (hl : vs[i]? = some (some (.int x))) (hc : Int32.ofInt n = c) (hs : vs.set i (some (.int (x + c))) = vs') (k : VV y w g kc ks Q κ (pc + 3) vs' rest σ X) : VV y w g kc ks Q κ pc vs rest σ X :=
  V_iinc hd hn hl (by rw [hc]) hs k
theorem rf_9_1_1 : rf 9 1 1 = none := rfl
theorem sp_400 : (Int16.ofInt 400).toInt32 = (400 : Int32) := by decide +kernel
theorem rf_9_0_1 : rf 9 0 1 = some 2 := rfl
theorem sp_255 : (Int16.ofInt 255).toInt32 = (255 : Int32) := by decide +kernel
theorem ic_1 : Int32.ofInt 1 = (1 : Int32) := by decide +kernel
theorem ic_m8 : Int32.ofInt (-8) = (-8 : Int32) := by decide +kernel
theorem bp_24 : (Int8.ofInt 24).toInt32 = (24 : Int32) := by decide +kernel
theorem rf_4_0 (o : Nat) : rf 4 0 o = none := rfl
theorem rf_4_1 (o : Nat) : rf 4 1 o = none := rfl
theorem rf_4_2 (o : Nat) : rf 4 2 o = none := rfl
theorem rf_4_3 (o : Nat) : rf 4 3 o = none := rfl
theorem rf_4_4 (o : Nat) : rf 4 4 o = none := rfl
theorem rf_4_5 (o : Nat) : rf 4 5 o = none := rfl
theorem rf_4_6 (o : Nat) : rf 4 6 o = none := rfl
theorem rf_4_7 (o : Nat) : rf 4 7 o = none := rfl
theorem rf_4_8 (o : Nat) : rf 4 8 o = some (o + 1) := rfl
theorem ic_0 : Int32.ofInt 0 = (0 : Int32) := by decide +kernel
theorem aln_8 : Int32.ofNat 8 = (8 : Int32) := by decide +kernel
theorem rf_4_9 (o : Nat) : rf 4 9 o = some (o + 2) := rfl
theorem rf_4_10 (o : Nat) : rf 4 10 o = some (o + 3) := rfl
theorem rf_4_11 (o : Nat) : rf 4 11 o = some (o + 4) := rfl
theorem rf_4_12 (o : Nat) : rf 4 12 o = some (o + 5) := rfl
theorem aln_64 : Int32.ofNat 64 = (64 : Int32) := by decide +kernel
theorem rf_4_13 (o : Nat) : rf 4 13 o = some (o + 6) := rfl
theorem rf_4_14 (o : Nat) : rf 4 14 o = some (o + 7) := rfl
theorem rf_4_15 (o : Nat) : rf 4 15 o = some (o + 8) := rfl
theorem aln_60 : Int32.ofNat 60 = (60 : Int32) := by decide +kernel
theorem ic_3 : Int32.ofInt 3 = (3 : Int32) := by decide +kernel
theorem bp_48 : (Int8.ofInt 48).toInt32 = (48 : Int32) := by decide +kernel
theorem bp_57 : (Int8.ofInt 57).toInt32 = (57 : Int32) := by decide +kernel
theorem ic_2 : Int32.ofInt 2 = (2 : Int32) := by decide +kernel
theorem bp_97 : (Int8.ofInt 97).toInt32 = (97 : Int32) := by decide +kernel
theorem bp_122 : (Int8.ofInt 122).toInt32 = (122 : Int32) := by decide +kernel
theorem rf_9_3_1 : rf 9 3 1 = none := rfl
theorem rf_9_4_1 : rf 9 4 1 = none := rfl
theorem ci_9 : (cls5[9]?).map (fun q => q.1) = some RX9 := rfl
theorem rf_9_2_1 : rf 9 2 1 = none := rfl
theorem bp_32 : (Int8.ofInt 32).toInt32 = (32 : Int32) := by decide +kernel
theorem ic_m1 : Int32.ofInt (-1) = (-1 : Int32) := by decide +kernel
theorem bp_10 : (Int8.ofInt 10).toInt32 = (10 : Int32) := by decide +kernel
theorem rf_5_0_51 : rf 5 0 51 = some 1 := rfl
theorem ic_5 : Int32.ofInt 5 = (5 : Int32) := by decide +kernel
theorem ci_5 : (cls5[5]?).map (fun q => q.1) = some RX5 := rfl
theorem ci_4 : (cls5[4]?).map (fun q => q.1) = some RX4 := rfl
theorem bp_8 : (Int8.ofInt 8).toInt32 = (8 : Int32) := by decide +kernel
theorem bp_6 : (Int8.ofInt 6).toInt32 = (6 : Int32) := by decide +kernel
theorem bp_9 : (Int8.ofInt 9).toInt32 = (9 : Int32) := by decide +kernel
theorem sp_999 : (Int16.ofInt 999).toInt32 = (999 : Int32) := by decide +kernel
theorem bp_14 : (Int8.ofInt 14).toInt32 = (14 : Int32) := by decide +kernel
theorem bp_59 : (Int8.ofInt 59).toInt32 = (59 : Int32) := by decide +kernel
theorem rf_6_0 (o : Nat) : rf 6 0 o = none := rfl
theorem rf_6_1 (o : Nat) : rf 6 1 o = none := rfl
theorem rf_6_5 (o : Nat) : rf 6 5 o = some (o + 4) := rfl
theorem aln_400 : Int32.ofNat 400 = (400 : Int32) := by decide +kernel
theorem rf_7_0_52 : rf 7 0 52 = some 1 := rfl
theorem bp_43 : (Int8.ofInt 43).toInt32 = (43 : Int32) := by decide +kernel
theorem ci_6 : (cls5[6]?).map (fun q => q.1) = some RX6 := rfl
theorem sp_2003 : (Int16.ofInt 2003).toInt32 = (2003 : Int32) := by decide +kernel
theorem sp_1000 : (Int16.ofInt 1000).toInt32 = (1000 : Int32) := by decide +kernel
theorem ci_7 : (cls5[7]?).map (fun q => q.1) = some RX7 := rfl
theorem sp_2000 : (Int16.ofInt 2000).toInt32 = (2000 : Int32) := by decide +kernel
theorem bp_41 : (Int8.ofInt 41).toInt32 = (41 : Int32) := by decide +kernel
theorem bp_40 : (Int8.ofInt 40).toInt32 = (40 : Int32) := by decide +kernel
theorem bp_60 : (Int8.ofInt 60).toInt32 = (60 : Int32) := by decide +kernel
theorem bp_62 : (Int8.ofInt 62).toInt32 = (62 : Int32) := by decide +kernel
theorem sp_2005 : (Int16.ofInt 2005).toInt32 = (2005 : Int32) := by decide +kernel
theorem sp_2004 : (Int16.ofInt 2004).toInt32 = (2004 : Int32) := by decide +kernel
theorem sp_1006 : (Int16.ofInt 1006).toInt32 = (1006 : Int32) := by decide +kernel
theorem sp_2002 : (Int16.ofInt 2002).toInt32 = (2002 : Int32) := by decide +kernel
theorem sp_2001 : (Int16.ofInt 2001).toInt32 = (2001 : Int32) := by decide +kernel
theorem bp_12 : (Int8.ofInt 12).toInt32 = (12 : Int32) := by decide +kernel
theorem rf_6_2 (o : Nat) : rf 6 2 o = some (o + 1) := rfl
theorem rf_6_3 (o : Nat) : rf 6 3 o = some (o + 2) := rfl
theorem rf_6_4 (o : Nat) : rf 6 4 o = some (o + 3) := rfl
theorem bp_99 : (Int8.ofInt 99).toInt32 = (99 : Int32) := by decide +kernel
theorem aln_12 : Int32.ofNat 12 = (12 : Int32) := by decide +kernel
theorem rf_10_0_55 : rf 10 0 55 = some 3 := rfl
theorem rf_4_0_3 : rf 4 0 3 = none := rfl
theorem ci_10 : (cls5[10]?).map (fun q => q.1) = some RX10 := rfl
theorem rf_8_0_56 : rf 8 0 56 = some 3 := rfl
theorem rf_6_6 (o : Nat) : rf 6 6 o = some (o + 5) := rfl
theorem bp_7 : (Int8.ofInt 7).toInt32 = (7 : Int32) := by decide +kernel
theorem inb_0_8 : inb (0 : Int32) 8 = true := by decide +kernel
theorem inb_1_8 : inb (1 : Int32) 8 = true := by decide +kernel
theorem inb_2_8 : inb (2 : Int32) 8 = true := by decide +kernel
theorem inb_3_8 : inb (3 : Int32) 8 = true := by decide +kernel
theorem ic_4 : Int32.ofInt 4 = (4 : Int32) := by decide +kernel
theorem inb_4_8 : inb (4 : Int32) 8 = true := by decide +kernel
theorem inb_5_8 : inb (5 : Int32) 8 = true := by decide +kernel
theorem rf_6_7 (o : Nat) : rf 6 7 o = some (o + 6) := rfl
theorem inb_0_32 : inb (0 : Int32) 32 = true := by decide +kernel
theorem aln_32 : Int32.ofNat 32 = (32 : Int32) := by decide +kernel
theorem bp_16 : (Int8.ofInt 16).toInt32 = (16 : Int32) := by decide +kernel
theorem bp_63 : (Int8.ofInt 63).toInt32 = (63 : Int32) := by decide +kernel
theorem rf_1_1_53 : rf 1 1 53 = some 30 := rfl
theorem rf_1_0_53 : rf 1 0 53 = some 3 := rfl
theorem sp_9999 : (Int16.ofInt 9999).toInt32 = (9999 : Int32) := by decide +kernel
theorem rf_4_5_3 : rf 4 5 3 = none := rfl
theorem ci_1 : (cls5[1]?).map (fun q => q.1) = some RX1 := rfl
theorem sp_12345 : (Int16.ofInt 12345).toInt32 = (12345 : Int32) := by decide +kernel
theorem sp_32767 : (Int16.ofInt 32767).toInt32 = (32767 : Int32) := by decide +kernel
theorem rf_1_2_53 : rf 1 2 53 = some 54 := rfl
theorem bp_64 : (Int8.ofInt 64).toInt32 = (64 : Int32) := by decide +kernel
theorem ci_8 : (cls5[8]?).map (fun q => q.1) = some RX8 := rfl
theorem rf_8_1_56 : rf 8 1 56 = some 57 := rfl
theorem rf_8_3_56 : rf 8 3 56 = none := rfl
theorem rf_8_2_56 : rf 8 2 56 = some 58 := rfl
theorem rf_2_1_60 : rf 2 1 60 = some 1 := rfl
theorem rf_2_0_60 : rf 2 0 60 = some 3 := rfl
theorem bp_36 : (Int8.ofInt 36).toInt32 = (36 : Int32) := by decide +kernel
theorem rf_2_2_60 : rf 2 2 60 = some 61 := rfl
theorem rf_2_3_60 : rf 2 3 60 = none := rfl
theorem rf_2_4_60 : rf 2 4 60 = none := rfl
theorem ci_2 : (cls5[2]?).map (fun q => q.1) = some RX2 := rfl
theorem rf_3_0_59 : rf 3 0 59 = some 3 := rfl
theorem rf_4_2_3 : rf 4 2 3 = none := rfl
theorem ci_3 : (cls5[3]?).map (fun q => q.1) = some RX3 := rfl
theorem rf_4_8_3 : rf 4 8 3 = some 4 := rfl
theorem rf_12_0_171 : rf 12 0 171 = none := rfl
theorem sp_1323 : (Int16.ofInt 1323).toInt32 = (1323 : Int32) := by decide +kernel
theorem rf_12_2_171 : rf 12 2 171 = some 173 := rfl
theorem rf_12_1_171 : rf 12 1 171 = some 172 := rfl
theorem rf_12_7_171 : rf 12 7 171 = none := rfl
theorem rf_12_6_171 : rf 12 6 171 = none := rfl
theorem sp_474 : (Int16.ofInt 474).toInt32 = (474 : Int32) := by decide +kernel
theorem rf_12_5_171 : rf 12 5 171 = some 176 := rfl
theorem sp_5214 : (Int16.ofInt 5214).toInt32 = (5214 : Int32) := by decide +kernel
theorem inb_0_2172 : inb (0 : Int32) 2172 = true := by decide +kernel
theorem ci_12 : (cls5[12]?).map (fun q => q.1) = some RX12 := rfl
theorem bp_42 : (Int8.ofInt 42).toInt32 = (42 : Int32) := by decide +kernel
theorem bp_106 : (Int8.ofInt 106).toInt32 = (106 : Int32) := by decide +kernel
theorem inb_3_2172 : inb (3 : Int32) 2172 = true := by decide +kernel
theorem sp_170 : (Int16.ofInt 170).toInt32 = (170 : Int32) := by decide +kernel
theorem inb_4_2172 : inb (4 : Int32) 2172 = true := by decide +kernel
theorem inb_9_2172 : inb (9 : Int32) 2172 = true := by decide +kernel
theorem bp_20 : (Int8.ofInt 20).toInt32 = (20 : Int32) := by decide +kernel
theorem rf_12_9_171 : rf 12 9 171 = none := rfl
theorem rf_12_8_171 : rf 12 8 171 = some 177 := rfl
theorem rf_12_15_171 : rf 12 15 171 = some 178 := rfl
theorem inb_0_5 : inb (0 : Int32) 5 = true := by decide +kernel
theorem inb_1_5 : inb (1 : Int32) 5 = true := by decide +kernel
theorem inb_2_5 : inb (2 : Int32) 5 = true := by decide +kernel
theorem inb_3_5 : inb (3 : Int32) 5 = true := by decide +kernel
theorem inb_4_5 : inb (4 : Int32) 5 = true := by decide +kernel
theorem rf_12_10_171 : rf 12 10 171 = none := rfl
theorem rf_12_11_171 : rf 12 11 171 = none := rfl
theorem rf_12_12_171 : rf 12 12 171 = none := rfl
theorem rf_12_14_171 : rf 12 14 171 = none := rfl
theorem sp_1372 : (Int16.ofInt 1372).toInt32 = (1372 : Int32) := by decide +kernel
theorem rf_12_16_171 : rf 12 16 171 = none := rfl
theorem bp_11 : (Int8.ofInt 11).toInt32 = (11 : Int32) := by decide +kernel
theorem rf_12_13_171 : rf 12 13 171 = none := rfl
theorem bp_13 : (Int8.ofInt 13).toInt32 = (13 : Int32) := by decide +kernel
theorem sp_1324 : (Int16.ofInt 1324).toInt32 = (1324 : Int32) := by decide +kernel
theorem rf_12_3_171 : rf 12 3 171 = some 174 := rfl
theorem inb_1_2172 : inb (1 : Int32) 2172 = true := by decide +kernel
theorem sp_849 : (Int16.ofInt 849).toInt32 = (849 : Int32) := by decide +kernel
theorem inb_2_2172 : inb (2 : Int32) 2172 = true := by decide +kernel
theorem inb_1323_2172 : inb (1323 : Int32) 2172 = true := by decide +kernel
theorem rf_12_18_171 : rf 12 18 171 = none := rfl
theorem rf_12_19_171 : rf 12 19 171 = none := rfl
theorem rf_12_20_171 : rf 12 20 171 = none := rfl
theorem rf_12_21_171 : rf 12 21 171 = none := rfl
theorem rf_12_17_171 : rf 12 17 171 = some 179 := rfl
theorem inb_0_400 : inb (0 : Int32) 400 = true := by decide +kernel
theorem sp_523 : (Int16.ofInt 523).toInt32 = (523 : Int32) := by decide +kernel
theorem sp_475 : (Int16.ofInt 475).toInt32 = (475 : Int32) := by decide +kernel
theorem inb_474_2172 : inb (474 : Int32) 2172 = true := by decide +kernel
theorem inb_5_2172 : inb (5 : Int32) 2172 = true := by decide +kernel
theorem inb_6_2172 : inb (6 : Int32) 2172 = true := by decide +kernel
theorem rf_12_4_171 : rf 12 4 171 = some 175 := rfl
theorem sp_256 : (Int16.ofInt 256).toInt32 = (256 : Int32) := by decide +kernel
theorem ic_8 : Int32.ofInt 8 = (8 : Int32) := by decide +kernel
theorem ic_16 : Int32.ofInt 16 = (16 : Int32) := by decide +kernel
theorem ic_m2 : Int32.ofInt (-2) = (-2 : Int32) := by decide +kernel
theorem rf_12_22_171 : rf 12 22 171 = some 180 := rfl
theorem rf_12_23_171 : rf 12 23 171 = some 181 := rfl
theorem rf_12_24_171 : rf 12 24 171 = some 182 := rfl
theorem sp_234 : (Int16.ofInt 234).toInt32 = (234 : Int32) := by decide +kernel
theorem inb_234_2172 : inb (234 : Int32) 2172 = true := by decide +kernel
theorem sp_235 : (Int16.ofInt 235).toInt32 = (235 : Int32) := by decide +kernel
theorem inb_235_2172 : inb (235 : Int32) 2172 = true := by decide +kernel
theorem sp_236 : (Int16.ofInt 236).toInt32 = (236 : Int32) := by decide +kernel
theorem inb_236_2172 : inb (236 : Int32) 2172 = true := by decide +kernel
theorem sp_237 : (Int16.ofInt 237).toInt32 = (237 : Int32) := by decide +kernel
theorem inb_237_2172 : inb (237 : Int32) 2172 = true := by decide +kernel
theorem inb_8_2172 : inb (8 : Int32) 2172 = true := by decide +kernel
theorem inb_7_2172 : inb (7 : Int32) 2172 = true := by decide +kernel
theorem sp_239 : (Int16.ofInt 239).toInt32 = (239 : Int32) := by decide +kernel
theorem rf_11_0_0 : rf 11 0 0 = some 1 := rfl
theorem rf_11_2_0 : rf 11 2 0 = some 12 := rfl
theorem rf_11_1_0 : rf 11 1 0 = some 3 := rfl
theorem rf_11_7_0 : rf 11 7 0 = some 51 := rfl
theorem ci_11 : (cls5[11]?).map (fun q => q.1) = some RX11 := rfl
theorem rf_4_1_3 : rf 4 1 3 = none := rfl
theorem rf_11_16_0 : rf 11 16 0 = none := rfl
theorem rf_11_8_0 : rf 11 8 0 = some 52 := rfl
theorem rf_11_5_0 : rf 11 5 0 = some 37 := rfl
theorem rf_11_4_0 : rf 11 4 0 = some 30 := rfl
theorem rf_6_0_30 : rf 6 0 30 = none := rfl
theorem rf_11_18_0 : rf 11 18 0 = none := rfl
theorem rf_4_9_3 : rf 4 9 3 = some 5 := rfl
theorem rf_4_10_3 : rf 4 10 3 = some 6 := rfl
theorem rf_4_11_3 : rf 4 11 3 = some 7 := rfl
theorem rf_11_10_0 : rf 11 10 0 = some 55 := rfl
theorem rf_11_11_0 : rf 11 11 0 = some 56 := rfl
theorem rf_11_9_0 : rf 11 9 0 = some 53 := rfl
theorem rf_4_7_3 : rf 4 7 3 = none := rfl
theorem rf_11_13_0 : rf 11 13 0 = some 60 := rfl
theorem rf_11_12_0 : rf 11 12 0 = some 59 := rfl
theorem rf_4_8_12 : rf 4 8 12 = some 13 := rfl
theorem rf_4_10_12 : rf 4 10 12 = some 15 := rfl
theorem rf_4_6_3 : rf 4 6 3 = none := rfl
theorem rf_11_14_0 : rf 11 14 0 = some 62 := rfl
theorem rf_11_15_0 : rf 11 15 0 = none := rfl
theorem rf_11_3_0 : rf 11 3 0 = some 21 := rfl
theorem rf_11_6_0 : rf 11 6 0 = some 44 := rfl
theorem rf_11_17_0 : rf 11 17 0 = none := rfl
theorem rf_4_3_3 : rf 4 3 3 = none := rfl
theorem rf_4_4_3 : rf 4 4 3 = none := rfl
theorem rf_4_6_12 : rf 4 6 12 = none := rfl
theorem rf_4_7_12 : rf 4 7 12 = none := rfl
theorem ic_6 : Int32.ofInt 6 = (6 : Int32) := by decide +kernel
