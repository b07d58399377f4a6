/-! THE REFERENCE, 32: the axioms' terms, all of them -/
def n0_0 : qM := mN (nI 1) qA .leaf .leaf
def n0_1 : qM := mN (nI 5) (qF qA q_v1) .leaf .leaf
def n0_2 : qM := mN (-1) q_v1 n0_1 n0_0
def n0_3 : qM := mN (nI 0) qA .leaf .leaf
def n0_4 : qM := mN (-1) q_v1 n0_1 n0_3
def n0_5 : qM := mN (-2) (qF qA q_v1) n0_4 .leaf
def n0_6 : qM := mN (nI 2) (qF (qF qA q_v1) (qF (qF qA q_v1) qB)) .leaf .leaf
def n0_7 : qM := mN (-1) (qF (qF qA q_v1) qB) n0_6 n0_5
def n0_8 : qM := mN (-1) qB n0_7 n0_1
def ax_E0 : List qM := [n0_0, n0_2]
def ax_S0 : List qM := [n0_1, n0_3, n0_4, n0_5, n0_6, n0_7, n0_8]
def ax_r0 : qM := n0_8
def n1_0 : qM := mN (nI 1) qA .leaf .leaf
def n1_1 : qM := mN (nI 5) (qF qA qB) .leaf .leaf
def n1_2 : qM := mN (-1) qB n1_1 n1_0
def n1_3 : qM := mN (nI 6) (qF (qF qA qB) qA) .leaf .leaf
def n1_4 : qM := mN (-1) qA n1_3 n1_1
def n1_5 : qM := mN (-1) qB n1_1 n1_4
def n1_6 : qM := mN (nI 400000001) qB .leaf .leaf
def n1_7 : qM := mN (nI 0) qB .leaf .leaf
def n1_8 : qM := mN (-2) (qF qB qB) n1_7 .leaf
def n1_9 : qM := mN (nI 2) (qF (qF qB qB) (qF (qF qB qB) qB)) .leaf .leaf
def n1_10 : qM := mN (-1) (qF (qF qB qB) qB) n1_9 n1_8
def n1_11 : qM := mN (-1) qB n1_10 n1_8
def n1_12 : qM := mN (nI 400000005) (qF qB (qF qB qB)) .leaf .leaf
def n1_13 : qM := mN (-1) (qF qB qB) n1_12 n1_2
def n1_14 : qM := mN (-1) qB n1_13 n1_5
def n1_15 : qM := mN (nI 0) (qF qB (qF qB qB)) .leaf .leaf
def n1_16 : qM := mN (-1) (qF qB qB) n1_15 n1_2
def n1_17 : qM := mN (-1) qB n1_16 n1_5
def n1_18 : qM := mN (-2) (qF (qF qB (qF qB qB)) qB) n1_17 .leaf
def n1_19 : qM := mN (-1) (qF qB qB) n1_12 n1_11
def n1_20 : qM := mN (-1) qB n1_19 n1_11
def n1_21 : qM := mN (-1) (qF qB qB) n1_15 n1_11
def n1_22 : qM := mN (-1) qB n1_21 n1_11
def n1_23 : qM := mN (-2) (qF (qF qB (qF qB qB)) qB) n1_22 .leaf
def n1_24 : qM := mN (nI 2) (qF (qF (qF qB (qF qB qB)) qB) (qF (qF (qF qB (qF qB qB)) qB) qB)) .leaf .leaf
def n1_25 : qM := mN (-1) (qF (qF (qF qB (qF qB qB)) qB) qB) n1_24 n1_18
def n1_26 : qM := mN (-1) qB n1_25 n1_23
def n1_27 : qM := mN (nI 2) (qF qB (qF qB qB)) .leaf .leaf
def n1_28 : qM := mN (-1) (qF qB qB) n1_27 n1_26
def n1_29 : qM := mN (-1) qB n1_28 n1_2
def ax_E1 : List qM := [n1_6, n1_12, n1_13, n1_14, n1_19, n1_20]
def ax_S1 : List qM := [n1_0, n1_1, n1_2, n1_3, n1_4, n1_5, n1_7, n1_8, n1_9, n1_10, n1_11, n1_15, n1_16, n1_17, n1_18, n1_21, n1_22, n1_23, n1_24, n1_25, n1_26, n1_27, n1_28, n1_29]
def ax_r1 : qM := n1_29
def n2_0 : qM := mN (nI 400000013) (qF q_th q_th) .leaf .leaf
def n2_1 : qM := mN (nI 400000017) q_th .leaf .leaf
def n2_2 : qM := mN (nI 400000021) q_th .leaf .leaf
def n2_3 : qM := mN (-1) q_th n2_0 n2_1
def n2_4 : qM := mN (-1) q_th n2_0 n2_2
def n2_5 : qM := mN (nI 2) (qF q_th (qF q_th qB)) .leaf .leaf
def n2_6 : qM := mN (-1) (qF q_th qB) n2_5 n2_3
def n2_7 : qM := mN (-1) qB n2_6 n2_4
def n2_8 : qM := mN (-1) (qF q_th qB) n2_5 n2_1
def n2_9 : qM := mN (-1) qB n2_8 n2_2
def n2_10 : qM := mN (nI 400000001) qB .leaf .leaf
def n2_11 : qM := mN (nI 0) qB .leaf .leaf
def n2_12 : qM := mN (-2) (qF qB qB) n2_11 .leaf
def n2_13 : qM := mN (nI 2) (qF (qF qB qB) (qF (qF qB qB) qB)) .leaf .leaf
def n2_14 : qM := mN (-1) (qF (qF qB qB) qB) n2_13 n2_12
def n2_15 : qM := mN (-1) qB n2_14 n2_12
def n2_16 : qM := mN (nI 400000005) (qF qB (qF qB qB)) .leaf .leaf
def n2_17 : qM := mN (-1) (qF qB qB) n2_16 n2_7
def n2_18 : qM := mN (-1) qB n2_17 n2_9
def n2_19 : qM := mN (nI 0) (qF qB (qF qB qB)) .leaf .leaf
def n2_20 : qM := mN (-1) (qF qB qB) n2_19 n2_7
def n2_21 : qM := mN (-1) qB n2_20 n2_9
def n2_22 : qM := mN (-2) (qF (qF qB (qF qB qB)) qB) n2_21 .leaf
def n2_23 : qM := mN (-1) (qF qB qB) n2_16 n2_15
def n2_24 : qM := mN (-1) qB n2_23 n2_15
def n2_25 : qM := mN (-1) (qF qB qB) n2_19 n2_15
def n2_26 : qM := mN (-1) qB n2_25 n2_15
def n2_27 : qM := mN (-2) (qF (qF qB (qF qB qB)) qB) n2_26 .leaf
def n2_28 : qM := mN (nI 2) (qF (qF (qF qB (qF qB qB)) qB) (qF (qF (qF qB (qF qB qB)) qB) qB)) .leaf .leaf
def n2_29 : qM := mN (-1) (qF (qF (qF qB (qF qB qB)) qB) qB) n2_28 n2_22
def n2_30 : qM := mN (-1) qB n2_29 n2_27
def n2_31 : qM := mN (nI 2) (qF qB (qF qB qB)) .leaf .leaf
def n2_32 : qM := mN (-1) (qF qB qB) n2_31 n2_30
def n2_33 : qM := mN (-1) qB n2_32 n2_7
def n2_34 : qM := mN (nI 4) q_th .leaf .leaf
def n2_35 : qM := mN (-1) q_th n2_0 n2_34
def n2_36 : qM := mN (-1) qB n2_6 n2_35
def n2_37 : qM := mN (-1) (qF qB qB) n2_19 n2_36
def n2_38 : qM := mN (-1) qB n2_8 n2_34
def n2_39 : qM := mN (-1) qB n2_37 n2_38
def n2_40 : qM := mN (-2) (qF (qF qB (qF qB qB)) qB) n2_39 .leaf
def n2_41 : qM := mN (-1) (qF (qF (qF qB (qF qB qB)) qB) qB) n2_28 n2_40
def n2_42 : qM := mN (-1) qB n2_41 n2_27
def n2_43 : qM := mN (-1) (qF qB qB) n2_31 n2_42
def n2_44 : qM := mN (nI 0) q_th .leaf .leaf
def n2_45 : qM := mN (-1) q_th n2_0 n2_44
def n2_46 : qM := mN (-1) qB n2_6 n2_45
def n2_47 : qM := mN (-1) qB n2_43 n2_46
def n2_48 : qM := mN (-2) (qF q_th qB) n2_47 .leaf
def n2_49 : qM := mN (-2) (qF q_th qB) n2_15 .leaf
def n2_50 : qM := mN (nI 2) (qF (qF q_th qB) (qF (qF q_th qB) qB)) .leaf .leaf
def n2_51 : qM := mN (-1) (qF (qF q_th qB) qB) n2_50 n2_48
def n2_52 : qM := mN (-1) qB n2_51 n2_49
def n2_53 : qM := mN (nI 8) q_th .leaf .leaf
def n2_54 : qM := mN (-1) q_th n2_0 n2_53
def n2_55 : qM := mN (-1) (qF q_th qB) n2_5 n2_54
def n2_56 : qM := mN (-1) qB n2_55 n2_35
def n2_57 : qM := mN (-1) (qF qB qB) n2_19 n2_56
def n2_58 : qM := mN (-1) (qF q_th qB) n2_5 n2_53
def n2_59 : qM := mN (-1) qB n2_58 n2_34
def n2_60 : qM := mN (-1) qB n2_57 n2_59
def n2_61 : qM := mN (-2) (qF (qF qB (qF qB qB)) qB) n2_60 .leaf
def n2_62 : qM := mN (-1) (qF (qF (qF qB (qF qB qB)) qB) qB) n2_28 n2_61
def n2_63 : qM := mN (-1) qB n2_62 n2_27
def n2_64 : qM := mN (-1) (qF qB qB) n2_31 n2_63
def n2_65 : qM := mN (-1) (qF q_th qB) n2_5 n2_35
def n2_66 : qM := mN (-1) qB n2_65 n2_45
def n2_67 : qM := mN (-1) qB n2_64 n2_66
def n2_68 : qM := mN (-2) (qF q_th qB) n2_67 .leaf
def n2_69 : qM := mN (-1) (qF (qF q_th qB) qB) n2_50 n2_68
def n2_70 : qM := mN (-1) qB n2_69 n2_49
def n2_71 : qM := mN (-2) (qF q_th qB) n2_70 .leaf
def n2_72 : qM := mN (-1) (qF (qF q_th qB) qB) n2_50 n2_71
def n2_73 : qM := mN (-1) qB n2_72 n2_49
def n2_74 : qM := mN (-1) (qF q_th qB) n2_5 n2_2
def n2_75 : qM := mN (-1) qB n2_74 n2_3
def n2_76 : qM := mN (nI 400000009) qB .leaf .leaf
def n2_77 : qM := mN (-2) (qF qB qB) n2_15 .leaf
def n2_78 : qM := mN (-1) qB n2_14 n2_77
def n2_79 : qM := mN (-1) (qF qB qB) n2_16 n2_75
def n2_80 : qM := mN (-1) qB n2_79 n2_78
def n2_81 : qM := mN (-1) (qF qB qB) n2_19 n2_75
def n2_82 : qM := mN (-1) qB n2_81 n2_78
def n2_83 : qM := mN (-2) (qF (qF qB (qF qB qB)) qB) n2_82 .leaf
def n2_84 : qM := mN (-1) (qF (qF (qF qB (qF qB qB)) qB) qB) n2_28 n2_83
def n2_85 : qM := mN (-1) qB n2_84 n2_27
def n2_86 : qM := mN (-1) (qF qB qB) n2_31 n2_85
def n2_87 : qM := mN (-1) qB n2_86 n2_75
def n2_88 : qM := mN (-1) qB n2_74 n2_35
def n2_89 : qM := mN (-1) (qF qB qB) n2_19 n2_88
def n2_90 : qM := mN (-1) qB n2_89 n2_78
def n2_91 : qM := mN (-2) (qF (qF qB (qF qB qB)) qB) n2_90 .leaf
def n2_92 : qM := mN (-1) (qF (qF (qF qB (qF qB qB)) qB) qB) n2_28 n2_91
def n2_93 : qM := mN (-1) qB n2_92 n2_27
def n2_94 : qM := mN (-1) (qF qB qB) n2_31 n2_93
def n2_95 : qM := mN (-1) qB n2_74 n2_45
def n2_96 : qM := mN (-1) qB n2_94 n2_95
def n2_97 : qM := mN (-2) (qF q_th qB) n2_96 .leaf
def n2_98 : qM := mN (-1) (qF (qF q_th qB) qB) n2_50 n2_97
def n2_99 : qM := mN (-1) qB n2_98 n2_49
def n2_100 : qM := mN (-1) qB n2_58 n2_35
def n2_101 : qM := mN (-1) (qF qB qB) n2_19 n2_100
def n2_102 : qM := mN (-1) qB n2_101 n2_78
def n2_103 : qM := mN (-2) (qF (qF qB (qF qB qB)) qB) n2_102 .leaf
def n2_104 : qM := mN (-1) (qF (qF (qF qB (qF qB qB)) qB) qB) n2_28 n2_103
def n2_105 : qM := mN (-1) qB n2_104 n2_27
def n2_106 : qM := mN (-1) (qF qB qB) n2_31 n2_105
def n2_107 : qM := mN (-1) (qF q_th qB) n2_5 n2_34
def n2_108 : qM := mN (-1) qB n2_107 n2_45
def n2_109 : qM := mN (-1) qB n2_106 n2_108
def n2_110 : qM := mN (-2) (qF q_th qB) n2_109 .leaf
def n2_111 : qM := mN (-1) (qF (qF q_th qB) qB) n2_50 n2_110
def n2_112 : qM := mN (-1) qB n2_111 n2_49
def n2_113 : qM := mN (-2) (qF q_th qB) n2_112 .leaf
def n2_114 : qM := mN (nI 6) (qF (qF q_th qB) q_th) .leaf .leaf
def n2_115 : qM := mN (-1) q_th n2_114 n2_113
def n2_116 : qM := mN (-1) qB n2_113 n2_115
def n2_117 : qM := mN (-1) (qF qB qB) n2_16 n2_73
def n2_118 : qM := mN (-1) qB n2_117 n2_116
def n2_119 : qM := mN (-1) (qF qB qB) n2_19 n2_73
def n2_120 : qM := mN (-1) qB n2_119 n2_116
def n2_121 : qM := mN (-2) (qF (qF qB (qF qB qB)) qB) n2_120 .leaf
def n2_122 : qM := mN (-1) (qF (qF (qF qB (qF qB qB)) qB) qB) n2_28 n2_121
def n2_123 : qM := mN (-1) qB n2_122 n2_27
def n2_124 : qM := mN (nI 16) (qF q_th q_th) .leaf .leaf
def n2_125 : qM := mN (-1) q_th n2_124 n2_53
def n2_126 : qM := mN (-1) (qF q_th qB) n2_5 n2_125
def n2_127 : qM := mN (-1) q_th n2_124 n2_34
def n2_128 : qM := mN (-1) qB n2_126 n2_127
def n2_129 : qM := mN (-1) (qF qB qB) n2_19 n2_128
def n2_130 : qM := mN (-1) qB n2_129 n2_59
def n2_131 : qM := mN (-2) (qF (qF qB (qF qB qB)) qB) n2_130 .leaf
def n2_132 : qM := mN (-1) (qF (qF (qF qB (qF qB qB)) qB) qB) n2_28 n2_131
def n2_133 : qM := mN (-1) qB n2_132 n2_27
def n2_134 : qM := mN (-1) (qF qB qB) n2_31 n2_133
def n2_135 : qM := mN (nI 12) (qF q_th q_th) .leaf .leaf
def n2_136 : qM := mN (-1) q_th n2_135 n2_34
def n2_137 : qM := mN (-1) (qF q_th qB) n2_5 n2_136
def n2_138 : qM := mN (-1) q_th n2_135 n2_44
def n2_139 : qM := mN (-1) qB n2_137 n2_138
def n2_140 : qM := mN (-1) qB n2_134 n2_139
def n2_141 : qM := mN (-2) (qF q_th qB) n2_140 .leaf
def n2_142 : qM := mN (-1) (qF (qF q_th qB) qB) n2_50 n2_141
def n2_143 : qM := mN (-1) qB n2_142 n2_49
def n2_144 : qM := mN (-2) (qF q_th qB) n2_143 .leaf
def n2_145 : qM := mN (-1) (qF (qF q_th qB) qB) n2_50 n2_144
def n2_146 : qM := mN (-1) qB n2_145 n2_49
def n2_147 : qM := mN (-1) (qF qB qB) n2_19 n2_146
def n2_148 : qM := mN (-1) qB n2_58 n2_127
def n2_149 : qM := mN (-1) (qF qB qB) n2_19 n2_148
def n2_150 : qM := mN (-1) qB n2_149 n2_78
def n2_151 : qM := mN (-2) (qF (qF qB (qF qB qB)) qB) n2_150 .leaf
def n2_152 : qM := mN (-1) (qF (qF (qF qB (qF qB qB)) qB) qB) n2_28 n2_151
def n2_153 : qM := mN (-1) qB n2_152 n2_27
def n2_154 : qM := mN (-1) (qF qB qB) n2_31 n2_153
def n2_155 : qM := mN (-1) qB n2_107 n2_138
def n2_156 : qM := mN (-1) qB n2_154 n2_155
def n2_157 : qM := mN (-2) (qF q_th qB) n2_156 .leaf
def n2_158 : qM := mN (-1) (qF (qF q_th qB) qB) n2_50 n2_157
def n2_159 : qM := mN (-1) qB n2_158 n2_49
def n2_160 : qM := mN (-2) (qF q_th qB) n2_159 .leaf
def n2_161 : qM := mN (-1) q_th n2_114 n2_160
def n2_162 : qM := mN (-1) qB n2_160 n2_161
def n2_163 : qM := mN (-1) qB n2_147 n2_162
def n2_164 : qM := mN (-2) (qF (qF qB (qF qB qB)) qB) n2_163 .leaf
def n2_165 : qM := mN (-1) (qF (qF (qF qB (qF qB qB)) qB) qB) n2_28 n2_164
def n2_166 : qM := mN (-1) qB n2_165 n2_27
def n2_167 : qM := mN (-2) (qF (qF q_th q_th) qB) n2_166 .leaf
def n2_168 : qM := mN (nI 6) (qF (qF (qF q_th q_th) qB) (qF q_th q_th)) .leaf .leaf
def n2_169 : qM := mN (-1) (qF q_th q_th) n2_168 n2_167
def n2_170 : qM := mN (-1) qB n2_167 n2_169
def ax_E2 : List qM := [n2_0, n2_1, n2_2, n2_3, n2_4, n2_6, n2_7, n2_8, n2_9, n2_10, n2_16, n2_17, n2_18, n2_20, n2_21, n2_22, n2_23, n2_24, n2_29, n2_30, n2_32, n2_33, n2_35, n2_36, n2_37, n2_38, n2_39, n2_40, n2_41, n2_42, n2_43, n2_45, n2_46, n2_47, n2_48, n2_51, n2_52, n2_54, n2_55, n2_56, n2_57, n2_60, n2_61, n2_62, n2_63, n2_64, n2_65, n2_66, n2_67, n2_68, n2_69, n2_70, n2_71, n2_72, n2_73, n2_74, n2_75, n2_76, n2_79, n2_80, n2_81, n2_82, n2_83, n2_84, n2_85, n2_86, n2_87, n2_88, n2_89, n2_90, n2_91, n2_92, n2_93, n2_94, n2_95, n2_96, n2_97, n2_98, n2_99, n2_100, n2_101, n2_102, n2_103, n2_104, n2_105, n2_106, n2_108, n2_109, n2_110, n2_111, n2_112, n2_113, n2_115, n2_116, n2_117, n2_118, n2_119, n2_120, n2_121, n2_122, n2_123]
def ax_S2 : List qM := [n2_5, n2_11, n2_12, n2_13, n2_14, n2_15, n2_19, n2_25, n2_26, n2_27, n2_28, n2_31, n2_34, n2_44, n2_49, n2_50, n2_53, n2_58, n2_59, n2_77, n2_78, n2_107, n2_114, n2_124, n2_125, n2_126, n2_127, n2_128, n2_129, n2_130, n2_131, n2_132, n2_133, n2_134, n2_135, n2_136, n2_137, n2_138, n2_139, n2_140, n2_141, n2_142, n2_143, n2_144, n2_145, n2_146, n2_147, n2_148, n2_149, n2_150, n2_151, n2_152, n2_153, n2_154, n2_155, n2_156, n2_157, n2_158, n2_159, n2_160, n2_161, n2_162, n2_163, n2_164, n2_165, n2_166, n2_167, n2_168, n2_169, n2_170]
def ax_r2 : qM := n2_170
def m_beq : qM → qM → Bool
  | .leaf, .leaf => true
  | .inner c t _ l r, .inner c' t' _ l' r' => c == c' && q_beq t t' && m_beq l l' && m_beq r r'
  | _, _ => false
theorem m_beq_eq : ∀ {a b : qM}, m_beq a b = true → a = b
  | .leaf, .leaf, _ => rfl
  | .leaf, .inner .., h => by cases h
  | .inner .., .leaf, h => by cases h
  | .inner c t u l r, .inner c' t' u' l' r', h => by
    simp only [m_beq, Bool.and_eq_true, beq_iff_eq] at h
    rw [h.1.1.1, q_beq_eq h.1.1.2, m_beq_eq h.1.2, m_beq_eq h.2]
def m_in (l : List qM) (t : qM) : Bool := l.any fun u => m_beq u t
theorem m_in_ok {l : List qM} {t : qM} (h : m_in l t = true) : t ∈ l := by
  obtain ⟨u, h1, h2⟩ := List.any_eq_true.mp h
  rw [← m_beq_eq h2]; exact h1
def m_isl : qM → Bool
  | .leaf => true
  | _ => false
theorem m_isl_ok : ∀ {M : qM}, m_isl M = true → M = .leaf
  | .leaf, _ => rfl
  | .inner .., h => by cases h
def q_fst : qT → qT
  | .leaf _ => qE
  | .branch _ a _ => a
def m_wfB : qM → Bool
  | .leaf => false
  | .inner c t _ l r => decide (c < 4294967296) && ((Int32.ofNat c == -1 && m_wfB l && m_wfB r && q_beq (m_ty l) (qF (m_ty r) t)) || (Int32.ofNat c == -2 && m_wfB l && m_isl r && q_beq t (qF (q_fst t) (m_ty l))) || (m_isl l && m_isl r && decide (0 ≤ Int32.ofNat c) && ((Int32.ofNat c != 2) || q_beq t (qF (q_fst t) (qF (q_fst t) qB)))))
theorem m_wfB_ok : ∀ {M : qM}, m_wfB M = true → m_wf M
  | .leaf, h => by cases h
  | .inner c t u l r, h => by
    simp only [m_wfB, Bool.and_eq_true, Bool.or_eq_true, decide_eq_true_eq, beq_iff_eq, bne_iff_ne] at h
    refine ⟨h.1, ?_⟩
    rcases h.2 with (⟨⟨⟨h1, h2⟩, h3⟩, h4⟩ | ⟨⟨⟨h1, h2⟩, h3⟩, h4⟩) | ⟨⟨⟨h1, h2⟩, h3⟩, h4⟩
    · exact Or.inl ⟨h1, m_wfB_ok h2, m_wfB_ok h3, q_beq_eq h4⟩
    · exact Or.inr (Or.inl ⟨h1, m_wfB_ok h2, m_isl_ok h3, _, q_beq_eq h4⟩)
    · exact Or.inr (Or.inr ⟨m_isl_ok h1, m_isl_ok h2, h3, fun e => ⟨_, q_beq_eq (h4.resolve_left fun z => z e)⟩⟩)
def ax_x (k : Nat) : List qM := if k = 0 then ax_E0 else if k = 1 then ax_E1 else ax_E2
def ax_s (k : Nat) : List qM := if k = 0 then ax_S0 else if k = 1 then ax_S1 else ax_S2
def ax_r (k : Nat) : qM := if k = 0 then ax_r0 else if k = 1 then ax_r1 else ax_r2
def xE : qM := mN (nI (4 * 0 + 1)) qA .leaf .leaf
def fE : qM := mN (nI (4 * 1 + 1)) (qF qA q_v1) .leaf .leaf
def fxE : qM := mN (-1) q_v1 fE xE
def lamE : qM := mLc (nI (4 * 0 + 1)) qA fxE
def tX0 : qM := mE lamE fE
def lX0 : List qM := [xE, fE, fxE, lamE, tX0]
def pE : qM := mN (nI (4 * 1 + 1)) (qF qA qB) .leaf .leaf
def pxE : qM := mN (-1) qB pE xE
def pcE : qM := mN (-1) qB pE (tH qA pE)
def tX1 : qM := tIm pxE pcE
def lX1 : List qM := [xE, pE, pxE, pcE] ++ (lH qA pE ++ lI pxE pcE)
def qII : qT := qF q_th q_th
def fI' : qM := tN 3 qII
def xI' : qM := tN 4 q_th
def yI' : qM := tN 5 q_th
def fxI : qM := mN (-1) q_th fI' xI'
def fyI : qM := mN (-1) q_th fI' yI'
def e1I : qM := mE fxI fyI
def e2I : qM := mE xI' yI'
def alI : qM := tIm e1I e2I
def a1I : qM := tAl (tC 5) q_th alI
def oneI : qM := tAl (tC 4) q_th a1I
def e3I : qM := mE yI' fxI
def n3I : qM := tK e3I
def a2I : qM := tAl (tC 4) q_th n3I
def othI : qM := tS (tC 5) q_th a2I
def andI : qM := tA oneI othI
def tX2 : qM := tS (tC 3) qII andI
def lX2 : List qM := [fI', xI', yI', fxI, fyI, e1I, e2I, e3I] ++ (lI e1I e2I ++ (lL (tC 5) q_th alI ++ (lL (tC 4) q_th a1I ++ (lK e3I ++ (lL (tC 4) q_th n3I ++ (lS (tC 5) q_th a2I ++ (lA oneI othI ++ lS (tC 3) qII andI)))))))
def lX (k : Nat) : List qM := if k = 0 then lX0 else if k = 1 then lX1 else lX2
def tX (k : Nat) : qM := if k = 0 then tX0 else if k = 1 then tX1 else tX2
def ax_c1 (k : Nat) : Bool := (ax_x k).all fun X => m_wfB X && !(q_beq (m_ty X) qE) && decide ((m_fl X).length ≤ 4000) && decide (m_ht X ≤ 120) && (q_beq (m_ty X) qA || q_beq (m_ty X) qB || q_inl (ax_G k) (m_ty X)) && (m_isl (m_l X) || m_in (ax_x k) (m_l X) || m_in (ax_s k) (m_l X)) && (m_isl (m_r X) || m_in (ax_x k) (m_r X) || m_in (ax_s k) (m_r X))
def ax_c2 (k : Nat) : Bool := decide ((ax_x k).length ≤ (m_fl (ax_r k)).length)
def ax_c3 (k : Nat) : Bool := (lX k).all fun t => m_in (ax_x k) t || m_in (ax_s k) t
def ax_c4 (k : Nat) : Bool := m_beq (tX k) (ax_r k) && m_beq (ax_M k) (ax_r k)
def ax_c5 (k : Nat) : Bool := (ax_s k).all fun t => m_in (m_subs (ax_r k)) t
section AXC
set_option maxRecDepth 100000
theorem ax_c1_0 : ax_c1 0 = true := by decide +kernel
theorem ax_c1_1 : ax_c1 1 = true := by decide +kernel
theorem ax_c1_2 : ax_c1 2 = true := by decide +kernel
theorem ax_c2_0 : ax_c2 0 = true := by decide +kernel
theorem ax_c2_1 : ax_c2 1 = true := by decide +kernel
theorem ax_c2_2 : ax_c2 2 = true := by decide +kernel
theorem ax_c3_0 : ax_c3 0 = true := by decide +kernel
theorem ax_c3_1 : ax_c3 1 = true := by decide +kernel
theorem ax_c3_2 : ax_c3 2 = true := by decide +kernel
theorem ax_c4_0 : ax_c4 0 = true := by decide +kernel
theorem ax_c4_1 : ax_c4 1 = true := by decide +kernel
theorem ax_c4_2 : ax_c4 2 = true := by decide +kernel
theorem ax_c5_0 : ax_c5 0 = true := by decide +kernel
theorem ax_c5_1 : ax_c5 1 = true := by decide +kernel
theorem ax_c5_2 : ax_c5 2 = true := by decide +kernel
end AXC
