/-! each entry of the tables stands among the claim's words -/
theorem zokM_0 : zokM 0 = true := by decide +kernel
theorem zokM_1 : zokM 1 = true := by decide +kernel
theorem zokM_2 : zokM 2 = true := by decide +kernel
theorem zokM_3 : zokM 3 = true := by decide +kernel
theorem zokM_4 : zokM 4 = true := by decide +kernel
theorem zokM_5 : zokM 5 = true := by decide +kernel
theorem zokM_6 : zokM 6 = true := by decide +kernel
theorem zokM_7 : zokM 7 = true := by decide +kernel
theorem zokM_8 : zokM 8 = true := by decide +kernel
theorem zokM_9 : zokM 9 = true := by decide +kernel
theorem zokM_10 : zokM 10 = true := by decide +kernel
theorem zokM_11 : zokM 11 = true := by decide +kernel
theorem zokM_12 : zokM 12 = true := by decide +kernel
theorem zokM_13 : zokM 13 = true := by decide +kernel
theorem zokM_14 : zokM 14 = true := by decide +kernel
theorem zokM_15 : zokM 15 = true := by decide +kernel
theorem zokM_16 : zokM 16 = true := by decide +kernel
theorem zokM_17 : zokM 17 = true := by decide +kernel
theorem zokM_18 : zokM 18 = true := by decide +kernel
theorem zokM_19 : zokM 19 = true := by decide +kernel
theorem zokM_20 : zokM 20 = true := by decide +kernel
theorem zokM_21 : zokM 21 = true := by decide +kernel
theorem zokM_22 : zokM 22 = true := by decide +kernel
theorem zokM_23 : zokM 23 = true := by decide +kernel
theorem zokM_24 : zokM 24 = true := by decide +kernel
theorem zokM_25 : zokM 25 = true := by decide +kernel
theorem zokM_26 : zokM 26 = true := by decide +kernel
theorem zokM_27 : zokM 27 = true := by decide +kernel
theorem zokM_28 : zokM 28 = true := by decide +kernel
theorem zokM_29 : zokM 29 = true := by decide +kernel
theorem zokM_30 : zokM 30 = true := by decide +kernel
theorem zokM_31 : zokM 31 = true := by decide +kernel
theorem zokM_32 : zokM 32 = true := by decide +kernel
theorem zokM_33 : zokM 33 = true := by decide +kernel
theorem zokM_34 : zokM 34 = true := by decide +kernel
theorem zokM_35 : zokM 35 = true := by decide +kernel
theorem zokM_36 : zokM 36 = true := by decide +kernel
theorem zokM_37 : zokM 37 = true := by decide +kernel
theorem zokM_38 : zokM 38 = true := by decide +kernel
theorem zokM_39 : zokM 39 = true := by decide +kernel
theorem zokM_40 : zokM 40 = true := by decide +kernel
theorem zokM_41 : zokM 41 = true := by decide +kernel
theorem zokM_42 : zokM 42 = true := by decide +kernel
theorem zokM_43 : zokM 43 = true := by decide +kernel
theorem zokM_44 : zokM 44 = true := by decide +kernel
theorem zokM_45 : zokM 45 = true := by decide +kernel
theorem zokM_46 : zokM 46 = true := by decide +kernel
theorem zokM_47 : zokM 47 = true := by decide +kernel
theorem zokM_48 : zokM 48 = true := by decide +kernel
theorem zokM_49 : zokM 49 = true := by decide +kernel
theorem zokM_50 : zokM 50 = true := by decide +kernel
theorem zokM_51 : zokM 51 = true := by decide +kernel
theorem zokM_52 : zokM 52 = true := by decide +kernel
theorem zokM_53 : zokM 53 = true := by decide +kernel
theorem zokM_54 : zokM 54 = true := by decide +kernel
theorem zokM_55 : zokM 55 = true := by decide +kernel
theorem zokM_56 : zokM 56 = true := by decide +kernel
theorem zokM_57 : zokM 57 = true := by decide +kernel
theorem zokM_58 : zokM 58 = true := by decide +kernel
theorem zokM_59 : zokM 59 = true := by decide +kernel
theorem zokM_60 : zokM 60 = true := by decide +kernel
theorem zokM_61 : zokM 61 = true := by decide +kernel
theorem zokM_62 : zokM 62 = true := by decide +kernel
theorem zokM_63 : zokM 63 = true := by decide +kernel
theorem zokM_64 : zokM 64 = true := by decide +kernel
theorem zokM_65 : zokM 65 = true := by decide +kernel
theorem zokM_66 : zokM 66 = true := by decide +kernel
theorem zokM_67 : zokM 67 = true := by decide +kernel
theorem zokM_68 : zokM 68 = true := by decide +kernel
theorem zokM_69 : zokM 69 = true := by decide +kernel
theorem zokM_70 : zokM 70 = true := by decide +kernel
theorem zokM_71 : zokM 71 = true := by decide +kernel
theorem zokM_72 : zokM 72 = true := by decide +kernel
theorem zokM_73 : zokM 73 = true := by decide +kernel
theorem zokM_74 : zokM 74 = true := by decide +kernel
theorem zokM_75 : zokM 75 = true := by decide +kernel
theorem zokM_76 : zokM 76 = true := by decide +kernel
theorem zokM_77 : zokM 77 = true := by decide +kernel
theorem zokM_78 : zokM 78 = true := by decide +kernel
theorem zokM_79 : zokM 79 = true := by decide +kernel
theorem zokM_80 : zokM 80 = true := by decide +kernel
theorem zokM_81 : zokM 81 = true := by decide +kernel
theorem zokM_82 : zokM 82 = true := by decide +kernel
theorem zokM_83 : zokM 83 = true := by decide +kernel
theorem zokM_84 : zokM 84 = true := by decide +kernel
theorem zokM_85 : zokM 85 = true := by decide +kernel
theorem zokM_86 : zokM 86 = true := by decide +kernel
theorem zokM_87 : zokM 87 = true := by decide +kernel
theorem zokM_88 : zokM 88 = true := by decide +kernel
theorem zokM_89 : zokM 89 = true := by decide +kernel
theorem zokM_90 : zokM 90 = true := by decide +kernel
theorem zokM_91 : zokM 91 = true := by decide +kernel
theorem zokM_92 : zokM 92 = true := by decide +kernel
theorem zokM_93 : zokM 93 = true := by decide +kernel
theorem zokM_94 : zokM 94 = true := by decide +kernel
theorem zokM_95 : zokM 95 = true := by decide +kernel
theorem zokM_96 : zokM 96 = true := by decide +kernel
theorem zokM_97 : zokM 97 = true := by decide +kernel
theorem zokM_98 : zokM 98 = true := by decide +kernel
theorem zokM_99 : zokM 99 = true := by decide +kernel
theorem zokM_100 : zokM 100 = true := by decide +kernel
theorem zokM_101 : zokM 101 = true := by decide +kernel
theorem zokM_102 : zokM 102 = true := by decide +kernel
theorem zokM_103 : zokM 103 = true := by decide +kernel
theorem zokM_104 : zokM 104 = true := by decide +kernel
theorem zokM_105 : zokM 105 = true := by decide +kernel
theorem zokM_106 : zokM 106 = true := by decide +kernel
theorem zokM_107 : zokM 107 = true := by decide +kernel
theorem zokM_108 : zokM 108 = true := by decide +kernel
theorem zokM_109 : zokM 109 = true := by decide +kernel
theorem zokM_110 : zokM 110 = true := by decide +kernel
theorem zokM_111 : zokM 111 = true := by decide +kernel
theorem zokM_112 : zokM 112 = true := by decide +kernel
theorem zokM_113 : zokM 113 = true := by decide +kernel
theorem zokM_114 : zokM 114 = true := by decide +kernel
theorem zokM_115 : zokM 115 = true := by decide +kernel
theorem zokM_116 : zokM 116 = true := by decide +kernel
theorem zokM_117 : zokM 117 = true := by decide +kernel
theorem zokM_118 : zokM 118 = true := by decide +kernel
theorem zokM_119 : zokM 119 = true := by decide +kernel
theorem zokM_120 : zokM 120 = true := by decide +kernel
theorem zokM_121 : zokM 121 = true := by decide +kernel
theorem zokM_122 : zokM 122 = true := by decide +kernel
theorem zokM_123 : zokM 123 = true := by decide +kernel
theorem zokM_124 : zokM 124 = true := by decide +kernel
theorem zokM_125 : zokM 125 = true := by decide +kernel
theorem zokM_126 : zokM 126 = true := by decide +kernel
theorem zokM_127 : zokM 127 = true := by decide +kernel
theorem zokM_128 : zokM 128 = true := by decide +kernel
theorem zokM_129 : zokM 129 = true := by decide +kernel
theorem zokM_130 : zokM 130 = true := by decide +kernel
theorem zokM_131 : zokM 131 = true := by decide +kernel
theorem zokM_132 : zokM 132 = true := by decide +kernel
theorem zokM_133 : zokM 133 = true := by decide +kernel
theorem zokM_134 : zokM 134 = true := by decide +kernel
theorem zokM_135 : zokM 135 = true := by decide +kernel
theorem zokM_136 : zokM 136 = true := by decide +kernel
theorem zokM_137 : zokM 137 = true := by decide +kernel
theorem zokM_138 : zokM 138 = true := by decide +kernel
theorem zokM_139 : zokM 139 = true := by decide +kernel
theorem zokM_140 : zokM 140 = true := by decide +kernel
theorem zokM_141 : zokM 141 = true := by decide +kernel
theorem zokM_142 : zokM 142 = true := by decide +kernel
theorem zokM_143 : zokM 143 = true := by decide +kernel
theorem zokM_144 : zokM 144 = true := by decide +kernel
theorem zokM_145 : zokM 145 = true := by decide +kernel
theorem zokM_146 : zokM 146 = true := by decide +kernel
theorem zokM_147 : zokM 147 = true := by decide +kernel
theorem zokM_148 : zokM 148 = true := by decide +kernel
theorem zokM_149 : zokM 149 = true := by decide +kernel
theorem zokM_150 : zokM 150 = true := by decide +kernel
theorem zokM_151 : zokM 151 = true := by decide +kernel
theorem zokM_152 : zokM 152 = true := by decide +kernel
theorem zokM_153 : zokM 153 = true := by decide +kernel
theorem zokM_154 : zokM 154 = true := by decide +kernel
theorem zokM_155 : zokM 155 = true := by decide +kernel
theorem zokM_156 : zokM 156 = true := by decide +kernel
theorem zokM_157 : zokM 157 = true := by decide +kernel
theorem zokM_158 : zokM 158 = true := by decide +kernel
theorem zokM_159 : zokM 159 = true := by decide +kernel
theorem zokM_160 : zokM 160 = true := by decide +kernel
theorem zokM_161 : zokM 161 = true := by decide +kernel
theorem zokM_162 : zokM 162 = true := by decide +kernel
theorem zokM_163 : zokM 163 = true := by decide +kernel
theorem zokM_164 : zokM 164 = true := by decide +kernel
theorem zokM_165 : zokM 165 = true := by decide +kernel
theorem zokM_166 : zokM 166 = true := by decide +kernel
theorem zokM_167 : zokM 167 = true := by decide +kernel
theorem zokM_168 : zokM 168 = true := by decide +kernel
theorem zokM_169 : zokM 169 = true := by decide +kernel
theorem zokM_170 : zokM 170 = true := by decide +kernel
theorem zokM_171 : zokM 171 = true := by decide +kernel
theorem zokM_172 : zokM 172 = true := by decide +kernel
theorem zokM_173 : zokM 173 = true := by decide +kernel
theorem zokM_all : ∀ y, y < 174 → zokM y = true
  | 0, _ => zokM_0
  | 1, _ => zokM_1
  | 2, _ => zokM_2
  | 3, _ => zokM_3
  | 4, _ => zokM_4
  | 5, _ => zokM_5
  | 6, _ => zokM_6
  | 7, _ => zokM_7
  | 8, _ => zokM_8
  | 9, _ => zokM_9
  | 10, _ => zokM_10
  | 11, _ => zokM_11
  | 12, _ => zokM_12
  | 13, _ => zokM_13
  | 14, _ => zokM_14
  | 15, _ => zokM_15
  | 16, _ => zokM_16
  | 17, _ => zokM_17
  | 18, _ => zokM_18
  | 19, _ => zokM_19
  | 20, _ => zokM_20
  | 21, _ => zokM_21
  | 22, _ => zokM_22
  | 23, _ => zokM_23
  | 24, _ => zokM_24
  | 25, _ => zokM_25
  | 26, _ => zokM_26
  | 27, _ => zokM_27
  | 28, _ => zokM_28
  | 29, _ => zokM_29
  | 30, _ => zokM_30
  | 31, _ => zokM_31
  | 32, _ => zokM_32
  | 33, _ => zokM_33
  | 34, _ => zokM_34
  | 35, _ => zokM_35
  | 36, _ => zokM_36
  | 37, _ => zokM_37
  | 38, _ => zokM_38
  | 39, _ => zokM_39
  | 40, _ => zokM_40
  | 41, _ => zokM_41
  | 42, _ => zokM_42
  | 43, _ => zokM_43
  | 44, _ => zokM_44
  | 45, _ => zokM_45
  | 46, _ => zokM_46
  | 47, _ => zokM_47
  | 48, _ => zokM_48
  | 49, _ => zokM_49
  | 50, _ => zokM_50
  | 51, _ => zokM_51
  | 52, _ => zokM_52
  | 53, _ => zokM_53
  | 54, _ => zokM_54
  | 55, _ => zokM_55
  | 56, _ => zokM_56
  | 57, _ => zokM_57
  | 58, _ => zokM_58
  | 59, _ => zokM_59
  | 60, _ => zokM_60
  | 61, _ => zokM_61
  | 62, _ => zokM_62
  | 63, _ => zokM_63
  | 64, _ => zokM_64
  | 65, _ => zokM_65
  | 66, _ => zokM_66
  | 67, _ => zokM_67
  | 68, _ => zokM_68
  | 69, _ => zokM_69
  | 70, _ => zokM_70
  | 71, _ => zokM_71
  | 72, _ => zokM_72
  | 73, _ => zokM_73
  | 74, _ => zokM_74
  | 75, _ => zokM_75
  | 76, _ => zokM_76
  | 77, _ => zokM_77
  | 78, _ => zokM_78
  | 79, _ => zokM_79
  | 80, _ => zokM_80
  | 81, _ => zokM_81
  | 82, _ => zokM_82
  | 83, _ => zokM_83
  | 84, _ => zokM_84
  | 85, _ => zokM_85
  | 86, _ => zokM_86
  | 87, _ => zokM_87
  | 88, _ => zokM_88
  | 89, _ => zokM_89
  | 90, _ => zokM_90
  | 91, _ => zokM_91
  | 92, _ => zokM_92
  | 93, _ => zokM_93
  | 94, _ => zokM_94
  | 95, _ => zokM_95
  | 96, _ => zokM_96
  | 97, _ => zokM_97
  | 98, _ => zokM_98
  | 99, _ => zokM_99
  | 100, _ => zokM_100
  | 101, _ => zokM_101
  | 102, _ => zokM_102
  | 103, _ => zokM_103
  | 104, _ => zokM_104
  | 105, _ => zokM_105
  | 106, _ => zokM_106
  | 107, _ => zokM_107
  | 108, _ => zokM_108
  | 109, _ => zokM_109
  | 110, _ => zokM_110
  | 111, _ => zokM_111
  | 112, _ => zokM_112
  | 113, _ => zokM_113
  | 114, _ => zokM_114
  | 115, _ => zokM_115
  | 116, _ => zokM_116
  | 117, _ => zokM_117
  | 118, _ => zokM_118
  | 119, _ => zokM_119
  | 120, _ => zokM_120
  | 121, _ => zokM_121
  | 122, _ => zokM_122
  | 123, _ => zokM_123
  | 124, _ => zokM_124
  | 125, _ => zokM_125
  | 126, _ => zokM_126
  | 127, _ => zokM_127
  | 128, _ => zokM_128
  | 129, _ => zokM_129
  | 130, _ => zokM_130
  | 131, _ => zokM_131
  | 132, _ => zokM_132
  | 133, _ => zokM_133
  | 134, _ => zokM_134
  | 135, _ => zokM_135
  | 136, _ => zokM_136
  | 137, _ => zokM_137
  | 138, _ => zokM_138
  | 139, _ => zokM_139
  | 140, _ => zokM_140
  | 141, _ => zokM_141
  | 142, _ => zokM_142
  | 143, _ => zokM_143
  | 144, _ => zokM_144
  | 145, _ => zokM_145
  | 146, _ => zokM_146
  | 147, _ => zokM_147
  | 148, _ => zokM_148
  | 149, _ => zokM_149
  | 150, _ => zokM_150
  | 151, _ => zokM_151
  | 152, _ => zokM_152
  | 153, _ => zokM_153
  | 154, _ => zokM_154
  | 155, _ => zokM_155
  | 156, _ => zokM_156
  | 157, _ => zokM_157
  | 158, _ => zokM_158
  | 159, _ => zokM_159
  | 160, _ => zokM_160
  | 161, _ => zokM_161
  | 162, _ => zokM_162
  | 163, _ => zokM_163
  | 164, _ => zokM_164
  | 165, _ => zokM_165
  | 166, _ => zokM_166
  | 167, _ => zokM_167
  | 168, _ => zokM_168
  | 169, _ => zokM_169
  | 170, _ => zokM_170
  | 171, _ => zokM_171
  | 172, _ => zokM_172
  | 173, _ => zokM_173
  | y + 174, h => absurd h (by omega)
set_option maxRecDepth 100000 in
theorem zokC_all : (List.range 28672).all zokC = true := by decide +kernel
set_option maxRecDepth 100000 in
theorem zokA_all : (List.range 28672).all zokA = true := by decide +kernel
set_option maxRecDepth 100000 in
theorem zokO_all : (List.range 28672).all zokO = true := by decide +kernel
set_option maxRecDepth 100000 in
theorem zokF_all : (List.range 28672).all zokF = true := by decide +kernel
set_option maxRecDepth 100000 in
theorem zokK_all : (List.range 28672).all zokK = true := by decide +kernel
set_option maxRecDepth 100000 in
theorem zokL_all : (List.range 28672).all zokL = true := by decide +kernel
