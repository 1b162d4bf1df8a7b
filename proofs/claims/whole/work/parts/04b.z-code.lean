/-! the same, on -/
set_option maxRecDepth 100000 in
theorem zk_60 : zchk 60 = true := by decide +kernel
set_option maxRecDepth 100000 in
theorem zk_61 : zchk 61 = true := by decide +kernel
set_option maxRecDepth 100000 in
theorem zk_62 : zchk 62 = true := by decide +kernel
set_option maxRecDepth 100000 in
theorem zk_63 : zchk 63 = true := by decide +kernel
set_option maxRecDepth 100000 in
theorem zk_64 : zchk 64 = true := by decide +kernel
set_option maxRecDepth 100000 in
theorem zk_65 : zchk 65 = true := by decide +kernel
set_option maxRecDepth 100000 in
theorem zk_66 : zchk 66 = true := by decide +kernel
set_option maxRecDepth 100000 in
theorem zk_67 : zchk 67 = true := by decide +kernel
set_option maxRecDepth 100000 in
theorem zk_68 : zchk 68 = true := by decide +kernel
set_option maxRecDepth 100000 in
theorem zk_69 : zchk 69 = true := by decide +kernel
set_option maxRecDepth 100000 in
theorem zk_70 : zchk 70 = true := by decide +kernel
set_option maxRecDepth 100000 in
theorem zk_71 : zchk 71 = true := by decide +kernel
set_option maxRecDepth 100000 in
theorem zk_72 : zchk 72 = true := by decide +kernel
set_option maxRecDepth 100000 in
theorem zk_73 : zchk 73 = true := by decide +kernel
set_option maxRecDepth 100000 in
theorem zk_74 : zchk 74 = true := by decide +kernel
set_option maxRecDepth 100000 in
theorem zk_75 : zchk 75 = true := by decide +kernel
set_option maxRecDepth 100000 in
theorem zk_76 : zchk 76 = true := by decide +kernel
set_option maxRecDepth 100000 in
theorem zk_77 : zchk 77 = true := by decide +kernel
set_option maxRecDepth 100000 in
theorem zk_78 : zchk 78 = true := by decide +kernel
set_option maxRecDepth 100000 in
theorem zk_79 : zchk 79 = true := by decide +kernel
set_option maxRecDepth 100000 in
theorem zk_80 : zchk 80 = true := by decide +kernel
set_option maxRecDepth 100000 in
theorem zk_81 : zchk 81 = true := by decide +kernel
set_option maxRecDepth 100000 in
theorem zk_82 : zchk 82 = true := by decide +kernel
set_option maxRecDepth 100000 in
theorem zk_83 : zchk 83 = true := by decide +kernel
set_option maxRecDepth 100000 in
theorem zk_84 : zchk 84 = true := by decide +kernel
set_option maxRecDepth 100000 in
theorem zk_85 : zchk 85 = true := by decide +kernel
set_option maxRecDepth 100000 in
theorem zk_86 : zchk 86 = true := by decide +kernel
set_option maxRecDepth 100000 in
theorem zk_87 : zchk 87 = true := by decide +kernel
set_option maxRecDepth 100000 in
theorem zk_88 : zchk 88 = true := by decide +kernel
set_option maxRecDepth 100000 in
theorem zk_89 : zchk 89 = true := by decide +kernel
set_option maxRecDepth 100000 in
theorem zk_90 : zchk 90 = true := by decide +kernel
set_option maxRecDepth 100000 in
theorem zk_91 : zchk 91 = true := by decide +kernel
set_option maxRecDepth 100000 in
theorem zk_92 : zchk 92 = true := by decide +kernel
set_option maxRecDepth 100000 in
theorem zk_93 : zchk 93 = true := by decide +kernel
set_option maxRecDepth 100000 in
theorem zk_94 : zchk 94 = true := by decide +kernel
set_option maxRecDepth 100000 in
theorem zk_95 : zchk 95 = true := by decide +kernel
set_option maxRecDepth 100000 in
theorem zk_96 : zchk 96 = true := by decide +kernel
set_option maxRecDepth 100000 in
theorem zk_97 : zchk 97 = true := by decide +kernel
set_option maxRecDepth 100000 in
theorem zk_98 : zchk 98 = true := by decide +kernel
set_option maxRecDepth 100000 in
theorem zk_99 : zchk 99 = true := by decide +kernel
set_option maxRecDepth 100000 in
theorem zk_100 : zchk 100 = true := by decide +kernel
set_option maxRecDepth 100000 in
theorem zk_101 : zchk 101 = true := by decide +kernel
set_option maxRecDepth 100000 in
theorem zk_102 : zchk 102 = true := by decide +kernel
set_option maxRecDepth 100000 in
theorem zk_103 : zchk 103 = true := by decide +kernel
set_option maxRecDepth 100000 in
theorem zk_104 : zchk 104 = true := by decide +kernel
set_option maxRecDepth 100000 in
theorem zk_105 : zchk 105 = true := by decide +kernel
set_option maxRecDepth 100000 in
theorem zk_106 : zchk 106 = true := by decide +kernel
set_option maxRecDepth 100000 in
theorem zk_107 : zchk 107 = true := by decide +kernel
set_option maxRecDepth 100000 in
theorem zk_108 : zchk 108 = true := by decide +kernel
set_option maxRecDepth 100000 in
theorem zk_109 : zchk 109 = true := by decide +kernel
set_option maxRecDepth 100000 in
theorem zk_110 : zchk 110 = true := by decide +kernel
set_option maxRecDepth 100000 in
theorem zk_111 : zchk 111 = true := by decide +kernel
set_option maxRecDepth 100000 in
theorem zk_112 : zchk 112 = true := by decide +kernel
set_option maxRecDepth 100000 in
theorem zk_113 : zchk 113 = true := by decide +kernel
set_option maxRecDepth 100000 in
theorem zk_114 : zchk 114 = true := by decide +kernel
set_option maxRecDepth 100000 in
theorem zk_115 : zchk 115 = true := by decide +kernel
set_option maxRecDepth 100000 in
theorem zk_116 : zchk 116 = true := by decide +kernel
set_option maxRecDepth 100000 in
theorem zk_117 : zchk 117 = true := by decide +kernel
set_option maxRecDepth 100000 in
theorem zk_118 : zchk 118 = true := by decide +kernel
set_option maxRecDepth 100000 in
theorem zk_119 : zchk 119 = true := by decide +kernel
set_option maxRecDepth 100000 in
theorem zk_120 : zchk 120 = true := by decide +kernel
set_option maxRecDepth 100000 in
theorem zk_121 : zchk 121 = true := by decide +kernel
set_option maxRecDepth 100000 in
theorem zk_122 : zchk 122 = true := by decide +kernel
set_option maxRecDepth 100000 in
theorem zk_123 : zchk 123 = true := by decide +kernel
set_option maxRecDepth 100000 in
theorem zk_124 : zchk 124 = true := by decide +kernel
set_option maxRecDepth 100000 in
theorem zk_125 : zchk 125 = true := by decide +kernel
set_option maxRecDepth 100000 in
theorem zk_126 : zchk 126 = true := by decide +kernel
set_option maxRecDepth 100000 in
theorem zk_127 : zchk 127 = true := by decide +kernel
set_option maxRecDepth 100000 in
theorem zk_128 : zchk 128 = true := by decide +kernel
set_option maxRecDepth 100000 in
theorem zk_129 : zchk 129 = true := by decide +kernel
set_option maxRecDepth 100000 in
theorem zk_130 : zchk 130 = true := by decide +kernel
set_option maxRecDepth 100000 in
theorem zk_131 : zchk 131 = true := by decide +kernel
set_option maxRecDepth 100000 in
theorem zk_132 : zchk 132 = true := by decide +kernel
set_option maxRecDepth 100000 in
theorem zk_133 : zchk 133 = true := by decide +kernel
set_option maxRecDepth 100000 in
theorem zk_134 : zchk 134 = true := by decide +kernel
set_option maxRecDepth 100000 in
theorem zk_135 : zchk 135 = true := by decide +kernel
set_option maxRecDepth 100000 in
theorem zk_136 : zchk 136 = true := by decide +kernel
set_option maxRecDepth 100000 in
theorem zk_137 : zchk 137 = true := by decide +kernel
set_option maxRecDepth 100000 in
theorem zk_138 : zchk 138 = true := by decide +kernel
set_option maxRecDepth 100000 in
theorem zk_139 : zchk 139 = true := by decide +kernel
set_option maxRecDepth 100000 in
theorem zk_140 : zchk 140 = true := by decide +kernel
set_option maxRecDepth 100000 in
theorem zk_141 : zchk 141 = true := by decide +kernel
set_option maxRecDepth 100000 in
theorem zk_142 : zchk 142 = true := by decide +kernel
set_option maxRecDepth 100000 in
theorem zk_143 : zchk 143 = true := by decide +kernel
set_option maxRecDepth 100000 in
theorem zk_144 : zchk 144 = true := by decide +kernel
set_option maxRecDepth 100000 in
theorem zk_145 : zchk 145 = true := by decide +kernel
set_option maxRecDepth 100000 in
theorem zk_146 : zchk 146 = true := by decide +kernel
set_option maxRecDepth 100000 in
theorem zk_147 : zchk 147 = true := by decide +kernel
set_option maxRecDepth 100000 in
theorem zk_148 : zchk 148 = true := by decide +kernel
set_option maxRecDepth 100000 in
theorem zk_149 : zchk 149 = true := by decide +kernel
set_option maxRecDepth 100000 in
theorem zk_150 : zchk 150 = true := by decide +kernel
set_option maxRecDepth 100000 in
theorem zk_151 : zchk 151 = true := by decide +kernel
set_option maxRecDepth 100000 in
theorem zk_152 : zchk 152 = true := by decide +kernel
set_option maxRecDepth 100000 in
theorem zk_153 : zchk 153 = true := by decide +kernel
set_option maxRecDepth 100000 in
theorem zk_154 : zchk 154 = true := by decide +kernel
set_option maxRecDepth 100000 in
theorem zk_155 : zchk 155 = true := by decide +kernel
set_option maxRecDepth 100000 in
theorem zk_156 : zchk 156 = true := by decide +kernel
set_option maxRecDepth 100000 in
theorem zk_157 : zchk 157 = true := by decide +kernel
set_option maxRecDepth 100000 in
theorem zk_158 : zchk 158 = true := by decide +kernel
set_option maxRecDepth 100000 in
theorem zk_159 : zchk 159 = true := by decide +kernel
set_option maxRecDepth 100000 in
theorem zk_160 : zchk 160 = true := by decide +kernel
set_option maxRecDepth 100000 in
theorem zk_161 : zchk 161 = true := by decide +kernel
set_option maxRecDepth 100000 in
theorem zk_162 : zchk 162 = true := by decide +kernel
set_option maxRecDepth 100000 in
theorem zk_163 : zchk 163 = true := by decide +kernel
set_option maxRecDepth 100000 in
theorem zk_164 : zchk 164 = true := by decide +kernel
set_option maxRecDepth 100000 in
theorem zk_165 : zchk 165 = true := by decide +kernel
set_option maxRecDepth 100000 in
theorem zk_166 : zchk 166 = true := by decide +kernel
set_option maxRecDepth 100000 in
theorem zk_167 : zchk 167 = true := by decide +kernel
set_option maxRecDepth 100000 in
theorem zk_168 : zchk 168 = true := by decide +kernel
set_option maxRecDepth 100000 in
theorem zk_169 : zchk 169 = true := by decide +kernel
set_option maxRecDepth 100000 in
theorem zk_170 : zchk 170 = true := by decide +kernel
set_option maxRecDepth 100000 in
theorem zk_171 : zchk 171 = true := by decide +kernel
set_option maxRecDepth 100000 in
theorem zk_172 : zchk 172 = true := by decide +kernel
set_option maxRecDepth 100000 in
theorem zk_173 : zchk 173 = true := by decide +kernel
