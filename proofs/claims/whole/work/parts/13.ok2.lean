theorem mj_k_93 : mj_ok 93 = true := by decide +kernel
theorem mj_k_94 : mj_ok 94 = true := by decide +kernel
theorem mj_k_95 : mj_ok 95 = true := by decide +kernel
theorem mj_k_96 : mj_ok 96 = true := by decide +kernel
theorem mj_k_97 : mj_ok 97 = true := by decide +kernel
theorem mj_k_98 : mj_ok 98 = true := by decide +kernel
theorem mj_k_99 : mj_ok 99 = true := by decide +kernel
theorem mj_k_100 : mj_ok 100 = true := by decide +kernel
theorem mj_k_101 : mj_ok 101 = true := by decide +kernel
theorem mj_k_102 : mj_ok 102 = true := by decide +kernel
theorem mj_k_103 : mj_ok 103 = true := by decide +kernel
theorem mj_k_104 : mj_ok 104 = true := by decide +kernel
theorem mj_k_105 : mj_ok 105 = true := by decide +kernel
theorem mj_k_106 : mj_ok 106 = true := by decide +kernel
theorem mj_k_107 : mj_ok 107 = true := by decide +kernel
theorem mj_k_108 : mj_ok 108 = true := by decide +kernel
theorem mj_k_109 : mj_ok 109 = true := by decide +kernel
theorem mj_k_110 : mj_ok 110 = true := by decide +kernel
theorem mj_k_111 : mj_ok 111 = true := by decide +kernel
theorem mj_k_112 : mj_ok 112 = true := by decide +kernel
theorem mj_k_113 : mj_ok 113 = true := by decide +kernel
theorem mj_k_114 : mj_ok 114 = true := by decide +kernel
theorem mj_k_115 : mj_ok 115 = true := by decide +kernel
theorem mj_k_116 : mj_ok 116 = true := by decide +kernel
theorem mj_k_117 : mj_ok 117 = true := by decide +kernel
theorem mj_k_118 : mj_ok 118 = true := by decide +kernel
theorem mj_k_119 : mj_ok 119 = true := by decide +kernel
theorem mj_k_120 : mj_ok 120 = true := by decide +kernel
theorem mj_k_121 : mj_ok 121 = true := by decide +kernel
theorem mj_k_122 : mj_ok 122 = true := by decide +kernel
theorem mj_k_123 : mj_ok 123 = true := by decide +kernel
theorem mj_k_124 : mj_ok 124 = true := by decide +kernel
theorem mj_k_125 : mj_ok 125 = true := by decide +kernel
theorem mj_k_126 : mj_ok 126 = true := by decide +kernel
theorem mj_k_127 : mj_ok 127 = true := by decide +kernel
theorem mj_k_128 : mj_ok 128 = true := by decide +kernel
theorem mj_k_129 : mj_ok 129 = true := by decide +kernel
theorem mj_k_130 : mj_ok 130 = true := by decide +kernel
theorem mj_k_131 : mj_ok 131 = true := by decide +kernel
theorem mj_k_132 : mj_ok 132 = true := by decide +kernel
theorem mj_k_133 : mj_ok 133 = true := by decide +kernel
theorem mj_k_134 : mj_ok 134 = true := by decide +kernel
theorem mj_k_135 : mj_ok 135 = true := by decide +kernel
theorem mj_k_136 : mj_ok 136 = true := by decide +kernel
theorem mj_k_137 : mj_ok 137 = true := by decide +kernel
theorem mj_k_138 : mj_ok 138 = true := by decide +kernel
theorem mj_k_139 : mj_ok 139 = true := by decide +kernel
theorem mj_k_140 : mj_ok 140 = true := by decide +kernel
theorem mj_k_141 : mj_ok 141 = true := by decide +kernel
theorem mj_k_142 : mj_ok 142 = true := by decide +kernel
theorem mj_k_143 : mj_ok 143 = true := by decide +kernel
theorem mj_k_144 : mj_ok 144 = true := by decide +kernel
theorem mj_k_145 : mj_ok 145 = true := by decide +kernel
theorem mj_k_146 : mj_ok 146 = true := by decide +kernel
theorem mj_k_147 : mj_ok 147 = true := by decide +kernel
theorem mj_k_148 : mj_ok 148 = true := by decide +kernel
theorem mj_k_149 : mj_ok 149 = true := by decide +kernel
theorem mj_k_150 : mj_ok 150 = true := by decide +kernel
theorem mj_k_151 : mj_ok 151 = true := by decide +kernel
theorem mj_k_152 : mj_ok 152 = true := by decide +kernel
theorem mj_k_153_0 : mj_okc 153 0 24 = true := by decide +kernel
theorem mj_k_153_1 : mj_okc 153 24 24 = true := by decide +kernel
theorem mj_k_153_2 : mj_okc 153 48 24 = true := by decide +kernel
theorem mj_k_153_3 : mj_okc 153 72 24 = true := by decide +kernel
theorem mj_k_153_4 : mj_okc 153 96 24 = true := by decide +kernel
theorem mj_k_153_5 : mj_okc 153 120 24 = true := by decide +kernel
theorem mj_k_153_6 : mj_okc 153 144 24 = true := by decide +kernel
theorem mj_k_153_7 : mj_okc 153 168 24 = true := by decide +kernel
theorem mj_k_153_8 : mj_okc 153 192 24 = true := by decide +kernel
theorem mj_k_153_9 : mj_okc 153 216 24 = true := by decide +kernel
theorem mj_k_153_10 : mj_okc 153 240 24 = true := by decide +kernel
theorem mj_k_153_11 : mj_okc 153 264 24 = true := by decide +kernel
theorem mj_k_153_12 : mj_okc 153 288 24 = true := by decide +kernel
theorem mj_k_153_13 : mj_okc 153 312 24 = true := by decide +kernel
theorem mj_k_153_14 : mj_okc 153 336 24 = true := by decide +kernel
theorem mj_k_153_15 : mj_okc 153 360 24 = true := by decide +kernel
theorem mj_k_153_16 : mj_okc 153 384 24 = true := by decide +kernel
theorem mj_k_153_17 : mj_okc 153 408 24 = true := by decide +kernel
theorem mj_k_153_18 : mj_okc 153 432 24 = true := by decide +kernel
theorem mj_k_153_19 : mj_okc 153 456 24 = true := by decide +kernel
theorem mj_k_153_20 : mj_okc 153 480 24 = true := by decide +kernel
theorem mj_k_153_21 : mj_okc 153 504 24 = true := by decide +kernel
theorem mj_k_153_22 : mj_okc 153 528 24 = true := by decide +kernel
theorem mj_k_153_23 : mj_okc 153 552 24 = true := by decide +kernel
theorem mj_k_153 : mj_ok 153 = true := by
  show ((mj_cd 153).drop 0).all (fun q => mj_chk 153 q.1 q.2) = true
  refine mj_okc_all (n := 24) mj_k_153_0 ?_
  refine mj_okc_all (n := 24) mj_k_153_1 ?_
  refine mj_okc_all (n := 24) mj_k_153_2 ?_
  refine mj_okc_all (n := 24) mj_k_153_3 ?_
  refine mj_okc_all (n := 24) mj_k_153_4 ?_
  refine mj_okc_all (n := 24) mj_k_153_5 ?_
  refine mj_okc_all (n := 24) mj_k_153_6 ?_
  refine mj_okc_all (n := 24) mj_k_153_7 ?_
  refine mj_okc_all (n := 24) mj_k_153_8 ?_
  refine mj_okc_all (n := 24) mj_k_153_9 ?_
  refine mj_okc_all (n := 24) mj_k_153_10 ?_
  refine mj_okc_all (n := 24) mj_k_153_11 ?_
  refine mj_okc_all (n := 24) mj_k_153_12 ?_
  refine mj_okc_all (n := 24) mj_k_153_13 ?_
  refine mj_okc_all (n := 24) mj_k_153_14 ?_
  refine mj_okc_all (n := 24) mj_k_153_15 ?_
  refine mj_okc_all (n := 24) mj_k_153_16 ?_
  refine mj_okc_all (n := 24) mj_k_153_17 ?_
  refine mj_okc_all (n := 24) mj_k_153_18 ?_
  refine mj_okc_all (n := 24) mj_k_153_19 ?_
  refine mj_okc_all (n := 24) mj_k_153_20 ?_
  refine mj_okc_all (n := 24) mj_k_153_21 ?_
  refine mj_okc_all (n := 24) mj_k_153_22 ?_
  refine mj_okc_all (n := 24) mj_k_153_23 ?_
  decide +kernel
theorem mj_k_154 : mj_ok 154 = true := by decide +kernel
theorem mj_k_155 : mj_ok 155 = true := by decide +kernel
theorem mj_k_156 : mj_ok 156 = true := by decide +kernel
theorem mj_k_157 : mj_ok 157 = true := by decide +kernel
theorem mj_k_158 : mj_ok 158 = true := by decide +kernel
theorem mj_k_159 : mj_ok 159 = true := by decide +kernel
theorem mj_k_160 : mj_ok 160 = true := by decide +kernel
theorem mj_k_161 : mj_ok 161 = true := by decide +kernel
