/-! Each table stands for its bytes: decided by the kernel. -/
set_option maxRecDepth 100000 in
theorem gCode_0 : gCode 0 := ⟨by decide +kernel, rfl, rfl, by decide +kernel⟩
set_option maxRecDepth 100000 in
theorem gCode_1 : gCode 1 := ⟨by decide +kernel, rfl, rfl, by decide +kernel⟩
set_option maxRecDepth 100000 in
theorem gCode_2 : gCode 2 := ⟨by decide +kernel, rfl, rfl, by decide +kernel⟩
set_option maxRecDepth 100000 in
theorem gCode_3 : gCode 3 := ⟨by decide +kernel, rfl, rfl, by decide +kernel⟩
set_option maxRecDepth 100000 in
theorem gCode_4 : gCode 4 := ⟨by decide +kernel, rfl, rfl, by decide +kernel⟩
set_option maxRecDepth 100000 in
theorem gCode_5 : gCode 5 := ⟨by decide +kernel, rfl, rfl, by decide +kernel⟩
set_option maxRecDepth 100000 in
theorem gCode_6 : gCode 6 := ⟨by decide +kernel, rfl, rfl, by decide +kernel⟩
set_option maxRecDepth 100000 in
theorem gCode_7 : gCode 7 := ⟨by decide +kernel, rfl, rfl, by decide +kernel⟩
set_option maxRecDepth 100000 in
theorem gCode_8 : gCode 8 := ⟨by decide +kernel, rfl, rfl, by decide +kernel⟩
set_option maxRecDepth 100000 in
theorem gCode_9 : gCode 9 := ⟨by decide +kernel, rfl, rfl, by decide +kernel⟩
set_option maxRecDepth 100000 in
theorem gCode_10 : gCode 10 := ⟨by decide +kernel, rfl, rfl, by decide +kernel⟩
set_option maxRecDepth 100000 in
theorem gCode_11 : gCode 11 := ⟨by decide +kernel, rfl, rfl, by decide +kernel⟩
set_option maxRecDepth 100000 in
theorem gCode_12 : gCode 12 := ⟨by decide +kernel, rfl, rfl, by decide +kernel⟩
set_option maxRecDepth 100000 in
theorem gCode_13 : gCode 13 := ⟨by decide +kernel, rfl, rfl, by decide +kernel⟩
set_option maxRecDepth 100000 in
theorem gCode_14 : gCode 14 := ⟨by decide +kernel, rfl, rfl, by decide +kernel⟩
set_option maxRecDepth 100000 in
theorem gCode_15 : gCode 15 := ⟨by decide +kernel, rfl, rfl, by decide +kernel⟩
set_option maxRecDepth 100000 in
theorem gCode_16 : gCode 16 := ⟨by decide +kernel, rfl, rfl, by decide +kernel⟩
set_option maxRecDepth 100000 in
theorem gCode_17 : gCode 17 := ⟨by decide +kernel, rfl, rfl, by decide +kernel⟩
set_option maxRecDepth 100000 in
theorem gCode_18 : gCode 18 := ⟨by decide +kernel, rfl, rfl, by decide +kernel⟩
set_option maxRecDepth 100000 in
theorem gCode_19 : gCode 19 := ⟨by decide +kernel, rfl, rfl, by decide +kernel⟩
set_option maxRecDepth 100000 in
theorem gCode_20 : gCode 20 := ⟨by decide +kernel, rfl, rfl, by decide +kernel⟩
set_option maxRecDepth 100000 in
theorem gCode_21 : gCode 21 := ⟨by decide +kernel, rfl, rfl, by decide +kernel⟩
set_option maxRecDepth 100000 in
theorem gCode_22 : gCode 22 := ⟨by decide +kernel, rfl, rfl, by decide +kernel⟩
set_option maxRecDepth 100000 in
theorem gCode_23 : gCode 23 := ⟨by decide +kernel, rfl, rfl, by decide +kernel⟩
set_option maxRecDepth 100000 in
theorem gCode_24 : gCode 24 := ⟨by decide +kernel, rfl, rfl, by decide +kernel⟩
set_option maxRecDepth 100000 in
theorem gCode_25 : gCode 25 := ⟨by decide +kernel, rfl, rfl, by decide +kernel⟩
set_option maxRecDepth 100000 in
theorem gCode_26 : gCode 26 := ⟨by decide +kernel, rfl, rfl, by decide +kernel⟩
set_option maxRecDepth 100000 in
theorem gCode_27 : gCode 27 := ⟨by decide +kernel, rfl, rfl, by decide +kernel⟩
set_option maxRecDepth 100000 in
theorem gCode_28 : gCode 28 := ⟨by decide +kernel, rfl, rfl, by decide +kernel⟩
set_option maxRecDepth 100000 in
theorem gCode_29 : gCode 29 := ⟨by decide +kernel, rfl, rfl, by decide +kernel⟩
set_option maxRecDepth 100000 in
theorem gCode_30 : gCode 30 := ⟨by decide +kernel, rfl, rfl, by decide +kernel⟩
set_option maxRecDepth 100000 in
theorem gCode_31 : gCode 31 := ⟨by decide +kernel, rfl, rfl, by decide +kernel⟩
set_option maxRecDepth 100000 in
theorem gCode_32 : gCode 32 := ⟨by decide +kernel, rfl, rfl, by decide +kernel⟩
set_option maxRecDepth 100000 in
theorem gCode_33 : gCode 33 := ⟨by decide +kernel, rfl, rfl, by decide +kernel⟩
set_option maxRecDepth 100000 in
theorem gCode_34 : gCode 34 := ⟨by decide +kernel, rfl, rfl, by decide +kernel⟩
set_option maxRecDepth 100000 in
theorem gCode_35 : gCode 35 := ⟨by decide +kernel, rfl, rfl, by decide +kernel⟩
set_option maxRecDepth 100000 in
theorem gCode_36 : gCode 36 := ⟨by decide +kernel, rfl, rfl, by decide +kernel⟩
set_option maxRecDepth 100000 in
theorem gCode_37 : gCode 37 := ⟨by decide +kernel, rfl, rfl, by decide +kernel⟩
set_option maxRecDepth 100000 in
theorem gCode_38 : gCode 38 := ⟨by decide +kernel, rfl, rfl, by decide +kernel⟩
set_option maxRecDepth 100000 in
theorem gCode_39 : gCode 39 := ⟨by decide +kernel, rfl, rfl, by decide +kernel⟩
set_option maxRecDepth 100000 in
theorem gCode_40 : gCode 40 := ⟨by decide +kernel, rfl, rfl, by decide +kernel⟩
set_option maxRecDepth 100000 in
theorem gCode_41 : gCode 41 := ⟨by decide +kernel, rfl, rfl, by decide +kernel⟩
set_option maxRecDepth 100000 in
theorem gCode_42 : gCode 42 := ⟨by decide +kernel, rfl, rfl, by decide +kernel⟩
set_option maxRecDepth 100000 in
theorem gCode_43 : gCode 43 := ⟨by decide +kernel, rfl, rfl, by decide +kernel⟩
set_option maxRecDepth 100000 in
theorem gCode_44 : gCode 44 := ⟨by decide +kernel, rfl, rfl, by decide +kernel⟩
set_option maxRecDepth 100000 in
theorem gCode_45 : gCode 45 := ⟨by decide +kernel, rfl, rfl, by decide +kernel⟩
set_option maxRecDepth 100000 in
theorem gCode_46 : gCode 46 := ⟨by decide +kernel, rfl, rfl, by decide +kernel⟩
set_option maxRecDepth 100000 in
theorem gCode_47 : gCode 47 := ⟨by decide +kernel, rfl, rfl, by decide +kernel⟩
set_option maxRecDepth 100000 in
theorem gCode_48 : gCode 48 := ⟨by decide +kernel, rfl, rfl, by decide +kernel⟩
set_option maxRecDepth 100000 in
theorem gCode_49 : gCode 49 := ⟨by decide +kernel, rfl, rfl, by decide +kernel⟩
set_option maxRecDepth 100000 in
theorem gCode_50 : gCode 50 := ⟨by decide +kernel, rfl, rfl, by decide +kernel⟩
set_option maxRecDepth 100000 in
theorem gCode_51 : gCode 51 := ⟨by decide +kernel, rfl, rfl, by decide +kernel⟩
set_option maxRecDepth 100000 in
theorem gCode_52 : gCode 52 := ⟨by decide +kernel, rfl, rfl, by decide +kernel⟩
set_option maxRecDepth 100000 in
theorem gCode_53 : gCode 53 := ⟨by decide +kernel, rfl, rfl, by decide +kernel⟩
set_option maxRecDepth 100000 in
theorem gCode_54 : gCode 54 := ⟨by decide +kernel, rfl, rfl, by decide +kernel⟩
set_option maxRecDepth 100000 in
theorem gCode_55 : gCode 55 := ⟨by decide +kernel, rfl, rfl, by decide +kernel⟩
set_option maxRecDepth 100000 in
theorem gCode_56 : gCode 56 := ⟨by decide +kernel, rfl, rfl, by decide +kernel⟩
set_option maxRecDepth 100000 in
theorem gCode_57 : gCode 57 := ⟨by decide +kernel, rfl, rfl, by decide +kernel⟩
set_option maxRecDepth 100000 in
theorem gCode_58 : gCode 58 := ⟨by decide +kernel, ⟨_, rfl⟩, rfl, by decide +kernel⟩
set_option maxRecDepth 100000 in
theorem gCode_59 : gCode 59 := ⟨by decide +kernel, rfl, rfl, by decide +kernel⟩
set_option maxRecDepth 100000 in
theorem gCode_60 : gCode 60 := ⟨by decide +kernel, rfl, rfl, by decide +kernel⟩
set_option maxRecDepth 100000 in
theorem gCode_61 : gCode 61 := ⟨by decide +kernel, rfl, rfl, by decide +kernel⟩
set_option maxRecDepth 100000 in
theorem gCode_62 : gCode 62 := ⟨by decide +kernel, rfl, rfl, by decide +kernel⟩
set_option maxRecDepth 100000 in
theorem gCode_63 : gCode 63 := ⟨by decide +kernel, rfl, rfl, by decide +kernel⟩
set_option maxRecDepth 100000 in
theorem gCode_64 : gCode 64 := ⟨by decide +kernel, rfl, rfl, by decide +kernel⟩
set_option maxRecDepth 100000 in
theorem gCode_65 : gCode 65 := ⟨by decide +kernel, rfl, rfl, by decide +kernel⟩
set_option maxRecDepth 100000 in
theorem gCode_66 : gCode 66 := ⟨by decide +kernel, rfl, rfl, by decide +kernel⟩
set_option maxRecDepth 100000 in
theorem gCode_67 : gCode 67 := ⟨by decide +kernel, rfl, rfl, by decide +kernel⟩
set_option maxRecDepth 100000 in
theorem gCode_68 : gCode 68 := ⟨by decide +kernel, rfl, rfl, by decide +kernel⟩
set_option maxRecDepth 100000 in
theorem gCode_69 : gCode 69 := ⟨by decide +kernel, rfl, rfl, by decide +kernel⟩
set_option maxRecDepth 100000 in
theorem gCode_70 : gCode 70 := ⟨by decide +kernel, rfl, rfl, by decide +kernel⟩
set_option maxRecDepth 100000 in
theorem gCode_71 : gCode 71 := ⟨by decide +kernel, rfl, rfl, by decide +kernel⟩
set_option maxRecDepth 100000 in
theorem gCode_72 : gCode 72 := ⟨by decide +kernel, rfl, rfl, by decide +kernel⟩
set_option maxRecDepth 100000 in
theorem gCode_73 : gCode 73 := ⟨by decide +kernel, rfl, rfl, by decide +kernel⟩
set_option maxRecDepth 100000 in
theorem gCode_74 : gCode 74 := ⟨by decide +kernel, rfl, rfl, by decide +kernel⟩
set_option maxRecDepth 100000 in
theorem gCode_75 : gCode 75 := ⟨by decide +kernel, rfl, rfl, by decide +kernel⟩
set_option maxRecDepth 100000 in
theorem gCode_76 : gCode 76 := ⟨by decide +kernel, rfl, rfl, by decide +kernel⟩
set_option maxRecDepth 100000 in
theorem gCode_77 : gCode 77 := ⟨by decide +kernel, rfl, rfl, by decide +kernel⟩
set_option maxRecDepth 100000 in
theorem gCode_78 : gCode 78 := ⟨by decide +kernel, rfl, rfl, by decide +kernel⟩
set_option maxRecDepth 100000 in
theorem gCode_79 : gCode 79 := ⟨by decide +kernel, rfl, rfl, by decide +kernel⟩
set_option maxRecDepth 100000 in
theorem gCode_80 : gCode 80 := ⟨by decide +kernel, rfl, rfl, by decide +kernel⟩
set_option maxRecDepth 100000 in
theorem gCode_81 : gCode 81 := ⟨by decide +kernel, rfl, rfl, by decide +kernel⟩
set_option maxRecDepth 100000 in
theorem gCode_82 : gCode 82 := ⟨by decide +kernel, rfl, rfl, by decide +kernel⟩
set_option maxRecDepth 100000 in
theorem gCode_83 : gCode 83 := ⟨by decide +kernel, rfl, rfl, by decide +kernel⟩
set_option maxRecDepth 100000 in
theorem gCode_84 : gCode 84 := ⟨by decide +kernel, rfl, rfl, by decide +kernel⟩
set_option maxRecDepth 100000 in
theorem gCode_85 : gCode 85 := ⟨by decide +kernel, rfl, rfl, by decide +kernel⟩
set_option maxRecDepth 100000 in
theorem gCode_86 : gCode 86 := ⟨by decide +kernel, rfl, rfl, by decide +kernel⟩
set_option maxRecDepth 100000 in
theorem gCode_87 : gCode 87 := ⟨by decide +kernel, rfl, rfl, by decide +kernel⟩
set_option maxRecDepth 100000 in
theorem gCode_88 : gCode 88 := ⟨by decide +kernel, rfl, rfl, by decide +kernel⟩
set_option maxRecDepth 100000 in
theorem gCode_89 : gCode 89 := ⟨by decide +kernel, rfl, rfl, by decide +kernel⟩
set_option maxRecDepth 100000 in
theorem gCode_90 : gCode 90 := ⟨by decide +kernel, rfl, rfl, by decide +kernel⟩
set_option maxRecDepth 100000 in
theorem gCode_91 : gCode 91 := ⟨by decide +kernel, rfl, rfl, by decide +kernel⟩
set_option maxRecDepth 100000 in
theorem gCode_92 : gCode 92 := ⟨by decide +kernel, rfl, rfl, by decide +kernel⟩
set_option maxRecDepth 100000 in
theorem gCode_93 : gCode 93 := ⟨by decide +kernel, rfl, rfl, by decide +kernel⟩
set_option maxRecDepth 100000 in
theorem gCode_94 : gCode 94 := ⟨by decide +kernel, rfl, rfl, by decide +kernel⟩
set_option maxRecDepth 100000 in
theorem gCode_95 : gCode 95 := ⟨by decide +kernel, rfl, rfl, by decide +kernel⟩
set_option maxRecDepth 100000 in
theorem gCode_96 : gCode 96 := ⟨by decide +kernel, rfl, rfl, by decide +kernel⟩
set_option maxRecDepth 100000 in
theorem gCode_97 : gCode 97 := ⟨by decide +kernel, rfl, rfl, by decide +kernel⟩
set_option maxRecDepth 100000 in
theorem gCode_98 : gCode 98 := ⟨by decide +kernel, rfl, rfl, by decide +kernel⟩
set_option maxRecDepth 100000 in
theorem gCode_99 : gCode 99 := ⟨by decide +kernel, rfl, rfl, by decide +kernel⟩
set_option maxRecDepth 100000 in
theorem gCode_100 : gCode 100 := ⟨by decide +kernel, rfl, rfl, by decide +kernel⟩
set_option maxRecDepth 100000 in
theorem gCode_101 : gCode 101 := ⟨by decide +kernel, rfl, rfl, by decide +kernel⟩
set_option maxRecDepth 100000 in
theorem gCode_102 : gCode 102 := ⟨by decide +kernel, rfl, rfl, by decide +kernel⟩
set_option maxRecDepth 100000 in
theorem gCode_103 : gCode 103 := ⟨by decide +kernel, rfl, rfl, by decide +kernel⟩
set_option maxRecDepth 100000 in
theorem gCode_104 : gCode 104 := ⟨by decide +kernel, rfl, rfl, by decide +kernel⟩
set_option maxRecDepth 100000 in
theorem gCode_105 : gCode 105 := ⟨by decide +kernel, rfl, rfl, by decide +kernel⟩
set_option maxRecDepth 100000 in
theorem gCode_106 : gCode 106 := ⟨by decide +kernel, rfl, rfl, by decide +kernel⟩
set_option maxRecDepth 100000 in
theorem gCode_107 : gCode 107 := ⟨by decide +kernel, rfl, rfl, by decide +kernel⟩
set_option maxRecDepth 100000 in
theorem gCode_108 : gCode 108 := ⟨by decide +kernel, rfl, rfl, by decide +kernel⟩
set_option maxRecDepth 100000 in
theorem gCode_109 : gCode 109 := ⟨by decide +kernel, rfl, rfl, by decide +kernel⟩
set_option maxRecDepth 100000 in
theorem gCode_110 : gCode 110 := ⟨by decide +kernel, rfl, rfl, by decide +kernel⟩
set_option maxRecDepth 100000 in
theorem gCode_111 : gCode 111 := ⟨by decide +kernel, rfl, rfl, by decide +kernel⟩
set_option maxRecDepth 100000 in
theorem gCode_112 : gCode 112 := ⟨by decide +kernel, rfl, rfl, by decide +kernel⟩
set_option maxRecDepth 100000 in
theorem gCode_113 : gCode 113 := ⟨by decide +kernel, rfl, rfl, by decide +kernel⟩
set_option maxRecDepth 100000 in
theorem gCode_114 : gCode 114 := ⟨by decide +kernel, rfl, rfl, by decide +kernel⟩
set_option maxRecDepth 100000 in
theorem gCode_115 : gCode 115 := ⟨by decide +kernel, rfl, rfl, by decide +kernel⟩
set_option maxRecDepth 100000 in
theorem gCode_116 : gCode 116 := ⟨by decide +kernel, rfl, rfl, by decide +kernel⟩
set_option maxRecDepth 100000 in
theorem gCode_117 : gCode 117 := ⟨by decide +kernel, rfl, rfl, by decide +kernel⟩
set_option maxRecDepth 100000 in
theorem gCode_118 : gCode 118 := ⟨by decide +kernel, rfl, rfl, by decide +kernel⟩
set_option maxRecDepth 100000 in
theorem gCode_119 : gCode 119 := ⟨by decide +kernel, rfl, rfl, by decide +kernel⟩
set_option maxRecDepth 100000 in
theorem gCode_120 : gCode 120 := ⟨by decide +kernel, rfl, rfl, by decide +kernel⟩
set_option maxRecDepth 100000 in
theorem gCode_121 : gCode 121 := ⟨by decide +kernel, rfl, rfl, by decide +kernel⟩
set_option maxRecDepth 100000 in
theorem gCode_122 : gCode 122 := ⟨by decide +kernel, rfl, rfl, by decide +kernel⟩
set_option maxRecDepth 100000 in
theorem gCode_123 : gCode 123 := ⟨by decide +kernel, rfl, rfl, by decide +kernel⟩
set_option maxRecDepth 100000 in
theorem gCode_124 : gCode 124 := ⟨by decide +kernel, rfl, rfl, by decide +kernel⟩
set_option maxRecDepth 100000 in
theorem gCode_125 : gCode 125 := ⟨by decide +kernel, rfl, rfl, by decide +kernel⟩
set_option maxRecDepth 100000 in
theorem gCode_126 : gCode 126 := ⟨by decide +kernel, rfl, rfl, by decide +kernel⟩
set_option maxRecDepth 100000 in
theorem gCode_127 : gCode 127 := ⟨by decide +kernel, rfl, rfl, by decide +kernel⟩
set_option maxRecDepth 100000 in
theorem gCode_128 : gCode 128 := ⟨by decide +kernel, rfl, rfl, by decide +kernel⟩
set_option maxRecDepth 100000 in
theorem gCode_129 : gCode 129 := ⟨by decide +kernel, rfl, rfl, by decide +kernel⟩
set_option maxRecDepth 100000 in
theorem gCode_130 : gCode 130 := ⟨by decide +kernel, rfl, rfl, by decide +kernel⟩
set_option maxRecDepth 100000 in
theorem gCode_131 : gCode 131 := ⟨by decide +kernel, rfl, rfl, by decide +kernel⟩
set_option maxRecDepth 100000 in
theorem gCode_132 : gCode 132 := ⟨by decide +kernel, rfl, rfl, by decide +kernel⟩
set_option maxRecDepth 100000 in
theorem gCode_133 : gCode 133 := ⟨by decide +kernel, rfl, rfl, by decide +kernel⟩
set_option maxRecDepth 100000 in
theorem gCode_134 : gCode 134 := ⟨by decide +kernel, rfl, rfl, by decide +kernel⟩
set_option maxRecDepth 100000 in
theorem gCode_135 : gCode 135 := ⟨by decide +kernel, rfl, rfl, by decide +kernel⟩
set_option maxRecDepth 100000 in
theorem gCode_136 : gCode 136 := ⟨by decide +kernel, rfl, rfl, by decide +kernel⟩
set_option maxRecDepth 100000 in
theorem gCode_137 : gCode 137 := ⟨by decide +kernel, rfl, rfl, by decide +kernel⟩
set_option maxRecDepth 100000 in
theorem gCode_138 : gCode 138 := ⟨by decide +kernel, rfl, rfl, by decide +kernel⟩
set_option maxRecDepth 100000 in
theorem gCode_139 : gCode 139 := ⟨by decide +kernel, rfl, rfl, by decide +kernel⟩
set_option maxRecDepth 100000 in
theorem gCode_140 : gCode 140 := ⟨by decide +kernel, rfl, rfl, by decide +kernel⟩
set_option maxRecDepth 100000 in
theorem gCode_141 : gCode 141 := ⟨by decide +kernel, rfl, rfl, by decide +kernel⟩
set_option maxRecDepth 100000 in
theorem gCode_142 : gCode 142 := ⟨by decide +kernel, rfl, rfl, by decide +kernel⟩
set_option maxRecDepth 100000 in
theorem gCode_143 : gCode 143 := ⟨by decide +kernel, rfl, rfl, by decide +kernel⟩
set_option maxRecDepth 100000 in
theorem gCode_144 : gCode 144 := ⟨by decide +kernel, rfl, rfl, by decide +kernel⟩
set_option maxRecDepth 100000 in
theorem gCode_145 : gCode 145 := ⟨by decide +kernel, rfl, rfl, by decide +kernel⟩
set_option maxRecDepth 100000 in
theorem gCode_146 : gCode 146 := ⟨by decide +kernel, rfl, rfl, by decide +kernel⟩
set_option maxRecDepth 100000 in
theorem gCode_147 : gCode 147 := ⟨by decide +kernel, rfl, rfl, by decide +kernel⟩
set_option maxRecDepth 100000 in
theorem gCode_148 : gCode 148 := ⟨by decide +kernel, rfl, rfl, by decide +kernel⟩
set_option maxRecDepth 100000 in
theorem gCode_149 : gCode 149 := ⟨by decide +kernel, rfl, rfl, by decide +kernel⟩
set_option maxRecDepth 100000 in
theorem gCode_150 : gCode 150 := ⟨by decide +kernel, rfl, rfl, by decide +kernel⟩
set_option maxRecDepth 100000 in
theorem gCode_151 : gCode 151 := ⟨by decide +kernel, rfl, rfl, by decide +kernel⟩
set_option maxRecDepth 100000 in
theorem gCode_152 : gCode 152 := ⟨by decide +kernel, rfl, rfl, by decide +kernel⟩
set_option maxRecDepth 100000 in
theorem gCode_153 : gCode 153 := ⟨by decide +kernel, rfl, rfl, by decide +kernel⟩
set_option maxRecDepth 100000 in
theorem gCode_154 : gCode 154 := ⟨by decide +kernel, rfl, rfl, by decide +kernel⟩
set_option maxRecDepth 100000 in
theorem gCode_155 : gCode 155 := ⟨by decide +kernel, rfl, rfl, by decide +kernel⟩
set_option maxRecDepth 100000 in
theorem gCode_156 : gCode 156 := ⟨by decide +kernel, rfl, rfl, by decide +kernel⟩
set_option maxRecDepth 100000 in
theorem gCode_157 : gCode 157 := ⟨by decide +kernel, rfl, rfl, by decide +kernel⟩
set_option maxRecDepth 100000 in
theorem gCode_158 : gCode 158 := ⟨by decide +kernel, rfl, rfl, by decide +kernel⟩
set_option maxRecDepth 100000 in
theorem gCode_159 : gCode 159 := ⟨by decide +kernel, rfl, rfl, by decide +kernel⟩
set_option maxRecDepth 100000 in
theorem gCode_160 : gCode 160 := ⟨by decide +kernel, rfl, rfl, by decide +kernel⟩
set_option maxRecDepth 100000 in
theorem gCode_161 : gCode 161 := ⟨by decide +kernel, rfl, rfl, by decide +kernel⟩
set_option maxRecDepth 100000 in
theorem gCode_162 : gCode 162 := ⟨by decide +kernel, rfl, rfl, by decide +kernel⟩
set_option maxRecDepth 100000 in
theorem gCode_163 : gCode 163 := ⟨by decide +kernel, rfl, rfl, by decide +kernel⟩
set_option maxRecDepth 100000 in
theorem gCode_164 : gCode 164 := ⟨by decide +kernel, rfl, rfl, by decide +kernel⟩
set_option maxRecDepth 100000 in
theorem gCode_165 : gCode 165 := ⟨by decide +kernel, rfl, rfl, by decide +kernel⟩
set_option maxRecDepth 100000 in
theorem gCode_166 : gCode 166 := ⟨by decide +kernel, rfl, rfl, by decide +kernel⟩
set_option maxRecDepth 100000 in
theorem gCode_167 : gCode 167 := ⟨by decide +kernel, rfl, rfl, by decide +kernel⟩
set_option maxRecDepth 100000 in
theorem gCode_168 : gCode 168 := ⟨by decide +kernel, rfl, rfl, by decide +kernel⟩
set_option maxRecDepth 100000 in
theorem gCode_169 : gCode 169 := ⟨by decide +kernel, rfl, rfl, by decide +kernel⟩
set_option maxRecDepth 100000 in
theorem gCode_170 : gCode 170 := ⟨by decide +kernel, rfl, rfl, by decide +kernel⟩
set_option maxRecDepth 100000 in
theorem gCode_171 : gCode 171 := ⟨by decide +kernel, rfl, rfl, by decide +kernel⟩
set_option maxRecDepth 100000 in
theorem gCode_172 : gCode 172 := ⟨by decide +kernel, rfl, rfl, by decide +kernel⟩
set_option maxRecDepth 100000 in
theorem gCode_173 : gCode 173 := ⟨by decide +kernel, rfl, rfl, by decide +kernel⟩
set_option maxRecDepth 100000 in
theorem gCode_174 : gCode 174 := ⟨by decide +kernel, rfl, rfl, by decide +kernel⟩
set_option maxRecDepth 100000 in
theorem gCode_175 : gCode 175 := ⟨by decide +kernel, rfl, rfl, by decide +kernel⟩
set_option maxRecDepth 100000 in
theorem gCode_176 : gCode 176 := ⟨by decide +kernel, rfl, rfl, by decide +kernel⟩
set_option maxRecDepth 100000 in
theorem gCode_177 : gCode 177 := ⟨by decide +kernel, rfl, rfl, by decide +kernel⟩
set_option maxRecDepth 100000 in
theorem gCode_178 : gCode 178 := ⟨by decide +kernel, rfl, rfl, by decide +kernel⟩
set_option maxRecDepth 100000 in
theorem gCode_179 : gCode 179 := ⟨by decide +kernel, rfl, rfl, by decide +kernel⟩
set_option maxRecDepth 100000 in
theorem gCode_180 : gCode 180 := ⟨by decide +kernel, rfl, rfl, by decide +kernel⟩
set_option maxRecDepth 100000 in
theorem gCode_181 : gCode 181 := ⟨by decide +kernel, rfl, rfl, by decide +kernel⟩
set_option maxRecDepth 100000 in
theorem gCode_182 : gCode 182 := ⟨by decide +kernel, rfl, rfl, by decide +kernel⟩
set_option maxRecDepth 100000 in
theorem gCode_183 : gCode 183 := ⟨by decide +kernel, rfl, rfl, by decide +kernel⟩
set_option maxRecDepth 100000 in
theorem gCode_184 : gCode 184 := ⟨by decide +kernel, rfl, rfl, by decide +kernel⟩
set_option maxRecDepth 100000 in
theorem gCode_185 : gCode 185 := ⟨by decide +kernel, rfl, rfl, by decide +kernel⟩
set_option maxRecDepth 100000 in
theorem gCode_186 : gCode 186 := ⟨by decide +kernel, rfl, rfl, by decide +kernel⟩
set_option maxRecDepth 100000 in
theorem gCode_187 : gCode 187 := ⟨by decide +kernel, rfl, rfl, by decide +kernel⟩
set_option maxRecDepth 100000 in
theorem gCode_188 : gCode 188 := ⟨by decide +kernel, rfl, rfl, by decide +kernel⟩
set_option maxRecDepth 100000 in
theorem gCode_189 : gCode 189 := ⟨by decide +kernel, rfl, rfl, by decide +kernel⟩
set_option maxRecDepth 100000 in
theorem gCode_190 : gCode 190 := ⟨by decide +kernel, rfl, rfl, by decide +kernel⟩
set_option maxRecDepth 100000 in
theorem gCode_191 : gCode 191 := ⟨by decide +kernel, rfl, rfl, by decide +kernel⟩
set_option maxRecDepth 100000 in
theorem gCode_192 : gCode 192 := ⟨by decide +kernel, rfl, rfl, by decide +kernel⟩
set_option maxRecDepth 100000 in
theorem gCode_193 : gCode 193 := ⟨by decide +kernel, rfl, rfl, by decide +kernel⟩
set_option maxRecDepth 100000 in
theorem gCode_194 : gCode 194 := ⟨by decide +kernel, rfl, rfl, by decide +kernel⟩
set_option maxRecDepth 100000 in
theorem gCode_195 : gCode 195 := ⟨by decide +kernel, rfl, rfl, by decide +kernel⟩
set_option maxRecDepth 100000 in
theorem gCode_196 : gCode 196 := ⟨by decide +kernel, rfl, rfl, by decide +kernel⟩
set_option maxRecDepth 100000 in
theorem gCode_197 : gCode 197 := ⟨by decide +kernel, rfl, rfl, by decide +kernel⟩
set_option maxRecDepth 100000 in
theorem gCode_198 : gCode 198 := ⟨by decide +kernel, rfl, rfl, by decide +kernel⟩
set_option maxRecDepth 100000 in
theorem gCode_199 : gCode 199 := ⟨by decide +kernel, rfl, rfl, by decide +kernel⟩
set_option maxRecDepth 100000 in
theorem gCode_200 : gCode 200 := ⟨by decide +kernel, rfl, rfl, by decide +kernel⟩
set_option maxRecDepth 100000 in
theorem gCode_201 : gCode 201 := ⟨by decide +kernel, rfl, rfl, by decide +kernel⟩
set_option maxRecDepth 100000 in
theorem gCode_202 : gCode 202 := ⟨by decide +kernel, rfl, rfl, by decide +kernel⟩
set_option maxRecDepth 100000 in
theorem gCode_203 : gCode 203 := ⟨by decide +kernel, rfl, rfl, by decide +kernel⟩
set_option maxRecDepth 100000 in
theorem gCode_204 : gCode 204 := ⟨by decide +kernel, rfl, rfl, by decide +kernel⟩
set_option maxRecDepth 100000 in
theorem gCode_205 : gCode 205 := ⟨by decide +kernel, rfl, rfl, by decide +kernel⟩
set_option maxRecDepth 100000 in
theorem gCode_206 : gCode 206 := ⟨by decide +kernel, rfl, rfl, by decide +kernel⟩
set_option maxRecDepth 100000 in
theorem gCode_207 : gCode 207 := ⟨by decide +kernel, rfl, rfl, by decide +kernel⟩
set_option maxRecDepth 100000 in
theorem gCode_208 : gCode 208 := ⟨by decide +kernel, rfl, rfl, by decide +kernel⟩
set_option maxRecDepth 100000 in
theorem gCode_209 : gCode 209 := ⟨by decide +kernel, rfl, rfl, by decide +kernel⟩
set_option maxRecDepth 100000 in
theorem gCode_210 : gCode 210 := ⟨by decide +kernel, rfl, rfl, by decide +kernel⟩
set_option maxRecDepth 100000 in
theorem gCode_211 : gCode 211 := ⟨by decide +kernel, rfl, rfl, by decide +kernel⟩
set_option maxRecDepth 100000 in
theorem gCode_212 : gCode 212 := ⟨by decide +kernel, rfl, rfl, by decide +kernel⟩
set_option maxRecDepth 100000 in
theorem gCode_213 : gCode 213 := ⟨by decide +kernel, rfl, rfl, by decide +kernel⟩
set_option maxRecDepth 100000 in
theorem gCode_214 : gCode 214 := ⟨by decide +kernel, rfl, rfl, by decide +kernel⟩
set_option maxRecDepth 100000 in
theorem gCode_215 : gCode 215 := ⟨by decide +kernel, rfl, rfl, by decide +kernel⟩
set_option maxRecDepth 100000 in
theorem gCode_216 : gCode 216 := ⟨by decide +kernel, rfl, rfl, by decide +kernel⟩
set_option maxRecDepth 100000 in
theorem gCode_217 : gCode 217 := ⟨by decide +kernel, rfl, rfl, by decide +kernel⟩
set_option maxRecDepth 100000 in
theorem gCode_218 : gCode 218 := ⟨by decide +kernel, rfl, rfl, by decide +kernel⟩
set_option maxRecDepth 100000 in
theorem gCode_219 : gCode 219 := ⟨by decide +kernel, rfl, rfl, by decide +kernel⟩
set_option maxRecDepth 100000 in
theorem gCode_220 : gCode 220 := ⟨by decide +kernel, rfl, rfl, by decide +kernel⟩
set_option maxRecDepth 100000 in
theorem gCode_221 : gCode 221 := ⟨by decide +kernel, rfl, rfl, by decide +kernel⟩
set_option maxRecDepth 100000 in
theorem gCode_222 : gCode 222 := ⟨by decide +kernel, rfl, rfl, by decide +kernel⟩
set_option maxRecDepth 100000 in
theorem gCode_223 : gCode 223 := ⟨by decide +kernel, rfl, rfl, by decide +kernel⟩
set_option maxRecDepth 100000 in
theorem gCode_224 : gCode 224 := ⟨by decide +kernel, rfl, rfl, by decide +kernel⟩
set_option maxRecDepth 100000 in
theorem gCode_225 : gCode 225 := ⟨by decide +kernel, rfl, rfl, by decide +kernel⟩
set_option maxRecDepth 100000 in
theorem gCode_226 : gCode 226 := ⟨by decide +kernel, rfl, rfl, by decide +kernel⟩
set_option maxRecDepth 100000 in
theorem gCode_227 : gCode 227 := ⟨by decide +kernel, rfl, rfl, by decide +kernel⟩
set_option maxRecDepth 100000 in
theorem gCode_228 : gCode 228 := ⟨by decide +kernel, rfl, rfl, by decide +kernel⟩
set_option maxRecDepth 100000 in
theorem gCode_229 : gCode 229 := ⟨by decide +kernel, rfl, rfl, by decide +kernel⟩
set_option maxRecDepth 100000 in
theorem gCode_230 : gCode 230 := ⟨by decide +kernel, rfl, rfl, by decide +kernel⟩
set_option maxRecDepth 100000 in
theorem gCode_231 : gCode 231 := ⟨by decide +kernel, rfl, rfl, by decide +kernel⟩
set_option maxRecDepth 100000 in
theorem gCode_232 : gCode 232 := ⟨by decide +kernel, rfl, rfl, by decide +kernel⟩
set_option maxRecDepth 100000 in
theorem gCode_233 : gCode 233 := ⟨by decide +kernel, rfl, rfl, by decide +kernel⟩
set_option maxRecDepth 100000 in
theorem gCode_234 : gCode 234 := ⟨by decide +kernel, rfl, rfl, by decide +kernel⟩
set_option maxRecDepth 100000 in
theorem gCode_235 : gCode 235 := ⟨by decide +kernel, rfl, rfl, by decide +kernel⟩
set_option maxRecDepth 100000 in
theorem gCode_236 : gCode 236 := ⟨by decide +kernel, rfl, rfl, by decide +kernel⟩
set_option maxRecDepth 100000 in
theorem gCode_237 : gCode 237 := ⟨by decide +kernel, rfl, rfl, by decide +kernel⟩
set_option maxRecDepth 100000 in
theorem gCode_238 : gCode 238 := ⟨by decide +kernel, rfl, rfl, by decide +kernel⟩
set_option maxRecDepth 100000 in
theorem gCode_239 : gCode 239 := ⟨by decide +kernel, rfl, rfl, by decide +kernel⟩
set_option maxRecDepth 100000 in
theorem gCode_240 : gCode 240 := ⟨by decide +kernel, rfl, rfl, by decide +kernel⟩
set_option maxRecDepth 100000 in
theorem gCode_241 : gCode 241 := ⟨by decide +kernel, rfl, rfl, by decide +kernel⟩
set_option maxRecDepth 100000 in
theorem gCode_242 : gCode 242 := ⟨by decide +kernel, rfl, rfl, by decide +kernel⟩
set_option maxRecDepth 100000 in
theorem gCode_243 : gCode 243 := ⟨by decide +kernel, rfl, rfl, by decide +kernel⟩
set_option maxRecDepth 100000 in
theorem gCode_244 : gCode 244 := ⟨by decide +kernel, rfl, rfl, by decide +kernel⟩
set_option maxRecDepth 100000 in
theorem gCode_245 : gCode 245 := ⟨by decide +kernel, rfl, rfl, by decide +kernel⟩
set_option maxRecDepth 100000 in
theorem gCode_246 : gCode 246 := ⟨by decide +kernel, rfl, rfl, by decide +kernel⟩
set_option maxRecDepth 100000 in
theorem gCode_247 : gCode 247 := ⟨by decide +kernel, rfl, rfl, by decide +kernel⟩
set_option maxRecDepth 100000 in
theorem gCode_248 : gCode 248 := ⟨by decide +kernel, rfl, rfl, by decide +kernel⟩
set_option maxRecDepth 100000 in
theorem gCode_249 : gCode 249 := ⟨by decide +kernel, rfl, rfl, by decide +kernel⟩
set_option maxRecDepth 100000 in
theorem gCode_250 : gCode 250 := ⟨by decide +kernel, rfl, rfl, by decide +kernel⟩
set_option maxRecDepth 100000 in
theorem gCode_251 : gCode 251 := ⟨by decide +kernel, rfl, rfl, by decide +kernel⟩
set_option maxRecDepth 100000 in
theorem gCode_252 : gCode 252 := ⟨by decide +kernel, rfl, rfl, by decide +kernel⟩
set_option maxRecDepth 100000 in
theorem gCode_253 : gCode 253 := ⟨by decide +kernel, rfl, rfl, by decide +kernel⟩
set_option maxRecDepth 100000 in
theorem gCode_254 : gCode 254 := ⟨by decide +kernel, rfl, rfl, by decide +kernel⟩
set_option maxRecDepth 100000 in
theorem gCode_255 : gCode 255 := ⟨by decide +kernel, rfl, rfl, by decide +kernel⟩
set_option maxRecDepth 100000 in
theorem gCode_256 : gCode 256 := ⟨by decide +kernel, rfl, rfl, by decide +kernel⟩
set_option maxRecDepth 100000 in
theorem gCode_257 : gCode 257 := ⟨by decide +kernel, rfl, rfl, by decide +kernel⟩
set_option maxRecDepth 100000 in
theorem gCode_258 : gCode 258 := ⟨by decide +kernel, rfl, rfl, by decide +kernel⟩
set_option maxRecDepth 100000 in
theorem gCode_259 : gCode 259 := ⟨by decide +kernel, rfl, rfl, by decide +kernel⟩
set_option maxRecDepth 100000 in
theorem gCode_260 : gCode 260 := ⟨by decide +kernel, rfl, rfl, by decide +kernel⟩
set_option maxRecDepth 100000 in
theorem gCode_261 : gCode 261 := ⟨by decide +kernel, rfl, rfl, by decide +kernel⟩
set_option maxRecDepth 100000 in
theorem gCode_262 : gCode 262 := ⟨by decide +kernel, rfl, rfl, by decide +kernel⟩
set_option maxRecDepth 100000 in
theorem gCode_263 : gCode 263 := ⟨by decide +kernel, rfl, rfl, by decide +kernel⟩
set_option maxRecDepth 100000 in
theorem gCode_264 : gCode 264 := ⟨by decide +kernel, rfl, rfl, by decide +kernel⟩
set_option maxRecDepth 100000 in
theorem gCode_265 : gCode 265 := ⟨by decide +kernel, rfl, rfl, by decide +kernel⟩
set_option maxRecDepth 100000 in
theorem gCode_266 : gCode 266 := ⟨by decide +kernel, rfl, rfl, by decide +kernel⟩
set_option maxRecDepth 100000 in
theorem gCode_267 : gCode 267 := ⟨by decide +kernel, rfl, rfl, by decide +kernel⟩
set_option maxRecDepth 100000 in
theorem gCode_268 : gCode 268 := ⟨by decide +kernel, rfl, rfl, by decide +kernel⟩
set_option maxRecDepth 100000 in
theorem gCode_269 : gCode 269 := ⟨by decide +kernel, rfl, rfl, by decide +kernel⟩
set_option maxRecDepth 100000 in
theorem gCode_270 : gCode 270 := ⟨by decide +kernel, rfl, rfl, by decide +kernel⟩
set_option maxRecDepth 100000 in
theorem gCode_271 : gCode 271 := ⟨by decide +kernel, rfl, rfl, by decide +kernel⟩
set_option maxRecDepth 100000 in
theorem gCode_272 : gCode 272 := ⟨by decide +kernel, rfl, rfl, by decide +kernel⟩
set_option maxRecDepth 100000 in
theorem gCode_273 : gCode 273 := ⟨by decide +kernel, rfl, rfl, by decide +kernel⟩
set_option maxRecDepth 100000 in
theorem gCode_274 : gCode 274 := ⟨by decide +kernel, rfl, rfl, by decide +kernel⟩
set_option maxRecDepth 100000 in
theorem gCode_275 : gCode 275 := ⟨by decide +kernel, rfl, rfl, by decide +kernel⟩
set_option maxRecDepth 100000 in
theorem gCode_276 : gCode 276 := ⟨by decide +kernel, rfl, rfl, by decide +kernel⟩
set_option maxRecDepth 100000 in
theorem gCode_277 : gCode 277 := ⟨by decide +kernel, rfl, rfl, by decide +kernel⟩
set_option maxRecDepth 100000 in
theorem gCode_278 : gCode 278 := ⟨by decide +kernel, rfl, rfl, by decide +kernel⟩
set_option maxRecDepth 100000 in
theorem gCode_279 : gCode 279 := ⟨by decide +kernel, rfl, rfl, by decide +kernel⟩
set_option maxRecDepth 100000 in
theorem gCode_280 : gCode 280 := ⟨by decide +kernel, rfl, rfl, by decide +kernel⟩
theorem gCodeb_0 : ∀ m, 0 ≤ m → m < 16 → gCode m := fun m h1 h2 => by
  rcases (show m = 0 ∨ m = 1 ∨ m = 2 ∨ m = 3 ∨ m = 4 ∨ m = 5 ∨ m = 6 ∨ m = 7 ∨ m = 8 ∨ m = 9 ∨ m = 10 ∨ m = 11 ∨ m = 12 ∨ m = 13 ∨ m = 14 ∨ m = 15 by omega) with rfl | rfl | rfl | rfl | rfl | rfl | rfl | rfl | rfl | rfl | rfl | rfl | rfl | rfl | rfl | rfl
  · exact gCode_0
  · exact gCode_1
  · exact gCode_2
  · exact gCode_3
  · exact gCode_4
  · exact gCode_5
  · exact gCode_6
  · exact gCode_7
  · exact gCode_8
  · exact gCode_9
  · exact gCode_10
  · exact gCode_11
  · exact gCode_12
  · exact gCode_13
  · exact gCode_14
  · exact gCode_15
theorem gCodeb_1 : ∀ m, 16 ≤ m → m < 32 → gCode m := fun m h1 h2 => by
  rcases (show m = 16 ∨ m = 17 ∨ m = 18 ∨ m = 19 ∨ m = 20 ∨ m = 21 ∨ m = 22 ∨ m = 23 ∨ m = 24 ∨ m = 25 ∨ m = 26 ∨ m = 27 ∨ m = 28 ∨ m = 29 ∨ m = 30 ∨ m = 31 by omega) with rfl | rfl | rfl | rfl | rfl | rfl | rfl | rfl | rfl | rfl | rfl | rfl | rfl | rfl | rfl | rfl
  · exact gCode_16
  · exact gCode_17
  · exact gCode_18
  · exact gCode_19
  · exact gCode_20
  · exact gCode_21
  · exact gCode_22
  · exact gCode_23
  · exact gCode_24
  · exact gCode_25
  · exact gCode_26
  · exact gCode_27
  · exact gCode_28
  · exact gCode_29
  · exact gCode_30
  · exact gCode_31
theorem gCodeb_2 : ∀ m, 32 ≤ m → m < 48 → gCode m := fun m h1 h2 => by
  rcases (show m = 32 ∨ m = 33 ∨ m = 34 ∨ m = 35 ∨ m = 36 ∨ m = 37 ∨ m = 38 ∨ m = 39 ∨ m = 40 ∨ m = 41 ∨ m = 42 ∨ m = 43 ∨ m = 44 ∨ m = 45 ∨ m = 46 ∨ m = 47 by omega) with rfl | rfl | rfl | rfl | rfl | rfl | rfl | rfl | rfl | rfl | rfl | rfl | rfl | rfl | rfl | rfl
  · exact gCode_32
  · exact gCode_33
  · exact gCode_34
  · exact gCode_35
  · exact gCode_36
  · exact gCode_37
  · exact gCode_38
  · exact gCode_39
  · exact gCode_40
  · exact gCode_41
  · exact gCode_42
  · exact gCode_43
  · exact gCode_44
  · exact gCode_45
  · exact gCode_46
  · exact gCode_47
theorem gCodeb_3 : ∀ m, 48 ≤ m → m < 64 → gCode m := fun m h1 h2 => by
  rcases (show m = 48 ∨ m = 49 ∨ m = 50 ∨ m = 51 ∨ m = 52 ∨ m = 53 ∨ m = 54 ∨ m = 55 ∨ m = 56 ∨ m = 57 ∨ m = 58 ∨ m = 59 ∨ m = 60 ∨ m = 61 ∨ m = 62 ∨ m = 63 by omega) with rfl | rfl | rfl | rfl | rfl | rfl | rfl | rfl | rfl | rfl | rfl | rfl | rfl | rfl | rfl | rfl
  · exact gCode_48
  · exact gCode_49
  · exact gCode_50
  · exact gCode_51
  · exact gCode_52
  · exact gCode_53
  · exact gCode_54
  · exact gCode_55
  · exact gCode_56
  · exact gCode_57
  · exact gCode_58
  · exact gCode_59
  · exact gCode_60
  · exact gCode_61
  · exact gCode_62
  · exact gCode_63
theorem gCodeb_4 : ∀ m, 64 ≤ m → m < 80 → gCode m := fun m h1 h2 => by
  rcases (show m = 64 ∨ m = 65 ∨ m = 66 ∨ m = 67 ∨ m = 68 ∨ m = 69 ∨ m = 70 ∨ m = 71 ∨ m = 72 ∨ m = 73 ∨ m = 74 ∨ m = 75 ∨ m = 76 ∨ m = 77 ∨ m = 78 ∨ m = 79 by omega) with rfl | rfl | rfl | rfl | rfl | rfl | rfl | rfl | rfl | rfl | rfl | rfl | rfl | rfl | rfl | rfl
  · exact gCode_64
  · exact gCode_65
  · exact gCode_66
  · exact gCode_67
  · exact gCode_68
  · exact gCode_69
  · exact gCode_70
  · exact gCode_71
  · exact gCode_72
  · exact gCode_73
  · exact gCode_74
  · exact gCode_75
  · exact gCode_76
  · exact gCode_77
  · exact gCode_78
  · exact gCode_79
theorem gCodeb_5 : ∀ m, 80 ≤ m → m < 96 → gCode m := fun m h1 h2 => by
  rcases (show m = 80 ∨ m = 81 ∨ m = 82 ∨ m = 83 ∨ m = 84 ∨ m = 85 ∨ m = 86 ∨ m = 87 ∨ m = 88 ∨ m = 89 ∨ m = 90 ∨ m = 91 ∨ m = 92 ∨ m = 93 ∨ m = 94 ∨ m = 95 by omega) with rfl | rfl | rfl | rfl | rfl | rfl | rfl | rfl | rfl | rfl | rfl | rfl | rfl | rfl | rfl | rfl
  · exact gCode_80
  · exact gCode_81
  · exact gCode_82
  · exact gCode_83
  · exact gCode_84
  · exact gCode_85
  · exact gCode_86
  · exact gCode_87
  · exact gCode_88
  · exact gCode_89
  · exact gCode_90
  · exact gCode_91
  · exact gCode_92
  · exact gCode_93
  · exact gCode_94
  · exact gCode_95
theorem gCodeb_6 : ∀ m, 96 ≤ m → m < 112 → gCode m := fun m h1 h2 => by
  rcases (show m = 96 ∨ m = 97 ∨ m = 98 ∨ m = 99 ∨ m = 100 ∨ m = 101 ∨ m = 102 ∨ m = 103 ∨ m = 104 ∨ m = 105 ∨ m = 106 ∨ m = 107 ∨ m = 108 ∨ m = 109 ∨ m = 110 ∨ m = 111 by omega) with rfl | rfl | rfl | rfl | rfl | rfl | rfl | rfl | rfl | rfl | rfl | rfl | rfl | rfl | rfl | rfl
  · exact gCode_96
  · exact gCode_97
  · exact gCode_98
  · exact gCode_99
  · exact gCode_100
  · exact gCode_101
  · exact gCode_102
  · exact gCode_103
  · exact gCode_104
  · exact gCode_105
  · exact gCode_106
  · exact gCode_107
  · exact gCode_108
  · exact gCode_109
  · exact gCode_110
  · exact gCode_111
theorem gCodeb_7 : ∀ m, 112 ≤ m → m < 128 → gCode m := fun m h1 h2 => by
  rcases (show m = 112 ∨ m = 113 ∨ m = 114 ∨ m = 115 ∨ m = 116 ∨ m = 117 ∨ m = 118 ∨ m = 119 ∨ m = 120 ∨ m = 121 ∨ m = 122 ∨ m = 123 ∨ m = 124 ∨ m = 125 ∨ m = 126 ∨ m = 127 by omega) with rfl | rfl | rfl | rfl | rfl | rfl | rfl | rfl | rfl | rfl | rfl | rfl | rfl | rfl | rfl | rfl
  · exact gCode_112
  · exact gCode_113
  · exact gCode_114
  · exact gCode_115
  · exact gCode_116
  · exact gCode_117
  · exact gCode_118
  · exact gCode_119
  · exact gCode_120
  · exact gCode_121
  · exact gCode_122
  · exact gCode_123
  · exact gCode_124
  · exact gCode_125
  · exact gCode_126
  · exact gCode_127
theorem gCodeb_8 : ∀ m, 128 ≤ m → m < 144 → gCode m := fun m h1 h2 => by
  rcases (show m = 128 ∨ m = 129 ∨ m = 130 ∨ m = 131 ∨ m = 132 ∨ m = 133 ∨ m = 134 ∨ m = 135 ∨ m = 136 ∨ m = 137 ∨ m = 138 ∨ m = 139 ∨ m = 140 ∨ m = 141 ∨ m = 142 ∨ m = 143 by omega) with rfl | rfl | rfl | rfl | rfl | rfl | rfl | rfl | rfl | rfl | rfl | rfl | rfl | rfl | rfl | rfl
  · exact gCode_128
  · exact gCode_129
  · exact gCode_130
  · exact gCode_131
  · exact gCode_132
  · exact gCode_133
  · exact gCode_134
  · exact gCode_135
  · exact gCode_136
  · exact gCode_137
  · exact gCode_138
  · exact gCode_139
  · exact gCode_140
  · exact gCode_141
  · exact gCode_142
  · exact gCode_143
theorem gCodeb_9 : ∀ m, 144 ≤ m → m < 160 → gCode m := fun m h1 h2 => by
  rcases (show m = 144 ∨ m = 145 ∨ m = 146 ∨ m = 147 ∨ m = 148 ∨ m = 149 ∨ m = 150 ∨ m = 151 ∨ m = 152 ∨ m = 153 ∨ m = 154 ∨ m = 155 ∨ m = 156 ∨ m = 157 ∨ m = 158 ∨ m = 159 by omega) with rfl | rfl | rfl | rfl | rfl | rfl | rfl | rfl | rfl | rfl | rfl | rfl | rfl | rfl | rfl | rfl
  · exact gCode_144
  · exact gCode_145
  · exact gCode_146
  · exact gCode_147
  · exact gCode_148
  · exact gCode_149
  · exact gCode_150
  · exact gCode_151
  · exact gCode_152
  · exact gCode_153
  · exact gCode_154
  · exact gCode_155
  · exact gCode_156
  · exact gCode_157
  · exact gCode_158
  · exact gCode_159
theorem gCodeb_10 : ∀ m, 160 ≤ m → m < 176 → gCode m := fun m h1 h2 => by
  rcases (show m = 160 ∨ m = 161 ∨ m = 162 ∨ m = 163 ∨ m = 164 ∨ m = 165 ∨ m = 166 ∨ m = 167 ∨ m = 168 ∨ m = 169 ∨ m = 170 ∨ m = 171 ∨ m = 172 ∨ m = 173 ∨ m = 174 ∨ m = 175 by omega) with rfl | rfl | rfl | rfl | rfl | rfl | rfl | rfl | rfl | rfl | rfl | rfl | rfl | rfl | rfl | rfl
  · exact gCode_160
  · exact gCode_161
  · exact gCode_162
  · exact gCode_163
  · exact gCode_164
  · exact gCode_165
  · exact gCode_166
  · exact gCode_167
  · exact gCode_168
  · exact gCode_169
  · exact gCode_170
  · exact gCode_171
  · exact gCode_172
  · exact gCode_173
  · exact gCode_174
  · exact gCode_175
theorem gCodeb_11 : ∀ m, 176 ≤ m → m < 192 → gCode m := fun m h1 h2 => by
  rcases (show m = 176 ∨ m = 177 ∨ m = 178 ∨ m = 179 ∨ m = 180 ∨ m = 181 ∨ m = 182 ∨ m = 183 ∨ m = 184 ∨ m = 185 ∨ m = 186 ∨ m = 187 ∨ m = 188 ∨ m = 189 ∨ m = 190 ∨ m = 191 by omega) with rfl | rfl | rfl | rfl | rfl | rfl | rfl | rfl | rfl | rfl | rfl | rfl | rfl | rfl | rfl | rfl
  · exact gCode_176
  · exact gCode_177
  · exact gCode_178
  · exact gCode_179
  · exact gCode_180
  · exact gCode_181
  · exact gCode_182
  · exact gCode_183
  · exact gCode_184
  · exact gCode_185
  · exact gCode_186
  · exact gCode_187
  · exact gCode_188
  · exact gCode_189
  · exact gCode_190
  · exact gCode_191
theorem gCodeb_12 : ∀ m, 192 ≤ m → m < 208 → gCode m := fun m h1 h2 => by
  rcases (show m = 192 ∨ m = 193 ∨ m = 194 ∨ m = 195 ∨ m = 196 ∨ m = 197 ∨ m = 198 ∨ m = 199 ∨ m = 200 ∨ m = 201 ∨ m = 202 ∨ m = 203 ∨ m = 204 ∨ m = 205 ∨ m = 206 ∨ m = 207 by omega) with rfl | rfl | rfl | rfl | rfl | rfl | rfl | rfl | rfl | rfl | rfl | rfl | rfl | rfl | rfl | rfl
  · exact gCode_192
  · exact gCode_193
  · exact gCode_194
  · exact gCode_195
  · exact gCode_196
  · exact gCode_197
  · exact gCode_198
  · exact gCode_199
  · exact gCode_200
  · exact gCode_201
  · exact gCode_202
  · exact gCode_203
  · exact gCode_204
  · exact gCode_205
  · exact gCode_206
  · exact gCode_207
theorem gCodeb_13 : ∀ m, 208 ≤ m → m < 224 → gCode m := fun m h1 h2 => by
  rcases (show m = 208 ∨ m = 209 ∨ m = 210 ∨ m = 211 ∨ m = 212 ∨ m = 213 ∨ m = 214 ∨ m = 215 ∨ m = 216 ∨ m = 217 ∨ m = 218 ∨ m = 219 ∨ m = 220 ∨ m = 221 ∨ m = 222 ∨ m = 223 by omega) with rfl | rfl | rfl | rfl | rfl | rfl | rfl | rfl | rfl | rfl | rfl | rfl | rfl | rfl | rfl | rfl
  · exact gCode_208
  · exact gCode_209
  · exact gCode_210
  · exact gCode_211
  · exact gCode_212
  · exact gCode_213
  · exact gCode_214
  · exact gCode_215
  · exact gCode_216
  · exact gCode_217
  · exact gCode_218
  · exact gCode_219
  · exact gCode_220
  · exact gCode_221
  · exact gCode_222
  · exact gCode_223
theorem gCodeb_14 : ∀ m, 224 ≤ m → m < 240 → gCode m := fun m h1 h2 => by
  rcases (show m = 224 ∨ m = 225 ∨ m = 226 ∨ m = 227 ∨ m = 228 ∨ m = 229 ∨ m = 230 ∨ m = 231 ∨ m = 232 ∨ m = 233 ∨ m = 234 ∨ m = 235 ∨ m = 236 ∨ m = 237 ∨ m = 238 ∨ m = 239 by omega) with rfl | rfl | rfl | rfl | rfl | rfl | rfl | rfl | rfl | rfl | rfl | rfl | rfl | rfl | rfl | rfl
  · exact gCode_224
  · exact gCode_225
  · exact gCode_226
  · exact gCode_227
  · exact gCode_228
  · exact gCode_229
  · exact gCode_230
  · exact gCode_231
  · exact gCode_232
  · exact gCode_233
  · exact gCode_234
  · exact gCode_235
  · exact gCode_236
  · exact gCode_237
  · exact gCode_238
  · exact gCode_239
theorem gCodeb_15 : ∀ m, 240 ≤ m → m < 256 → gCode m := fun m h1 h2 => by
  rcases (show m = 240 ∨ m = 241 ∨ m = 242 ∨ m = 243 ∨ m = 244 ∨ m = 245 ∨ m = 246 ∨ m = 247 ∨ m = 248 ∨ m = 249 ∨ m = 250 ∨ m = 251 ∨ m = 252 ∨ m = 253 ∨ m = 254 ∨ m = 255 by omega) with rfl | rfl | rfl | rfl | rfl | rfl | rfl | rfl | rfl | rfl | rfl | rfl | rfl | rfl | rfl | rfl
  · exact gCode_240
  · exact gCode_241
  · exact gCode_242
  · exact gCode_243
  · exact gCode_244
  · exact gCode_245
  · exact gCode_246
  · exact gCode_247
  · exact gCode_248
  · exact gCode_249
  · exact gCode_250
  · exact gCode_251
  · exact gCode_252
  · exact gCode_253
  · exact gCode_254
  · exact gCode_255
theorem gCodeb_16 : ∀ m, 256 ≤ m → m < 272 → gCode m := fun m h1 h2 => by
  rcases (show m = 256 ∨ m = 257 ∨ m = 258 ∨ m = 259 ∨ m = 260 ∨ m = 261 ∨ m = 262 ∨ m = 263 ∨ m = 264 ∨ m = 265 ∨ m = 266 ∨ m = 267 ∨ m = 268 ∨ m = 269 ∨ m = 270 ∨ m = 271 by omega) with rfl | rfl | rfl | rfl | rfl | rfl | rfl | rfl | rfl | rfl | rfl | rfl | rfl | rfl | rfl | rfl
  · exact gCode_256
  · exact gCode_257
  · exact gCode_258
  · exact gCode_259
  · exact gCode_260
  · exact gCode_261
  · exact gCode_262
  · exact gCode_263
  · exact gCode_264
  · exact gCode_265
  · exact gCode_266
  · exact gCode_267
  · exact gCode_268
  · exact gCode_269
  · exact gCode_270
  · exact gCode_271
theorem gCodeb_17 : ∀ m, 272 ≤ m → m < 281 → gCode m := fun m h1 h2 => by
  rcases (show m = 272 ∨ m = 273 ∨ m = 274 ∨ m = 275 ∨ m = 276 ∨ m = 277 ∨ m = 278 ∨ m = 279 ∨ m = 280 by omega) with rfl | rfl | rfl | rfl | rfl | rfl | rfl | rfl | rfl
  · exact gCode_272
  · exact gCode_273
  · exact gCode_274
  · exact gCode_275
  · exact gCode_276
  · exact gCode_277
  · exact gCode_278
  · exact gCode_279
  · exact gCode_280
theorem gCode_all : ∀ m, m < gNM → gCode m := fun m h => by
  have h : m < 281 := h
  by_cases h0 : m < 16
  · exact gCodeb_0 m (by omega) h0
  by_cases h1 : m < 32
  · exact gCodeb_1 m (by omega) h1
  by_cases h2 : m < 48
  · exact gCodeb_2 m (by omega) h2
  by_cases h3 : m < 64
  · exact gCodeb_3 m (by omega) h3
  by_cases h4 : m < 80
  · exact gCodeb_4 m (by omega) h4
  by_cases h5 : m < 96
  · exact gCodeb_5 m (by omega) h5
  by_cases h6 : m < 112
  · exact gCodeb_6 m (by omega) h6
  by_cases h7 : m < 128
  · exact gCodeb_7 m (by omega) h7
  by_cases h8 : m < 144
  · exact gCodeb_8 m (by omega) h8
  by_cases h9 : m < 160
  · exact gCodeb_9 m (by omega) h9
  by_cases h10 : m < 176
  · exact gCodeb_10 m (by omega) h10
  by_cases h11 : m < 192
  · exact gCodeb_11 m (by omega) h11
  by_cases h12 : m < 208
  · exact gCodeb_12 m (by omega) h12
  by_cases h13 : m < 224
  · exact gCodeb_13 m (by omega) h13
  by_cases h14 : m < 240
  · exact gCodeb_14 m (by omega) h14
  by_cases h15 : m < 256
  · exact gCodeb_15 m (by omega) h15
  by_cases h16 : m < 272
  · exact gCodeb_16 m (by omega) h16
  exact gCodeb_17 m (by omega) h
