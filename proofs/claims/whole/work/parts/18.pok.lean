/-! THE PROGRAM IS GOOD -/
theorem mL_len : mL.length = 309 := by decide +kernel
theorem mLlt {y : Nat} (h : y < 309) : y < mL.length := by rw [mL_len]; exact h
theorem mka_1 : ∀ y, y < 1 → mMokP (mL.getD y mI0) := lt_s lt_0 mok_0
theorem mka_2 : ∀ y, y < 2 → mMokP (mL.getD y mI0) := lt_s mka_1 mok_1
theorem mka_3 : ∀ y, y < 3 → mMokP (mL.getD y mI0) := lt_s mka_2 mok_2
theorem mka_4 : ∀ y, y < 4 → mMokP (mL.getD y mI0) := lt_s mka_3 mok_3
theorem mka_5 : ∀ y, y < 5 → mMokP (mL.getD y mI0) := lt_s mka_4 mok_4
theorem mka_6 : ∀ y, y < 6 → mMokP (mL.getD y mI0) := lt_s mka_5 mok_5
theorem mka_7 : ∀ y, y < 7 → mMokP (mL.getD y mI0) := lt_s mka_6 mok_6
theorem mka_8 : ∀ y, y < 8 → mMokP (mL.getD y mI0) := lt_s mka_7 mok_7
theorem mka_9 : ∀ y, y < 9 → mMokP (mL.getD y mI0) := lt_s mka_8 mok_8
theorem mka_10 : ∀ y, y < 10 → mMokP (mL.getD y mI0) := lt_s mka_9 mok_9
theorem mka_11 : ∀ y, y < 11 → mMokP (mL.getD y mI0) := lt_s mka_10 mok_10
theorem mka_12 : ∀ y, y < 12 → mMokP (mL.getD y mI0) := lt_s mka_11 mok_11
theorem mka_13 : ∀ y, y < 13 → mMokP (mL.getD y mI0) := lt_s mka_12 mok_12
theorem mka_14 : ∀ y, y < 14 → mMokP (mL.getD y mI0) := lt_s mka_13 mok_13
theorem mka_15 : ∀ y, y < 15 → mMokP (mL.getD y mI0) := lt_s mka_14 mok_14
theorem mka_16 : ∀ y, y < 16 → mMokP (mL.getD y mI0) := lt_s mka_15 mok_15
theorem mka_17 : ∀ y, y < 17 → mMokP (mL.getD y mI0) := lt_s mka_16 mok_16
theorem mka_18 : ∀ y, y < 18 → mMokP (mL.getD y mI0) := lt_s mka_17 mok_17
theorem mka_19 : ∀ y, y < 19 → mMokP (mL.getD y mI0) := lt_s mka_18 mok_18
theorem mka_20 : ∀ y, y < 20 → mMokP (mL.getD y mI0) := lt_s mka_19 mok_19
theorem mka_21 : ∀ y, y < 21 → mMokP (mL.getD y mI0) := lt_s mka_20 mok_20
theorem mka_22 : ∀ y, y < 22 → mMokP (mL.getD y mI0) := lt_s mka_21 mok_21
theorem mka_23 : ∀ y, y < 23 → mMokP (mL.getD y mI0) := lt_s mka_22 mok_22
theorem mka_24 : ∀ y, y < 24 → mMokP (mL.getD y mI0) := lt_s mka_23 mok_23
theorem mka_25 : ∀ y, y < 25 → mMokP (mL.getD y mI0) := lt_s mka_24 mok_24
theorem mka_26 : ∀ y, y < 26 → mMokP (mL.getD y mI0) := lt_s mka_25 mok_25
theorem mka_27 : ∀ y, y < 27 → mMokP (mL.getD y mI0) := lt_s mka_26 mok_26
theorem mka_28 : ∀ y, y < 28 → mMokP (mL.getD y mI0) := lt_s mka_27 mok_27
theorem mka_29 : ∀ y, y < 29 → mMokP (mL.getD y mI0) := lt_s mka_28 mok_28
theorem mka_30 : ∀ y, y < 30 → mMokP (mL.getD y mI0) := lt_s mka_29 mok_29
theorem mka_31 : ∀ y, y < 31 → mMokP (mL.getD y mI0) := lt_s mka_30 mok_30
theorem mka_32 : ∀ y, y < 32 → mMokP (mL.getD y mI0) := lt_s mka_31 mok_31
theorem mka_33 : ∀ y, y < 33 → mMokP (mL.getD y mI0) := lt_s mka_32 mok_32
theorem mka_34 : ∀ y, y < 34 → mMokP (mL.getD y mI0) := lt_s mka_33 mok_33
theorem mka_35 : ∀ y, y < 35 → mMokP (mL.getD y mI0) := lt_s mka_34 mok_34
theorem mka_36 : ∀ y, y < 36 → mMokP (mL.getD y mI0) := lt_s mka_35 mok_35
theorem mka_37 : ∀ y, y < 37 → mMokP (mL.getD y mI0) := lt_s mka_36 mok_36
theorem mka_38 : ∀ y, y < 38 → mMokP (mL.getD y mI0) := lt_s mka_37 mok_37
theorem mka_39 : ∀ y, y < 39 → mMokP (mL.getD y mI0) := lt_s mka_38 mok_38
theorem mka_40 : ∀ y, y < 40 → mMokP (mL.getD y mI0) := lt_s mka_39 mok_39
theorem mka_41 : ∀ y, y < 41 → mMokP (mL.getD y mI0) := lt_s mka_40 mok_40
theorem mka_42 : ∀ y, y < 42 → mMokP (mL.getD y mI0) := lt_s mka_41 mok_41
theorem mka_43 : ∀ y, y < 43 → mMokP (mL.getD y mI0) := lt_s mka_42 mok_42
theorem mka_44 : ∀ y, y < 44 → mMokP (mL.getD y mI0) := lt_s mka_43 mok_43
theorem mka_45 : ∀ y, y < 45 → mMokP (mL.getD y mI0) := lt_s mka_44 mok_44
theorem mka_46 : ∀ y, y < 46 → mMokP (mL.getD y mI0) := lt_s mka_45 mok_45
theorem mka_47 : ∀ y, y < 47 → mMokP (mL.getD y mI0) := lt_s mka_46 mok_46
theorem mka_48 : ∀ y, y < 48 → mMokP (mL.getD y mI0) := lt_s mka_47 mok_47
theorem mka_49 : ∀ y, y < 49 → mMokP (mL.getD y mI0) := lt_s mka_48 mok_48
theorem mka_50 : ∀ y, y < 50 → mMokP (mL.getD y mI0) := lt_s mka_49 mok_49
theorem mka_51 : ∀ y, y < 51 → mMokP (mL.getD y mI0) := lt_s mka_50 mok_50
theorem mka_52 : ∀ y, y < 52 → mMokP (mL.getD y mI0) := lt_s mka_51 mok_51
theorem mka_53 : ∀ y, y < 53 → mMokP (mL.getD y mI0) := lt_s mka_52 mok_52
theorem mka_54 : ∀ y, y < 54 → mMokP (mL.getD y mI0) := lt_s mka_53 mok_53
theorem mka_55 : ∀ y, y < 55 → mMokP (mL.getD y mI0) := lt_s mka_54 mok_54
theorem mka_56 : ∀ y, y < 56 → mMokP (mL.getD y mI0) := lt_s mka_55 mok_55
theorem mka_57 : ∀ y, y < 57 → mMokP (mL.getD y mI0) := lt_s mka_56 mok_56
theorem mka_58 : ∀ y, y < 58 → mMokP (mL.getD y mI0) := lt_s mka_57 mok_57
theorem mka_59 : ∀ y, y < 59 → mMokP (mL.getD y mI0) := lt_s mka_58 mok_58
theorem mka_60 : ∀ y, y < 60 → mMokP (mL.getD y mI0) := lt_s mka_59 mok_59
theorem mka_61 : ∀ y, y < 61 → mMokP (mL.getD y mI0) := lt_s mka_60 mok_60
theorem mka_62 : ∀ y, y < 62 → mMokP (mL.getD y mI0) := lt_s mka_61 mok_61
theorem mka_63 : ∀ y, y < 63 → mMokP (mL.getD y mI0) := lt_s mka_62 mok_62
theorem mka_64 : ∀ y, y < 64 → mMokP (mL.getD y mI0) := lt_s mka_63 mok_63
theorem mka_65 : ∀ y, y < 65 → mMokP (mL.getD y mI0) := lt_s mka_64 mok_64
theorem mka_66 : ∀ y, y < 66 → mMokP (mL.getD y mI0) := lt_s mka_65 mok_65
theorem mka_67 : ∀ y, y < 67 → mMokP (mL.getD y mI0) := lt_s mka_66 mok_66
theorem mka_68 : ∀ y, y < 68 → mMokP (mL.getD y mI0) := lt_s mka_67 mok_67
theorem mka_69 : ∀ y, y < 69 → mMokP (mL.getD y mI0) := lt_s mka_68 mok_68
theorem mka_70 : ∀ y, y < 70 → mMokP (mL.getD y mI0) := lt_s mka_69 mok_69
theorem mka_71 : ∀ y, y < 71 → mMokP (mL.getD y mI0) := lt_s mka_70 mok_70
theorem mka_72 : ∀ y, y < 72 → mMokP (mL.getD y mI0) := lt_s mka_71 mok_71
theorem mka_73 : ∀ y, y < 73 → mMokP (mL.getD y mI0) := lt_s mka_72 mok_72
theorem mka_74 : ∀ y, y < 74 → mMokP (mL.getD y mI0) := lt_s mka_73 mok_73
theorem mka_75 : ∀ y, y < 75 → mMokP (mL.getD y mI0) := lt_s mka_74 mok_74
theorem mka_76 : ∀ y, y < 76 → mMokP (mL.getD y mI0) := lt_s mka_75 mok_75
theorem mka_77 : ∀ y, y < 77 → mMokP (mL.getD y mI0) := lt_s mka_76 mok_76
theorem mka_78 : ∀ y, y < 78 → mMokP (mL.getD y mI0) := lt_s mka_77 mok_77
theorem mka_79 : ∀ y, y < 79 → mMokP (mL.getD y mI0) := lt_s mka_78 mok_78
theorem mka_80 : ∀ y, y < 80 → mMokP (mL.getD y mI0) := lt_s mka_79 mok_79
theorem mka_81 : ∀ y, y < 81 → mMokP (mL.getD y mI0) := lt_s mka_80 mok_80
theorem mka_82 : ∀ y, y < 82 → mMokP (mL.getD y mI0) := lt_s mka_81 mok_81
theorem mka_83 : ∀ y, y < 83 → mMokP (mL.getD y mI0) := lt_s mka_82 mok_82
theorem mka_84 : ∀ y, y < 84 → mMokP (mL.getD y mI0) := lt_s mka_83 mok_83
theorem mka_85 : ∀ y, y < 85 → mMokP (mL.getD y mI0) := lt_s mka_84 mok_84
theorem mka_86 : ∀ y, y < 86 → mMokP (mL.getD y mI0) := lt_s mka_85 mok_85
theorem mka_87 : ∀ y, y < 87 → mMokP (mL.getD y mI0) := lt_s mka_86 mok_86
theorem mka_88 : ∀ y, y < 88 → mMokP (mL.getD y mI0) := lt_s mka_87 mok_87
theorem mka_89 : ∀ y, y < 89 → mMokP (mL.getD y mI0) := lt_s mka_88 mok_88
theorem mka_90 : ∀ y, y < 90 → mMokP (mL.getD y mI0) := lt_s mka_89 mok_89
theorem mka_91 : ∀ y, y < 91 → mMokP (mL.getD y mI0) := lt_s mka_90 mok_90
theorem mka_92 : ∀ y, y < 92 → mMokP (mL.getD y mI0) := lt_s mka_91 mok_91
theorem mka_93 : ∀ y, y < 93 → mMokP (mL.getD y mI0) := lt_s mka_92 mok_92
theorem mka_94 : ∀ y, y < 94 → mMokP (mL.getD y mI0) := lt_s mka_93 mok_93
theorem mka_95 : ∀ y, y < 95 → mMokP (mL.getD y mI0) := lt_s mka_94 mok_94
theorem mka_96 : ∀ y, y < 96 → mMokP (mL.getD y mI0) := lt_s mka_95 mok_95
theorem mka_97 : ∀ y, y < 97 → mMokP (mL.getD y mI0) := lt_s mka_96 mok_96
theorem mka_98 : ∀ y, y < 98 → mMokP (mL.getD y mI0) := lt_s mka_97 mok_97
theorem mka_99 : ∀ y, y < 99 → mMokP (mL.getD y mI0) := lt_s mka_98 mok_98
theorem mka_100 : ∀ y, y < 100 → mMokP (mL.getD y mI0) := lt_s mka_99 mok_99
theorem mka_101 : ∀ y, y < 101 → mMokP (mL.getD y mI0) := lt_s mka_100 mok_100
theorem mka_102 : ∀ y, y < 102 → mMokP (mL.getD y mI0) := lt_s mka_101 mok_101
theorem mka_103 : ∀ y, y < 103 → mMokP (mL.getD y mI0) := lt_s mka_102 mok_102
theorem mka_104 : ∀ y, y < 104 → mMokP (mL.getD y mI0) := lt_s mka_103 mok_103
theorem mka_105 : ∀ y, y < 105 → mMokP (mL.getD y mI0) := lt_s mka_104 mok_104
theorem mka_106 : ∀ y, y < 106 → mMokP (mL.getD y mI0) := lt_s mka_105 mok_105
theorem mka_107 : ∀ y, y < 107 → mMokP (mL.getD y mI0) := lt_s mka_106 mok_106
theorem mka_108 : ∀ y, y < 108 → mMokP (mL.getD y mI0) := lt_s mka_107 mok_107
theorem mka_109 : ∀ y, y < 109 → mMokP (mL.getD y mI0) := lt_s mka_108 mok_108
theorem mka_110 : ∀ y, y < 110 → mMokP (mL.getD y mI0) := lt_s mka_109 mok_109
theorem mka_111 : ∀ y, y < 111 → mMokP (mL.getD y mI0) := lt_s mka_110 mok_110
theorem mka_112 : ∀ y, y < 112 → mMokP (mL.getD y mI0) := lt_s mka_111 mok_111
theorem mka_113 : ∀ y, y < 113 → mMokP (mL.getD y mI0) := lt_s mka_112 mok_112
theorem mka_114 : ∀ y, y < 114 → mMokP (mL.getD y mI0) := lt_s mka_113 mok_113
theorem mka_115 : ∀ y, y < 115 → mMokP (mL.getD y mI0) := lt_s mka_114 mok_114
theorem mka_116 : ∀ y, y < 116 → mMokP (mL.getD y mI0) := lt_s mka_115 mok_115
theorem mka_117 : ∀ y, y < 117 → mMokP (mL.getD y mI0) := lt_s mka_116 mok_116
theorem mka_118 : ∀ y, y < 118 → mMokP (mL.getD y mI0) := lt_s mka_117 mok_117
theorem mka_119 : ∀ y, y < 119 → mMokP (mL.getD y mI0) := lt_s mka_118 mok_118
theorem mka_120 : ∀ y, y < 120 → mMokP (mL.getD y mI0) := lt_s mka_119 mok_119
theorem mka_121 : ∀ y, y < 121 → mMokP (mL.getD y mI0) := lt_s mka_120 mok_120
theorem mka_122 : ∀ y, y < 122 → mMokP (mL.getD y mI0) := lt_s mka_121 mok_121
theorem mka_123 : ∀ y, y < 123 → mMokP (mL.getD y mI0) := lt_s mka_122 mok_122
theorem mka_124 : ∀ y, y < 124 → mMokP (mL.getD y mI0) := lt_s mka_123 mok_123
theorem mka_125 : ∀ y, y < 125 → mMokP (mL.getD y mI0) := lt_s mka_124 mok_124
theorem mka_126 : ∀ y, y < 126 → mMokP (mL.getD y mI0) := lt_s mka_125 mok_125
theorem mka_127 : ∀ y, y < 127 → mMokP (mL.getD y mI0) := lt_s mka_126 mok_126
theorem mka_128 : ∀ y, y < 128 → mMokP (mL.getD y mI0) := lt_s mka_127 mok_127
theorem mka_129 : ∀ y, y < 129 → mMokP (mL.getD y mI0) := lt_s mka_128 mok_128
theorem mka_130 : ∀ y, y < 130 → mMokP (mL.getD y mI0) := lt_s mka_129 mok_129
theorem mka_131 : ∀ y, y < 131 → mMokP (mL.getD y mI0) := lt_s mka_130 mok_130
theorem mka_132 : ∀ y, y < 132 → mMokP (mL.getD y mI0) := lt_s mka_131 mok_131
theorem mka_133 : ∀ y, y < 133 → mMokP (mL.getD y mI0) := lt_s mka_132 mok_132
theorem mka_134 : ∀ y, y < 134 → mMokP (mL.getD y mI0) := lt_s mka_133 mok_133
theorem mka_135 : ∀ y, y < 135 → mMokP (mL.getD y mI0) := lt_s mka_134 mok_134
theorem mka_136 : ∀ y, y < 136 → mMokP (mL.getD y mI0) := lt_s mka_135 mok_135
theorem mka_137 : ∀ y, y < 137 → mMokP (mL.getD y mI0) := lt_s mka_136 mok_136
theorem mka_138 : ∀ y, y < 138 → mMokP (mL.getD y mI0) := lt_s mka_137 mok_137
theorem mka_139 : ∀ y, y < 139 → mMokP (mL.getD y mI0) := lt_s mka_138 mok_138
theorem mka_140 : ∀ y, y < 140 → mMokP (mL.getD y mI0) := lt_s mka_139 mok_139
theorem mka_141 : ∀ y, y < 141 → mMokP (mL.getD y mI0) := lt_s mka_140 mok_140
theorem mka_142 : ∀ y, y < 142 → mMokP (mL.getD y mI0) := lt_s mka_141 mok_141
theorem mka_143 : ∀ y, y < 143 → mMokP (mL.getD y mI0) := lt_s mka_142 mok_142
theorem mka_144 : ∀ y, y < 144 → mMokP (mL.getD y mI0) := lt_s mka_143 mok_143
theorem mka_145 : ∀ y, y < 145 → mMokP (mL.getD y mI0) := lt_s mka_144 mok_144
theorem mka_146 : ∀ y, y < 146 → mMokP (mL.getD y mI0) := lt_s mka_145 mok_145
theorem mka_147 : ∀ y, y < 147 → mMokP (mL.getD y mI0) := lt_s mka_146 mok_146
theorem mka_148 : ∀ y, y < 148 → mMokP (mL.getD y mI0) := lt_s mka_147 mok_147
theorem mka_149 : ∀ y, y < 149 → mMokP (mL.getD y mI0) := lt_s mka_148 mok_148
theorem mka_150 : ∀ y, y < 150 → mMokP (mL.getD y mI0) := lt_s mka_149 mok_149
theorem mka_151 : ∀ y, y < 151 → mMokP (mL.getD y mI0) := lt_s mka_150 mok_150
theorem mka_152 : ∀ y, y < 152 → mMokP (mL.getD y mI0) := lt_s mka_151 mok_151
theorem mka_153 : ∀ y, y < 153 → mMokP (mL.getD y mI0) := lt_s mka_152 mok_152
theorem mka_154 : ∀ y, y < 154 → mMokP (mL.getD y mI0) := lt_s mka_153 mok_153
theorem mka_155 : ∀ y, y < 155 → mMokP (mL.getD y mI0) := lt_s mka_154 mok_154
theorem mka_156 : ∀ y, y < 156 → mMokP (mL.getD y mI0) := lt_s mka_155 mok_155
theorem mka_157 : ∀ y, y < 157 → mMokP (mL.getD y mI0) := lt_s mka_156 mok_156
theorem mka_158 : ∀ y, y < 158 → mMokP (mL.getD y mI0) := lt_s mka_157 mok_157
theorem mka_159 : ∀ y, y < 159 → mMokP (mL.getD y mI0) := lt_s mka_158 mok_158
theorem mka_160 : ∀ y, y < 160 → mMokP (mL.getD y mI0) := lt_s mka_159 mok_159
theorem mka_161 : ∀ y, y < 161 → mMokP (mL.getD y mI0) := lt_s mka_160 mok_160
theorem mka_162 : ∀ y, y < 162 → mMokP (mL.getD y mI0) := lt_s mka_161 mok_161
theorem mka_163 : ∀ y, y < 163 → mMokP (mL.getD y mI0) := lt_s mka_162 mok_162
theorem mka_164 : ∀ y, y < 164 → mMokP (mL.getD y mI0) := lt_s mka_163 mok_163
theorem mka_165 : ∀ y, y < 165 → mMokP (mL.getD y mI0) := lt_s mka_164 mok_164
theorem mka_166 : ∀ y, y < 166 → mMokP (mL.getD y mI0) := lt_s mka_165 mok_165
theorem mka_167 : ∀ y, y < 167 → mMokP (mL.getD y mI0) := lt_s mka_166 mok_166
theorem mka_168 : ∀ y, y < 168 → mMokP (mL.getD y mI0) := lt_s mka_167 mok_167
theorem mka_169 : ∀ y, y < 169 → mMokP (mL.getD y mI0) := lt_s mka_168 mok_168
theorem mka_170 : ∀ y, y < 170 → mMokP (mL.getD y mI0) := lt_s mka_169 mok_169
theorem mka_171 : ∀ y, y < 171 → mMokP (mL.getD y mI0) := lt_s mka_170 mok_170
theorem mka_172 : ∀ y, y < 172 → mMokP (mL.getD y mI0) := lt_s mka_171 mok_171
theorem mka_173 : ∀ y, y < 173 → mMokP (mL.getD y mI0) := lt_s mka_172 mok_172
theorem mka_174 : ∀ y, y < 174 → mMokP (mL.getD y mI0) := lt_s mka_173 mok_173
theorem mka_175 : ∀ y, y < 175 → mMokP (mL.getD y mI0) := lt_s mka_174 mok_174
theorem mka_176 : ∀ y, y < 176 → mMokP (mL.getD y mI0) := lt_s mka_175 mok_175
theorem mka_177 : ∀ y, y < 177 → mMokP (mL.getD y mI0) := lt_s mka_176 mok_176
theorem mka_178 : ∀ y, y < 178 → mMokP (mL.getD y mI0) := lt_s mka_177 mok_177
theorem mka_179 : ∀ y, y < 179 → mMokP (mL.getD y mI0) := lt_s mka_178 mok_178
theorem mka_180 : ∀ y, y < 180 → mMokP (mL.getD y mI0) := lt_s mka_179 mok_179
theorem mka_181 : ∀ y, y < 181 → mMokP (mL.getD y mI0) := lt_s mka_180 mok_180
theorem mka_182 : ∀ y, y < 182 → mMokP (mL.getD y mI0) := lt_s mka_181 mok_181
theorem mka_183 : ∀ y, y < 183 → mMokP (mL.getD y mI0) := lt_s mka_182 mok_182
theorem mka_184 : ∀ y, y < 184 → mMokP (mL.getD y mI0) := lt_s mka_183 mok_183
theorem mka_185 : ∀ y, y < 185 → mMokP (mL.getD y mI0) := lt_s mka_184 mok_184
theorem mka_186 : ∀ y, y < 186 → mMokP (mL.getD y mI0) := lt_s mka_185 mok_185
theorem mka_187 : ∀ y, y < 187 → mMokP (mL.getD y mI0) := lt_s mka_186 mok_186
theorem mka_188 : ∀ y, y < 188 → mMokP (mL.getD y mI0) := lt_s mka_187 mok_187
theorem mka_189 : ∀ y, y < 189 → mMokP (mL.getD y mI0) := lt_s mka_188 mok_188
theorem mka_190 : ∀ y, y < 190 → mMokP (mL.getD y mI0) := lt_s mka_189 mok_189
theorem mka_191 : ∀ y, y < 191 → mMokP (mL.getD y mI0) := lt_s mka_190 mok_190
theorem mka_192 : ∀ y, y < 192 → mMokP (mL.getD y mI0) := lt_s mka_191 mok_191
theorem mka_193 : ∀ y, y < 193 → mMokP (mL.getD y mI0) := lt_s mka_192 mok_192
theorem mka_194 : ∀ y, y < 194 → mMokP (mL.getD y mI0) := lt_s mka_193 mok_193
theorem mka_195 : ∀ y, y < 195 → mMokP (mL.getD y mI0) := lt_s mka_194 mok_194
theorem mka_196 : ∀ y, y < 196 → mMokP (mL.getD y mI0) := lt_s mka_195 mok_195
theorem mka_197 : ∀ y, y < 197 → mMokP (mL.getD y mI0) := lt_s mka_196 mok_196
theorem mka_198 : ∀ y, y < 198 → mMokP (mL.getD y mI0) := lt_s mka_197 mok_197
theorem mka_199 : ∀ y, y < 199 → mMokP (mL.getD y mI0) := lt_s mka_198 mok_198
theorem mka_200 : ∀ y, y < 200 → mMokP (mL.getD y mI0) := lt_s mka_199 mok_199
theorem mka_201 : ∀ y, y < 201 → mMokP (mL.getD y mI0) := lt_s mka_200 mok_200
theorem mka_202 : ∀ y, y < 202 → mMokP (mL.getD y mI0) := lt_s mka_201 mok_201
theorem mka_203 : ∀ y, y < 203 → mMokP (mL.getD y mI0) := lt_s mka_202 mok_202
theorem mka_204 : ∀ y, y < 204 → mMokP (mL.getD y mI0) := lt_s mka_203 mok_203
theorem mka_205 : ∀ y, y < 205 → mMokP (mL.getD y mI0) := lt_s mka_204 mok_204
theorem mka_206 : ∀ y, y < 206 → mMokP (mL.getD y mI0) := lt_s mka_205 mok_205
theorem mka_207 : ∀ y, y < 207 → mMokP (mL.getD y mI0) := lt_s mka_206 mok_206
theorem mka_208 : ∀ y, y < 208 → mMokP (mL.getD y mI0) := lt_s mka_207 mok_207
theorem mka_209 : ∀ y, y < 209 → mMokP (mL.getD y mI0) := lt_s mka_208 mok_208
theorem mka_210 : ∀ y, y < 210 → mMokP (mL.getD y mI0) := lt_s mka_209 mok_209
theorem mka_211 : ∀ y, y < 211 → mMokP (mL.getD y mI0) := lt_s mka_210 mok_210
theorem mka_212 : ∀ y, y < 212 → mMokP (mL.getD y mI0) := lt_s mka_211 mok_211
theorem mka_213 : ∀ y, y < 213 → mMokP (mL.getD y mI0) := lt_s mka_212 mok_212
theorem mka_214 : ∀ y, y < 214 → mMokP (mL.getD y mI0) := lt_s mka_213 mok_213
theorem mka_215 : ∀ y, y < 215 → mMokP (mL.getD y mI0) := lt_s mka_214 mok_214
theorem mka_216 : ∀ y, y < 216 → mMokP (mL.getD y mI0) := lt_s mka_215 mok_215
theorem mka_217 : ∀ y, y < 217 → mMokP (mL.getD y mI0) := lt_s mka_216 mok_216
theorem mka_218 : ∀ y, y < 218 → mMokP (mL.getD y mI0) := lt_s mka_217 mok_217
theorem mka_219 : ∀ y, y < 219 → mMokP (mL.getD y mI0) := lt_s mka_218 mok_218
theorem mka_220 : ∀ y, y < 220 → mMokP (mL.getD y mI0) := lt_s mka_219 mok_219
theorem mka_221 : ∀ y, y < 221 → mMokP (mL.getD y mI0) := lt_s mka_220 mok_220
theorem mka_222 : ∀ y, y < 222 → mMokP (mL.getD y mI0) := lt_s mka_221 mok_221
theorem mka_223 : ∀ y, y < 223 → mMokP (mL.getD y mI0) := lt_s mka_222 mok_222
theorem mka_224 : ∀ y, y < 224 → mMokP (mL.getD y mI0) := lt_s mka_223 mok_223
theorem mka_225 : ∀ y, y < 225 → mMokP (mL.getD y mI0) := lt_s mka_224 mok_224
theorem mka_226 : ∀ y, y < 226 → mMokP (mL.getD y mI0) := lt_s mka_225 mok_225
theorem mka_227 : ∀ y, y < 227 → mMokP (mL.getD y mI0) := lt_s mka_226 mok_226
theorem mka_228 : ∀ y, y < 228 → mMokP (mL.getD y mI0) := lt_s mka_227 mok_227
theorem mka_229 : ∀ y, y < 229 → mMokP (mL.getD y mI0) := lt_s mka_228 mok_228
theorem mka_230 : ∀ y, y < 230 → mMokP (mL.getD y mI0) := lt_s mka_229 mok_229
theorem mka_231 : ∀ y, y < 231 → mMokP (mL.getD y mI0) := lt_s mka_230 mok_230
theorem mka_232 : ∀ y, y < 232 → mMokP (mL.getD y mI0) := lt_s mka_231 mok_231
theorem mka_233 : ∀ y, y < 233 → mMokP (mL.getD y mI0) := lt_s mka_232 mok_232
theorem mka_234 : ∀ y, y < 234 → mMokP (mL.getD y mI0) := lt_s mka_233 mok_233
theorem mka_235 : ∀ y, y < 235 → mMokP (mL.getD y mI0) := lt_s mka_234 mok_234
theorem mka_236 : ∀ y, y < 236 → mMokP (mL.getD y mI0) := lt_s mka_235 mok_235
theorem mka_237 : ∀ y, y < 237 → mMokP (mL.getD y mI0) := lt_s mka_236 mok_236
theorem mka_238 : ∀ y, y < 238 → mMokP (mL.getD y mI0) := lt_s mka_237 mok_237
theorem mka_239 : ∀ y, y < 239 → mMokP (mL.getD y mI0) := lt_s mka_238 mok_238
theorem mka_240 : ∀ y, y < 240 → mMokP (mL.getD y mI0) := lt_s mka_239 mok_239
theorem mka_241 : ∀ y, y < 241 → mMokP (mL.getD y mI0) := lt_s mka_240 mok_240
theorem mka_242 : ∀ y, y < 242 → mMokP (mL.getD y mI0) := lt_s mka_241 mok_241
theorem mka_243 : ∀ y, y < 243 → mMokP (mL.getD y mI0) := lt_s mka_242 mok_242
theorem mka_244 : ∀ y, y < 244 → mMokP (mL.getD y mI0) := lt_s mka_243 mok_243
theorem mka_245 : ∀ y, y < 245 → mMokP (mL.getD y mI0) := lt_s mka_244 mok_244
theorem mka_246 : ∀ y, y < 246 → mMokP (mL.getD y mI0) := lt_s mka_245 mok_245
theorem mka_247 : ∀ y, y < 247 → mMokP (mL.getD y mI0) := lt_s mka_246 mok_246
theorem mka_248 : ∀ y, y < 248 → mMokP (mL.getD y mI0) := lt_s mka_247 mok_247
theorem mka_249 : ∀ y, y < 249 → mMokP (mL.getD y mI0) := lt_s mka_248 mok_248
theorem mka_250 : ∀ y, y < 250 → mMokP (mL.getD y mI0) := lt_s mka_249 mok_249
theorem mka_251 : ∀ y, y < 251 → mMokP (mL.getD y mI0) := lt_s mka_250 mok_250
theorem mka_252 : ∀ y, y < 252 → mMokP (mL.getD y mI0) := lt_s mka_251 mok_251
theorem mka_253 : ∀ y, y < 253 → mMokP (mL.getD y mI0) := lt_s mka_252 mok_252
theorem mka_254 : ∀ y, y < 254 → mMokP (mL.getD y mI0) := lt_s mka_253 mok_253
theorem mka_255 : ∀ y, y < 255 → mMokP (mL.getD y mI0) := lt_s mka_254 mok_254
theorem mka_256 : ∀ y, y < 256 → mMokP (mL.getD y mI0) := lt_s mka_255 mok_255
theorem mka_257 : ∀ y, y < 257 → mMokP (mL.getD y mI0) := lt_s mka_256 mok_256
theorem mka_258 : ∀ y, y < 258 → mMokP (mL.getD y mI0) := lt_s mka_257 mok_257
theorem mka_259 : ∀ y, y < 259 → mMokP (mL.getD y mI0) := lt_s mka_258 mok_258
theorem mka_260 : ∀ y, y < 260 → mMokP (mL.getD y mI0) := lt_s mka_259 mok_259
theorem mka_261 : ∀ y, y < 261 → mMokP (mL.getD y mI0) := lt_s mka_260 mok_260
theorem mka_262 : ∀ y, y < 262 → mMokP (mL.getD y mI0) := lt_s mka_261 mok_261
theorem mka_263 : ∀ y, y < 263 → mMokP (mL.getD y mI0) := lt_s mka_262 mok_262
theorem mka_264 : ∀ y, y < 264 → mMokP (mL.getD y mI0) := lt_s mka_263 mok_263
theorem mka_265 : ∀ y, y < 265 → mMokP (mL.getD y mI0) := lt_s mka_264 mok_264
theorem mka_266 : ∀ y, y < 266 → mMokP (mL.getD y mI0) := lt_s mka_265 mok_265
theorem mka_267 : ∀ y, y < 267 → mMokP (mL.getD y mI0) := lt_s mka_266 mok_266
theorem mka_268 : ∀ y, y < 268 → mMokP (mL.getD y mI0) := lt_s mka_267 mok_267
theorem mka_269 : ∀ y, y < 269 → mMokP (mL.getD y mI0) := lt_s mka_268 mok_268
theorem mka_270 : ∀ y, y < 270 → mMokP (mL.getD y mI0) := lt_s mka_269 mok_269
theorem mka_271 : ∀ y, y < 271 → mMokP (mL.getD y mI0) := lt_s mka_270 mok_270
theorem mka_272 : ∀ y, y < 272 → mMokP (mL.getD y mI0) := lt_s mka_271 mok_271
theorem mka_273 : ∀ y, y < 273 → mMokP (mL.getD y mI0) := lt_s mka_272 mok_272
theorem mka_274 : ∀ y, y < 274 → mMokP (mL.getD y mI0) := lt_s mka_273 mok_273
theorem mka_275 : ∀ y, y < 275 → mMokP (mL.getD y mI0) := lt_s mka_274 mok_274
theorem mka_276 : ∀ y, y < 276 → mMokP (mL.getD y mI0) := lt_s mka_275 mok_275
theorem mka_277 : ∀ y, y < 277 → mMokP (mL.getD y mI0) := lt_s mka_276 mok_276
theorem mka_278 : ∀ y, y < 278 → mMokP (mL.getD y mI0) := lt_s mka_277 mok_277
theorem mka_279 : ∀ y, y < 279 → mMokP (mL.getD y mI0) := lt_s mka_278 mok_278
theorem mka_280 : ∀ y, y < 280 → mMokP (mL.getD y mI0) := lt_s mka_279 mok_279
theorem mka_281 : ∀ y, y < 281 → mMokP (mL.getD y mI0) := lt_s mka_280 mok_280
theorem mka_282 : ∀ y, y < 282 → mMokP (mL.getD y mI0) := lt_s mka_281 mok_281
theorem mka_283 : ∀ y, y < 283 → mMokP (mL.getD y mI0) := lt_s mka_282 mok_282
theorem mka_284 : ∀ y, y < 284 → mMokP (mL.getD y mI0) := lt_s mka_283 mok_283
theorem mka_285 : ∀ y, y < 285 → mMokP (mL.getD y mI0) := lt_s mka_284 mok_284
theorem mka_286 : ∀ y, y < 286 → mMokP (mL.getD y mI0) := lt_s mka_285 mok_285
theorem mka_287 : ∀ y, y < 287 → mMokP (mL.getD y mI0) := lt_s mka_286 mok_286
theorem mka_288 : ∀ y, y < 288 → mMokP (mL.getD y mI0) := lt_s mka_287 mok_287
theorem mka_289 : ∀ y, y < 289 → mMokP (mL.getD y mI0) := lt_s mka_288 mok_288
theorem mka_290 : ∀ y, y < 290 → mMokP (mL.getD y mI0) := lt_s mka_289 mok_289
theorem mka_291 : ∀ y, y < 291 → mMokP (mL.getD y mI0) := lt_s mka_290 mok_290
theorem mka_292 : ∀ y, y < 292 → mMokP (mL.getD y mI0) := lt_s mka_291 mok_291
theorem mka_293 : ∀ y, y < 293 → mMokP (mL.getD y mI0) := lt_s mka_292 mok_292
theorem mka_294 : ∀ y, y < 294 → mMokP (mL.getD y mI0) := lt_s mka_293 mok_293
theorem mka_295 : ∀ y, y < 295 → mMokP (mL.getD y mI0) := lt_s mka_294 mok_294
theorem mka_296 : ∀ y, y < 296 → mMokP (mL.getD y mI0) := lt_s mka_295 mok_295
theorem mka_297 : ∀ y, y < 297 → mMokP (mL.getD y mI0) := lt_s mka_296 mok_296
theorem mka_298 : ∀ y, y < 298 → mMokP (mL.getD y mI0) := lt_s mka_297 mok_297
theorem mka_299 : ∀ y, y < 299 → mMokP (mL.getD y mI0) := lt_s mka_298 mok_298
theorem mka_300 : ∀ y, y < 300 → mMokP (mL.getD y mI0) := lt_s mka_299 mok_299
theorem mka_301 : ∀ y, y < 301 → mMokP (mL.getD y mI0) := lt_s mka_300 mok_300
theorem mka_302 : ∀ y, y < 302 → mMokP (mL.getD y mI0) := lt_s mka_301 mok_301
theorem mka_303 : ∀ y, y < 303 → mMokP (mL.getD y mI0) := lt_s mka_302 mok_302
theorem mka_304 : ∀ y, y < 304 → mMokP (mL.getD y mI0) := lt_s mka_303 mok_303
theorem mka_305 : ∀ y, y < 305 → mMokP (mL.getD y mI0) := lt_s mka_304 mok_304
theorem mka_306 : ∀ y, y < 306 → mMokP (mL.getD y mI0) := lt_s mka_305 mok_305
theorem mka_307 : ∀ y, y < 307 → mMokP (mL.getD y mI0) := lt_s mka_306 mok_306
theorem mka_308 : ∀ y, y < 308 → mMokP (mL.getD y mI0) := lt_s mka_307 mok_307
theorem mka_309 : ∀ y, y < 309 → mMokP (mL.getD y mI0) := lt_s mka_308 mok_308
theorem mka_all : ∀ y, y < mL.length → mMokP (mL.getD y mI0) := by rw [mL_len]; exact mka_309
theorem moa_1 : ∀ y, y < 1 → ∀ pc o, mP.2.2.2.2 y pc = some o → mOpOk mP mL.length y pc o := lt_s lt_0 (mOp_of (y := 0) (K := lk_0) lkp_0 mka_all (mLlt (Nat.le_of_ble_eq_true rfl)) cod_0)
theorem moa_2 : ∀ y, y < 2 → ∀ pc o, mP.2.2.2.2 y pc = some o → mOpOk mP mL.length y pc o := lt_s moa_1 (mOp_of (y := 1) (K := lk_0) lkp_0 mka_all (mLlt (Nat.le_of_ble_eq_true rfl)) cod_1)
theorem moa_3 : ∀ y, y < 3 → ∀ pc o, mP.2.2.2.2 y pc = some o → mOpOk mP mL.length y pc o := lt_s moa_2 (mOp_of (y := 2) (K := lk_0) lkp_0 mka_all (mLlt (Nat.le_of_ble_eq_true rfl)) cod_2)
theorem moa_4 : ∀ y, y < 4 → ∀ pc o, mP.2.2.2.2 y pc = some o → mOpOk mP mL.length y pc o := lt_s moa_3 (mOp_of (y := 3) (K := lk_0) lkp_0 mka_all (mLlt (Nat.le_of_ble_eq_true rfl)) cod_3)
theorem moa_5 : ∀ y, y < 5 → ∀ pc o, mP.2.2.2.2 y pc = some o → mOpOk mP mL.length y pc o := lt_s moa_4 (mOp_of (y := 4) (K := lk_1) lkp_1 mka_all (mLlt (Nat.le_of_ble_eq_true rfl)) cod_4)
theorem moa_6 : ∀ y, y < 6 → ∀ pc o, mP.2.2.2.2 y pc = some o → mOpOk mP mL.length y pc o := lt_s moa_5 (mOp_of (y := 5) (K := lk_1) lkp_1 mka_all (mLlt (Nat.le_of_ble_eq_true rfl)) cod_5)
theorem moa_7 : ∀ y, y < 7 → ∀ pc o, mP.2.2.2.2 y pc = some o → mOpOk mP mL.length y pc o := lt_s moa_6 (mOp_of (y := 6) (K := lk_1) lkp_1 mka_all (mLlt (Nat.le_of_ble_eq_true rfl)) cod_6)
theorem moa_8 : ∀ y, y < 8 → ∀ pc o, mP.2.2.2.2 y pc = some o → mOpOk mP mL.length y pc o := lt_s moa_7 (mOp_of (y := 7) (K := lk_1) lkp_1 mka_all (mLlt (Nat.le_of_ble_eq_true rfl)) cod_7)
theorem moa_9 : ∀ y, y < 9 → ∀ pc o, mP.2.2.2.2 y pc = some o → mOpOk mP mL.length y pc o := lt_s moa_8 (mOp_of (y := 8) (K := lk_1) lkp_1 mka_all (mLlt (Nat.le_of_ble_eq_true rfl)) cod_8)
theorem moa_10 : ∀ y, y < 10 → ∀ pc o, mP.2.2.2.2 y pc = some o → mOpOk mP mL.length y pc o := lt_s moa_9 (mOp_of (y := 9) (K := lk_2) lkp_2 mka_all (mLlt (Nat.le_of_ble_eq_true rfl)) cod_9)
theorem moa_11 : ∀ y, y < 11 → ∀ pc o, mP.2.2.2.2 y pc = some o → mOpOk mP mL.length y pc o := lt_s moa_10 (mOp_of (y := 10) (K := lk_2) lkp_2 mka_all (mLlt (Nat.le_of_ble_eq_true rfl)) cod_10)
theorem moa_12 : ∀ y, y < 12 → ∀ pc o, mP.2.2.2.2 y pc = some o → mOpOk mP mL.length y pc o := lt_s moa_11 (mOp_of (y := 11) (K := lk_2) lkp_2 mka_all (mLlt (Nat.le_of_ble_eq_true rfl)) cod_11)
theorem moa_13 : ∀ y, y < 13 → ∀ pc o, mP.2.2.2.2 y pc = some o → mOpOk mP mL.length y pc o := lt_s moa_12 (mOp_of (y := 12) (K := lk_2) lkp_2 mka_all (mLlt (Nat.le_of_ble_eq_true rfl)) cod_12)
theorem moa_14 : ∀ y, y < 14 → ∀ pc o, mP.2.2.2.2 y pc = some o → mOpOk mP mL.length y pc o := lt_s moa_13 (mOp_of (y := 13) (K := lk_2) lkp_2 mka_all (mLlt (Nat.le_of_ble_eq_true rfl)) cod_13)
theorem moa_15 : ∀ y, y < 15 → ∀ pc o, mP.2.2.2.2 y pc = some o → mOpOk mP mL.length y pc o := lt_s moa_14 (mOp_of (y := 14) (K := lk_2) lkp_2 mka_all (mLlt (Nat.le_of_ble_eq_true rfl)) cod_14)
theorem moa_16 : ∀ y, y < 16 → ∀ pc o, mP.2.2.2.2 y pc = some o → mOpOk mP mL.length y pc o := lt_s moa_15 (mOp_of (y := 15) (K := lk_2) lkp_2 mka_all (mLlt (Nat.le_of_ble_eq_true rfl)) cod_15)
theorem moa_17 : ∀ y, y < 17 → ∀ pc o, mP.2.2.2.2 y pc = some o → mOpOk mP mL.length y pc o := lt_s moa_16 (mOp_of (y := 16) (K := lk_2) lkp_2 mka_all (mLlt (Nat.le_of_ble_eq_true rfl)) cod_16)
theorem moa_18 : ∀ y, y < 18 → ∀ pc o, mP.2.2.2.2 y pc = some o → mOpOk mP mL.length y pc o := lt_s moa_17 (mOp_of (y := 17) (K := lk_2) lkp_2 mka_all (mLlt (Nat.le_of_ble_eq_true rfl)) cod_17)
theorem moa_19 : ∀ y, y < 19 → ∀ pc o, mP.2.2.2.2 y pc = some o → mOpOk mP mL.length y pc o := lt_s moa_18 (mOp_of (y := 18) (K := lk_3) lkp_3 mka_all (mLlt (Nat.le_of_ble_eq_true rfl)) cod_18)
theorem moa_20 : ∀ y, y < 20 → ∀ pc o, mP.2.2.2.2 y pc = some o → mOpOk mP mL.length y pc o := lt_s moa_19 (mOp_of (y := 19) (K := lk_3) lkp_3 mka_all (mLlt (Nat.le_of_ble_eq_true rfl)) cod_19)
theorem moa_21 : ∀ y, y < 21 → ∀ pc o, mP.2.2.2.2 y pc = some o → mOpOk mP mL.length y pc o := lt_s moa_20 (mOp_of (y := 20) (K := lk_3) lkp_3 mka_all (mLlt (Nat.le_of_ble_eq_true rfl)) cod_20)
theorem moa_22 : ∀ y, y < 22 → ∀ pc o, mP.2.2.2.2 y pc = some o → mOpOk mP mL.length y pc o := lt_s moa_21 (mOp_of (y := 21) (K := lk_3) lkp_3 mka_all (mLlt (Nat.le_of_ble_eq_true rfl)) cod_21)
theorem moa_23 : ∀ y, y < 23 → ∀ pc o, mP.2.2.2.2 y pc = some o → mOpOk mP mL.length y pc o := lt_s moa_22 (mOp_of (y := 22) (K := lk_3) lkp_3 mka_all (mLlt (Nat.le_of_ble_eq_true rfl)) cod_22)
theorem moa_24 : ∀ y, y < 24 → ∀ pc o, mP.2.2.2.2 y pc = some o → mOpOk mP mL.length y pc o := lt_s moa_23 (mOp_of (y := 23) (K := lk_3) lkp_3 mka_all (mLlt (Nat.le_of_ble_eq_true rfl)) cod_23)
theorem moa_25 : ∀ y, y < 25 → ∀ pc o, mP.2.2.2.2 y pc = some o → mOpOk mP mL.length y pc o := lt_s moa_24 (mOp_of (y := 24) (K := lk_3) lkp_3 mka_all (mLlt (Nat.le_of_ble_eq_true rfl)) cod_24)
theorem moa_26 : ∀ y, y < 26 → ∀ pc o, mP.2.2.2.2 y pc = some o → mOpOk mP mL.length y pc o := lt_s moa_25 (mOp_of (y := 25) (K := lk_3) lkp_3 mka_all (mLlt (Nat.le_of_ble_eq_true rfl)) cod_25)
theorem moa_27 : ∀ y, y < 27 → ∀ pc o, mP.2.2.2.2 y pc = some o → mOpOk mP mL.length y pc o := lt_s moa_26 (mOp_of (y := 26) (K := lk_3) lkp_3 mka_all (mLlt (Nat.le_of_ble_eq_true rfl)) cod_26)
theorem moa_28 : ∀ y, y < 28 → ∀ pc o, mP.2.2.2.2 y pc = some o → mOpOk mP mL.length y pc o := lt_s moa_27 (mOp_of (y := 27) (K := lk_4) lkp_4 mka_all (mLlt (Nat.le_of_ble_eq_true rfl)) cod_27)
theorem moa_29 : ∀ y, y < 29 → ∀ pc o, mP.2.2.2.2 y pc = some o → mOpOk mP mL.length y pc o := lt_s moa_28 (mOp_of (y := 28) (K := lk_4) lkp_4 mka_all (mLlt (Nat.le_of_ble_eq_true rfl)) cod_28)
theorem moa_30 : ∀ y, y < 30 → ∀ pc o, mP.2.2.2.2 y pc = some o → mOpOk mP mL.length y pc o := lt_s moa_29 (mOp_of (y := 29) (K := lk_4) lkp_4 mka_all (mLlt (Nat.le_of_ble_eq_true rfl)) cod_29)
theorem moa_31 : ∀ y, y < 31 → ∀ pc o, mP.2.2.2.2 y pc = some o → mOpOk mP mL.length y pc o := lt_s moa_30 (mOp_of (y := 30) (K := lk_4) lkp_4 mka_all (mLlt (Nat.le_of_ble_eq_true rfl)) cod_30)
theorem moa_32 : ∀ y, y < 32 → ∀ pc o, mP.2.2.2.2 y pc = some o → mOpOk mP mL.length y pc o := lt_s moa_31 (mOp_of (y := 31) (K := lk_4) lkp_4 mka_all (mLlt (Nat.le_of_ble_eq_true rfl)) cod_31)
theorem moa_33 : ∀ y, y < 33 → ∀ pc o, mP.2.2.2.2 y pc = some o → mOpOk mP mL.length y pc o := lt_s moa_32 (mOp_of (y := 32) (K := lk_4) lkp_4 mka_all (mLlt (Nat.le_of_ble_eq_true rfl)) cod_32)
theorem moa_34 : ∀ y, y < 34 → ∀ pc o, mP.2.2.2.2 y pc = some o → mOpOk mP mL.length y pc o := lt_s moa_33 (mOp_of (y := 33) (K := lk_4) lkp_4 mka_all (mLlt (Nat.le_of_ble_eq_true rfl)) cod_33)
theorem moa_35 : ∀ y, y < 35 → ∀ pc o, mP.2.2.2.2 y pc = some o → mOpOk mP mL.length y pc o := lt_s moa_34 (mOp_of (y := 34) (K := lk_4) lkp_4 mka_all (mLlt (Nat.le_of_ble_eq_true rfl)) cod_34)
theorem moa_36 : ∀ y, y < 36 → ∀ pc o, mP.2.2.2.2 y pc = some o → mOpOk mP mL.length y pc o := lt_s moa_35 (mOp_of (y := 35) (K := lk_4) lkp_4 mka_all (mLlt (Nat.le_of_ble_eq_true rfl)) cod_35)
theorem moa_37 : ∀ y, y < 37 → ∀ pc o, mP.2.2.2.2 y pc = some o → mOpOk mP mL.length y pc o := lt_s moa_36 (mOp_of (y := 36) (K := lk_4) lkp_4 mka_all (mLlt (Nat.le_of_ble_eq_true rfl)) cod_36)
theorem moa_38 : ∀ y, y < 38 → ∀ pc o, mP.2.2.2.2 y pc = some o → mOpOk mP mL.length y pc o := lt_s moa_37 (mOp_of (y := 37) (K := lk_4) lkp_4 mka_all (mLlt (Nat.le_of_ble_eq_true rfl)) cod_37)
theorem moa_39 : ∀ y, y < 39 → ∀ pc o, mP.2.2.2.2 y pc = some o → mOpOk mP mL.length y pc o := lt_s moa_38 (mOp_of (y := 38) (K := lk_4) lkp_4 mka_all (mLlt (Nat.le_of_ble_eq_true rfl)) cod_38)
theorem moa_40 : ∀ y, y < 40 → ∀ pc o, mP.2.2.2.2 y pc = some o → mOpOk mP mL.length y pc o := lt_s moa_39 (mOp_of (y := 39) (K := lk_4) lkp_4 mka_all (mLlt (Nat.le_of_ble_eq_true rfl)) cod_39)
theorem moa_41 : ∀ y, y < 41 → ∀ pc o, mP.2.2.2.2 y pc = some o → mOpOk mP mL.length y pc o := lt_s moa_40 (mOp_of (y := 40) (K := lk_4) lkp_4 mka_all (mLlt (Nat.le_of_ble_eq_true rfl)) cod_40)
theorem moa_42 : ∀ y, y < 42 → ∀ pc o, mP.2.2.2.2 y pc = some o → mOpOk mP mL.length y pc o := lt_s moa_41 (mOp_of (y := 41) (K := lk_4) lkp_4 mka_all (mLlt (Nat.le_of_ble_eq_true rfl)) cod_41)
theorem moa_43 : ∀ y, y < 43 → ∀ pc o, mP.2.2.2.2 y pc = some o → mOpOk mP mL.length y pc o := lt_s moa_42 (mOp_of (y := 42) (K := lk_4) lkp_4 mka_all (mLlt (Nat.le_of_ble_eq_true rfl)) cod_42)
theorem moa_44 : ∀ y, y < 44 → ∀ pc o, mP.2.2.2.2 y pc = some o → mOpOk mP mL.length y pc o := lt_s moa_43 (mOp_of (y := 43) (K := lk_4) lkp_4 mka_all (mLlt (Nat.le_of_ble_eq_true rfl)) cod_43)
theorem moa_45 : ∀ y, y < 45 → ∀ pc o, mP.2.2.2.2 y pc = some o → mOpOk mP mL.length y pc o := lt_s moa_44 (mOp_of (y := 44) (K := lk_4) lkp_4 mka_all (mLlt (Nat.le_of_ble_eq_true rfl)) cod_44)
theorem moa_46 : ∀ y, y < 46 → ∀ pc o, mP.2.2.2.2 y pc = some o → mOpOk mP mL.length y pc o := lt_s moa_45 (mOp_of (y := 45) (K := lk_4) lkp_4 mka_all (mLlt (Nat.le_of_ble_eq_true rfl)) cod_45)
theorem moa_47 : ∀ y, y < 47 → ∀ pc o, mP.2.2.2.2 y pc = some o → mOpOk mP mL.length y pc o := lt_s moa_46 (mOp_of (y := 46) (K := lk_4) lkp_4 mka_all (mLlt (Nat.le_of_ble_eq_true rfl)) cod_46)
theorem moa_48 : ∀ y, y < 48 → ∀ pc o, mP.2.2.2.2 y pc = some o → mOpOk mP mL.length y pc o := lt_s moa_47 (mOp_of (y := 47) (K := lk_4) lkp_4 mka_all (mLlt (Nat.le_of_ble_eq_true rfl)) cod_47)
theorem moa_49 : ∀ y, y < 49 → ∀ pc o, mP.2.2.2.2 y pc = some o → mOpOk mP mL.length y pc o := lt_s moa_48 (mOp_of (y := 48) (K := lk_5) lkp_5 mka_all (mLlt (Nat.le_of_ble_eq_true rfl)) cod_48)
theorem moa_50 : ∀ y, y < 50 → ∀ pc o, mP.2.2.2.2 y pc = some o → mOpOk mP mL.length y pc o := lt_s moa_49 (mOp_of (y := 49) (K := lk_5) lkp_5 mka_all (mLlt (Nat.le_of_ble_eq_true rfl)) cod_49)
theorem moa_51 : ∀ y, y < 51 → ∀ pc o, mP.2.2.2.2 y pc = some o → mOpOk mP mL.length y pc o := lt_s moa_50 (mOp_of (y := 50) (K := lk_5) lkp_5 mka_all (mLlt (Nat.le_of_ble_eq_true rfl)) cod_50)
theorem moa_52 : ∀ y, y < 52 → ∀ pc o, mP.2.2.2.2 y pc = some o → mOpOk mP mL.length y pc o := lt_s moa_51 (mOp_of (y := 51) (K := lk_5) lkp_5 mka_all (mLlt (Nat.le_of_ble_eq_true rfl)) cod_51)
theorem moa_53 : ∀ y, y < 53 → ∀ pc o, mP.2.2.2.2 y pc = some o → mOpOk mP mL.length y pc o := lt_s moa_52 (mOp_of (y := 52) (K := lk_5) lkp_5 mka_all (mLlt (Nat.le_of_ble_eq_true rfl)) cod_52)
theorem moa_54 : ∀ y, y < 54 → ∀ pc o, mP.2.2.2.2 y pc = some o → mOpOk mP mL.length y pc o := lt_s moa_53 (mOp_of (y := 53) (K := lk_5) lkp_5 mka_all (mLlt (Nat.le_of_ble_eq_true rfl)) cod_53)
theorem moa_55 : ∀ y, y < 55 → ∀ pc o, mP.2.2.2.2 y pc = some o → mOpOk mP mL.length y pc o := lt_s moa_54 (mOp_of (y := 54) (K := lk_6) lkp_6 mka_all (mLlt (Nat.le_of_ble_eq_true rfl)) cod_54)
theorem moa_56 : ∀ y, y < 56 → ∀ pc o, mP.2.2.2.2 y pc = some o → mOpOk mP mL.length y pc o := lt_s moa_55 (mOp_of (y := 55) (K := lk_6) lkp_6 mka_all (mLlt (Nat.le_of_ble_eq_true rfl)) cod_55)
theorem moa_57 : ∀ y, y < 57 → ∀ pc o, mP.2.2.2.2 y pc = some o → mOpOk mP mL.length y pc o := lt_s moa_56 (mOp_of (y := 56) (K := lk_6) lkp_6 mka_all (mLlt (Nat.le_of_ble_eq_true rfl)) cod_56)
theorem moa_58 : ∀ y, y < 58 → ∀ pc o, mP.2.2.2.2 y pc = some o → mOpOk mP mL.length y pc o := lt_s moa_57 (mOp_of (y := 57) (K := lk_7) lkp_7 mka_all (mLlt (Nat.le_of_ble_eq_true rfl)) cod_57)
theorem moa_59 : ∀ y, y < 59 → ∀ pc o, mP.2.2.2.2 y pc = some o → mOpOk mP mL.length y pc o := lt_s moa_58 (mOp_of (y := 58) (K := lk_7) lkp_7 mka_all (mLlt (Nat.le_of_ble_eq_true rfl)) cod_58)
theorem moa_60 : ∀ y, y < 60 → ∀ pc o, mP.2.2.2.2 y pc = some o → mOpOk mP mL.length y pc o := lt_s moa_59 (mOp_of (y := 59) (K := lk_7) lkp_7 mka_all (mLlt (Nat.le_of_ble_eq_true rfl)) cod_59)
theorem moa_61 : ∀ y, y < 61 → ∀ pc o, mP.2.2.2.2 y pc = some o → mOpOk mP mL.length y pc o := lt_s moa_60 (mOp_of (y := 60) (K := lk_7) lkp_7 mka_all (mLlt (Nat.le_of_ble_eq_true rfl)) cod_60)
theorem moa_62 : ∀ y, y < 62 → ∀ pc o, mP.2.2.2.2 y pc = some o → mOpOk mP mL.length y pc o := lt_s moa_61 (mOp_of (y := 61) (K := lk_7) lkp_7 mka_all (mLlt (Nat.le_of_ble_eq_true rfl)) cod_61)
theorem moa_63 : ∀ y, y < 63 → ∀ pc o, mP.2.2.2.2 y pc = some o → mOpOk mP mL.length y pc o := lt_s moa_62 (mOp_of (y := 62) (K := lk_7) lkp_7 mka_all (mLlt (Nat.le_of_ble_eq_true rfl)) cod_62)
theorem moa_64 : ∀ y, y < 64 → ∀ pc o, mP.2.2.2.2 y pc = some o → mOpOk mP mL.length y pc o := lt_s moa_63 (mOp_of (y := 63) (K := lk_7) lkp_7 mka_all (mLlt (Nat.le_of_ble_eq_true rfl)) cod_63)
theorem moa_65 : ∀ y, y < 65 → ∀ pc o, mP.2.2.2.2 y pc = some o → mOpOk mP mL.length y pc o := lt_s moa_64 (mOp_of (y := 64) (K := lk_7) lkp_7 mka_all (mLlt (Nat.le_of_ble_eq_true rfl)) cod_64)
theorem moa_66 : ∀ y, y < 66 → ∀ pc o, mP.2.2.2.2 y pc = some o → mOpOk mP mL.length y pc o := lt_s moa_65 (mOp_of (y := 65) (K := lk_7) lkp_7 mka_all (mLlt (Nat.le_of_ble_eq_true rfl)) cod_65)
theorem moa_67 : ∀ y, y < 67 → ∀ pc o, mP.2.2.2.2 y pc = some o → mOpOk mP mL.length y pc o := lt_s moa_66 (mOp_of (y := 66) (K := lk_7) lkp_7 mka_all (mLlt (Nat.le_of_ble_eq_true rfl)) cod_66)
theorem moa_68 : ∀ y, y < 68 → ∀ pc o, mP.2.2.2.2 y pc = some o → mOpOk mP mL.length y pc o := lt_s moa_67 (mOp_of (y := 67) (K := lk_7) lkp_7 mka_all (mLlt (Nat.le_of_ble_eq_true rfl)) cod_67)
theorem moa_69 : ∀ y, y < 69 → ∀ pc o, mP.2.2.2.2 y pc = some o → mOpOk mP mL.length y pc o := lt_s moa_68 (mOp_of (y := 68) (K := lk_7) lkp_7 mka_all (mLlt (Nat.le_of_ble_eq_true rfl)) cod_68)
theorem moa_70 : ∀ y, y < 70 → ∀ pc o, mP.2.2.2.2 y pc = some o → mOpOk mP mL.length y pc o := lt_s moa_69 (mOp_of (y := 69) (K := lk_7) lkp_7 mka_all (mLlt (Nat.le_of_ble_eq_true rfl)) cod_69)
theorem moa_71 : ∀ y, y < 71 → ∀ pc o, mP.2.2.2.2 y pc = some o → mOpOk mP mL.length y pc o := lt_s moa_70 (mOp_of (y := 70) (K := lk_8) lkp_8 mka_all (mLlt (Nat.le_of_ble_eq_true rfl)) cod_70)
theorem moa_72 : ∀ y, y < 72 → ∀ pc o, mP.2.2.2.2 y pc = some o → mOpOk mP mL.length y pc o := lt_s moa_71 (mOp_of (y := 71) (K := lk_8) lkp_8 mka_all (mLlt (Nat.le_of_ble_eq_true rfl)) cod_71)
theorem moa_73 : ∀ y, y < 73 → ∀ pc o, mP.2.2.2.2 y pc = some o → mOpOk mP mL.length y pc o := lt_s moa_72 (mOp_of (y := 72) (K := lk_8) lkp_8 mka_all (mLlt (Nat.le_of_ble_eq_true rfl)) cod_72)
theorem moa_74 : ∀ y, y < 74 → ∀ pc o, mP.2.2.2.2 y pc = some o → mOpOk mP mL.length y pc o := lt_s moa_73 (mOp_of (y := 73) (K := lk_9) lkp_9 mka_all (mLlt (Nat.le_of_ble_eq_true rfl)) cod_73)
theorem moa_75 : ∀ y, y < 75 → ∀ pc o, mP.2.2.2.2 y pc = some o → mOpOk mP mL.length y pc o := lt_s moa_74 (mOp_of (y := 74) (K := lk_9) lkp_9 mka_all (mLlt (Nat.le_of_ble_eq_true rfl)) cod_74)
theorem moa_76 : ∀ y, y < 76 → ∀ pc o, mP.2.2.2.2 y pc = some o → mOpOk mP mL.length y pc o := lt_s moa_75 (mOp_of (y := 75) (K := lk_9) lkp_9 mka_all (mLlt (Nat.le_of_ble_eq_true rfl)) cod_75)
theorem moa_77 : ∀ y, y < 77 → ∀ pc o, mP.2.2.2.2 y pc = some o → mOpOk mP mL.length y pc o := lt_s moa_76 (mOp_of (y := 76) (K := lk_9) lkp_9 mka_all (mLlt (Nat.le_of_ble_eq_true rfl)) cod_76)
theorem moa_78 : ∀ y, y < 78 → ∀ pc o, mP.2.2.2.2 y pc = some o → mOpOk mP mL.length y pc o := lt_s moa_77 (mOp_of (y := 77) (K := lk_9) lkp_9 mka_all (mLlt (Nat.le_of_ble_eq_true rfl)) cod_77)
theorem moa_79 : ∀ y, y < 79 → ∀ pc o, mP.2.2.2.2 y pc = some o → mOpOk mP mL.length y pc o := lt_s moa_78 (mOp_of (y := 78) (K := lk_9) lkp_9 mka_all (mLlt (Nat.le_of_ble_eq_true rfl)) cod_78)
theorem moa_80 : ∀ y, y < 80 → ∀ pc o, mP.2.2.2.2 y pc = some o → mOpOk mP mL.length y pc o := lt_s moa_79 (mOp_of (y := 79) (K := lk_9) lkp_9 mka_all (mLlt (Nat.le_of_ble_eq_true rfl)) cod_79)
theorem moa_81 : ∀ y, y < 81 → ∀ pc o, mP.2.2.2.2 y pc = some o → mOpOk mP mL.length y pc o := lt_s moa_80 (mOp_of (y := 80) (K := lk_9) lkp_9 mka_all (mLlt (Nat.le_of_ble_eq_true rfl)) cod_80)
theorem moa_82 : ∀ y, y < 82 → ∀ pc o, mP.2.2.2.2 y pc = some o → mOpOk mP mL.length y pc o := lt_s moa_81 (mOp_of (y := 81) (K := lk_9) lkp_9 mka_all (mLlt (Nat.le_of_ble_eq_true rfl)) cod_81)
theorem moa_83 : ∀ y, y < 83 → ∀ pc o, mP.2.2.2.2 y pc = some o → mOpOk mP mL.length y pc o := lt_s moa_82 (mOp_of (y := 82) (K := lk_9) lkp_9 mka_all (mLlt (Nat.le_of_ble_eq_true rfl)) cod_82)
theorem moa_84 : ∀ y, y < 84 → ∀ pc o, mP.2.2.2.2 y pc = some o → mOpOk mP mL.length y pc o := lt_s moa_83 (mOp_of (y := 83) (K := lk_9) lkp_9 mka_all (mLlt (Nat.le_of_ble_eq_true rfl)) cod_83)
theorem moa_85 : ∀ y, y < 85 → ∀ pc o, mP.2.2.2.2 y pc = some o → mOpOk mP mL.length y pc o := lt_s moa_84 (mOp_of (y := 84) (K := lk_9) lkp_9 mka_all (mLlt (Nat.le_of_ble_eq_true rfl)) cod_84)
theorem moa_86 : ∀ y, y < 86 → ∀ pc o, mP.2.2.2.2 y pc = some o → mOpOk mP mL.length y pc o := lt_s moa_85 (mOp_of (y := 85) (K := lk_9) lkp_9 mka_all (mLlt (Nat.le_of_ble_eq_true rfl)) cod_85)
theorem moa_87 : ∀ y, y < 87 → ∀ pc o, mP.2.2.2.2 y pc = some o → mOpOk mP mL.length y pc o := lt_s moa_86 (mOp_of (y := 86) (K := lk_9) lkp_9 mka_all (mLlt (Nat.le_of_ble_eq_true rfl)) cod_86)
theorem moa_88 : ∀ y, y < 88 → ∀ pc o, mP.2.2.2.2 y pc = some o → mOpOk mP mL.length y pc o := lt_s moa_87 (mOp_of (y := 87) (K := lk_9) lkp_9 mka_all (mLlt (Nat.le_of_ble_eq_true rfl)) cod_87)
theorem moa_89 : ∀ y, y < 89 → ∀ pc o, mP.2.2.2.2 y pc = some o → mOpOk mP mL.length y pc o := lt_s moa_88 (mOp_of (y := 88) (K := lk_10) lkp_10 mka_all (mLlt (Nat.le_of_ble_eq_true rfl)) cod_88)
theorem moa_90 : ∀ y, y < 90 → ∀ pc o, mP.2.2.2.2 y pc = some o → mOpOk mP mL.length y pc o := lt_s moa_89 (mOp_of (y := 89) (K := lk_10) lkp_10 mka_all (mLlt (Nat.le_of_ble_eq_true rfl)) cod_89)
theorem moa_91 : ∀ y, y < 91 → ∀ pc o, mP.2.2.2.2 y pc = some o → mOpOk mP mL.length y pc o := lt_s moa_90 (mOp_of (y := 90) (K := lk_10) lkp_10 mka_all (mLlt (Nat.le_of_ble_eq_true rfl)) cod_90)
theorem moa_92 : ∀ y, y < 92 → ∀ pc o, mP.2.2.2.2 y pc = some o → mOpOk mP mL.length y pc o := lt_s moa_91 (mOp_of (y := 91) (K := lk_10) lkp_10 mka_all (mLlt (Nat.le_of_ble_eq_true rfl)) cod_91)
theorem moa_93 : ∀ y, y < 93 → ∀ pc o, mP.2.2.2.2 y pc = some o → mOpOk mP mL.length y pc o := lt_s moa_92 (mOp_of (y := 92) (K := lk_10) lkp_10 mka_all (mLlt (Nat.le_of_ble_eq_true rfl)) cod_92)
theorem moa_94 : ∀ y, y < 94 → ∀ pc o, mP.2.2.2.2 y pc = some o → mOpOk mP mL.length y pc o := lt_s moa_93 (mOp_of (y := 93) (K := lk_10) lkp_10 mka_all (mLlt (Nat.le_of_ble_eq_true rfl)) cod_93)
theorem moa_95 : ∀ y, y < 95 → ∀ pc o, mP.2.2.2.2 y pc = some o → mOpOk mP mL.length y pc o := lt_s moa_94 (mOp_of (y := 94) (K := lk_10) lkp_10 mka_all (mLlt (Nat.le_of_ble_eq_true rfl)) cod_94)
theorem moa_96 : ∀ y, y < 96 → ∀ pc o, mP.2.2.2.2 y pc = some o → mOpOk mP mL.length y pc o := lt_s moa_95 (mOp_of (y := 95) (K := lk_10) lkp_10 mka_all (mLlt (Nat.le_of_ble_eq_true rfl)) cod_95)
theorem moa_97 : ∀ y, y < 97 → ∀ pc o, mP.2.2.2.2 y pc = some o → mOpOk mP mL.length y pc o := lt_s moa_96 (mOp_of (y := 96) (K := lk_10) lkp_10 mka_all (mLlt (Nat.le_of_ble_eq_true rfl)) cod_96)
theorem moa_98 : ∀ y, y < 98 → ∀ pc o, mP.2.2.2.2 y pc = some o → mOpOk mP mL.length y pc o := lt_s moa_97 (mOp_of (y := 97) (K := lk_10) lkp_10 mka_all (mLlt (Nat.le_of_ble_eq_true rfl)) cod_97)
theorem moa_99 : ∀ y, y < 99 → ∀ pc o, mP.2.2.2.2 y pc = some o → mOpOk mP mL.length y pc o := lt_s moa_98 (mOp_of (y := 98) (K := lk_10) lkp_10 mka_all (mLlt (Nat.le_of_ble_eq_true rfl)) cod_98)
theorem moa_100 : ∀ y, y < 100 → ∀ pc o, mP.2.2.2.2 y pc = some o → mOpOk mP mL.length y pc o := lt_s moa_99 (mOp_of (y := 99) (K := lk_10) lkp_10 mka_all (mLlt (Nat.le_of_ble_eq_true rfl)) cod_99)
theorem moa_101 : ∀ y, y < 101 → ∀ pc o, mP.2.2.2.2 y pc = some o → mOpOk mP mL.length y pc o := lt_s moa_100 (mOp_of (y := 100) (K := lk_10) lkp_10 mka_all (mLlt (Nat.le_of_ble_eq_true rfl)) cod_100)
theorem moa_102 : ∀ y, y < 102 → ∀ pc o, mP.2.2.2.2 y pc = some o → mOpOk mP mL.length y pc o := lt_s moa_101 (mOp_of (y := 101) (K := lk_10) lkp_10 mka_all (mLlt (Nat.le_of_ble_eq_true rfl)) cod_101)
theorem moa_103 : ∀ y, y < 103 → ∀ pc o, mP.2.2.2.2 y pc = some o → mOpOk mP mL.length y pc o := lt_s moa_102 (mOp_of (y := 102) (K := lk_10) lkp_10 mka_all (mLlt (Nat.le_of_ble_eq_true rfl)) cod_102)
theorem moa_104 : ∀ y, y < 104 → ∀ pc o, mP.2.2.2.2 y pc = some o → mOpOk mP mL.length y pc o := lt_s moa_103 (mOp_of (y := 103) (K := lk_11) lkp_11 mka_all (mLlt (Nat.le_of_ble_eq_true rfl)) cod_103)
theorem moa_105 : ∀ y, y < 105 → ∀ pc o, mP.2.2.2.2 y pc = some o → mOpOk mP mL.length y pc o := lt_s moa_104 (mOp_of (y := 104) (K := lk_11) lkp_11 mka_all (mLlt (Nat.le_of_ble_eq_true rfl)) cod_104)
theorem moa_106 : ∀ y, y < 106 → ∀ pc o, mP.2.2.2.2 y pc = some o → mOpOk mP mL.length y pc o := lt_s moa_105 (mOp_of (y := 105) (K := lk_11) lkp_11 mka_all (mLlt (Nat.le_of_ble_eq_true rfl)) cod_105)
theorem moa_107 : ∀ y, y < 107 → ∀ pc o, mP.2.2.2.2 y pc = some o → mOpOk mP mL.length y pc o := lt_s moa_106 (mOp_of (y := 106) (K := lk_11) lkp_11 mka_all (mLlt (Nat.le_of_ble_eq_true rfl)) cod_106)
theorem moa_108 : ∀ y, y < 108 → ∀ pc o, mP.2.2.2.2 y pc = some o → mOpOk mP mL.length y pc o := lt_s moa_107 (mOp_of (y := 107) (K := lk_11) lkp_11 mka_all (mLlt (Nat.le_of_ble_eq_true rfl)) cod_107)
theorem moa_109 : ∀ y, y < 109 → ∀ pc o, mP.2.2.2.2 y pc = some o → mOpOk mP mL.length y pc o := lt_s moa_108 (mOp_of (y := 108) (K := lk_11) lkp_11 mka_all (mLlt (Nat.le_of_ble_eq_true rfl)) cod_108)
theorem moa_110 : ∀ y, y < 110 → ∀ pc o, mP.2.2.2.2 y pc = some o → mOpOk mP mL.length y pc o := lt_s moa_109 (mOp_of (y := 109) (K := lk_11) lkp_11 mka_all (mLlt (Nat.le_of_ble_eq_true rfl)) cod_109)
theorem moa_111 : ∀ y, y < 111 → ∀ pc o, mP.2.2.2.2 y pc = some o → mOpOk mP mL.length y pc o := lt_s moa_110 (mOp_of (y := 110) (K := lk_11) lkp_11 mka_all (mLlt (Nat.le_of_ble_eq_true rfl)) cod_110)
theorem moa_112 : ∀ y, y < 112 → ∀ pc o, mP.2.2.2.2 y pc = some o → mOpOk mP mL.length y pc o := lt_s moa_111 (mOp_of (y := 111) (K := lk_11) lkp_11 mka_all (mLlt (Nat.le_of_ble_eq_true rfl)) cod_111)
theorem moa_113 : ∀ y, y < 113 → ∀ pc o, mP.2.2.2.2 y pc = some o → mOpOk mP mL.length y pc o := lt_s moa_112 (mOp_of (y := 112) (K := lk_11) lkp_11 mka_all (mLlt (Nat.le_of_ble_eq_true rfl)) cod_112)
theorem moa_114 : ∀ y, y < 114 → ∀ pc o, mP.2.2.2.2 y pc = some o → mOpOk mP mL.length y pc o := lt_s moa_113 (mOp_of (y := 113) (K := lk_11) lkp_11 mka_all (mLlt (Nat.le_of_ble_eq_true rfl)) cod_113)
theorem moa_115 : ∀ y, y < 115 → ∀ pc o, mP.2.2.2.2 y pc = some o → mOpOk mP mL.length y pc o := lt_s moa_114 (mOp_of (y := 114) (K := lk_11) lkp_11 mka_all (mLlt (Nat.le_of_ble_eq_true rfl)) cod_114)
theorem moa_116 : ∀ y, y < 116 → ∀ pc o, mP.2.2.2.2 y pc = some o → mOpOk mP mL.length y pc o := lt_s moa_115 (mOp_of (y := 115) (K := lk_11) lkp_11 mka_all (mLlt (Nat.le_of_ble_eq_true rfl)) cod_115)
theorem moa_117 : ∀ y, y < 117 → ∀ pc o, mP.2.2.2.2 y pc = some o → mOpOk mP mL.length y pc o := lt_s moa_116 (mOp_of (y := 116) (K := lk_11) lkp_11 mka_all (mLlt (Nat.le_of_ble_eq_true rfl)) cod_116)
theorem moa_118 : ∀ y, y < 118 → ∀ pc o, mP.2.2.2.2 y pc = some o → mOpOk mP mL.length y pc o := lt_s moa_117 (mOp_of (y := 117) (K := lk_11) lkp_11 mka_all (mLlt (Nat.le_of_ble_eq_true rfl)) cod_117)
theorem moa_119 : ∀ y, y < 119 → ∀ pc o, mP.2.2.2.2 y pc = some o → mOpOk mP mL.length y pc o := lt_s moa_118 (mOp_of (y := 118) (K := lk_11) lkp_11 mka_all (mLlt (Nat.le_of_ble_eq_true rfl)) cod_118)
theorem moa_120 : ∀ y, y < 120 → ∀ pc o, mP.2.2.2.2 y pc = some o → mOpOk mP mL.length y pc o := lt_s moa_119 (mOp_of (y := 119) (K := lk_11) lkp_11 mka_all (mLlt (Nat.le_of_ble_eq_true rfl)) cod_119)
theorem moa_121 : ∀ y, y < 121 → ∀ pc o, mP.2.2.2.2 y pc = some o → mOpOk mP mL.length y pc o := lt_s moa_120 (mOp_of (y := 120) (K := lk_11) lkp_11 mka_all (mLlt (Nat.le_of_ble_eq_true rfl)) cod_120)
theorem moa_122 : ∀ y, y < 122 → ∀ pc o, mP.2.2.2.2 y pc = some o → mOpOk mP mL.length y pc o := lt_s moa_121 (mOp_of (y := 121) (K := lk_11) lkp_11 mka_all (mLlt (Nat.le_of_ble_eq_true rfl)) cod_121)
theorem moa_123 : ∀ y, y < 123 → ∀ pc o, mP.2.2.2.2 y pc = some o → mOpOk mP mL.length y pc o := lt_s moa_122 (mOp_of (y := 122) (K := lk_11) lkp_11 mka_all (mLlt (Nat.le_of_ble_eq_true rfl)) cod_122)
theorem moa_124 : ∀ y, y < 124 → ∀ pc o, mP.2.2.2.2 y pc = some o → mOpOk mP mL.length y pc o := lt_s moa_123 (mOp_of (y := 123) (K := lk_11) lkp_11 mka_all (mLlt (Nat.le_of_ble_eq_true rfl)) cod_123)
theorem moa_125 : ∀ y, y < 125 → ∀ pc o, mP.2.2.2.2 y pc = some o → mOpOk mP mL.length y pc o := lt_s moa_124 (mOp_of (y := 124) (K := lk_11) lkp_11 mka_all (mLlt (Nat.le_of_ble_eq_true rfl)) cod_124)
theorem moa_126 : ∀ y, y < 126 → ∀ pc o, mP.2.2.2.2 y pc = some o → mOpOk mP mL.length y pc o := lt_s moa_125 (mOp_of (y := 125) (K := lk_11) lkp_11 mka_all (mLlt (Nat.le_of_ble_eq_true rfl)) cod_125)
theorem moa_127 : ∀ y, y < 127 → ∀ pc o, mP.2.2.2.2 y pc = some o → mOpOk mP mL.length y pc o := lt_s moa_126 (mOp_of (y := 126) (K := lk_11) lkp_11 mka_all (mLlt (Nat.le_of_ble_eq_true rfl)) cod_126)
theorem moa_128 : ∀ y, y < 128 → ∀ pc o, mP.2.2.2.2 y pc = some o → mOpOk mP mL.length y pc o := lt_s moa_127 (mOp_of (y := 127) (K := lk_11) lkp_11 mka_all (mLlt (Nat.le_of_ble_eq_true rfl)) cod_127)
theorem moa_129 : ∀ y, y < 129 → ∀ pc o, mP.2.2.2.2 y pc = some o → mOpOk mP mL.length y pc o := lt_s moa_128 (mOp_of (y := 128) (K := lk_11) lkp_11 mka_all (mLlt (Nat.le_of_ble_eq_true rfl)) cod_128)
theorem moa_130 : ∀ y, y < 130 → ∀ pc o, mP.2.2.2.2 y pc = some o → mOpOk mP mL.length y pc o := lt_s moa_129 (mOp_of (y := 129) (K := lk_11) lkp_11 mka_all (mLlt (Nat.le_of_ble_eq_true rfl)) cod_129)
theorem moa_131 : ∀ y, y < 131 → ∀ pc o, mP.2.2.2.2 y pc = some o → mOpOk mP mL.length y pc o := lt_s moa_130 (mOp_of (y := 130) (K := lk_11) lkp_11 mka_all (mLlt (Nat.le_of_ble_eq_true rfl)) cod_130)
theorem moa_132 : ∀ y, y < 132 → ∀ pc o, mP.2.2.2.2 y pc = some o → mOpOk mP mL.length y pc o := lt_s moa_131 (mOp_of (y := 131) (K := lk_11) lkp_11 mka_all (mLlt (Nat.le_of_ble_eq_true rfl)) cod_131)
theorem moa_133 : ∀ y, y < 133 → ∀ pc o, mP.2.2.2.2 y pc = some o → mOpOk mP mL.length y pc o := lt_s moa_132 (mOp_of (y := 132) (K := lk_11) lkp_11 mka_all (mLlt (Nat.le_of_ble_eq_true rfl)) cod_132)
theorem moa_134 : ∀ y, y < 134 → ∀ pc o, mP.2.2.2.2 y pc = some o → mOpOk mP mL.length y pc o := lt_s moa_133 (mOp_of (y := 133) (K := lk_11) lkp_11 mka_all (mLlt (Nat.le_of_ble_eq_true rfl)) cod_133)
theorem moa_135 : ∀ y, y < 135 → ∀ pc o, mP.2.2.2.2 y pc = some o → mOpOk mP mL.length y pc o := lt_s moa_134 (mOp_of (y := 134) (K := lk_11) lkp_11 mka_all (mLlt (Nat.le_of_ble_eq_true rfl)) cod_134)
theorem moa_136 : ∀ y, y < 136 → ∀ pc o, mP.2.2.2.2 y pc = some o → mOpOk mP mL.length y pc o := lt_s moa_135 (mOp_of (y := 135) (K := lk_11) lkp_11 mka_all (mLlt (Nat.le_of_ble_eq_true rfl)) cod_135)
theorem moa_137 : ∀ y, y < 137 → ∀ pc o, mP.2.2.2.2 y pc = some o → mOpOk mP mL.length y pc o := lt_s moa_136 (mOp_of (y := 136) (K := lk_11) lkp_11 mka_all (mLlt (Nat.le_of_ble_eq_true rfl)) cod_136)
theorem moa_138 : ∀ y, y < 138 → ∀ pc o, mP.2.2.2.2 y pc = some o → mOpOk mP mL.length y pc o := lt_s moa_137 (mOp_of (y := 137) (K := lk_11) lkp_11 mka_all (mLlt (Nat.le_of_ble_eq_true rfl)) cod_137)
theorem moa_139 : ∀ y, y < 139 → ∀ pc o, mP.2.2.2.2 y pc = some o → mOpOk mP mL.length y pc o := lt_s moa_138 (mOp_of (y := 138) (K := lk_11) lkp_11 mka_all (mLlt (Nat.le_of_ble_eq_true rfl)) cod_138)
theorem moa_140 : ∀ y, y < 140 → ∀ pc o, mP.2.2.2.2 y pc = some o → mOpOk mP mL.length y pc o := lt_s moa_139 (mOp_of (y := 139) (K := lk_11) lkp_11 mka_all (mLlt (Nat.le_of_ble_eq_true rfl)) cod_139)
theorem moa_141 : ∀ y, y < 141 → ∀ pc o, mP.2.2.2.2 y pc = some o → mOpOk mP mL.length y pc o := lt_s moa_140 (mOp_of (y := 140) (K := lk_11) lkp_11 mka_all (mLlt (Nat.le_of_ble_eq_true rfl)) cod_140)
theorem moa_142 : ∀ y, y < 142 → ∀ pc o, mP.2.2.2.2 y pc = some o → mOpOk mP mL.length y pc o := lt_s moa_141 (mOp_of (y := 141) (K := lk_11) lkp_11 mka_all (mLlt (Nat.le_of_ble_eq_true rfl)) cod_141)
theorem moa_143 : ∀ y, y < 143 → ∀ pc o, mP.2.2.2.2 y pc = some o → mOpOk mP mL.length y pc o := lt_s moa_142 (mOp_of (y := 142) (K := lk_11) lkp_11 mka_all (mLlt (Nat.le_of_ble_eq_true rfl)) cod_142)
theorem moa_144 : ∀ y, y < 144 → ∀ pc o, mP.2.2.2.2 y pc = some o → mOpOk mP mL.length y pc o := lt_s moa_143 (mOp_of (y := 143) (K := lk_11) lkp_11 mka_all (mLlt (Nat.le_of_ble_eq_true rfl)) cod_143)
theorem moa_145 : ∀ y, y < 145 → ∀ pc o, mP.2.2.2.2 y pc = some o → mOpOk mP mL.length y pc o := lt_s moa_144 (mOp_of (y := 144) (K := lk_11) lkp_11 mka_all (mLlt (Nat.le_of_ble_eq_true rfl)) cod_144)
theorem moa_146 : ∀ y, y < 146 → ∀ pc o, mP.2.2.2.2 y pc = some o → mOpOk mP mL.length y pc o := lt_s moa_145 (mOp_of (y := 145) (K := lk_11) lkp_11 mka_all (mLlt (Nat.le_of_ble_eq_true rfl)) cod_145)
theorem moa_147 : ∀ y, y < 147 → ∀ pc o, mP.2.2.2.2 y pc = some o → mOpOk mP mL.length y pc o := lt_s moa_146 (mOp_of (y := 146) (K := lk_11) lkp_11 mka_all (mLlt (Nat.le_of_ble_eq_true rfl)) cod_146)
theorem moa_148 : ∀ y, y < 148 → ∀ pc o, mP.2.2.2.2 y pc = some o → mOpOk mP mL.length y pc o := lt_s moa_147 (mOp_of (y := 147) (K := lk_11) lkp_11 mka_all (mLlt (Nat.le_of_ble_eq_true rfl)) cod_147)
theorem moa_149 : ∀ y, y < 149 → ∀ pc o, mP.2.2.2.2 y pc = some o → mOpOk mP mL.length y pc o := lt_s moa_148 (mOp_of (y := 148) (K := lk_11) lkp_11 mka_all (mLlt (Nat.le_of_ble_eq_true rfl)) cod_148)
theorem moa_150 : ∀ y, y < 150 → ∀ pc o, mP.2.2.2.2 y pc = some o → mOpOk mP mL.length y pc o := lt_s moa_149 (mOp_of (y := 149) (K := lk_11) lkp_11 mka_all (mLlt (Nat.le_of_ble_eq_true rfl)) cod_149)
theorem moa_151 : ∀ y, y < 151 → ∀ pc o, mP.2.2.2.2 y pc = some o → mOpOk mP mL.length y pc o := lt_s moa_150 (mOp_of (y := 150) (K := lk_11) lkp_11 mka_all (mLlt (Nat.le_of_ble_eq_true rfl)) cod_150)
theorem moa_152 : ∀ y, y < 152 → ∀ pc o, mP.2.2.2.2 y pc = some o → mOpOk mP mL.length y pc o := lt_s moa_151 (mOp_of (y := 151) (K := lk_11) lkp_11 mka_all (mLlt (Nat.le_of_ble_eq_true rfl)) cod_151)
theorem moa_153 : ∀ y, y < 153 → ∀ pc o, mP.2.2.2.2 y pc = some o → mOpOk mP mL.length y pc o := lt_s moa_152 (mOp_of (y := 152) (K := lk_11) lkp_11 mka_all (mLlt (Nat.le_of_ble_eq_true rfl)) cod_152)
theorem moa_154 : ∀ y, y < 154 → ∀ pc o, mP.2.2.2.2 y pc = some o → mOpOk mP mL.length y pc o := lt_s moa_153 (mOp_of (y := 153) (K := lk_11) lkp_11 mka_all (mLlt (Nat.le_of_ble_eq_true rfl)) cod_153)
theorem moa_155 : ∀ y, y < 155 → ∀ pc o, mP.2.2.2.2 y pc = some o → mOpOk mP mL.length y pc o := lt_s moa_154 (mOp_of (y := 154) (K := lk_11) lkp_11 mka_all (mLlt (Nat.le_of_ble_eq_true rfl)) cod_154)
theorem moa_156 : ∀ y, y < 156 → ∀ pc o, mP.2.2.2.2 y pc = some o → mOpOk mP mL.length y pc o := lt_s moa_155 (mOp_of (y := 155) (K := lk_11) lkp_11 mka_all (mLlt (Nat.le_of_ble_eq_true rfl)) cod_155)
theorem moa_157 : ∀ y, y < 157 → ∀ pc o, mP.2.2.2.2 y pc = some o → mOpOk mP mL.length y pc o := lt_s moa_156 (mOp_of (y := 156) (K := lk_11) lkp_11 mka_all (mLlt (Nat.le_of_ble_eq_true rfl)) cod_156)
theorem moa_158 : ∀ y, y < 158 → ∀ pc o, mP.2.2.2.2 y pc = some o → mOpOk mP mL.length y pc o := lt_s moa_157 (mOp_of (y := 157) (K := lk_11) lkp_11 mka_all (mLlt (Nat.le_of_ble_eq_true rfl)) cod_157)
theorem moa_159 : ∀ y, y < 159 → ∀ pc o, mP.2.2.2.2 y pc = some o → mOpOk mP mL.length y pc o := lt_s moa_158 (mOp_of (y := 158) (K := lk_11) lkp_11 mka_all (mLlt (Nat.le_of_ble_eq_true rfl)) cod_158)
theorem moa_160 : ∀ y, y < 160 → ∀ pc o, mP.2.2.2.2 y pc = some o → mOpOk mP mL.length y pc o := lt_s moa_159 (mOp_of (y := 159) (K := lk_11) lkp_11 mka_all (mLlt (Nat.le_of_ble_eq_true rfl)) cod_159)
theorem moa_161 : ∀ y, y < 161 → ∀ pc o, mP.2.2.2.2 y pc = some o → mOpOk mP mL.length y pc o := lt_s moa_160 (mOp_of (y := 160) (K := lk_11) lkp_11 mka_all (mLlt (Nat.le_of_ble_eq_true rfl)) cod_160)
theorem moa_162 : ∀ y, y < 162 → ∀ pc o, mP.2.2.2.2 y pc = some o → mOpOk mP mL.length y pc o := lt_s moa_161 (mOp_of (y := 161) (K := lk_11) lkp_11 mka_all (mLlt (Nat.le_of_ble_eq_true rfl)) cod_161)
theorem moa_163 : ∀ y, y < 163 → ∀ pc o, mP.2.2.2.2 y pc = some o → mOpOk mP mL.length y pc o := lt_s moa_162 (mOp_of (y := 162) (K := lk_11) lkp_11 mka_all (mLlt (Nat.le_of_ble_eq_true rfl)) cod_162)
theorem moa_164 : ∀ y, y < 164 → ∀ pc o, mP.2.2.2.2 y pc = some o → mOpOk mP mL.length y pc o := lt_s moa_163 (mOp_of (y := 163) (K := lk_11) lkp_11 mka_all (mLlt (Nat.le_of_ble_eq_true rfl)) cod_163)
theorem moa_165 : ∀ y, y < 165 → ∀ pc o, mP.2.2.2.2 y pc = some o → mOpOk mP mL.length y pc o := lt_s moa_164 (mOp_of (y := 164) (K := lk_11) lkp_11 mka_all (mLlt (Nat.le_of_ble_eq_true rfl)) cod_164)
theorem moa_166 : ∀ y, y < 166 → ∀ pc o, mP.2.2.2.2 y pc = some o → mOpOk mP mL.length y pc o := lt_s moa_165 (mOp_of (y := 165) (K := lk_11) lkp_11 mka_all (mLlt (Nat.le_of_ble_eq_true rfl)) cod_165)
theorem moa_167 : ∀ y, y < 167 → ∀ pc o, mP.2.2.2.2 y pc = some o → mOpOk mP mL.length y pc o := lt_s moa_166 (mOp_of (y := 166) (K := lk_11) lkp_11 mka_all (mLlt (Nat.le_of_ble_eq_true rfl)) cod_166)
theorem moa_168 : ∀ y, y < 168 → ∀ pc o, mP.2.2.2.2 y pc = some o → mOpOk mP mL.length y pc o := lt_s moa_167 (mOp_of (y := 167) (K := lk_11) lkp_11 mka_all (mLlt (Nat.le_of_ble_eq_true rfl)) cod_167)
theorem moa_169 : ∀ y, y < 169 → ∀ pc o, mP.2.2.2.2 y pc = some o → mOpOk mP mL.length y pc o := lt_s moa_168 (mOp_of (y := 168) (K := lk_11) lkp_11 mka_all (mLlt (Nat.le_of_ble_eq_true rfl)) cod_168)
theorem moa_170 : ∀ y, y < 170 → ∀ pc o, mP.2.2.2.2 y pc = some o → mOpOk mP mL.length y pc o := lt_s moa_169 (mOp_of (y := 169) (K := lk_11) lkp_11 mka_all (mLlt (Nat.le_of_ble_eq_true rfl)) cod_169)
theorem moa_171 : ∀ y, y < 171 → ∀ pc o, mP.2.2.2.2 y pc = some o → mOpOk mP mL.length y pc o := lt_s moa_170 (mOp_of (y := 170) (K := lk_11) lkp_11 mka_all (mLlt (Nat.le_of_ble_eq_true rfl)) cod_170)
theorem moa_172 : ∀ y, y < 172 → ∀ pc o, mP.2.2.2.2 y pc = some o → mOpOk mP mL.length y pc o := lt_s moa_171 (mOp_of (y := 171) (K := lk_11) lkp_11 mka_all (mLlt (Nat.le_of_ble_eq_true rfl)) cod_171)
theorem moa_173 : ∀ y, y < 173 → ∀ pc o, mP.2.2.2.2 y pc = some o → mOpOk mP mL.length y pc o := lt_s moa_172 (mOp_of (y := 172) (K := lk_11) lkp_11 mka_all (mLlt (Nat.le_of_ble_eq_true rfl)) cod_172)
theorem moa_174 : ∀ y, y < 174 → ∀ pc o, mP.2.2.2.2 y pc = some o → mOpOk mP mL.length y pc o := lt_s moa_173 (mOp_of (y := 173) (K := lk_12) lkp_12 mka_all (mLlt (Nat.le_of_ble_eq_true rfl)) cod_173)
theorem moa_175 : ∀ y, y < 175 → ∀ pc o, mP.2.2.2.2 y pc = some o → mOpOk mP mL.length y pc o := lt_s moa_174 (mOp_of (y := 174) (K := lk_12) lkp_12 mka_all (mLlt (Nat.le_of_ble_eq_true rfl)) cod_174)
theorem moa_176 : ∀ y, y < 176 → ∀ pc o, mP.2.2.2.2 y pc = some o → mOpOk mP mL.length y pc o := lt_s moa_175 (mOp_of (y := 175) (K := lk_12) lkp_12 mka_all (mLlt (Nat.le_of_ble_eq_true rfl)) cod_175)
theorem moa_177 : ∀ y, y < 177 → ∀ pc o, mP.2.2.2.2 y pc = some o → mOpOk mP mL.length y pc o := lt_s moa_176 (mOp_of (y := 176) (K := lk_12) lkp_12 mka_all (mLlt (Nat.le_of_ble_eq_true rfl)) cod_176)
theorem moa_178 : ∀ y, y < 178 → ∀ pc o, mP.2.2.2.2 y pc = some o → mOpOk mP mL.length y pc o := lt_s moa_177 (mOp_of (y := 177) (K := lk_12) lkp_12 mka_all (mLlt (Nat.le_of_ble_eq_true rfl)) cod_177)
theorem moa_179 : ∀ y, y < 179 → ∀ pc o, mP.2.2.2.2 y pc = some o → mOpOk mP mL.length y pc o := lt_s moa_178 (mOp_of (y := 178) (K := lk_12) lkp_12 mka_all (mLlt (Nat.le_of_ble_eq_true rfl)) cod_178)
theorem moa_180 : ∀ y, y < 180 → ∀ pc o, mP.2.2.2.2 y pc = some o → mOpOk mP mL.length y pc o := lt_s moa_179 (mOp_of (y := 179) (K := lk_12) lkp_12 mka_all (mLlt (Nat.le_of_ble_eq_true rfl)) cod_179)
theorem moa_181 : ∀ y, y < 181 → ∀ pc o, mP.2.2.2.2 y pc = some o → mOpOk mP mL.length y pc o := lt_s moa_180 (mOp_of (y := 180) (K := lk_12) lkp_12 mka_all (mLlt (Nat.le_of_ble_eq_true rfl)) cod_180)
theorem moa_182 : ∀ y, y < 182 → ∀ pc o, mP.2.2.2.2 y pc = some o → mOpOk mP mL.length y pc o := lt_s moa_181 (mOp_of (y := 181) (K := lk_12) lkp_12 mka_all (mLlt (Nat.le_of_ble_eq_true rfl)) cod_181)
theorem moa_183 : ∀ y, y < 183 → ∀ pc o, mP.2.2.2.2 y pc = some o → mOpOk mP mL.length y pc o := lt_s moa_182 (mOp_of (y := 182) (K := lk_12) lkp_12 mka_all (mLlt (Nat.le_of_ble_eq_true rfl)) cod_182)
theorem moa_184 : ∀ y, y < 184 → ∀ pc o, mP.2.2.2.2 y pc = some o → mOpOk mP mL.length y pc o := lt_s moa_183 (mOp_of (y := 183) (K := lk_12) lkp_12 mka_all (mLlt (Nat.le_of_ble_eq_true rfl)) cod_183)
theorem moa_185 : ∀ y, y < 185 → ∀ pc o, mP.2.2.2.2 y pc = some o → mOpOk mP mL.length y pc o := lt_s moa_184 (mOp_of (y := 184) (K := lk_12) lkp_12 mka_all (mLlt (Nat.le_of_ble_eq_true rfl)) cod_184)
theorem moa_186 : ∀ y, y < 186 → ∀ pc o, mP.2.2.2.2 y pc = some o → mOpOk mP mL.length y pc o := lt_s moa_185 (mOp_of (y := 185) (K := lk_12) lkp_12 mka_all (mLlt (Nat.le_of_ble_eq_true rfl)) cod_185)
theorem moa_187 : ∀ y, y < 187 → ∀ pc o, mP.2.2.2.2 y pc = some o → mOpOk mP mL.length y pc o := lt_s moa_186 (mOp_of (y := 186) (K := lk_12) lkp_12 mka_all (mLlt (Nat.le_of_ble_eq_true rfl)) cod_186)
theorem moa_188 : ∀ y, y < 188 → ∀ pc o, mP.2.2.2.2 y pc = some o → mOpOk mP mL.length y pc o := lt_s moa_187 (mOp_of (y := 187) (K := lk_12) lkp_12 mka_all (mLlt (Nat.le_of_ble_eq_true rfl)) cod_187)
theorem moa_189 : ∀ y, y < 189 → ∀ pc o, mP.2.2.2.2 y pc = some o → mOpOk mP mL.length y pc o := lt_s moa_188 (mOp_of (y := 188) (K := lk_12) lkp_12 mka_all (mLlt (Nat.le_of_ble_eq_true rfl)) cod_188)
theorem moa_190 : ∀ y, y < 190 → ∀ pc o, mP.2.2.2.2 y pc = some o → mOpOk mP mL.length y pc o := lt_s moa_189 (mOp_of (y := 189) (K := lk_12) lkp_12 mka_all (mLlt (Nat.le_of_ble_eq_true rfl)) cod_189)
theorem moa_191 : ∀ y, y < 191 → ∀ pc o, mP.2.2.2.2 y pc = some o → mOpOk mP mL.length y pc o := lt_s moa_190 (mOp_of (y := 190) (K := lk_12) lkp_12 mka_all (mLlt (Nat.le_of_ble_eq_true rfl)) cod_190)
theorem moa_192 : ∀ y, y < 192 → ∀ pc o, mP.2.2.2.2 y pc = some o → mOpOk mP mL.length y pc o := lt_s moa_191 (mOp_of (y := 191) (K := lk_12) lkp_12 mka_all (mLlt (Nat.le_of_ble_eq_true rfl)) cod_191)
theorem moa_193 : ∀ y, y < 193 → ∀ pc o, mP.2.2.2.2 y pc = some o → mOpOk mP mL.length y pc o := lt_s moa_192 (mOp_of (y := 192) (K := lk_12) lkp_12 mka_all (mLlt (Nat.le_of_ble_eq_true rfl)) cod_192)
theorem moa_194 : ∀ y, y < 194 → ∀ pc o, mP.2.2.2.2 y pc = some o → mOpOk mP mL.length y pc o := lt_s moa_193 (mOp_of (y := 193) (K := lk_12) lkp_12 mka_all (mLlt (Nat.le_of_ble_eq_true rfl)) cod_193)
theorem moa_195 : ∀ y, y < 195 → ∀ pc o, mP.2.2.2.2 y pc = some o → mOpOk mP mL.length y pc o := lt_s moa_194 (mOp_of (y := 194) (K := lk_12) lkp_12 mka_all (mLlt (Nat.le_of_ble_eq_true rfl)) cod_194)
theorem moa_196 : ∀ y, y < 196 → ∀ pc o, mP.2.2.2.2 y pc = some o → mOpOk mP mL.length y pc o := lt_s moa_195 (mOp_of (y := 195) (K := lk_12) lkp_12 mka_all (mLlt (Nat.le_of_ble_eq_true rfl)) cod_195)
theorem moa_197 : ∀ y, y < 197 → ∀ pc o, mP.2.2.2.2 y pc = some o → mOpOk mP mL.length y pc o := lt_s moa_196 (mOp_of (y := 196) (K := lk_12) lkp_12 mka_all (mLlt (Nat.le_of_ble_eq_true rfl)) cod_196)
theorem moa_198 : ∀ y, y < 198 → ∀ pc o, mP.2.2.2.2 y pc = some o → mOpOk mP mL.length y pc o := lt_s moa_197 (mOp_of (y := 197) (K := lk_12) lkp_12 mka_all (mLlt (Nat.le_of_ble_eq_true rfl)) cod_197)
theorem moa_199 : ∀ y, y < 199 → ∀ pc o, mP.2.2.2.2 y pc = some o → mOpOk mP mL.length y pc o := lt_s moa_198 (mOp_of (y := 198) (K := lk_12) lkp_12 mka_all (mLlt (Nat.le_of_ble_eq_true rfl)) cod_198)
theorem moa_200 : ∀ y, y < 200 → ∀ pc o, mP.2.2.2.2 y pc = some o → mOpOk mP mL.length y pc o := lt_s moa_199 (mOp_of (y := 199) (K := lk_12) lkp_12 mka_all (mLlt (Nat.le_of_ble_eq_true rfl)) cod_199)
theorem moa_201 : ∀ y, y < 201 → ∀ pc o, mP.2.2.2.2 y pc = some o → mOpOk mP mL.length y pc o := lt_s moa_200 (mOp_of (y := 200) (K := lk_12) lkp_12 mka_all (mLlt (Nat.le_of_ble_eq_true rfl)) cod_200)
theorem moa_202 : ∀ y, y < 202 → ∀ pc o, mP.2.2.2.2 y pc = some o → mOpOk mP mL.length y pc o := lt_s moa_201 (mOp_of (y := 201) (K := lk_12) lkp_12 mka_all (mLlt (Nat.le_of_ble_eq_true rfl)) cod_201)
theorem moa_203 : ∀ y, y < 203 → ∀ pc o, mP.2.2.2.2 y pc = some o → mOpOk mP mL.length y pc o := lt_s moa_202 (mOp_of (y := 202) (K := lk_12) lkp_12 mka_all (mLlt (Nat.le_of_ble_eq_true rfl)) cod_202)
theorem moa_204 : ∀ y, y < 204 → ∀ pc o, mP.2.2.2.2 y pc = some o → mOpOk mP mL.length y pc o := lt_s moa_203 (mOp_of (y := 203) (K := lk_12) lkp_12 mka_all (mLlt (Nat.le_of_ble_eq_true rfl)) cod_203)
theorem moa_205 : ∀ y, y < 205 → ∀ pc o, mP.2.2.2.2 y pc = some o → mOpOk mP mL.length y pc o := lt_s moa_204 (mOp_of (y := 204) (K := lk_12) lkp_12 mka_all (mLlt (Nat.le_of_ble_eq_true rfl)) cod_204)
theorem moa_206 : ∀ y, y < 206 → ∀ pc o, mP.2.2.2.2 y pc = some o → mOpOk mP mL.length y pc o := lt_s moa_205 (mOp_of (y := 205) (K := lk_12) lkp_12 mka_all (mLlt (Nat.le_of_ble_eq_true rfl)) cod_205)
theorem moa_207 : ∀ y, y < 207 → ∀ pc o, mP.2.2.2.2 y pc = some o → mOpOk mP mL.length y pc o := lt_s moa_206 (mOp_of (y := 206) (K := lk_12) lkp_12 mka_all (mLlt (Nat.le_of_ble_eq_true rfl)) cod_206)
theorem moa_208 : ∀ y, y < 208 → ∀ pc o, mP.2.2.2.2 y pc = some o → mOpOk mP mL.length y pc o := lt_s moa_207 (mOp_of (y := 207) (K := lk_12) lkp_12 mka_all (mLlt (Nat.le_of_ble_eq_true rfl)) cod_207)
theorem moa_209 : ∀ y, y < 209 → ∀ pc o, mP.2.2.2.2 y pc = some o → mOpOk mP mL.length y pc o := lt_s moa_208 (mOp_of (y := 208) (K := lk_12) lkp_12 mka_all (mLlt (Nat.le_of_ble_eq_true rfl)) cod_208)
theorem moa_210 : ∀ y, y < 210 → ∀ pc o, mP.2.2.2.2 y pc = some o → mOpOk mP mL.length y pc o := lt_s moa_209 (mOp_of (y := 209) (K := lk_12) lkp_12 mka_all (mLlt (Nat.le_of_ble_eq_true rfl)) cod_209)
theorem moa_211 : ∀ y, y < 211 → ∀ pc o, mP.2.2.2.2 y pc = some o → mOpOk mP mL.length y pc o := lt_s moa_210 (mOp_of (y := 210) (K := lk_12) lkp_12 mka_all (mLlt (Nat.le_of_ble_eq_true rfl)) cod_210)
theorem moa_212 : ∀ y, y < 212 → ∀ pc o, mP.2.2.2.2 y pc = some o → mOpOk mP mL.length y pc o := lt_s moa_211 (mOp_of (y := 211) (K := lk_12) lkp_12 mka_all (mLlt (Nat.le_of_ble_eq_true rfl)) cod_211)
theorem moa_213 : ∀ y, y < 213 → ∀ pc o, mP.2.2.2.2 y pc = some o → mOpOk mP mL.length y pc o := lt_s moa_212 (mOp_of (y := 212) (K := lk_12) lkp_12 mka_all (mLlt (Nat.le_of_ble_eq_true rfl)) cod_212)
theorem moa_214 : ∀ y, y < 214 → ∀ pc o, mP.2.2.2.2 y pc = some o → mOpOk mP mL.length y pc o := lt_s moa_213 (mOp_of (y := 213) (K := lk_12) lkp_12 mka_all (mLlt (Nat.le_of_ble_eq_true rfl)) cod_213)
theorem moa_215 : ∀ y, y < 215 → ∀ pc o, mP.2.2.2.2 y pc = some o → mOpOk mP mL.length y pc o := lt_s moa_214 (mOp_of (y := 214) (K := lk_12) lkp_12 mka_all (mLlt (Nat.le_of_ble_eq_true rfl)) cod_214)
theorem moa_216 : ∀ y, y < 216 → ∀ pc o, mP.2.2.2.2 y pc = some o → mOpOk mP mL.length y pc o := lt_s moa_215 (mOp_of (y := 215) (K := lk_12) lkp_12 mka_all (mLlt (Nat.le_of_ble_eq_true rfl)) cod_215)
theorem moa_217 : ∀ y, y < 217 → ∀ pc o, mP.2.2.2.2 y pc = some o → mOpOk mP mL.length y pc o := lt_s moa_216 (mOp_of (y := 216) (K := lk_12) lkp_12 mka_all (mLlt (Nat.le_of_ble_eq_true rfl)) cod_216)
theorem moa_218 : ∀ y, y < 218 → ∀ pc o, mP.2.2.2.2 y pc = some o → mOpOk mP mL.length y pc o := lt_s moa_217 (mOp_of (y := 217) (K := lk_12) lkp_12 mka_all (mLlt (Nat.le_of_ble_eq_true rfl)) cod_217)
theorem moa_219 : ∀ y, y < 219 → ∀ pc o, mP.2.2.2.2 y pc = some o → mOpOk mP mL.length y pc o := lt_s moa_218 (mOp_of (y := 218) (K := lk_12) lkp_12 mka_all (mLlt (Nat.le_of_ble_eq_true rfl)) cod_218)
theorem moa_220 : ∀ y, y < 220 → ∀ pc o, mP.2.2.2.2 y pc = some o → mOpOk mP mL.length y pc o := lt_s moa_219 (mOp_of (y := 219) (K := lk_12) lkp_12 mka_all (mLlt (Nat.le_of_ble_eq_true rfl)) cod_219)
theorem moa_221 : ∀ y, y < 221 → ∀ pc o, mP.2.2.2.2 y pc = some o → mOpOk mP mL.length y pc o := lt_s moa_220 (mOp_of (y := 220) (K := lk_12) lkp_12 mka_all (mLlt (Nat.le_of_ble_eq_true rfl)) cod_220)
theorem moa_222 : ∀ y, y < 222 → ∀ pc o, mP.2.2.2.2 y pc = some o → mOpOk mP mL.length y pc o := lt_s moa_221 (mOp_of (y := 221) (K := lk_12) lkp_12 mka_all (mLlt (Nat.le_of_ble_eq_true rfl)) cod_221)
theorem moa_223 : ∀ y, y < 223 → ∀ pc o, mP.2.2.2.2 y pc = some o → mOpOk mP mL.length y pc o := lt_s moa_222 (mOp_of (y := 222) (K := lk_12) lkp_12 mka_all (mLlt (Nat.le_of_ble_eq_true rfl)) cod_222)
theorem moa_224 : ∀ y, y < 224 → ∀ pc o, mP.2.2.2.2 y pc = some o → mOpOk mP mL.length y pc o := lt_s moa_223 (mOp_of (y := 223) (K := lk_12) lkp_12 mka_all (mLlt (Nat.le_of_ble_eq_true rfl)) cod_223)
theorem moa_225 : ∀ y, y < 225 → ∀ pc o, mP.2.2.2.2 y pc = some o → mOpOk mP mL.length y pc o := lt_s moa_224 (mOp_of (y := 224) (K := lk_12) lkp_12 mka_all (mLlt (Nat.le_of_ble_eq_true rfl)) cod_224)
theorem moa_226 : ∀ y, y < 226 → ∀ pc o, mP.2.2.2.2 y pc = some o → mOpOk mP mL.length y pc o := lt_s moa_225 (mOp_of (y := 225) (K := lk_12) lkp_12 mka_all (mLlt (Nat.le_of_ble_eq_true rfl)) cod_225)
theorem moa_227 : ∀ y, y < 227 → ∀ pc o, mP.2.2.2.2 y pc = some o → mOpOk mP mL.length y pc o := lt_s moa_226 (mOp_of (y := 226) (K := lk_12) lkp_12 mka_all (mLlt (Nat.le_of_ble_eq_true rfl)) cod_226)
theorem moa_228 : ∀ y, y < 228 → ∀ pc o, mP.2.2.2.2 y pc = some o → mOpOk mP mL.length y pc o := lt_s moa_227 (mOp_of (y := 227) (K := lk_12) lkp_12 mka_all (mLlt (Nat.le_of_ble_eq_true rfl)) cod_227)
theorem moa_229 : ∀ y, y < 229 → ∀ pc o, mP.2.2.2.2 y pc = some o → mOpOk mP mL.length y pc o := lt_s moa_228 (mOp_of (y := 228) (K := lk_12) lkp_12 mka_all (mLlt (Nat.le_of_ble_eq_true rfl)) cod_228)
theorem moa_230 : ∀ y, y < 230 → ∀ pc o, mP.2.2.2.2 y pc = some o → mOpOk mP mL.length y pc o := lt_s moa_229 (mOp_of (y := 229) (K := lk_12) lkp_12 mka_all (mLlt (Nat.le_of_ble_eq_true rfl)) cod_229)
theorem moa_231 : ∀ y, y < 231 → ∀ pc o, mP.2.2.2.2 y pc = some o → mOpOk mP mL.length y pc o := lt_s moa_230 (mOp_of (y := 230) (K := lk_12) lkp_12 mka_all (mLlt (Nat.le_of_ble_eq_true rfl)) cod_230)
theorem moa_232 : ∀ y, y < 232 → ∀ pc o, mP.2.2.2.2 y pc = some o → mOpOk mP mL.length y pc o := lt_s moa_231 (mOp_of (y := 231) (K := lk_12) lkp_12 mka_all (mLlt (Nat.le_of_ble_eq_true rfl)) cod_231)
theorem moa_233 : ∀ y, y < 233 → ∀ pc o, mP.2.2.2.2 y pc = some o → mOpOk mP mL.length y pc o := lt_s moa_232 (mOp_of (y := 232) (K := lk_12) lkp_12 mka_all (mLlt (Nat.le_of_ble_eq_true rfl)) cod_232)
theorem moa_234 : ∀ y, y < 234 → ∀ pc o, mP.2.2.2.2 y pc = some o → mOpOk mP mL.length y pc o := lt_s moa_233 (mOp_of (y := 233) (K := lk_12) lkp_12 mka_all (mLlt (Nat.le_of_ble_eq_true rfl)) cod_233)
theorem moa_235 : ∀ y, y < 235 → ∀ pc o, mP.2.2.2.2 y pc = some o → mOpOk mP mL.length y pc o := lt_s moa_234 (mOp_of (y := 234) (K := lk_12) lkp_12 mka_all (mLlt (Nat.le_of_ble_eq_true rfl)) cod_234)
theorem moa_236 : ∀ y, y < 236 → ∀ pc o, mP.2.2.2.2 y pc = some o → mOpOk mP mL.length y pc o := lt_s moa_235 (mOp_of (y := 235) (K := lk_12) lkp_12 mka_all (mLlt (Nat.le_of_ble_eq_true rfl)) cod_235)
theorem moa_237 : ∀ y, y < 237 → ∀ pc o, mP.2.2.2.2 y pc = some o → mOpOk mP mL.length y pc o := lt_s moa_236 (mOp_of (y := 236) (K := lk_12) lkp_12 mka_all (mLlt (Nat.le_of_ble_eq_true rfl)) cod_236)
theorem moa_238 : ∀ y, y < 238 → ∀ pc o, mP.2.2.2.2 y pc = some o → mOpOk mP mL.length y pc o := lt_s moa_237 (mOp_of (y := 237) (K := lk_12) lkp_12 mka_all (mLlt (Nat.le_of_ble_eq_true rfl)) cod_237)
theorem moa_239 : ∀ y, y < 239 → ∀ pc o, mP.2.2.2.2 y pc = some o → mOpOk mP mL.length y pc o := lt_s moa_238 (mOp_of (y := 238) (K := lk_12) lkp_12 mka_all (mLlt (Nat.le_of_ble_eq_true rfl)) cod_238)
theorem moa_240 : ∀ y, y < 240 → ∀ pc o, mP.2.2.2.2 y pc = some o → mOpOk mP mL.length y pc o := lt_s moa_239 (mOp_of (y := 239) (K := lk_12) lkp_12 mka_all (mLlt (Nat.le_of_ble_eq_true rfl)) cod_239)
theorem moa_241 : ∀ y, y < 241 → ∀ pc o, mP.2.2.2.2 y pc = some o → mOpOk mP mL.length y pc o := lt_s moa_240 (mOp_of (y := 240) (K := lk_12) lkp_12 mka_all (mLlt (Nat.le_of_ble_eq_true rfl)) cod_240)
theorem moa_242 : ∀ y, y < 242 → ∀ pc o, mP.2.2.2.2 y pc = some o → mOpOk mP mL.length y pc o := lt_s moa_241 (mOp_of (y := 241) (K := lk_12) lkp_12 mka_all (mLlt (Nat.le_of_ble_eq_true rfl)) cod_241)
theorem moa_243 : ∀ y, y < 243 → ∀ pc o, mP.2.2.2.2 y pc = some o → mOpOk mP mL.length y pc o := lt_s moa_242 (mOp_of (y := 242) (K := lk_12) lkp_12 mka_all (mLlt (Nat.le_of_ble_eq_true rfl)) cod_242)
theorem moa_244 : ∀ y, y < 244 → ∀ pc o, mP.2.2.2.2 y pc = some o → mOpOk mP mL.length y pc o := lt_s moa_243 (mOp_of (y := 243) (K := lk_12) lkp_12 mka_all (mLlt (Nat.le_of_ble_eq_true rfl)) cod_243)
theorem moa_245 : ∀ y, y < 245 → ∀ pc o, mP.2.2.2.2 y pc = some o → mOpOk mP mL.length y pc o := lt_s moa_244 (mOp_of (y := 244) (K := lk_12) lkp_12 mka_all (mLlt (Nat.le_of_ble_eq_true rfl)) cod_244)
theorem moa_246 : ∀ y, y < 246 → ∀ pc o, mP.2.2.2.2 y pc = some o → mOpOk mP mL.length y pc o := lt_s moa_245 (mOp_of (y := 245) (K := lk_12) lkp_12 mka_all (mLlt (Nat.le_of_ble_eq_true rfl)) cod_245)
theorem moa_247 : ∀ y, y < 247 → ∀ pc o, mP.2.2.2.2 y pc = some o → mOpOk mP mL.length y pc o := lt_s moa_246 (mOp_of (y := 246) (K := lk_12) lkp_12 mka_all (mLlt (Nat.le_of_ble_eq_true rfl)) cod_246)
theorem moa_248 : ∀ y, y < 248 → ∀ pc o, mP.2.2.2.2 y pc = some o → mOpOk mP mL.length y pc o := lt_s moa_247 (mOp_of (y := 247) (K := lk_12) lkp_12 mka_all (mLlt (Nat.le_of_ble_eq_true rfl)) cod_247)
theorem moa_249 : ∀ y, y < 249 → ∀ pc o, mP.2.2.2.2 y pc = some o → mOpOk mP mL.length y pc o := lt_s moa_248 (mOp_of (y := 248) (K := lk_12) lkp_12 mka_all (mLlt (Nat.le_of_ble_eq_true rfl)) cod_248)
theorem moa_250 : ∀ y, y < 250 → ∀ pc o, mP.2.2.2.2 y pc = some o → mOpOk mP mL.length y pc o := lt_s moa_249 (mOp_of (y := 249) (K := lk_12) lkp_12 mka_all (mLlt (Nat.le_of_ble_eq_true rfl)) cod_249)
theorem moa_251 : ∀ y, y < 251 → ∀ pc o, mP.2.2.2.2 y pc = some o → mOpOk mP mL.length y pc o := lt_s moa_250 (mOp_of (y := 250) (K := lk_12) lkp_12 mka_all (mLlt (Nat.le_of_ble_eq_true rfl)) cod_250)
theorem moa_252 : ∀ y, y < 252 → ∀ pc o, mP.2.2.2.2 y pc = some o → mOpOk mP mL.length y pc o := lt_s moa_251 (mOp_of (y := 251) (K := lk_12) lkp_12 mka_all (mLlt (Nat.le_of_ble_eq_true rfl)) cod_251)
theorem moa_253 : ∀ y, y < 253 → ∀ pc o, mP.2.2.2.2 y pc = some o → mOpOk mP mL.length y pc o := lt_s moa_252 (mOp_of (y := 252) (K := lk_12) lkp_12 mka_all (mLlt (Nat.le_of_ble_eq_true rfl)) cod_252)
theorem moa_254 : ∀ y, y < 254 → ∀ pc o, mP.2.2.2.2 y pc = some o → mOpOk mP mL.length y pc o := lt_s moa_253 (mOp_of (y := 253) (K := lk_12) lkp_12 mka_all (mLlt (Nat.le_of_ble_eq_true rfl)) cod_253)
theorem moa_255 : ∀ y, y < 255 → ∀ pc o, mP.2.2.2.2 y pc = some o → mOpOk mP mL.length y pc o := lt_s moa_254 (mOp_of (y := 254) (K := lk_12) lkp_12 mka_all (mLlt (Nat.le_of_ble_eq_true rfl)) cod_254)
theorem moa_256 : ∀ y, y < 256 → ∀ pc o, mP.2.2.2.2 y pc = some o → mOpOk mP mL.length y pc o := lt_s moa_255 (mOp_of (y := 255) (K := lk_12) lkp_12 mka_all (mLlt (Nat.le_of_ble_eq_true rfl)) cod_255)
theorem moa_257 : ∀ y, y < 257 → ∀ pc o, mP.2.2.2.2 y pc = some o → mOpOk mP mL.length y pc o := lt_s moa_256 (mOp_of (y := 256) (K := lk_12) lkp_12 mka_all (mLlt (Nat.le_of_ble_eq_true rfl)) cod_256)
theorem moa_258 : ∀ y, y < 258 → ∀ pc o, mP.2.2.2.2 y pc = some o → mOpOk mP mL.length y pc o := lt_s moa_257 (mOp_of (y := 257) (K := lk_12) lkp_12 mka_all (mLlt (Nat.le_of_ble_eq_true rfl)) cod_257)
theorem moa_259 : ∀ y, y < 259 → ∀ pc o, mP.2.2.2.2 y pc = some o → mOpOk mP mL.length y pc o := lt_s moa_258 (mOp_of (y := 258) (K := lk_12) lkp_12 mka_all (mLlt (Nat.le_of_ble_eq_true rfl)) cod_258)
theorem moa_260 : ∀ y, y < 260 → ∀ pc o, mP.2.2.2.2 y pc = some o → mOpOk mP mL.length y pc o := lt_s moa_259 (mOp_of (y := 259) (K := lk_12) lkp_12 mka_all (mLlt (Nat.le_of_ble_eq_true rfl)) cod_259)
theorem moa_261 : ∀ y, y < 261 → ∀ pc o, mP.2.2.2.2 y pc = some o → mOpOk mP mL.length y pc o := lt_s moa_260 (mOp_of (y := 260) (K := lk_12) lkp_12 mka_all (mLlt (Nat.le_of_ble_eq_true rfl)) cod_260)
theorem moa_262 : ∀ y, y < 262 → ∀ pc o, mP.2.2.2.2 y pc = some o → mOpOk mP mL.length y pc o := lt_s moa_261 (mOp_of (y := 261) (K := lk_12) lkp_12 mka_all (mLlt (Nat.le_of_ble_eq_true rfl)) cod_261)
theorem moa_263 : ∀ y, y < 263 → ∀ pc o, mP.2.2.2.2 y pc = some o → mOpOk mP mL.length y pc o := lt_s moa_262 (mOp_of (y := 262) (K := lk_12) lkp_12 mka_all (mLlt (Nat.le_of_ble_eq_true rfl)) cod_262)
theorem moa_264 : ∀ y, y < 264 → ∀ pc o, mP.2.2.2.2 y pc = some o → mOpOk mP mL.length y pc o := lt_s moa_263 (mOp_of (y := 263) (K := lk_12) lkp_12 mka_all (mLlt (Nat.le_of_ble_eq_true rfl)) cod_263)
theorem moa_265 : ∀ y, y < 265 → ∀ pc o, mP.2.2.2.2 y pc = some o → mOpOk mP mL.length y pc o := lt_s moa_264 (mOp_of (y := 264) (K := lk_12) lkp_12 mka_all (mLlt (Nat.le_of_ble_eq_true rfl)) cod_264)
theorem moa_266 : ∀ y, y < 266 → ∀ pc o, mP.2.2.2.2 y pc = some o → mOpOk mP mL.length y pc o := lt_s moa_265 (mOp_of (y := 265) (K := lk_12) lkp_12 mka_all (mLlt (Nat.le_of_ble_eq_true rfl)) cod_265)
theorem moa_267 : ∀ y, y < 267 → ∀ pc o, mP.2.2.2.2 y pc = some o → mOpOk mP mL.length y pc o := lt_s moa_266 (mOp_of (y := 266) (K := lk_12) lkp_12 mka_all (mLlt (Nat.le_of_ble_eq_true rfl)) cod_266)
theorem moa_268 : ∀ y, y < 268 → ∀ pc o, mP.2.2.2.2 y pc = some o → mOpOk mP mL.length y pc o := lt_s moa_267 (mOp_of (y := 267) (K := lk_12) lkp_12 mka_all (mLlt (Nat.le_of_ble_eq_true rfl)) cod_267)
theorem moa_269 : ∀ y, y < 269 → ∀ pc o, mP.2.2.2.2 y pc = some o → mOpOk mP mL.length y pc o := lt_s moa_268 (mOp_of (y := 268) (K := lk_12) lkp_12 mka_all (mLlt (Nat.le_of_ble_eq_true rfl)) cod_268)
theorem moa_270 : ∀ y, y < 270 → ∀ pc o, mP.2.2.2.2 y pc = some o → mOpOk mP mL.length y pc o := lt_s moa_269 (mOp_of (y := 269) (K := lk_12) lkp_12 mka_all (mLlt (Nat.le_of_ble_eq_true rfl)) cod_269)
theorem moa_271 : ∀ y, y < 271 → ∀ pc o, mP.2.2.2.2 y pc = some o → mOpOk mP mL.length y pc o := lt_s moa_270 (mOp_of (y := 270) (K := lk_12) lkp_12 mka_all (mLlt (Nat.le_of_ble_eq_true rfl)) cod_270)
theorem moa_272 : ∀ y, y < 272 → ∀ pc o, mP.2.2.2.2 y pc = some o → mOpOk mP mL.length y pc o := lt_s moa_271 (mOp_of (y := 271) (K := lk_12) lkp_12 mka_all (mLlt (Nat.le_of_ble_eq_true rfl)) cod_271)
theorem moa_273 : ∀ y, y < 273 → ∀ pc o, mP.2.2.2.2 y pc = some o → mOpOk mP mL.length y pc o := lt_s moa_272 (mOp_of (y := 272) (K := lk_12) lkp_12 mka_all (mLlt (Nat.le_of_ble_eq_true rfl)) cod_272)
theorem moa_274 : ∀ y, y < 274 → ∀ pc o, mP.2.2.2.2 y pc = some o → mOpOk mP mL.length y pc o := lt_s moa_273 (mOp_of (y := 273) (K := lk_12) lkp_12 mka_all (mLlt (Nat.le_of_ble_eq_true rfl)) cod_273)
theorem moa_275 : ∀ y, y < 275 → ∀ pc o, mP.2.2.2.2 y pc = some o → mOpOk mP mL.length y pc o := lt_s moa_274 (mOp_of (y := 274) (K := lk_12) lkp_12 mka_all (mLlt (Nat.le_of_ble_eq_true rfl)) cod_274)
theorem moa_276 : ∀ y, y < 276 → ∀ pc o, mP.2.2.2.2 y pc = some o → mOpOk mP mL.length y pc o := lt_s moa_275 (mOp_of (y := 275) (K := lk_12) lkp_12 mka_all (mLlt (Nat.le_of_ble_eq_true rfl)) cod_275)
theorem moa_277 : ∀ y, y < 277 → ∀ pc o, mP.2.2.2.2 y pc = some o → mOpOk mP mL.length y pc o := lt_s moa_276 (mOp_of (y := 276) (K := lk_12) lkp_12 mka_all (mLlt (Nat.le_of_ble_eq_true rfl)) cod_276)
theorem moa_278 : ∀ y, y < 278 → ∀ pc o, mP.2.2.2.2 y pc = some o → mOpOk mP mL.length y pc o := lt_s moa_277 (mOp_of (y := 277) (K := lk_12) lkp_12 mka_all (mLlt (Nat.le_of_ble_eq_true rfl)) cod_277)
theorem moa_279 : ∀ y, y < 279 → ∀ pc o, mP.2.2.2.2 y pc = some o → mOpOk mP mL.length y pc o := lt_s moa_278 (mOp_of (y := 278) (K := lk_12) lkp_12 mka_all (mLlt (Nat.le_of_ble_eq_true rfl)) cod_278)
theorem moa_280 : ∀ y, y < 280 → ∀ pc o, mP.2.2.2.2 y pc = some o → mOpOk mP mL.length y pc o := lt_s moa_279 (mOp_of (y := 279) (K := lk_12) lkp_12 mka_all (mLlt (Nat.le_of_ble_eq_true rfl)) cod_279)
theorem moa_281 : ∀ y, y < 281 → ∀ pc o, mP.2.2.2.2 y pc = some o → mOpOk mP mL.length y pc o := lt_s moa_280 (mOp_of (y := 280) (K := lk_12) lkp_12 mka_all (mLlt (Nat.le_of_ble_eq_true rfl)) cod_280)
theorem moa_282 : ∀ y, y < 282 → ∀ pc o, mP.2.2.2.2 y pc = some o → mOpOk mP mL.length y pc o := lt_s moa_281 (mOp_of (y := 281) (K := lk_12) lkp_12 mka_all (mLlt (Nat.le_of_ble_eq_true rfl)) cod_281)
theorem moa_283 : ∀ y, y < 283 → ∀ pc o, mP.2.2.2.2 y pc = some o → mOpOk mP mL.length y pc o := lt_s moa_282 (mOp_of (y := 282) (K := lk_12) lkp_12 mka_all (mLlt (Nat.le_of_ble_eq_true rfl)) cod_282)
theorem moa_284 : ∀ y, y < 284 → ∀ pc o, mP.2.2.2.2 y pc = some o → mOpOk mP mL.length y pc o := lt_s moa_283 (mOp_of (y := 283) (K := lk_12) lkp_12 mka_all (mLlt (Nat.le_of_ble_eq_true rfl)) cod_283)
theorem moa_285 : ∀ y, y < 285 → ∀ pc o, mP.2.2.2.2 y pc = some o → mOpOk mP mL.length y pc o := lt_s moa_284 (mOp_of (y := 284) (K := lk_12) lkp_12 mka_all (mLlt (Nat.le_of_ble_eq_true rfl)) cod_284)
theorem moa_286 : ∀ y, y < 286 → ∀ pc o, mP.2.2.2.2 y pc = some o → mOpOk mP mL.length y pc o := lt_s moa_285 (mOp_of (y := 285) (K := lk_12) lkp_12 mka_all (mLlt (Nat.le_of_ble_eq_true rfl)) cod_285)
theorem moa_287 : ∀ y, y < 287 → ∀ pc o, mP.2.2.2.2 y pc = some o → mOpOk mP mL.length y pc o := lt_s moa_286 (mOp_of (y := 286) (K := lk_12) lkp_12 mka_all (mLlt (Nat.le_of_ble_eq_true rfl)) cod_286)
theorem moa_288 : ∀ y, y < 288 → ∀ pc o, mP.2.2.2.2 y pc = some o → mOpOk mP mL.length y pc o := lt_s moa_287 (mOp_of (y := 287) (K := lk_12) lkp_12 mka_all (mLlt (Nat.le_of_ble_eq_true rfl)) cod_287)
theorem moa_289 : ∀ y, y < 289 → ∀ pc o, mP.2.2.2.2 y pc = some o → mOpOk mP mL.length y pc o := lt_s moa_288 (mOp_of (y := 288) (K := lk_12) lkp_12 mka_all (mLlt (Nat.le_of_ble_eq_true rfl)) cod_288)
theorem moa_290 : ∀ y, y < 290 → ∀ pc o, mP.2.2.2.2 y pc = some o → mOpOk mP mL.length y pc o := lt_s moa_289 (mOp_of (y := 289) (K := lk_12) lkp_12 mka_all (mLlt (Nat.le_of_ble_eq_true rfl)) cod_289)
theorem moa_291 : ∀ y, y < 291 → ∀ pc o, mP.2.2.2.2 y pc = some o → mOpOk mP mL.length y pc o := lt_s moa_290 (mOp_of (y := 290) (K := lk_12) lkp_12 mka_all (mLlt (Nat.le_of_ble_eq_true rfl)) cod_290)
theorem moa_292 : ∀ y, y < 292 → ∀ pc o, mP.2.2.2.2 y pc = some o → mOpOk mP mL.length y pc o := lt_s moa_291 (mOp_of (y := 291) (K := lk_12) lkp_12 mka_all (mLlt (Nat.le_of_ble_eq_true rfl)) cod_291)
theorem moa_293 : ∀ y, y < 293 → ∀ pc o, mP.2.2.2.2 y pc = some o → mOpOk mP mL.length y pc o := lt_s moa_292 (mOp_of (y := 292) (K := lk_12) lkp_12 mka_all (mLlt (Nat.le_of_ble_eq_true rfl)) cod_292)
theorem moa_294 : ∀ y, y < 294 → ∀ pc o, mP.2.2.2.2 y pc = some o → mOpOk mP mL.length y pc o := lt_s moa_293 (mOp_of (y := 293) (K := lk_12) lkp_12 mka_all (mLlt (Nat.le_of_ble_eq_true rfl)) cod_293)
theorem moa_295 : ∀ y, y < 295 → ∀ pc o, mP.2.2.2.2 y pc = some o → mOpOk mP mL.length y pc o := lt_s moa_294 (mOp_of (y := 294) (K := lk_12) lkp_12 mka_all (mLlt (Nat.le_of_ble_eq_true rfl)) cod_294)
theorem moa_296 : ∀ y, y < 296 → ∀ pc o, mP.2.2.2.2 y pc = some o → mOpOk mP mL.length y pc o := lt_s moa_295 (mOp_of (y := 295) (K := lk_12) lkp_12 mka_all (mLlt (Nat.le_of_ble_eq_true rfl)) cod_295)
theorem moa_297 : ∀ y, y < 297 → ∀ pc o, mP.2.2.2.2 y pc = some o → mOpOk mP mL.length y pc o := lt_s moa_296 (mOp_of (y := 296) (K := lk_12) lkp_12 mka_all (mLlt (Nat.le_of_ble_eq_true rfl)) cod_296)
theorem moa_298 : ∀ y, y < 298 → ∀ pc o, mP.2.2.2.2 y pc = some o → mOpOk mP mL.length y pc o := lt_s moa_297 (mOp_of (y := 297) (K := lk_12) lkp_12 mka_all (mLlt (Nat.le_of_ble_eq_true rfl)) cod_297)
theorem moa_299 : ∀ y, y < 299 → ∀ pc o, mP.2.2.2.2 y pc = some o → mOpOk mP mL.length y pc o := lt_s moa_298 (mOp_of (y := 298) (K := lk_12) lkp_12 mka_all (mLlt (Nat.le_of_ble_eq_true rfl)) cod_298)
theorem moa_300 : ∀ y, y < 300 → ∀ pc o, mP.2.2.2.2 y pc = some o → mOpOk mP mL.length y pc o := lt_s moa_299 (mOp_of (y := 299) (K := lk_12) lkp_12 mka_all (mLlt (Nat.le_of_ble_eq_true rfl)) cod_299)
theorem moa_301 : ∀ y, y < 301 → ∀ pc o, mP.2.2.2.2 y pc = some o → mOpOk mP mL.length y pc o := lt_s moa_300 (mOp_of (y := 300) (K := lk_12) lkp_12 mka_all (mLlt (Nat.le_of_ble_eq_true rfl)) cod_300)
theorem moa_302 : ∀ y, y < 302 → ∀ pc o, mP.2.2.2.2 y pc = some o → mOpOk mP mL.length y pc o := lt_s moa_301 (mOp_of (y := 301) (K := lk_12) lkp_12 mka_all (mLlt (Nat.le_of_ble_eq_true rfl)) cod_301)
theorem moa_303 : ∀ y, y < 303 → ∀ pc o, mP.2.2.2.2 y pc = some o → mOpOk mP mL.length y pc o := lt_s moa_302 (mOp_of (y := 302) (K := lk_12) lkp_12 mka_all (mLlt (Nat.le_of_ble_eq_true rfl)) cod_302)
theorem moa_304 : ∀ y, y < 304 → ∀ pc o, mP.2.2.2.2 y pc = some o → mOpOk mP mL.length y pc o := lt_s moa_303 (mOp_of (y := 303) (K := lk_12) lkp_12 mka_all (mLlt (Nat.le_of_ble_eq_true rfl)) cod_303)
theorem moa_305 : ∀ y, y < 305 → ∀ pc o, mP.2.2.2.2 y pc = some o → mOpOk mP mL.length y pc o := lt_s moa_304 (mOp_of (y := 304) (K := lk_12) lkp_12 mka_all (mLlt (Nat.le_of_ble_eq_true rfl)) cod_304)
theorem moa_306 : ∀ y, y < 306 → ∀ pc o, mP.2.2.2.2 y pc = some o → mOpOk mP mL.length y pc o := lt_s moa_305 (mOp_of (y := 305) (K := lk_12) lkp_12 mka_all (mLlt (Nat.le_of_ble_eq_true rfl)) cod_305)
theorem moa_307 : ∀ y, y < 307 → ∀ pc o, mP.2.2.2.2 y pc = some o → mOpOk mP mL.length y pc o := lt_s moa_306 (mOp_of (y := 306) (K := lk_12) lkp_12 mka_all (mLlt (Nat.le_of_ble_eq_true rfl)) cod_306)
theorem moa_308 : ∀ y, y < 308 → ∀ pc o, mP.2.2.2.2 y pc = some o → mOpOk mP mL.length y pc o := lt_s moa_307 (mOp_of (y := 307) (K := lk_12) lkp_12 mka_all (mLlt (Nat.le_of_ble_eq_true rfl)) cod_307)
theorem moa_309 : ∀ y, y < 309 → ∀ pc o, mP.2.2.2.2 y pc = some o → mOpOk mP mL.length y pc o := lt_s moa_308 (mOp_of (y := 308) (K := lk_13) lkp_13 mka_all (mLlt (Nat.le_of_ble_eq_true rfl)) cod_308)
theorem mP_ok : mPok mP mL.length := ⟨mBase_ok, fun y hy => (mMok_of (mka_all y hy)).1, fun y hy pc o h => moa_309 y (by rw [mL_len] at hy; exact hy) pc o h⟩
