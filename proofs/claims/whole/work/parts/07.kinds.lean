/-! kinds and lengths of the cells -/
theorem kd_0 : kd 0 = 8 := by decide +kernel
theorem kd_1 : kd 1 = 0 := by decide +kernel
theorem kd_2 : kd 2 = 20 := by decide +kernel
theorem ln_2 : ln 2 = 4 := by decide +kernel
theorem kd_3 : kd 3 = 20 := by decide +kernel
theorem ln_3 : ln 3 = 4 := by decide +kernel
theorem kd_4 : kd 4 = 20 := by decide +kernel
theorem ln_4 : ln 4 = 6 := by decide +kernel
theorem kd_5 : kd 5 = 20 := by decide +kernel
theorem ln_5 : ln 5 = 6 := by decide +kernel
theorem kd_6 : kd 6 = 20 := by decide +kernel
theorem ln_6 : ln 6 = 6 := by decide +kernel
theorem kd_7 : kd 7 = 20 := by decide +kernel
theorem ln_7 : ln 7 = 6 := by decide +kernel
theorem kd_8 : kd 8 = 20 := by decide +kernel
theorem ln_8 : ln 8 = 3 := by decide +kernel
theorem kd_9 : kd 9 = 20 := by decide +kernel
theorem ln_9 : ln 9 = 3 := by decide +kernel
theorem kd_10 : kd 10 = 1 := by decide +kernel
theorem kd_11 : kd 11 = 24 := by decide +kernel
theorem ln_11 : ln 11 = 10 := by decide +kernel
theorem kd_12 : kd 12 = 0 := by decide +kernel
theorem kd_13 : kd 13 = 20 := by decide +kernel
theorem ln_13 : ln 13 = 4 := by decide +kernel
theorem kd_14 : kd 14 = 20 := by decide +kernel
theorem ln_14 : ln 14 = 4 := by decide +kernel
theorem kd_15 : kd 15 = 20 := by decide +kernel
theorem ln_15 : ln 15 = 6 := by decide +kernel
theorem kd_16 : kd 16 = 20 := by decide +kernel
theorem ln_16 : ln 16 = 6 := by decide +kernel
theorem kd_17 : kd 17 = 20 := by decide +kernel
theorem ln_17 : ln 17 = 6 := by decide +kernel
theorem kd_18 : kd 18 = 20 := by decide +kernel
theorem ln_18 : ln 18 = 6 := by decide +kernel
theorem kd_19 : kd 19 = 20 := by decide +kernel
theorem ln_19 : ln 19 = 3 := by decide +kernel
theorem kd_20 : kd 20 = 20 := by decide +kernel
theorem ln_20 : ln 20 = 3 := by decide +kernel
theorem kd_21 : kd 21 = 0 := by decide +kernel
theorem kd_22 : kd 22 = 20 := by decide +kernel
theorem ln_22 : ln 22 = 4 := by decide +kernel
theorem kd_23 : kd 23 = 20 := by decide +kernel
theorem ln_23 : ln 23 = 4 := by decide +kernel
theorem kd_24 : kd 24 = 20 := by decide +kernel
theorem ln_24 : ln 24 = 6 := by decide +kernel
theorem kd_25 : kd 25 = 20 := by decide +kernel
theorem ln_25 : ln 25 = 6 := by decide +kernel
theorem kd_26 : kd 26 = 20 := by decide +kernel
theorem ln_26 : ln 26 = 6 := by decide +kernel
theorem kd_27 : kd 27 = 20 := by decide +kernel
theorem ln_27 : ln 27 = 6 := by decide +kernel
theorem kd_28 : kd 28 = 20 := by decide +kernel
theorem ln_28 : ln 28 = 3 := by decide +kernel
theorem kd_29 : kd 29 = 20 := by decide +kernel
theorem ln_29 : ln 29 = 3 := by decide +kernel
theorem kd_30 : kd 30 = 0 := by decide +kernel
theorem kd_31 : kd 31 = 20 := by decide +kernel
theorem ln_31 : ln 31 = 4 := by decide +kernel
theorem kd_32 : kd 32 = 20 := by decide +kernel
theorem ln_32 : ln 32 = 4 := by decide +kernel
theorem kd_33 : kd 33 = 20 := by decide +kernel
theorem ln_33 : ln 33 = 6 := by decide +kernel
theorem kd_34 : kd 34 = 20 := by decide +kernel
theorem ln_34 : ln 34 = 6 := by decide +kernel
theorem kd_35 : kd 35 = 20 := by decide +kernel
theorem ln_35 : ln 35 = 6 := by decide +kernel
theorem kd_36 : kd 36 = 20 := by decide +kernel
theorem ln_36 : ln 36 = 6 := by decide +kernel
theorem kd_37 : kd 37 = 20 := by decide +kernel
theorem ln_37 : ln 37 = 3 := by decide +kernel
theorem kd_38 : kd 38 = 20 := by decide +kernel
theorem ln_38 : ln 38 = 3 := by decide +kernel
theorem kd_39 : kd 39 = 0 := by decide +kernel
theorem kd_40 : kd 40 = 20 := by decide +kernel
theorem ln_40 : ln 40 = 4 := by decide +kernel
theorem kd_41 : kd 41 = 20 := by decide +kernel
theorem ln_41 : ln 41 = 4 := by decide +kernel
theorem kd_42 : kd 42 = 20 := by decide +kernel
theorem ln_42 : ln 42 = 6 := by decide +kernel
theorem kd_43 : kd 43 = 20 := by decide +kernel
theorem ln_43 : ln 43 = 6 := by decide +kernel
theorem kd_44 : kd 44 = 20 := by decide +kernel
theorem ln_44 : ln 44 = 6 := by decide +kernel
theorem kd_45 : kd 45 = 20 := by decide +kernel
theorem ln_45 : ln 45 = 6 := by decide +kernel
theorem kd_46 : kd 46 = 20 := by decide +kernel
theorem ln_46 : ln 46 = 3 := by decide +kernel
theorem kd_47 : kd 47 = 20 := by decide +kernel
theorem ln_47 : ln 47 = 3 := by decide +kernel
theorem kd_48 : kd 48 = 0 := by decide +kernel
theorem kd_49 : kd 49 = 20 := by decide +kernel
theorem ln_49 : ln 49 = 4 := by decide +kernel
theorem kd_50 : kd 50 = 20 := by decide +kernel
theorem ln_50 : ln 50 = 4 := by decide +kernel
theorem kd_51 : kd 51 = 20 := by decide +kernel
theorem ln_51 : ln 51 = 6 := by decide +kernel
theorem kd_52 : kd 52 = 20 := by decide +kernel
theorem ln_52 : ln 52 = 6 := by decide +kernel
theorem kd_53 : kd 53 = 20 := by decide +kernel
theorem ln_53 : ln 53 = 6 := by decide +kernel
theorem kd_54 : kd 54 = 20 := by decide +kernel
theorem ln_54 : ln 54 = 6 := by decide +kernel
theorem kd_55 : kd 55 = 20 := by decide +kernel
theorem ln_55 : ln 55 = 3 := by decide +kernel
theorem kd_56 : kd 56 = 20 := by decide +kernel
theorem ln_56 : ln 56 = 3 := by decide +kernel
theorem kd_57 : kd 57 = 0 := by decide +kernel
theorem kd_58 : kd 58 = 20 := by decide +kernel
theorem ln_58 : ln 58 = 4 := by decide +kernel
theorem kd_59 : kd 59 = 20 := by decide +kernel
theorem ln_59 : ln 59 = 4 := by decide +kernel
theorem kd_60 : kd 60 = 20 := by decide +kernel
theorem ln_60 : ln 60 = 6 := by decide +kernel
theorem kd_61 : kd 61 = 20 := by decide +kernel
theorem ln_61 : ln 61 = 6 := by decide +kernel
theorem kd_62 : kd 62 = 20 := by decide +kernel
theorem ln_62 : ln 62 = 6 := by decide +kernel
theorem kd_63 : kd 63 = 20 := by decide +kernel
theorem ln_63 : ln 63 = 6 := by decide +kernel
theorem kd_64 : kd 64 = 20 := by decide +kernel
theorem ln_64 : ln 64 = 3 := by decide +kernel
theorem kd_65 : kd 65 = 20 := by decide +kernel
theorem ln_65 : ln 65 = 3 := by decide +kernel
theorem kd_66 : kd 66 = 0 := by decide +kernel
theorem kd_67 : kd 67 = 20 := by decide +kernel
theorem ln_67 : ln 67 = 4 := by decide +kernel
theorem kd_68 : kd 68 = 20 := by decide +kernel
theorem ln_68 : ln 68 = 4 := by decide +kernel
theorem kd_69 : kd 69 = 20 := by decide +kernel
theorem ln_69 : ln 69 = 6 := by decide +kernel
theorem kd_70 : kd 70 = 20 := by decide +kernel
theorem ln_70 : ln 70 = 6 := by decide +kernel
theorem kd_71 : kd 71 = 20 := by decide +kernel
theorem ln_71 : ln 71 = 6 := by decide +kernel
theorem kd_72 : kd 72 = 20 := by decide +kernel
theorem ln_72 : ln 72 = 6 := by decide +kernel
theorem kd_73 : kd 73 = 20 := by decide +kernel
theorem ln_73 : ln 73 = 3 := by decide +kernel
theorem kd_74 : kd 74 = 20 := by decide +kernel
theorem ln_74 : ln 74 = 3 := by decide +kernel
theorem kd_75 : kd 75 = 0 := by decide +kernel
theorem kd_76 : kd 76 = 20 := by decide +kernel
theorem ln_76 : ln 76 = 4 := by decide +kernel
theorem kd_77 : kd 77 = 20 := by decide +kernel
theorem ln_77 : ln 77 = 4 := by decide +kernel
theorem kd_78 : kd 78 = 20 := by decide +kernel
theorem ln_78 : ln 78 = 6 := by decide +kernel
theorem kd_79 : kd 79 = 20 := by decide +kernel
theorem ln_79 : ln 79 = 6 := by decide +kernel
theorem kd_80 : kd 80 = 20 := by decide +kernel
theorem ln_80 : ln 80 = 6 := by decide +kernel
theorem kd_81 : kd 81 = 20 := by decide +kernel
theorem ln_81 : ln 81 = 6 := by decide +kernel
theorem kd_82 : kd 82 = 20 := by decide +kernel
theorem ln_82 : ln 82 = 3 := by decide +kernel
theorem kd_83 : kd 83 = 20 := by decide +kernel
theorem ln_83 : ln 83 = 3 := by decide +kernel
theorem kd_84 : kd 84 = 0 := by decide +kernel
theorem kd_85 : kd 85 = 20 := by decide +kernel
theorem ln_85 : ln 85 = 4 := by decide +kernel
theorem kd_86 : kd 86 = 20 := by decide +kernel
theorem ln_86 : ln 86 = 4 := by decide +kernel
theorem kd_87 : kd 87 = 20 := by decide +kernel
theorem ln_87 : ln 87 = 6 := by decide +kernel
theorem kd_88 : kd 88 = 20 := by decide +kernel
theorem ln_88 : ln 88 = 6 := by decide +kernel
theorem kd_89 : kd 89 = 20 := by decide +kernel
theorem ln_89 : ln 89 = 6 := by decide +kernel
theorem kd_90 : kd 90 = 20 := by decide +kernel
theorem ln_90 : ln 90 = 6 := by decide +kernel
theorem kd_91 : kd 91 = 20 := by decide +kernel
theorem ln_91 : ln 91 = 3 := by decide +kernel
theorem kd_92 : kd 92 = 20 := by decide +kernel
theorem ln_92 : ln 92 = 3 := by decide +kernel
theorem kd_93 : kd 93 = 0 := by decide +kernel
theorem kd_94 : kd 94 = 20 := by decide +kernel
theorem ln_94 : ln 94 = 4 := by decide +kernel
theorem kd_95 : kd 95 = 20 := by decide +kernel
theorem ln_95 : ln 95 = 4 := by decide +kernel
theorem kd_96 : kd 96 = 20 := by decide +kernel
theorem ln_96 : ln 96 = 6 := by decide +kernel
theorem kd_97 : kd 97 = 20 := by decide +kernel
theorem ln_97 : ln 97 = 6 := by decide +kernel
theorem kd_98 : kd 98 = 20 := by decide +kernel
theorem ln_98 : ln 98 = 6 := by decide +kernel
theorem kd_99 : kd 99 = 20 := by decide +kernel
theorem ln_99 : ln 99 = 6 := by decide +kernel
theorem kd_100 : kd 100 = 20 := by decide +kernel
theorem ln_100 : ln 100 = 3 := by decide +kernel
theorem kd_101 : kd 101 = 20 := by decide +kernel
theorem ln_101 : ln 101 = 3 := by decide +kernel
theorem kd_102 : kd 102 = 0 := by decide +kernel
theorem kd_103 : kd 103 = 20 := by decide +kernel
theorem ln_103 : ln 103 = 4 := by decide +kernel
theorem kd_104 : kd 104 = 20 := by decide +kernel
theorem ln_104 : ln 104 = 4 := by decide +kernel
theorem kd_105 : kd 105 = 20 := by decide +kernel
theorem ln_105 : ln 105 = 6 := by decide +kernel
theorem kd_106 : kd 106 = 20 := by decide +kernel
theorem ln_106 : ln 106 = 6 := by decide +kernel
theorem kd_107 : kd 107 = 20 := by decide +kernel
theorem ln_107 : ln 107 = 6 := by decide +kernel
theorem kd_108 : kd 108 = 20 := by decide +kernel
theorem ln_108 : ln 108 = 6 := by decide +kernel
theorem kd_109 : kd 109 = 20 := by decide +kernel
theorem ln_109 : ln 109 = 3 := by decide +kernel
theorem kd_110 : kd 110 = 20 := by decide +kernel
theorem ln_110 : ln 110 = 3 := by decide +kernel
theorem kd_111 : kd 111 = 7 := by decide +kernel
theorem kd_112 : kd 112 = 20 := by decide +kernel
theorem ln_112 : ln 112 = 4 := by decide +kernel
theorem kd_113 : kd 113 = 20 := by decide +kernel
theorem ln_113 : ln 113 = 4 := by decide +kernel
theorem kd_114 : kd 114 = 21 := by decide +kernel
theorem ln_114 : ln 114 = 11 := by decide +kernel
theorem kd_115 : kd 115 = 21 := by decide +kernel
theorem ln_115 : ln 115 = 11 := by decide +kernel
theorem kd_116 : kd 116 = 21 := by decide +kernel
theorem ln_116 : ln 116 = 4 := by decide +kernel
theorem kd_117 : kd 117 = 21 := by decide +kernel
theorem ln_117 : ln 117 = 11 := by decide +kernel
theorem kd_118 : kd 118 = 21 := by decide +kernel
theorem ln_118 : ln 118 = 11 := by decide +kernel
theorem kd_119 : kd 119 = 21 := by decide +kernel
theorem ln_119 : ln 119 = 11 := by decide +kernel
theorem kd_120 : kd 120 = 4 := by decide +kernel
theorem kd_121 : kd 121 = 2 := by decide +kernel
theorem kd_122 : kd 122 = 2 := by decide +kernel
theorem kd_123 : kd 123 = 4 := by decide +kernel
theorem kd_124 : kd 124 = 2 := by decide +kernel
theorem kd_125 : kd 125 = 2 := by decide +kernel
theorem kd_126 : kd 126 = 21 := by decide +kernel
theorem ln_126 : ln 126 = 4 := by decide +kernel
theorem kd_127 : kd 127 = 2 := by decide +kernel
theorem kd_128 : kd 128 = 2 := by decide +kernel
theorem kd_129 : kd 129 = 2 := by decide +kernel
theorem kd_130 : kd 130 = 2 := by decide +kernel
theorem kd_131 : kd 131 = 5 := by decide +kernel
theorem kd_132 : kd 132 = 0 := by decide +kernel
theorem kd_133 : kd 133 = 20 := by decide +kernel
theorem ln_133 : ln 133 = 4 := by decide +kernel
theorem kd_134 : kd 134 = 20 := by decide +kernel
theorem ln_134 : ln 134 = 4 := by decide +kernel
theorem kd_135 : kd 135 = 20 := by decide +kernel
theorem ln_135 : ln 135 = 6 := by decide +kernel
theorem kd_136 : kd 136 = 20 := by decide +kernel
theorem ln_136 : ln 136 = 6 := by decide +kernel
theorem kd_137 : kd 137 = 20 := by decide +kernel
theorem ln_137 : ln 137 = 6 := by decide +kernel
theorem kd_138 : kd 138 = 20 := by decide +kernel
theorem ln_138 : ln 138 = 6 := by decide +kernel
theorem kd_139 : kd 139 = 20 := by decide +kernel
theorem ln_139 : ln 139 = 3 := by decide +kernel
theorem kd_140 : kd 140 = 20 := by decide +kernel
theorem ln_140 : ln 140 = 3 := by decide +kernel
theorem kd_141 : kd 141 = 22 := by decide +kernel
theorem ln_141 : ln 141 = 120 := by decide +kernel
theorem kd_142 : kd 142 = 20 := by decide +kernel
theorem ln_142 : ln 142 = 3 := by decide +kernel
theorem kd_143 : kd 143 = 3 := by decide +kernel
theorem kd_144 : kd 144 = 22 := by decide +kernel
theorem ln_144 : ln 144 = 1000 := by decide +kernel
theorem kd_145 : kd 145 = 22 := by decide +kernel
theorem ln_145 : ln 145 = 20 := by decide +kernel
theorem kd_146 : kd 146 = 6 := by decide +kernel
theorem kd_147 : kd 147 = 20 := by decide +kernel
theorem ln_147 : ln 147 = 3 := by decide +kernel
theorem kd_148 : kd 148 = 21 := by decide +kernel
theorem ln_148 : ln 148 = 72 := by decide +kernel
theorem kd_149 : kd 149 = 9 := by decide +kernel
theorem kd_150 : kd 150 = 20 := by decide +kernel
theorem ln_150 : ln 150 = 36 := by decide +kernel
theorem kd_151 : kd 151 = 20 := by decide +kernel
theorem ln_151 : ln 151 = 36 := by decide +kernel
theorem kd_152 : kd 152 = 20 := by decide +kernel
theorem ln_152 : ln 152 = 360 := by decide +kernel
theorem kd_153 : kd 153 = 21 := by decide +kernel
theorem ln_153 : ln 153 = 4 := by decide +kernel
theorem kd_154 : kd 154 = 21 := by decide +kernel
theorem ln_154 : ln 154 = 4 := by decide +kernel
theorem kd_155 : kd 155 = 21 := by decide +kernel
theorem ln_155 : ln 155 = 2 := by decide +kernel
theorem kd_156 : kd 156 = 21 := by decide +kernel
theorem ln_156 : ln 156 = 2 := by decide +kernel
theorem kd_157 : kd 157 = 21 := by decide +kernel
theorem ln_157 : ln 157 = 4 := by decide +kernel
theorem kd_158 : kd 158 = 21 := by decide +kernel
theorem ln_158 : ln 158 = 4 := by decide +kernel
theorem kd_159 : kd 159 = 21 := by decide +kernel
theorem ln_159 : ln 159 = 11 := by decide +kernel
theorem kd_160 : kd 160 = 20 := by decide +kernel
theorem ln_160 : ln 160 = 36 := by decide +kernel
theorem kd_161 : kd 161 = 20 := by decide +kernel
theorem ln_161 : ln 161 = 120 := by decide +kernel
theorem kd_162 : kd 162 = 23 := by decide +kernel
theorem ln_162 : ln 162 = 31 := by decide +kernel
theorem kd_163 : kd 163 = 20 := by decide +kernel
theorem ln_163 : ln 163 = 7 := by decide +kernel
theorem kd_164 : kd 164 = 20 := by decide +kernel
theorem ln_164 : ln 164 = 6 := by decide +kernel
theorem kd_165 : kd 165 = 20 := by decide +kernel
theorem ln_165 : ln 165 = 3 := by decide +kernel
theorem kd_166 : kd 166 = 20 := by decide +kernel
theorem ln_166 : ln 166 = 360 := by decide +kernel
theorem kd_167 : kd 167 = 20 := by decide +kernel
theorem ln_167 : ln 167 = 1000 := by decide +kernel
theorem kd_168 : kd 168 = 21 := by decide +kernel
theorem ln_168 : ln 168 = 72 := by decide +kernel
theorem kd_169 : kd 169 = 20 := by decide +kernel
theorem ln_169 : ln 169 = 3 := by decide +kernel
theorem bk_1 {a : Nat} (h : kd a = 0) : kd (a + 1) = 20 := by
  have q : ∀ a, a < jN → kd a = 0 → kd (a + 1) = 20 := by decide +kernel
  exact q a (kd_lt h (by decide)) h
theorem bl_1 {a : Nat} (h : kd a = 0) : ln (a + 1) = 4 := by
  have q : ∀ a, a < jN → kd a = 0 → ln (a + 1) = 4 := by decide +kernel
  exact q a (kd_lt h (by decide)) h
theorem bk_2 {a : Nat} (h : kd a = 0) : kd (a + 2) = 20 := by
  have q : ∀ a, a < jN → kd a = 0 → kd (a + 2) = 20 := by decide +kernel
  exact q a (kd_lt h (by decide)) h
theorem bl_2 {a : Nat} (h : kd a = 0) : ln (a + 2) = 4 := by
  have q : ∀ a, a < jN → kd a = 0 → ln (a + 2) = 4 := by decide +kernel
  exact q a (kd_lt h (by decide)) h
theorem bk_3 {a : Nat} (h : kd a = 0) : kd (a + 3) = 20 := by
  have q : ∀ a, a < jN → kd a = 0 → kd (a + 3) = 20 := by decide +kernel
  exact q a (kd_lt h (by decide)) h
theorem bl_3 {a : Nat} (h : kd a = 0) : ln (a + 3) = 6 := by
  have q : ∀ a, a < jN → kd a = 0 → ln (a + 3) = 6 := by decide +kernel
  exact q a (kd_lt h (by decide)) h
theorem bk_4 {a : Nat} (h : kd a = 0) : kd (a + 4) = 20 := by
  have q : ∀ a, a < jN → kd a = 0 → kd (a + 4) = 20 := by decide +kernel
  exact q a (kd_lt h (by decide)) h
theorem bl_4 {a : Nat} (h : kd a = 0) : ln (a + 4) = 6 := by
  have q : ∀ a, a < jN → kd a = 0 → ln (a + 4) = 6 := by decide +kernel
  exact q a (kd_lt h (by decide)) h
theorem bk_5 {a : Nat} (h : kd a = 0) : kd (a + 5) = 20 := by
  have q : ∀ a, a < jN → kd a = 0 → kd (a + 5) = 20 := by decide +kernel
  exact q a (kd_lt h (by decide)) h
theorem bl_5 {a : Nat} (h : kd a = 0) : ln (a + 5) = 6 := by
  have q : ∀ a, a < jN → kd a = 0 → ln (a + 5) = 6 := by decide +kernel
  exact q a (kd_lt h (by decide)) h
theorem bk_6 {a : Nat} (h : kd a = 0) : kd (a + 6) = 20 := by
  have q : ∀ a, a < jN → kd a = 0 → kd (a + 6) = 20 := by decide +kernel
  exact q a (kd_lt h (by decide)) h
theorem bl_6 {a : Nat} (h : kd a = 0) : ln (a + 6) = 6 := by
  have q : ∀ a, a < jN → kd a = 0 → ln (a + 6) = 6 := by decide +kernel
  exact q a (kd_lt h (by decide)) h
theorem bk_7 {a : Nat} (h : kd a = 0) : kd (a + 7) = 20 := by
  have q : ∀ a, a < jN → kd a = 0 → kd (a + 7) = 20 := by decide +kernel
  exact q a (kd_lt h (by decide)) h
theorem bl_7 {a : Nat} (h : kd a = 0) : ln (a + 7) = 3 := by
  have q : ∀ a, a < jN → kd a = 0 → ln (a + 7) = 3 := by decide +kernel
  exact q a (kd_lt h (by decide)) h
theorem bk_8 {a : Nat} (h : kd a = 0) : kd (a + 8) = 20 := by
  have q : ∀ a, a < jN → kd a = 0 → kd (a + 8) = 20 := by decide +kernel
  exact q a (kd_lt h (by decide)) h
theorem bl_8 {a : Nat} (h : kd a = 0) : ln (a + 8) = 3 := by
  have q : ∀ a, a < jN → kd a = 0 → ln (a + 8) = 3 := by decide +kernel
  exact q a (kd_lt h (by decide)) h
theorem pk_1 {a : Nat} (h : kd a = 4) : kd (a + 1) = 2 := by
  have q : ∀ a, a < jN → kd a = 4 → kd (a + 1) = 2 := by decide +kernel
  exact q a (kd_lt h (by decide)) h
theorem pk_2 {a : Nat} (h : kd a = 4) : kd (a + 2) = 2 := by
  have q : ∀ a, a < jN → kd a = 4 → kd (a + 2) = 2 := by decide +kernel
  exact q a (kd_lt h (by decide)) h
