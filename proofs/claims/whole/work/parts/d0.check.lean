theorem jq_0 : jx_chkM 0 = true := by decide +kernel
theorem jq_1 : jx_chkM 1 = true := by decide +kernel
theorem jq_2 : jx_chkM 2 = true := by decide +kernel
theorem jq_3 : jx_chkM 3 = true := by decide +kernel
theorem jq_4 : jx_chkM 4 = true := by decide +kernel
theorem jq_5 : jx_chkM 5 = true := by decide +kernel
theorem jq_6 : jx_chkM 6 = true := by decide +kernel
theorem jq_7 : jx_chkM 7 = true := by decide +kernel
theorem jq_8 : jx_chkM 8 = true := by decide +kernel
theorem jq_9 : jx_chkM 9 = true := by decide +kernel
theorem jq_10 : jx_chkM 10 = true := by decide +kernel
theorem jq_11 : jx_chkM 11 = true := by decide +kernel
theorem jq_12 : jx_chkM 12 = true := by decide +kernel
theorem jq_13 : jx_chkM 13 = true := by decide +kernel
theorem jq_14 : jx_chkM 14 = true := by decide +kernel
theorem jq_15 : jx_chkM 15 = true := by decide +kernel
theorem jq_16 : jx_chkM 16 = true := by decide +kernel
theorem jq_17 : jx_chkM 17 = true := by decide +kernel
theorem jq_18 : jx_chkM 18 = true := by decide +kernel
theorem jq_19 : jx_chkM 19 = true := by decide +kernel
theorem jq_20 : jx_chkM 20 = true := by decide +kernel
theorem jq_21 : jx_chkM 21 = true := by decide +kernel
theorem jq_22 : jx_chkM 22 = true := by decide +kernel
theorem jq_23 : jx_chkM 23 = true := by decide +kernel
theorem jq_24 : jx_chkM 24 = true := by decide +kernel
theorem jq_25 : jx_chkM 25 = true := by decide +kernel
theorem jq_26 : jx_chkM 26 = true := by decide +kernel
theorem jq_27 : jx_chkM 27 = true := by decide +kernel
theorem jq_28 : jx_chkM 28 = true := by decide +kernel
theorem jq_29 : jx_chkM 29 = true := by decide +kernel
theorem jq_30 : jx_chkM 30 = true := by decide +kernel
theorem jq_31 : jx_chkM 31 = true := by decide +kernel
theorem jq_32 : jx_chkM 32 = true := by decide +kernel
theorem jq_33 : jx_chkM 33 = true := by decide +kernel
theorem jq_34 : jx_chkM 34 = true := by decide +kernel
theorem jq_35 : jx_chkM 35 = true := by decide +kernel
theorem jq_36 : jx_chkM 36 = true := by decide +kernel
theorem jq_37 : jx_chkM 37 = true := by decide +kernel
theorem jq_38 : jx_chkM 38 = true := by decide +kernel
theorem jq_39 : jx_chkM 39 = true := by decide +kernel
theorem jq_40 : jx_chkM 40 = true := by decide +kernel
theorem jq_41 : jx_chkM 41 = true := by decide +kernel
theorem jq_42 : jx_chkM 42 = true := by decide +kernel
theorem jq_43 : jx_chkM 43 = true := by decide +kernel
theorem jq_44 : jx_chkM 44 = true := by decide +kernel
theorem jq_45 : jx_chkM 45 = true := by decide +kernel
theorem jq_46 : jx_chkM 46 = true := by decide +kernel
theorem jq_47 : jx_chkM 47 = true := by decide +kernel
theorem jq_48 : jx_chkM 48 = true := by decide +kernel
theorem jq_49 : jx_chkM 49 = true := by decide +kernel
theorem jq_50 : jx_chkM 50 = true := by decide +kernel
theorem jq_51 : jx_chkM 51 = true := by decide +kernel
theorem jq_52 : jx_chkM 52 = true := by decide +kernel
theorem jq_53 : jx_chkM 53 = true := by decide +kernel
theorem jq_54 : jx_chkM 54 = true := by decide +kernel
theorem jq_55 : jx_chkM 55 = true := by decide +kernel
theorem jq_56 : jx_chkM 56 = true := by decide +kernel
theorem jq_57 : jx_chkM 57 = true := by decide +kernel
theorem jq_58 : jx_chkM 58 = true := by decide +kernel
theorem jq_59 : jx_chkM 59 = true := by decide +kernel
theorem jq_60 : jx_chkM 60 = true := by decide +kernel
theorem jq_61 : jx_chkM 61 = true := by decide +kernel
theorem jq_62 : jx_chkM 62 = true := by decide +kernel
theorem jq_63 : jx_chkM 63 = true := by decide +kernel
theorem jq_64 : jx_chkM 64 = true := by decide +kernel
theorem jq_65 : jx_chkM 65 = true := by decide +kernel
theorem jq_66 : jx_chkM 66 = true := by decide +kernel
theorem jq_67 : jx_chkM 67 = true := by decide +kernel
theorem jq_68 : jx_chkM 68 = true := by decide +kernel
theorem jq_69 : jx_chkM 69 = true := by decide +kernel
theorem jq_70 : jx_chkM 70 = true := by decide +kernel
theorem jq_71 : jx_chkM 71 = true := by decide +kernel
theorem jq_72 : jx_chkM 72 = true := by decide +kernel
theorem jq_73 : jx_chkM 73 = true := by decide +kernel
theorem jq_74 : jx_chkM 74 = true := by decide +kernel
theorem jq_75 : jx_chkM 75 = true := by decide +kernel
theorem jq_76 : jx_chkM 76 = true := by decide +kernel
theorem jq_77 : jx_chkM 77 = true := by decide +kernel
theorem jq_78 : jx_chkM 78 = true := by decide +kernel
theorem jq_79 : jx_chkM 79 = true := by decide +kernel
theorem jq_80 : jx_chkM 80 = true := by decide +kernel
theorem jq_81 : jx_chkM 81 = true := by decide +kernel
theorem jq_82 : jx_chkM 82 = true := by decide +kernel
theorem jq_83 : jx_chkM 83 = true := by decide +kernel
theorem jq_84 : jx_chkM 84 = true := by decide +kernel
theorem jq_85 : jx_chkM 85 = true := by decide +kernel
theorem jq_86 : jx_chkM 86 = true := by decide +kernel
theorem jq_87 : jx_chkM 87 = true := by decide +kernel
theorem jq_88 : jx_chkM 88 = true := by decide +kernel
theorem jq_89 : jx_chkM 89 = true := by decide +kernel
theorem jq_90 : jx_chkM 90 = true := by decide +kernel
theorem jq_91 : jx_chkM 91 = true := by decide +kernel
theorem jq_92 : jx_chkM 92 = true := by decide +kernel
theorem jq_93 : jx_chkM 93 = true := by decide +kernel
theorem jq_94 : jx_chkM 94 = true := by decide +kernel
theorem jq_95 : jx_chkM 95 = true := by decide +kernel
theorem jq_96 : jx_chkM 96 = true := by decide +kernel
theorem jq_97 : jx_chkM 97 = true := by decide +kernel
theorem jq_98 : jx_chkM 98 = true := by decide +kernel
theorem jq_99 : jx_chkM 99 = true := by decide +kernel
theorem jq_100 : jx_chkM 100 = true := by decide +kernel
theorem jq_101 : jx_chkM 101 = true := by decide +kernel
theorem jq_102 : jx_chkM 102 = true := by decide +kernel
theorem jq_103 : jx_chkM 103 = true := by decide +kernel
theorem jq_104 : jx_chkM 104 = true := by decide +kernel
theorem jq_105 : jx_chkM 105 = true := by decide +kernel
theorem jq_106 : jx_chkM 106 = true := by decide +kernel
theorem jq_107 : jx_chkM 107 = true := by decide +kernel
theorem jq_108 : jx_chkM 108 = true := by decide +kernel
theorem jq_109 : jx_chkM 109 = true := by decide +kernel
theorem jq_110 : jx_chkM 110 = true := by decide +kernel
theorem jq_111 : jx_chkM 111 = true := by decide +kernel
theorem jq_112 : jx_chkM 112 = true := by decide +kernel
theorem jq_113 : jx_chkM 113 = true := by decide +kernel
theorem jq_114 : jx_chkM 114 = true := by decide +kernel
theorem jq_115 : jx_chkM 115 = true := by decide +kernel
theorem jq_116 : jx_chkM 116 = true := by decide +kernel
theorem jq_117 : jx_chkM 117 = true := by decide +kernel
theorem jq_118 : jx_chkM 118 = true := by decide +kernel
theorem jq_119 : jx_chkM 119 = true := by decide +kernel
theorem jq_120 : jx_chkM 120 = true := by decide +kernel
theorem jq_121 : jx_chkM 121 = true := by decide +kernel
theorem jq_122 : jx_chkM 122 = true := by decide +kernel
theorem jq_123 : jx_chkM 123 = true := by decide +kernel
theorem jq_124 : jx_chkM 124 = true := by decide +kernel
theorem jq_125 : jx_chkM 125 = true := by decide +kernel
theorem jq_126 : jx_chkM 126 = true := by decide +kernel
theorem jq_127 : jx_chkM 127 = true := by decide +kernel
theorem jq_128 : jx_chkM 128 = true := by decide +kernel
theorem jq_129 : jx_chkM 129 = true := by decide +kernel
theorem jq_130 : jx_chkM 130 = true := by decide +kernel
theorem jq_131 : jx_chkM 131 = true := by decide +kernel
theorem jq_132 : jx_chkM 132 = true := by decide +kernel
theorem jq_133 : jx_chkM 133 = true := by decide +kernel
theorem jq_134 : jx_chkM 134 = true := by decide +kernel
theorem jq_135 : jx_chkM 135 = true := by decide +kernel
theorem jq_136 : jx_chkM 136 = true := by decide +kernel
theorem jq_137 : jx_chkM 137 = true := by decide +kernel
theorem jq_138 : jx_chkM 138 = true := by decide +kernel
theorem jq_139 : jx_chkM 139 = true := by decide +kernel
theorem jq_140 : jx_chkM 140 = true := by decide +kernel
theorem jq_141 : jx_chkM 141 = true := by decide +kernel
theorem jq_142 : jx_chkM 142 = true := by decide +kernel
theorem jq_143 : jx_chkM 143 = true := by decide +kernel
theorem jq_144 : jx_chkM 144 = true := by decide +kernel
theorem jq_145 : jx_chkM 145 = true := by decide +kernel
theorem jq_146 : jx_chkM 146 = true := by decide +kernel
theorem jq_147 : jx_chkM 147 = true := by decide +kernel
theorem jq_148 : jx_chkM 148 = true := by decide +kernel
theorem jq_149 : jx_chkM 149 = true := by decide +kernel
theorem jq_150 : jx_chkM 150 = true := by decide +kernel
theorem jq_151 : jx_chkM 151 = true := by decide +kernel
theorem jq_152 : jx_chkM 152 = true := by decide +kernel
theorem jq_153 : jx_chkM 153 = true := by decide +kernel
theorem jq_154 : jx_chkM 154 = true := by decide +kernel
theorem jq_155 : jx_chkM 155 = true := by decide +kernel
theorem jq_156 : jx_chkM 156 = true := by decide +kernel
theorem jq_157 : jx_chkM 157 = true := by decide +kernel
theorem jq_158 : jx_chkM 158 = true := by decide +kernel
theorem jq_159 : jx_chkM 159 = true := by decide +kernel
theorem jq_160 : jx_chkM 160 = true := by decide +kernel
theorem jq_161 : jx_chkM 161 = true := by decide +kernel
theorem jq_c0 : ∀ k, 0 ≤ k → k < 20 → jx_chkM k = true := fun k h1 h2 => by
  rcases (show k = 0 ∨ k = 1 ∨ k = 2 ∨ k = 3 ∨ k = 4 ∨ k = 5 ∨ k = 6 ∨ k = 7 ∨ k = 8 ∨ k = 9 ∨ k = 10 ∨ k = 11 ∨ k = 12 ∨ k = 13 ∨ k = 14 ∨ k = 15 ∨ k = 16 ∨ k = 17 ∨ k = 18 ∨ k = 19 by omega) with rfl | rfl | rfl | rfl | rfl | rfl | rfl | rfl | rfl | rfl | rfl | rfl | rfl | rfl | rfl | rfl | rfl | rfl | rfl | rfl
  · exact jq_0
  · exact jq_1
  · exact jq_2
  · exact jq_3
  · exact jq_4
  · exact jq_5
  · exact jq_6
  · exact jq_7
  · exact jq_8
  · exact jq_9
  · exact jq_10
  · exact jq_11
  · exact jq_12
  · exact jq_13
  · exact jq_14
  · exact jq_15
  · exact jq_16
  · exact jq_17
  · exact jq_18
  · exact jq_19
theorem jq_c1 : ∀ k, 20 ≤ k → k < 40 → jx_chkM k = true := fun k h1 h2 => by
  rcases (show k = 20 ∨ k = 21 ∨ k = 22 ∨ k = 23 ∨ k = 24 ∨ k = 25 ∨ k = 26 ∨ k = 27 ∨ k = 28 ∨ k = 29 ∨ k = 30 ∨ k = 31 ∨ k = 32 ∨ k = 33 ∨ k = 34 ∨ k = 35 ∨ k = 36 ∨ k = 37 ∨ k = 38 ∨ k = 39 by omega) with rfl | rfl | rfl | rfl | rfl | rfl | rfl | rfl | rfl | rfl | rfl | rfl | rfl | rfl | rfl | rfl | rfl | rfl | rfl | rfl
  · exact jq_20
  · exact jq_21
  · exact jq_22
  · exact jq_23
  · exact jq_24
  · exact jq_25
  · exact jq_26
  · exact jq_27
  · exact jq_28
  · exact jq_29
  · exact jq_30
  · exact jq_31
  · exact jq_32
  · exact jq_33
  · exact jq_34
  · exact jq_35
  · exact jq_36
  · exact jq_37
  · exact jq_38
  · exact jq_39
theorem jq_c2 : ∀ k, 40 ≤ k → k < 60 → jx_chkM k = true := fun k h1 h2 => by
  rcases (show k = 40 ∨ k = 41 ∨ k = 42 ∨ k = 43 ∨ k = 44 ∨ k = 45 ∨ k = 46 ∨ k = 47 ∨ k = 48 ∨ k = 49 ∨ k = 50 ∨ k = 51 ∨ k = 52 ∨ k = 53 ∨ k = 54 ∨ k = 55 ∨ k = 56 ∨ k = 57 ∨ k = 58 ∨ k = 59 by omega) with rfl | rfl | rfl | rfl | rfl | rfl | rfl | rfl | rfl | rfl | rfl | rfl | rfl | rfl | rfl | rfl | rfl | rfl | rfl | rfl
  · exact jq_40
  · exact jq_41
  · exact jq_42
  · exact jq_43
  · exact jq_44
  · exact jq_45
  · exact jq_46
  · exact jq_47
  · exact jq_48
  · exact jq_49
  · exact jq_50
  · exact jq_51
  · exact jq_52
  · exact jq_53
  · exact jq_54
  · exact jq_55
  · exact jq_56
  · exact jq_57
  · exact jq_58
  · exact jq_59
theorem jq_c3 : ∀ k, 60 ≤ k → k < 80 → jx_chkM k = true := fun k h1 h2 => by
  rcases (show k = 60 ∨ k = 61 ∨ k = 62 ∨ k = 63 ∨ k = 64 ∨ k = 65 ∨ k = 66 ∨ k = 67 ∨ k = 68 ∨ k = 69 ∨ k = 70 ∨ k = 71 ∨ k = 72 ∨ k = 73 ∨ k = 74 ∨ k = 75 ∨ k = 76 ∨ k = 77 ∨ k = 78 ∨ k = 79 by omega) with rfl | rfl | rfl | rfl | rfl | rfl | rfl | rfl | rfl | rfl | rfl | rfl | rfl | rfl | rfl | rfl | rfl | rfl | rfl | rfl
  · exact jq_60
  · exact jq_61
  · exact jq_62
  · exact jq_63
  · exact jq_64
  · exact jq_65
  · exact jq_66
  · exact jq_67
  · exact jq_68
  · exact jq_69
  · exact jq_70
  · exact jq_71
  · exact jq_72
  · exact jq_73
  · exact jq_74
  · exact jq_75
  · exact jq_76
  · exact jq_77
  · exact jq_78
  · exact jq_79
theorem jq_c4 : ∀ k, 80 ≤ k → k < 100 → jx_chkM k = true := fun k h1 h2 => by
  rcases (show k = 80 ∨ k = 81 ∨ k = 82 ∨ k = 83 ∨ k = 84 ∨ k = 85 ∨ k = 86 ∨ k = 87 ∨ k = 88 ∨ k = 89 ∨ k = 90 ∨ k = 91 ∨ k = 92 ∨ k = 93 ∨ k = 94 ∨ k = 95 ∨ k = 96 ∨ k = 97 ∨ k = 98 ∨ k = 99 by omega) with rfl | rfl | rfl | rfl | rfl | rfl | rfl | rfl | rfl | rfl | rfl | rfl | rfl | rfl | rfl | rfl | rfl | rfl | rfl | rfl
  · exact jq_80
  · exact jq_81
  · exact jq_82
  · exact jq_83
  · exact jq_84
  · exact jq_85
  · exact jq_86
  · exact jq_87
  · exact jq_88
  · exact jq_89
  · exact jq_90
  · exact jq_91
  · exact jq_92
  · exact jq_93
  · exact jq_94
  · exact jq_95
  · exact jq_96
  · exact jq_97
  · exact jq_98
  · exact jq_99
theorem jq_c5 : ∀ k, 100 ≤ k → k < 120 → jx_chkM k = true := fun k h1 h2 => by
  rcases (show k = 100 ∨ k = 101 ∨ k = 102 ∨ k = 103 ∨ k = 104 ∨ k = 105 ∨ k = 106 ∨ k = 107 ∨ k = 108 ∨ k = 109 ∨ k = 110 ∨ k = 111 ∨ k = 112 ∨ k = 113 ∨ k = 114 ∨ k = 115 ∨ k = 116 ∨ k = 117 ∨ k = 118 ∨ k = 119 by omega) with rfl | rfl | rfl | rfl | rfl | rfl | rfl | rfl | rfl | rfl | rfl | rfl | rfl | rfl | rfl | rfl | rfl | rfl | rfl | rfl
  · exact jq_100
  · exact jq_101
  · exact jq_102
  · exact jq_103
  · exact jq_104
  · exact jq_105
  · exact jq_106
  · exact jq_107
  · exact jq_108
  · exact jq_109
  · exact jq_110
  · exact jq_111
  · exact jq_112
  · exact jq_113
  · exact jq_114
  · exact jq_115
  · exact jq_116
  · exact jq_117
  · exact jq_118
  · exact jq_119
theorem jq_c6 : ∀ k, 120 ≤ k → k < 140 → jx_chkM k = true := fun k h1 h2 => by
  rcases (show k = 120 ∨ k = 121 ∨ k = 122 ∨ k = 123 ∨ k = 124 ∨ k = 125 ∨ k = 126 ∨ k = 127 ∨ k = 128 ∨ k = 129 ∨ k = 130 ∨ k = 131 ∨ k = 132 ∨ k = 133 ∨ k = 134 ∨ k = 135 ∨ k = 136 ∨ k = 137 ∨ k = 138 ∨ k = 139 by omega) with rfl | rfl | rfl | rfl | rfl | rfl | rfl | rfl | rfl | rfl | rfl | rfl | rfl | rfl | rfl | rfl | rfl | rfl | rfl | rfl
  · exact jq_120
  · exact jq_121
  · exact jq_122
  · exact jq_123
  · exact jq_124
  · exact jq_125
  · exact jq_126
  · exact jq_127
  · exact jq_128
  · exact jq_129
  · exact jq_130
  · exact jq_131
  · exact jq_132
  · exact jq_133
  · exact jq_134
  · exact jq_135
  · exact jq_136
  · exact jq_137
  · exact jq_138
  · exact jq_139
theorem jq_c7 : ∀ k, 140 ≤ k → k < 160 → jx_chkM k = true := fun k h1 h2 => by
  rcases (show k = 140 ∨ k = 141 ∨ k = 142 ∨ k = 143 ∨ k = 144 ∨ k = 145 ∨ k = 146 ∨ k = 147 ∨ k = 148 ∨ k = 149 ∨ k = 150 ∨ k = 151 ∨ k = 152 ∨ k = 153 ∨ k = 154 ∨ k = 155 ∨ k = 156 ∨ k = 157 ∨ k = 158 ∨ k = 159 by omega) with rfl | rfl | rfl | rfl | rfl | rfl | rfl | rfl | rfl | rfl | rfl | rfl | rfl | rfl | rfl | rfl | rfl | rfl | rfl | rfl
  · exact jq_140
  · exact jq_141
  · exact jq_142
  · exact jq_143
  · exact jq_144
  · exact jq_145
  · exact jq_146
  · exact jq_147
  · exact jq_148
  · exact jq_149
  · exact jq_150
  · exact jq_151
  · exact jq_152
  · exact jq_153
  · exact jq_154
  · exact jq_155
  · exact jq_156
  · exact jq_157
  · exact jq_158
  · exact jq_159
theorem jq_c8 : ∀ k, 160 ≤ k → k < 162 → jx_chkM k = true := fun k h1 h2 => by
  rcases (show k = 160 ∨ k = 161 by omega) with rfl | rfl
  · exact jq_160
  · exact jq_161
theorem jqc_all : ∀ k, k < 162 → jx_chkM k = true := fun k h => by
  rcases Nat.lt_or_ge k 20 with h0 | h0
  · exact jq_c0 k (by omega) h0
  rcases Nat.lt_or_ge k 40 with h1 | h1
  · exact jq_c1 k (by omega) h1
  rcases Nat.lt_or_ge k 60 with h2 | h2
  · exact jq_c2 k (by omega) h2
  rcases Nat.lt_or_ge k 80 with h3 | h3
  · exact jq_c3 k (by omega) h3
  rcases Nat.lt_or_ge k 100 with h4 | h4
  · exact jq_c4 k (by omega) h4
  rcases Nat.lt_or_ge k 120 with h5 | h5
  · exact jq_c5 k (by omega) h5
  rcases Nat.lt_or_ge k 140 with h6 | h6
  · exact jq_c6 k (by omega) h6
  rcases Nat.lt_or_ge k 160 with h7 | h7
  · exact jq_c7 k (by omega) h7
  exact jq_c8 k (by omega) h
theorem jq_of {k : Nat} {M : jx_M} (h : jx_meth k = some M) : jx_chkH M = true ∧ jx_chkC M = true := by
  have hk : k < 162 := by
    unfold jx_meth at h
    cases hb : Nat.blt k 162 with
    | true => exact Nat.le_of_ble_eq_true hb
    | false => rw [hb] at h; cases h
  have h2 := jqc_all k hk
  unfold jx_chkM at h2
  rw [h] at h2
  simpa only [Bool.and_eq_true] using h2
