theorem ok_all (b : Nat) (h : b < 228) : okM b = true := by
  rcases Nat.lt_or_ge b 114 with h1 | h1
  · rcases Nat.lt_or_ge b 57 with h2 | h2
    · rcases Nat.lt_or_ge b 28 with h3 | h3
      · rcases Nat.lt_or_ge b 14 with h4 | h4
        · rcases Nat.lt_or_ge b 7 with h5 | h5
          · rcases Nat.lt_or_ge b 3 with h6 | h6
            · rcases Nat.lt_or_ge b 1 with h7 | h7
              · obtain rfl : b = 0 := by omega
                exact ok_0
              · rcases Nat.lt_or_ge b 2 with h8 | h8
                · obtain rfl : b = 1 := by omega
                  exact ok_1
                · obtain rfl : b = 2 := by omega
                  exact ok_2
            · rcases Nat.lt_or_ge b 5 with h7 | h7
              · rcases Nat.lt_or_ge b 4 with h8 | h8
                · obtain rfl : b = 3 := by omega
                  exact ok_3
                · obtain rfl : b = 4 := by omega
                  exact ok_4
              · rcases Nat.lt_or_ge b 6 with h8 | h8
                · obtain rfl : b = 5 := by omega
                  exact ok_5
                · obtain rfl : b = 6 := by omega
                  exact ok_6
          · rcases Nat.lt_or_ge b 10 with h6 | h6
            · rcases Nat.lt_or_ge b 8 with h7 | h7
              · obtain rfl : b = 7 := by omega
                exact ok_7
              · rcases Nat.lt_or_ge b 9 with h8 | h8
                · obtain rfl : b = 8 := by omega
                  exact ok_8
                · obtain rfl : b = 9 := by omega
                  exact ok_9
            · rcases Nat.lt_or_ge b 12 with h7 | h7
              · rcases Nat.lt_or_ge b 11 with h8 | h8
                · obtain rfl : b = 10 := by omega
                  exact ok_10
                · obtain rfl : b = 11 := by omega
                  exact ok_11
              · rcases Nat.lt_or_ge b 13 with h8 | h8
                · obtain rfl : b = 12 := by omega
                  exact ok_12
                · obtain rfl : b = 13 := by omega
                  exact ok_13
        · rcases Nat.lt_or_ge b 21 with h5 | h5
          · rcases Nat.lt_or_ge b 17 with h6 | h6
            · rcases Nat.lt_or_ge b 15 with h7 | h7
              · obtain rfl : b = 14 := by omega
                exact ok_14
              · rcases Nat.lt_or_ge b 16 with h8 | h8
                · obtain rfl : b = 15 := by omega
                  exact ok_15
                · obtain rfl : b = 16 := by omega
                  exact ok_16
            · rcases Nat.lt_or_ge b 19 with h7 | h7
              · rcases Nat.lt_or_ge b 18 with h8 | h8
                · obtain rfl : b = 17 := by omega
                  exact ok_17
                · obtain rfl : b = 18 := by omega
                  exact ok_18
              · rcases Nat.lt_or_ge b 20 with h8 | h8
                · obtain rfl : b = 19 := by omega
                  exact ok_19
                · obtain rfl : b = 20 := by omega
                  exact ok_20
          · rcases Nat.lt_or_ge b 24 with h6 | h6
            · rcases Nat.lt_or_ge b 22 with h7 | h7
              · obtain rfl : b = 21 := by omega
                exact ok_21
              · rcases Nat.lt_or_ge b 23 with h8 | h8
                · obtain rfl : b = 22 := by omega
                  exact ok_22
                · obtain rfl : b = 23 := by omega
                  exact ok_23
            · rcases Nat.lt_or_ge b 26 with h7 | h7
              · rcases Nat.lt_or_ge b 25 with h8 | h8
                · obtain rfl : b = 24 := by omega
                  exact ok_24
                · obtain rfl : b = 25 := by omega
                  exact ok_25
              · rcases Nat.lt_or_ge b 27 with h8 | h8
                · obtain rfl : b = 26 := by omega
                  exact ok_26
                · obtain rfl : b = 27 := by omega
                  exact ok_27
      · rcases Nat.lt_or_ge b 42 with h4 | h4
        · rcases Nat.lt_or_ge b 35 with h5 | h5
          · rcases Nat.lt_or_ge b 31 with h6 | h6
            · rcases Nat.lt_or_ge b 29 with h7 | h7
              · obtain rfl : b = 28 := by omega
                exact ok_28
              · rcases Nat.lt_or_ge b 30 with h8 | h8
                · obtain rfl : b = 29 := by omega
                  exact ok_29
                · obtain rfl : b = 30 := by omega
                  exact ok_30
            · rcases Nat.lt_or_ge b 33 with h7 | h7
              · rcases Nat.lt_or_ge b 32 with h8 | h8
                · obtain rfl : b = 31 := by omega
                  exact ok_31
                · obtain rfl : b = 32 := by omega
                  exact ok_32
              · rcases Nat.lt_or_ge b 34 with h8 | h8
                · obtain rfl : b = 33 := by omega
                  exact ok_33
                · obtain rfl : b = 34 := by omega
                  exact ok_34
          · rcases Nat.lt_or_ge b 38 with h6 | h6
            · rcases Nat.lt_or_ge b 36 with h7 | h7
              · obtain rfl : b = 35 := by omega
                exact ok_35
              · rcases Nat.lt_or_ge b 37 with h8 | h8
                · obtain rfl : b = 36 := by omega
                  exact ok_36
                · obtain rfl : b = 37 := by omega
                  exact ok_37
            · rcases Nat.lt_or_ge b 40 with h7 | h7
              · rcases Nat.lt_or_ge b 39 with h8 | h8
                · obtain rfl : b = 38 := by omega
                  exact ok_38
                · obtain rfl : b = 39 := by omega
                  exact ok_39
              · rcases Nat.lt_or_ge b 41 with h8 | h8
                · obtain rfl : b = 40 := by omega
                  exact ok_40
                · obtain rfl : b = 41 := by omega
                  exact ok_41
        · rcases Nat.lt_or_ge b 49 with h5 | h5
          · rcases Nat.lt_or_ge b 45 with h6 | h6
            · rcases Nat.lt_or_ge b 43 with h7 | h7
              · obtain rfl : b = 42 := by omega
                exact ok_42
              · rcases Nat.lt_or_ge b 44 with h8 | h8
                · obtain rfl : b = 43 := by omega
                  exact ok_43
                · obtain rfl : b = 44 := by omega
                  exact ok_44
            · rcases Nat.lt_or_ge b 47 with h7 | h7
              · rcases Nat.lt_or_ge b 46 with h8 | h8
                · obtain rfl : b = 45 := by omega
                  exact ok_45
                · obtain rfl : b = 46 := by omega
                  exact ok_46
              · rcases Nat.lt_or_ge b 48 with h8 | h8
                · obtain rfl : b = 47 := by omega
                  exact ok_47
                · obtain rfl : b = 48 := by omega
                  exact ok_48
          · rcases Nat.lt_or_ge b 53 with h6 | h6
            · rcases Nat.lt_or_ge b 51 with h7 | h7
              · rcases Nat.lt_or_ge b 50 with h8 | h8
                · obtain rfl : b = 49 := by omega
                  exact ok_49
                · obtain rfl : b = 50 := by omega
                  exact ok_50
              · rcases Nat.lt_or_ge b 52 with h8 | h8
                · obtain rfl : b = 51 := by omega
                  exact ok_51
                · obtain rfl : b = 52 := by omega
                  exact ok_52
            · rcases Nat.lt_or_ge b 55 with h7 | h7
              · rcases Nat.lt_or_ge b 54 with h8 | h8
                · obtain rfl : b = 53 := by omega
                  exact ok_53
                · obtain rfl : b = 54 := by omega
                  exact ok_54
              · rcases Nat.lt_or_ge b 56 with h8 | h8
                · obtain rfl : b = 55 := by omega
                  exact ok_55
                · obtain rfl : b = 56 := by omega
                  exact ok_56
    · rcases Nat.lt_or_ge b 85 with h3 | h3
      · rcases Nat.lt_or_ge b 71 with h4 | h4
        · rcases Nat.lt_or_ge b 64 with h5 | h5
          · rcases Nat.lt_or_ge b 60 with h6 | h6
            · rcases Nat.lt_or_ge b 58 with h7 | h7
              · obtain rfl : b = 57 := by omega
                exact ok_57
              · rcases Nat.lt_or_ge b 59 with h8 | h8
                · obtain rfl : b = 58 := by omega
                  exact ok_58
                · obtain rfl : b = 59 := by omega
                  exact ok_59
            · rcases Nat.lt_or_ge b 62 with h7 | h7
              · rcases Nat.lt_or_ge b 61 with h8 | h8
                · obtain rfl : b = 60 := by omega
                  exact ok_60
                · obtain rfl : b = 61 := by omega
                  exact ok_61
              · rcases Nat.lt_or_ge b 63 with h8 | h8
                · obtain rfl : b = 62 := by omega
                  exact ok_62
                · obtain rfl : b = 63 := by omega
                  exact ok_63
          · rcases Nat.lt_or_ge b 67 with h6 | h6
            · rcases Nat.lt_or_ge b 65 with h7 | h7
              · obtain rfl : b = 64 := by omega
                exact ok_64
              · rcases Nat.lt_or_ge b 66 with h8 | h8
                · obtain rfl : b = 65 := by omega
                  exact ok_65
                · obtain rfl : b = 66 := by omega
                  exact ok_66
            · rcases Nat.lt_or_ge b 69 with h7 | h7
              · rcases Nat.lt_or_ge b 68 with h8 | h8
                · obtain rfl : b = 67 := by omega
                  exact ok_67
                · obtain rfl : b = 68 := by omega
                  exact ok_68
              · rcases Nat.lt_or_ge b 70 with h8 | h8
                · obtain rfl : b = 69 := by omega
                  exact ok_69
                · obtain rfl : b = 70 := by omega
                  exact ok_70
        · rcases Nat.lt_or_ge b 78 with h5 | h5
          · rcases Nat.lt_or_ge b 74 with h6 | h6
            · rcases Nat.lt_or_ge b 72 with h7 | h7
              · obtain rfl : b = 71 := by omega
                exact ok_71
              · rcases Nat.lt_or_ge b 73 with h8 | h8
                · obtain rfl : b = 72 := by omega
                  exact ok_72
                · obtain rfl : b = 73 := by omega
                  exact ok_73
            · rcases Nat.lt_or_ge b 76 with h7 | h7
              · rcases Nat.lt_or_ge b 75 with h8 | h8
                · obtain rfl : b = 74 := by omega
                  exact ok_74
                · obtain rfl : b = 75 := by omega
                  exact ok_75
              · rcases Nat.lt_or_ge b 77 with h8 | h8
                · obtain rfl : b = 76 := by omega
                  exact ok_76
                · obtain rfl : b = 77 := by omega
                  exact ok_77
          · rcases Nat.lt_or_ge b 81 with h6 | h6
            · rcases Nat.lt_or_ge b 79 with h7 | h7
              · obtain rfl : b = 78 := by omega
                exact ok_78
              · rcases Nat.lt_or_ge b 80 with h8 | h8
                · obtain rfl : b = 79 := by omega
                  exact ok_79
                · obtain rfl : b = 80 := by omega
                  exact ok_80
            · rcases Nat.lt_or_ge b 83 with h7 | h7
              · rcases Nat.lt_or_ge b 82 with h8 | h8
                · obtain rfl : b = 81 := by omega
                  exact ok_81
                · obtain rfl : b = 82 := by omega
                  exact ok_82
              · rcases Nat.lt_or_ge b 84 with h8 | h8
                · obtain rfl : b = 83 := by omega
                  exact ok_83
                · obtain rfl : b = 84 := by omega
                  exact ok_84
      · rcases Nat.lt_or_ge b 99 with h4 | h4
        · rcases Nat.lt_or_ge b 92 with h5 | h5
          · rcases Nat.lt_or_ge b 88 with h6 | h6
            · rcases Nat.lt_or_ge b 86 with h7 | h7
              · obtain rfl : b = 85 := by omega
                exact ok_85
              · rcases Nat.lt_or_ge b 87 with h8 | h8
                · obtain rfl : b = 86 := by omega
                  exact ok_86
                · obtain rfl : b = 87 := by omega
                  exact ok_87
            · rcases Nat.lt_or_ge b 90 with h7 | h7
              · rcases Nat.lt_or_ge b 89 with h8 | h8
                · obtain rfl : b = 88 := by omega
                  exact ok_88
                · obtain rfl : b = 89 := by omega
                  exact ok_89
              · rcases Nat.lt_or_ge b 91 with h8 | h8
                · obtain rfl : b = 90 := by omega
                  exact ok_90
                · obtain rfl : b = 91 := by omega
                  exact ok_91
          · rcases Nat.lt_or_ge b 95 with h6 | h6
            · rcases Nat.lt_or_ge b 93 with h7 | h7
              · obtain rfl : b = 92 := by omega
                exact ok_92
              · rcases Nat.lt_or_ge b 94 with h8 | h8
                · obtain rfl : b = 93 := by omega
                  exact ok_93
                · obtain rfl : b = 94 := by omega
                  exact ok_94
            · rcases Nat.lt_or_ge b 97 with h7 | h7
              · rcases Nat.lt_or_ge b 96 with h8 | h8
                · obtain rfl : b = 95 := by omega
                  exact ok_95
                · obtain rfl : b = 96 := by omega
                  exact ok_96
              · rcases Nat.lt_or_ge b 98 with h8 | h8
                · obtain rfl : b = 97 := by omega
                  exact ok_97
                · obtain rfl : b = 98 := by omega
                  exact ok_98
        · rcases Nat.lt_or_ge b 106 with h5 | h5
          · rcases Nat.lt_or_ge b 102 with h6 | h6
            · rcases Nat.lt_or_ge b 100 with h7 | h7
              · obtain rfl : b = 99 := by omega
                exact ok_99
              · rcases Nat.lt_or_ge b 101 with h8 | h8
                · obtain rfl : b = 100 := by omega
                  exact ok_100
                · obtain rfl : b = 101 := by omega
                  exact ok_101
            · rcases Nat.lt_or_ge b 104 with h7 | h7
              · rcases Nat.lt_or_ge b 103 with h8 | h8
                · obtain rfl : b = 102 := by omega
                  exact ok_102
                · obtain rfl : b = 103 := by omega
                  exact ok_103
              · rcases Nat.lt_or_ge b 105 with h8 | h8
                · obtain rfl : b = 104 := by omega
                  exact ok_104
                · obtain rfl : b = 105 := by omega
                  exact ok_105
          · rcases Nat.lt_or_ge b 110 with h6 | h6
            · rcases Nat.lt_or_ge b 108 with h7 | h7
              · rcases Nat.lt_or_ge b 107 with h8 | h8
                · obtain rfl : b = 106 := by omega
                  exact ok_106
                · obtain rfl : b = 107 := by omega
                  exact ok_107
              · rcases Nat.lt_or_ge b 109 with h8 | h8
                · obtain rfl : b = 108 := by omega
                  exact ok_108
                · obtain rfl : b = 109 := by omega
                  exact ok_109
            · rcases Nat.lt_or_ge b 112 with h7 | h7
              · rcases Nat.lt_or_ge b 111 with h8 | h8
                · obtain rfl : b = 110 := by omega
                  exact ok_110
                · obtain rfl : b = 111 := by omega
                  exact ok_111
              · rcases Nat.lt_or_ge b 113 with h8 | h8
                · obtain rfl : b = 112 := by omega
                  exact ok_112
                · obtain rfl : b = 113 := by omega
                  exact ok_113
  · rcases Nat.lt_or_ge b 171 with h2 | h2
    · rcases Nat.lt_or_ge b 142 with h3 | h3
      · rcases Nat.lt_or_ge b 128 with h4 | h4
        · rcases Nat.lt_or_ge b 121 with h5 | h5
          · rcases Nat.lt_or_ge b 117 with h6 | h6
            · rcases Nat.lt_or_ge b 115 with h7 | h7
              · obtain rfl : b = 114 := by omega
                exact ok_114
              · rcases Nat.lt_or_ge b 116 with h8 | h8
                · obtain rfl : b = 115 := by omega
                  exact ok_115
                · obtain rfl : b = 116 := by omega
                  exact ok_116
            · rcases Nat.lt_or_ge b 119 with h7 | h7
              · rcases Nat.lt_or_ge b 118 with h8 | h8
                · obtain rfl : b = 117 := by omega
                  exact ok_117
                · obtain rfl : b = 118 := by omega
                  exact ok_118
              · rcases Nat.lt_or_ge b 120 with h8 | h8
                · obtain rfl : b = 119 := by omega
                  exact ok_119
                · obtain rfl : b = 120 := by omega
                  exact ok_120
          · rcases Nat.lt_or_ge b 124 with h6 | h6
            · rcases Nat.lt_or_ge b 122 with h7 | h7
              · obtain rfl : b = 121 := by omega
                exact ok_121
              · rcases Nat.lt_or_ge b 123 with h8 | h8
                · obtain rfl : b = 122 := by omega
                  exact ok_122
                · obtain rfl : b = 123 := by omega
                  exact ok_123
            · rcases Nat.lt_or_ge b 126 with h7 | h7
              · rcases Nat.lt_or_ge b 125 with h8 | h8
                · obtain rfl : b = 124 := by omega
                  exact ok_124
                · obtain rfl : b = 125 := by omega
                  exact ok_125
              · rcases Nat.lt_or_ge b 127 with h8 | h8
                · obtain rfl : b = 126 := by omega
                  exact ok_126
                · obtain rfl : b = 127 := by omega
                  exact ok_127
        · rcases Nat.lt_or_ge b 135 with h5 | h5
          · rcases Nat.lt_or_ge b 131 with h6 | h6
            · rcases Nat.lt_or_ge b 129 with h7 | h7
              · obtain rfl : b = 128 := by omega
                exact ok_128
              · rcases Nat.lt_or_ge b 130 with h8 | h8
                · obtain rfl : b = 129 := by omega
                  exact ok_129
                · obtain rfl : b = 130 := by omega
                  exact ok_130
            · rcases Nat.lt_or_ge b 133 with h7 | h7
              · rcases Nat.lt_or_ge b 132 with h8 | h8
                · obtain rfl : b = 131 := by omega
                  exact ok_131
                · obtain rfl : b = 132 := by omega
                  exact ok_132
              · rcases Nat.lt_or_ge b 134 with h8 | h8
                · obtain rfl : b = 133 := by omega
                  exact ok_133
                · obtain rfl : b = 134 := by omega
                  exact ok_134
          · rcases Nat.lt_or_ge b 138 with h6 | h6
            · rcases Nat.lt_or_ge b 136 with h7 | h7
              · obtain rfl : b = 135 := by omega
                exact ok_135
              · rcases Nat.lt_or_ge b 137 with h8 | h8
                · obtain rfl : b = 136 := by omega
                  exact ok_136
                · obtain rfl : b = 137 := by omega
                  exact ok_137
            · rcases Nat.lt_or_ge b 140 with h7 | h7
              · rcases Nat.lt_or_ge b 139 with h8 | h8
                · obtain rfl : b = 138 := by omega
                  exact ok_138
                · obtain rfl : b = 139 := by omega
                  exact ok_139
              · rcases Nat.lt_or_ge b 141 with h8 | h8
                · obtain rfl : b = 140 := by omega
                  exact ok_140
                · obtain rfl : b = 141 := by omega
                  exact ok_141
      · rcases Nat.lt_or_ge b 156 with h4 | h4
        · rcases Nat.lt_or_ge b 149 with h5 | h5
          · rcases Nat.lt_or_ge b 145 with h6 | h6
            · rcases Nat.lt_or_ge b 143 with h7 | h7
              · obtain rfl : b = 142 := by omega
                exact ok_142
              · rcases Nat.lt_or_ge b 144 with h8 | h8
                · obtain rfl : b = 143 := by omega
                  exact ok_143
                · obtain rfl : b = 144 := by omega
                  exact ok_144
            · rcases Nat.lt_or_ge b 147 with h7 | h7
              · rcases Nat.lt_or_ge b 146 with h8 | h8
                · obtain rfl : b = 145 := by omega
                  exact ok_145
                · obtain rfl : b = 146 := by omega
                  exact ok_146
              · rcases Nat.lt_or_ge b 148 with h8 | h8
                · obtain rfl : b = 147 := by omega
                  exact ok_147
                · obtain rfl : b = 148 := by omega
                  exact ok_148
          · rcases Nat.lt_or_ge b 152 with h6 | h6
            · rcases Nat.lt_or_ge b 150 with h7 | h7
              · obtain rfl : b = 149 := by omega
                exact ok_149
              · rcases Nat.lt_or_ge b 151 with h8 | h8
                · obtain rfl : b = 150 := by omega
                  exact ok_150
                · obtain rfl : b = 151 := by omega
                  exact ok_151
            · rcases Nat.lt_or_ge b 154 with h7 | h7
              · rcases Nat.lt_or_ge b 153 with h8 | h8
                · obtain rfl : b = 152 := by omega
                  exact ok_152
                · obtain rfl : b = 153 := by omega
                  exact ok_153
              · rcases Nat.lt_or_ge b 155 with h8 | h8
                · obtain rfl : b = 154 := by omega
                  exact ok_154
                · obtain rfl : b = 155 := by omega
                  exact ok_155
        · rcases Nat.lt_or_ge b 163 with h5 | h5
          · rcases Nat.lt_or_ge b 159 with h6 | h6
            · rcases Nat.lt_or_ge b 157 with h7 | h7
              · obtain rfl : b = 156 := by omega
                exact ok_156
              · rcases Nat.lt_or_ge b 158 with h8 | h8
                · obtain rfl : b = 157 := by omega
                  exact ok_157
                · obtain rfl : b = 158 := by omega
                  exact ok_158
            · rcases Nat.lt_or_ge b 161 with h7 | h7
              · rcases Nat.lt_or_ge b 160 with h8 | h8
                · obtain rfl : b = 159 := by omega
                  exact ok_159
                · obtain rfl : b = 160 := by omega
                  exact ok_160
              · rcases Nat.lt_or_ge b 162 with h8 | h8
                · obtain rfl : b = 161 := by omega
                  exact ok_161
                · obtain rfl : b = 162 := by omega
                  exact ok_162
          · rcases Nat.lt_or_ge b 167 with h6 | h6
            · rcases Nat.lt_or_ge b 165 with h7 | h7
              · rcases Nat.lt_or_ge b 164 with h8 | h8
                · obtain rfl : b = 163 := by omega
                  exact ok_163
                · obtain rfl : b = 164 := by omega
                  exact ok_164
              · rcases Nat.lt_or_ge b 166 with h8 | h8
                · obtain rfl : b = 165 := by omega
                  exact ok_165
                · obtain rfl : b = 166 := by omega
                  exact ok_166
            · rcases Nat.lt_or_ge b 169 with h7 | h7
              · rcases Nat.lt_or_ge b 168 with h8 | h8
                · obtain rfl : b = 167 := by omega
                  exact ok_167
                · obtain rfl : b = 168 := by omega
                  exact ok_168
              · rcases Nat.lt_or_ge b 170 with h8 | h8
                · obtain rfl : b = 169 := by omega
                  exact ok_169
                · obtain rfl : b = 170 := by omega
                  exact ok_170
    · rcases Nat.lt_or_ge b 199 with h3 | h3
      · rcases Nat.lt_or_ge b 185 with h4 | h4
        · rcases Nat.lt_or_ge b 178 with h5 | h5
          · rcases Nat.lt_or_ge b 174 with h6 | h6
            · rcases Nat.lt_or_ge b 172 with h7 | h7
              · obtain rfl : b = 171 := by omega
                exact ok_171
              · rcases Nat.lt_or_ge b 173 with h8 | h8
                · obtain rfl : b = 172 := by omega
                  exact ok_172
                · obtain rfl : b = 173 := by omega
                  exact ok_173
            · rcases Nat.lt_or_ge b 176 with h7 | h7
              · rcases Nat.lt_or_ge b 175 with h8 | h8
                · obtain rfl : b = 174 := by omega
                  exact ok_174
                · obtain rfl : b = 175 := by omega
                  exact ok_175
              · rcases Nat.lt_or_ge b 177 with h8 | h8
                · obtain rfl : b = 176 := by omega
                  exact ok_176
                · obtain rfl : b = 177 := by omega
                  exact ok_177
          · rcases Nat.lt_or_ge b 181 with h6 | h6
            · rcases Nat.lt_or_ge b 179 with h7 | h7
              · obtain rfl : b = 178 := by omega
                exact ok_178
              · rcases Nat.lt_or_ge b 180 with h8 | h8
                · obtain rfl : b = 179 := by omega
                  exact ok_179
                · obtain rfl : b = 180 := by omega
                  exact ok_180
            · rcases Nat.lt_or_ge b 183 with h7 | h7
              · rcases Nat.lt_or_ge b 182 with h8 | h8
                · obtain rfl : b = 181 := by omega
                  exact ok_181
                · obtain rfl : b = 182 := by omega
                  exact ok_182
              · rcases Nat.lt_or_ge b 184 with h8 | h8
                · obtain rfl : b = 183 := by omega
                  exact ok_183
                · obtain rfl : b = 184 := by omega
                  exact ok_184
        · rcases Nat.lt_or_ge b 192 with h5 | h5
          · rcases Nat.lt_or_ge b 188 with h6 | h6
            · rcases Nat.lt_or_ge b 186 with h7 | h7
              · obtain rfl : b = 185 := by omega
                exact ok_185
              · rcases Nat.lt_or_ge b 187 with h8 | h8
                · obtain rfl : b = 186 := by omega
                  exact ok_186
                · obtain rfl : b = 187 := by omega
                  exact ok_187
            · rcases Nat.lt_or_ge b 190 with h7 | h7
              · rcases Nat.lt_or_ge b 189 with h8 | h8
                · obtain rfl : b = 188 := by omega
                  exact ok_188
                · obtain rfl : b = 189 := by omega
                  exact ok_189
              · rcases Nat.lt_or_ge b 191 with h8 | h8
                · obtain rfl : b = 190 := by omega
                  exact ok_190
                · obtain rfl : b = 191 := by omega
                  exact ok_191
          · rcases Nat.lt_or_ge b 195 with h6 | h6
            · rcases Nat.lt_or_ge b 193 with h7 | h7
              · obtain rfl : b = 192 := by omega
                exact ok_192
              · rcases Nat.lt_or_ge b 194 with h8 | h8
                · obtain rfl : b = 193 := by omega
                  exact ok_193
                · obtain rfl : b = 194 := by omega
                  exact ok_194
            · rcases Nat.lt_or_ge b 197 with h7 | h7
              · rcases Nat.lt_or_ge b 196 with h8 | h8
                · obtain rfl : b = 195 := by omega
                  exact ok_195
                · obtain rfl : b = 196 := by omega
                  exact ok_196
              · rcases Nat.lt_or_ge b 198 with h8 | h8
                · obtain rfl : b = 197 := by omega
                  exact ok_197
                · obtain rfl : b = 198 := by omega
                  exact ok_198
      · rcases Nat.lt_or_ge b 213 with h4 | h4
        · rcases Nat.lt_or_ge b 206 with h5 | h5
          · rcases Nat.lt_or_ge b 202 with h6 | h6
            · rcases Nat.lt_or_ge b 200 with h7 | h7
              · obtain rfl : b = 199 := by omega
                exact ok_199
              · rcases Nat.lt_or_ge b 201 with h8 | h8
                · obtain rfl : b = 200 := by omega
                  exact ok_200
                · obtain rfl : b = 201 := by omega
                  exact ok_201
            · rcases Nat.lt_or_ge b 204 with h7 | h7
              · rcases Nat.lt_or_ge b 203 with h8 | h8
                · obtain rfl : b = 202 := by omega
                  exact ok_202
                · obtain rfl : b = 203 := by omega
                  exact ok_203
              · rcases Nat.lt_or_ge b 205 with h8 | h8
                · obtain rfl : b = 204 := by omega
                  exact ok_204
                · obtain rfl : b = 205 := by omega
                  exact ok_205
          · rcases Nat.lt_or_ge b 209 with h6 | h6
            · rcases Nat.lt_or_ge b 207 with h7 | h7
              · obtain rfl : b = 206 := by omega
                exact ok_206
              · rcases Nat.lt_or_ge b 208 with h8 | h8
                · obtain rfl : b = 207 := by omega
                  exact ok_207
                · obtain rfl : b = 208 := by omega
                  exact ok_208
            · rcases Nat.lt_or_ge b 211 with h7 | h7
              · rcases Nat.lt_or_ge b 210 with h8 | h8
                · obtain rfl : b = 209 := by omega
                  exact ok_209
                · obtain rfl : b = 210 := by omega
                  exact ok_210
              · rcases Nat.lt_or_ge b 212 with h8 | h8
                · obtain rfl : b = 211 := by omega
                  exact ok_211
                · obtain rfl : b = 212 := by omega
                  exact ok_212
        · rcases Nat.lt_or_ge b 220 with h5 | h5
          · rcases Nat.lt_or_ge b 216 with h6 | h6
            · rcases Nat.lt_or_ge b 214 with h7 | h7
              · obtain rfl : b = 213 := by omega
                exact ok_213
              · rcases Nat.lt_or_ge b 215 with h8 | h8
                · obtain rfl : b = 214 := by omega
                  exact ok_214
                · obtain rfl : b = 215 := by omega
                  exact ok_215
            · rcases Nat.lt_or_ge b 218 with h7 | h7
              · rcases Nat.lt_or_ge b 217 with h8 | h8
                · obtain rfl : b = 216 := by omega
                  exact ok_216
                · obtain rfl : b = 217 := by omega
                  exact ok_217
              · rcases Nat.lt_or_ge b 219 with h8 | h8
                · obtain rfl : b = 218 := by omega
                  exact ok_218
                · obtain rfl : b = 219 := by omega
                  exact ok_219
          · rcases Nat.lt_or_ge b 224 with h6 | h6
            · rcases Nat.lt_or_ge b 222 with h7 | h7
              · rcases Nat.lt_or_ge b 221 with h8 | h8
                · obtain rfl : b = 220 := by omega
                  exact ok_220
                · obtain rfl : b = 221 := by omega
                  exact ok_221
              · rcases Nat.lt_or_ge b 223 with h8 | h8
                · obtain rfl : b = 222 := by omega
                  exact ok_222
                · obtain rfl : b = 223 := by omega
                  exact ok_223
            · rcases Nat.lt_or_ge b 226 with h7 | h7
              · rcases Nat.lt_or_ge b 225 with h8 | h8
                · obtain rfl : b = 224 := by omega
                  exact ok_224
                · obtain rfl : b = 225 := by omega
                  exact ok_225
              · rcases Nat.lt_or_ge b 227 with h8 | h8
                · obtain rfl : b = 226 := by omega
                  exact ok_226
                · obtain rfl : b = 227 := by omega
                  exact ok_227
