/-! all of them -/
theorem zallL : zall 264 = true := by
  unfold zall
  rw [List.all_eq_true]
  intro q hq
  obtain ⟨i, hi⟩ := List.getElem?_of_mem hq
  have hl : i < 75 := (List.getElem?_eq_some_iff.mp hi).1
  have key : ∀ (a : Nat), zpart 264 a 5 = true → a ≤ i → i < a + 5 → zchk 264 q.1 q.2 = true := by
    intro a ha h1 h2
    refine List.all_eq_true.mp ha q (List.mem_of_getElem? (i := i - a) ?_)
    rw [List.getElem?_take, if_pos (by omega), List.getElem?_drop, show a + (i - a) = i by omega]
    exact hi
  by_cases h0 : i < 5
  · exact key 0 zkl_0 (by omega) (by omega)
  by_cases h1 : i < 10
  · exact key 5 zkl_1 (by omega) (by omega)
  by_cases h2 : i < 15
  · exact key 10 zkl_2 (by omega) (by omega)
  by_cases h3 : i < 20
  · exact key 15 zkl_3 (by omega) (by omega)
  by_cases h4 : i < 25
  · exact key 20 zkl_4 (by omega) (by omega)
  by_cases h5 : i < 30
  · exact key 25 zkl_5 (by omega) (by omega)
  by_cases h6 : i < 35
  · exact key 30 zkl_6 (by omega) (by omega)
  by_cases h7 : i < 40
  · exact key 35 zkl_7 (by omega) (by omega)
  by_cases h8 : i < 45
  · exact key 40 zkl_8 (by omega) (by omega)
  by_cases h9 : i < 50
  · exact key 45 zkl_9 (by omega) (by omega)
  by_cases h10 : i < 55
  · exact key 50 zkl_10 (by omega) (by omega)
  by_cases h11 : i < 60
  · exact key 55 zkl_11 (by omega) (by omega)
  by_cases h12 : i < 65
  · exact key 60 zkl_12 (by omega) (by omega)
  by_cases h13 : i < 70
  · exact key 65 zkl_13 (by omega) (by omega)
  by_cases h14 : i < 75
  · exact key 70 zkl_14 (by omega) (by omega)
  · omega
theorem zhAll : ∀ mi, mi < 265 → zall mi = true := by
  intro mi hmi
  by_cases hs : mi < 132
  ·
    by_cases hs : mi < 66
    ·
      by_cases hs : mi < 33
      ·
        by_cases hs : mi < 16
        ·
          by_cases hs : mi < 8
          ·
            by_cases hs : mi < 4
            ·
              by_cases hs : mi < 2
              ·
                by_cases hs : mi < 1
                ·
                  have e : mi = 0 := by omega
                  subst e
                  exact zk_0
                ·
                  have e : mi = 1 := by omega
                  subst e
                  exact zk_1
              ·
                by_cases hs : mi < 3
                ·
                  have e : mi = 2 := by omega
                  subst e
                  exact zk_2
                ·
                  have e : mi = 3 := by omega
                  subst e
                  exact zk_3
            ·
              by_cases hs : mi < 6
              ·
                by_cases hs : mi < 5
                ·
                  have e : mi = 4 := by omega
                  subst e
                  exact zk_4
                ·
                  have e : mi = 5 := by omega
                  subst e
                  exact zk_5
              ·
                by_cases hs : mi < 7
                ·
                  have e : mi = 6 := by omega
                  subst e
                  exact zk_6
                ·
                  have e : mi = 7 := by omega
                  subst e
                  exact zk_7
          ·
            by_cases hs : mi < 12
            ·
              by_cases hs : mi < 10
              ·
                by_cases hs : mi < 9
                ·
                  have e : mi = 8 := by omega
                  subst e
                  exact zk_8
                ·
                  have e : mi = 9 := by omega
                  subst e
                  exact zk_9
              ·
                by_cases hs : mi < 11
                ·
                  have e : mi = 10 := by omega
                  subst e
                  exact zk_10
                ·
                  have e : mi = 11 := by omega
                  subst e
                  exact zk_11
            ·
              by_cases hs : mi < 14
              ·
                by_cases hs : mi < 13
                ·
                  have e : mi = 12 := by omega
                  subst e
                  exact zk_12
                ·
                  have e : mi = 13 := by omega
                  subst e
                  exact zk_13
              ·
                by_cases hs : mi < 15
                ·
                  have e : mi = 14 := by omega
                  subst e
                  exact zk_14
                ·
                  have e : mi = 15 := by omega
                  subst e
                  exact zk_15
        ·
          by_cases hs : mi < 24
          ·
            by_cases hs : mi < 20
            ·
              by_cases hs : mi < 18
              ·
                by_cases hs : mi < 17
                ·
                  have e : mi = 16 := by omega
                  subst e
                  exact zk_16
                ·
                  have e : mi = 17 := by omega
                  subst e
                  exact zk_17
              ·
                by_cases hs : mi < 19
                ·
                  have e : mi = 18 := by omega
                  subst e
                  exact zk_18
                ·
                  have e : mi = 19 := by omega
                  subst e
                  exact zk_19
            ·
              by_cases hs : mi < 22
              ·
                by_cases hs : mi < 21
                ·
                  have e : mi = 20 := by omega
                  subst e
                  exact zk_20
                ·
                  have e : mi = 21 := by omega
                  subst e
                  exact zk_21
              ·
                by_cases hs : mi < 23
                ·
                  have e : mi = 22 := by omega
                  subst e
                  exact zk_22
                ·
                  have e : mi = 23 := by omega
                  subst e
                  exact zk_23
          ·
            by_cases hs : mi < 28
            ·
              by_cases hs : mi < 26
              ·
                by_cases hs : mi < 25
                ·
                  have e : mi = 24 := by omega
                  subst e
                  exact zk_24
                ·
                  have e : mi = 25 := by omega
                  subst e
                  exact zk_25
              ·
                by_cases hs : mi < 27
                ·
                  have e : mi = 26 := by omega
                  subst e
                  exact zk_26
                ·
                  have e : mi = 27 := by omega
                  subst e
                  exact zk_27
            ·
              by_cases hs : mi < 30
              ·
                by_cases hs : mi < 29
                ·
                  have e : mi = 28 := by omega
                  subst e
                  exact zk_28
                ·
                  have e : mi = 29 := by omega
                  subst e
                  exact zk_29
              ·
                by_cases hs : mi < 31
                ·
                  have e : mi = 30 := by omega
                  subst e
                  exact zk_30
                ·
                  by_cases hs : mi < 32
                  ·
                    have e : mi = 31 := by omega
                    subst e
                    exact zk_31
                  ·
                    have e : mi = 32 := by omega
                    subst e
                    exact zk_32
      ·
        by_cases hs : mi < 49
        ·
          by_cases hs : mi < 41
          ·
            by_cases hs : mi < 37
            ·
              by_cases hs : mi < 35
              ·
                by_cases hs : mi < 34
                ·
                  have e : mi = 33 := by omega
                  subst e
                  exact zk_33
                ·
                  have e : mi = 34 := by omega
                  subst e
                  exact zk_34
              ·
                by_cases hs : mi < 36
                ·
                  have e : mi = 35 := by omega
                  subst e
                  exact zk_35
                ·
                  have e : mi = 36 := by omega
                  subst e
                  exact zk_36
            ·
              by_cases hs : mi < 39
              ·
                by_cases hs : mi < 38
                ·
                  have e : mi = 37 := by omega
                  subst e
                  exact zk_37
                ·
                  have e : mi = 38 := by omega
                  subst e
                  exact zk_38
              ·
                by_cases hs : mi < 40
                ·
                  have e : mi = 39 := by omega
                  subst e
                  exact zk_39
                ·
                  have e : mi = 40 := by omega
                  subst e
                  exact zk_40
          ·
            by_cases hs : mi < 45
            ·
              by_cases hs : mi < 43
              ·
                by_cases hs : mi < 42
                ·
                  have e : mi = 41 := by omega
                  subst e
                  exact zk_41
                ·
                  have e : mi = 42 := by omega
                  subst e
                  exact zk_42
              ·
                by_cases hs : mi < 44
                ·
                  have e : mi = 43 := by omega
                  subst e
                  exact zk_43
                ·
                  have e : mi = 44 := by omega
                  subst e
                  exact zk_44
            ·
              by_cases hs : mi < 47
              ·
                by_cases hs : mi < 46
                ·
                  have e : mi = 45 := by omega
                  subst e
                  exact zk_45
                ·
                  have e : mi = 46 := by omega
                  subst e
                  exact zk_46
              ·
                by_cases hs : mi < 48
                ·
                  have e : mi = 47 := by omega
                  subst e
                  exact zk_47
                ·
                  have e : mi = 48 := by omega
                  subst e
                  exact zk_48
        ·
          by_cases hs : mi < 57
          ·
            by_cases hs : mi < 53
            ·
              by_cases hs : mi < 51
              ·
                by_cases hs : mi < 50
                ·
                  have e : mi = 49 := by omega
                  subst e
                  exact zk_49
                ·
                  have e : mi = 50 := by omega
                  subst e
                  exact zk_50
              ·
                by_cases hs : mi < 52
                ·
                  have e : mi = 51 := by omega
                  subst e
                  exact zk_51
                ·
                  have e : mi = 52 := by omega
                  subst e
                  exact zk_52
            ·
              by_cases hs : mi < 55
              ·
                by_cases hs : mi < 54
                ·
                  have e : mi = 53 := by omega
                  subst e
                  exact zk_53
                ·
                  have e : mi = 54 := by omega
                  subst e
                  exact zk_54
              ·
                by_cases hs : mi < 56
                ·
                  have e : mi = 55 := by omega
                  subst e
                  exact zk_55
                ·
                  have e : mi = 56 := by omega
                  subst e
                  exact zk_56
          ·
            by_cases hs : mi < 61
            ·
              by_cases hs : mi < 59
              ·
                by_cases hs : mi < 58
                ·
                  have e : mi = 57 := by omega
                  subst e
                  exact zk_57
                ·
                  have e : mi = 58 := by omega
                  subst e
                  exact zk_58
              ·
                by_cases hs : mi < 60
                ·
                  have e : mi = 59 := by omega
                  subst e
                  exact zk_59
                ·
                  have e : mi = 60 := by omega
                  subst e
                  exact zk_60
            ·
              by_cases hs : mi < 63
              ·
                by_cases hs : mi < 62
                ·
                  have e : mi = 61 := by omega
                  subst e
                  exact zk_61
                ·
                  have e : mi = 62 := by omega
                  subst e
                  exact zk_62
              ·
                by_cases hs : mi < 64
                ·
                  have e : mi = 63 := by omega
                  subst e
                  exact zk_63
                ·
                  by_cases hs : mi < 65
                  ·
                    have e : mi = 64 := by omega
                    subst e
                    exact zk_64
                  ·
                    have e : mi = 65 := by omega
                    subst e
                    exact zk_65
    ·
      by_cases hs : mi < 99
      ·
        by_cases hs : mi < 82
        ·
          by_cases hs : mi < 74
          ·
            by_cases hs : mi < 70
            ·
              by_cases hs : mi < 68
              ·
                by_cases hs : mi < 67
                ·
                  have e : mi = 66 := by omega
                  subst e
                  exact zk_66
                ·
                  have e : mi = 67 := by omega
                  subst e
                  exact zk_67
              ·
                by_cases hs : mi < 69
                ·
                  have e : mi = 68 := by omega
                  subst e
                  exact zk_68
                ·
                  have e : mi = 69 := by omega
                  subst e
                  exact zk_69
            ·
              by_cases hs : mi < 72
              ·
                by_cases hs : mi < 71
                ·
                  have e : mi = 70 := by omega
                  subst e
                  exact zk_70
                ·
                  have e : mi = 71 := by omega
                  subst e
                  exact zk_71
              ·
                by_cases hs : mi < 73
                ·
                  have e : mi = 72 := by omega
                  subst e
                  exact zk_72
                ·
                  have e : mi = 73 := by omega
                  subst e
                  exact zk_73
          ·
            by_cases hs : mi < 78
            ·
              by_cases hs : mi < 76
              ·
                by_cases hs : mi < 75
                ·
                  have e : mi = 74 := by omega
                  subst e
                  exact zk_74
                ·
                  have e : mi = 75 := by omega
                  subst e
                  exact zk_75
              ·
                by_cases hs : mi < 77
                ·
                  have e : mi = 76 := by omega
                  subst e
                  exact zk_76
                ·
                  have e : mi = 77 := by omega
                  subst e
                  exact zk_77
            ·
              by_cases hs : mi < 80
              ·
                by_cases hs : mi < 79
                ·
                  have e : mi = 78 := by omega
                  subst e
                  exact zk_78
                ·
                  have e : mi = 79 := by omega
                  subst e
                  exact zk_79
              ·
                by_cases hs : mi < 81
                ·
                  have e : mi = 80 := by omega
                  subst e
                  exact zk_80
                ·
                  have e : mi = 81 := by omega
                  subst e
                  exact zk_81
        ·
          by_cases hs : mi < 90
          ·
            by_cases hs : mi < 86
            ·
              by_cases hs : mi < 84
              ·
                by_cases hs : mi < 83
                ·
                  have e : mi = 82 := by omega
                  subst e
                  exact zk_82
                ·
                  have e : mi = 83 := by omega
                  subst e
                  exact zk_83
              ·
                by_cases hs : mi < 85
                ·
                  have e : mi = 84 := by omega
                  subst e
                  exact zk_84
                ·
                  have e : mi = 85 := by omega
                  subst e
                  exact zk_85
            ·
              by_cases hs : mi < 88
              ·
                by_cases hs : mi < 87
                ·
                  have e : mi = 86 := by omega
                  subst e
                  exact zk_86
                ·
                  have e : mi = 87 := by omega
                  subst e
                  exact zk_87
              ·
                by_cases hs : mi < 89
                ·
                  have e : mi = 88 := by omega
                  subst e
                  exact zk_88
                ·
                  have e : mi = 89 := by omega
                  subst e
                  exact zk_89
          ·
            by_cases hs : mi < 94
            ·
              by_cases hs : mi < 92
              ·
                by_cases hs : mi < 91
                ·
                  have e : mi = 90 := by omega
                  subst e
                  exact zk_90
                ·
                  have e : mi = 91 := by omega
                  subst e
                  exact zk_91
              ·
                by_cases hs : mi < 93
                ·
                  have e : mi = 92 := by omega
                  subst e
                  exact zk_92
                ·
                  have e : mi = 93 := by omega
                  subst e
                  exact zk_93
            ·
              by_cases hs : mi < 96
              ·
                by_cases hs : mi < 95
                ·
                  have e : mi = 94 := by omega
                  subst e
                  exact zk_94
                ·
                  have e : mi = 95 := by omega
                  subst e
                  exact zk_95
              ·
                by_cases hs : mi < 97
                ·
                  have e : mi = 96 := by omega
                  subst e
                  exact zk_96
                ·
                  by_cases hs : mi < 98
                  ·
                    have e : mi = 97 := by omega
                    subst e
                    exact zk_97
                  ·
                    have e : mi = 98 := by omega
                    subst e
                    exact zk_98
      ·
        by_cases hs : mi < 115
        ·
          by_cases hs : mi < 107
          ·
            by_cases hs : mi < 103
            ·
              by_cases hs : mi < 101
              ·
                by_cases hs : mi < 100
                ·
                  have e : mi = 99 := by omega
                  subst e
                  exact zk_99
                ·
                  have e : mi = 100 := by omega
                  subst e
                  exact zk_100
              ·
                by_cases hs : mi < 102
                ·
                  have e : mi = 101 := by omega
                  subst e
                  exact zk_101
                ·
                  have e : mi = 102 := by omega
                  subst e
                  exact zk_102
            ·
              by_cases hs : mi < 105
              ·
                by_cases hs : mi < 104
                ·
                  have e : mi = 103 := by omega
                  subst e
                  exact zk_103
                ·
                  have e : mi = 104 := by omega
                  subst e
                  exact zk_104
              ·
                by_cases hs : mi < 106
                ·
                  have e : mi = 105 := by omega
                  subst e
                  exact zk_105
                ·
                  have e : mi = 106 := by omega
                  subst e
                  exact zk_106
          ·
            by_cases hs : mi < 111
            ·
              by_cases hs : mi < 109
              ·
                by_cases hs : mi < 108
                ·
                  have e : mi = 107 := by omega
                  subst e
                  exact zk_107
                ·
                  have e : mi = 108 := by omega
                  subst e
                  exact zk_108
              ·
                by_cases hs : mi < 110
                ·
                  have e : mi = 109 := by omega
                  subst e
                  exact zk_109
                ·
                  have e : mi = 110 := by omega
                  subst e
                  exact zk_110
            ·
              by_cases hs : mi < 113
              ·
                by_cases hs : mi < 112
                ·
                  have e : mi = 111 := by omega
                  subst e
                  exact zk_111
                ·
                  have e : mi = 112 := by omega
                  subst e
                  exact zk_112
              ·
                by_cases hs : mi < 114
                ·
                  have e : mi = 113 := by omega
                  subst e
                  exact zk_113
                ·
                  have e : mi = 114 := by omega
                  subst e
                  exact zk_114
        ·
          by_cases hs : mi < 123
          ·
            by_cases hs : mi < 119
            ·
              by_cases hs : mi < 117
              ·
                by_cases hs : mi < 116
                ·
                  have e : mi = 115 := by omega
                  subst e
                  exact zk_115
                ·
                  have e : mi = 116 := by omega
                  subst e
                  exact zk_116
              ·
                by_cases hs : mi < 118
                ·
                  have e : mi = 117 := by omega
                  subst e
                  exact zk_117
                ·
                  have e : mi = 118 := by omega
                  subst e
                  exact zk_118
            ·
              by_cases hs : mi < 121
              ·
                by_cases hs : mi < 120
                ·
                  have e : mi = 119 := by omega
                  subst e
                  exact zk_119
                ·
                  have e : mi = 120 := by omega
                  subst e
                  exact zk_120
              ·
                by_cases hs : mi < 122
                ·
                  have e : mi = 121 := by omega
                  subst e
                  exact zk_121
                ·
                  have e : mi = 122 := by omega
                  subst e
                  exact zk_122
          ·
            by_cases hs : mi < 127
            ·
              by_cases hs : mi < 125
              ·
                by_cases hs : mi < 124
                ·
                  have e : mi = 123 := by omega
                  subst e
                  exact zk_123
                ·
                  have e : mi = 124 := by omega
                  subst e
                  exact zk_124
              ·
                by_cases hs : mi < 126
                ·
                  have e : mi = 125 := by omega
                  subst e
                  exact zk_125
                ·
                  have e : mi = 126 := by omega
                  subst e
                  exact zk_126
            ·
              by_cases hs : mi < 129
              ·
                by_cases hs : mi < 128
                ·
                  have e : mi = 127 := by omega
                  subst e
                  exact zk_127
                ·
                  have e : mi = 128 := by omega
                  subst e
                  exact zk_128
              ·
                by_cases hs : mi < 130
                ·
                  have e : mi = 129 := by omega
                  subst e
                  exact zk_129
                ·
                  by_cases hs : mi < 131
                  ·
                    have e : mi = 130 := by omega
                    subst e
                    exact zk_130
                  ·
                    have e : mi = 131 := by omega
                    subst e
                    exact zk_131
  ·
    by_cases hs : mi < 198
    ·
      by_cases hs : mi < 165
      ·
        by_cases hs : mi < 148
        ·
          by_cases hs : mi < 140
          ·
            by_cases hs : mi < 136
            ·
              by_cases hs : mi < 134
              ·
                by_cases hs : mi < 133
                ·
                  have e : mi = 132 := by omega
                  subst e
                  exact zk_132
                ·
                  have e : mi = 133 := by omega
                  subst e
                  exact zk_133
              ·
                by_cases hs : mi < 135
                ·
                  have e : mi = 134 := by omega
                  subst e
                  exact zk_134
                ·
                  have e : mi = 135 := by omega
                  subst e
                  exact zk_135
            ·
              by_cases hs : mi < 138
              ·
                by_cases hs : mi < 137
                ·
                  have e : mi = 136 := by omega
                  subst e
                  exact zk_136
                ·
                  have e : mi = 137 := by omega
                  subst e
                  exact zk_137
              ·
                by_cases hs : mi < 139
                ·
                  have e : mi = 138 := by omega
                  subst e
                  exact zk_138
                ·
                  have e : mi = 139 := by omega
                  subst e
                  exact zk_139
          ·
            by_cases hs : mi < 144
            ·
              by_cases hs : mi < 142
              ·
                by_cases hs : mi < 141
                ·
                  have e : mi = 140 := by omega
                  subst e
                  exact zk_140
                ·
                  have e : mi = 141 := by omega
                  subst e
                  exact zk_141
              ·
                by_cases hs : mi < 143
                ·
                  have e : mi = 142 := by omega
                  subst e
                  exact zk_142
                ·
                  have e : mi = 143 := by omega
                  subst e
                  exact zk_143
            ·
              by_cases hs : mi < 146
              ·
                by_cases hs : mi < 145
                ·
                  have e : mi = 144 := by omega
                  subst e
                  exact zk_144
                ·
                  have e : mi = 145 := by omega
                  subst e
                  exact zk_145
              ·
                by_cases hs : mi < 147
                ·
                  have e : mi = 146 := by omega
                  subst e
                  exact zk_146
                ·
                  have e : mi = 147 := by omega
                  subst e
                  exact zk_147
        ·
          by_cases hs : mi < 156
          ·
            by_cases hs : mi < 152
            ·
              by_cases hs : mi < 150
              ·
                by_cases hs : mi < 149
                ·
                  have e : mi = 148 := by omega
                  subst e
                  exact zk_148
                ·
                  have e : mi = 149 := by omega
                  subst e
                  exact zk_149
              ·
                by_cases hs : mi < 151
                ·
                  have e : mi = 150 := by omega
                  subst e
                  exact zk_150
                ·
                  have e : mi = 151 := by omega
                  subst e
                  exact zk_151
            ·
              by_cases hs : mi < 154
              ·
                by_cases hs : mi < 153
                ·
                  have e : mi = 152 := by omega
                  subst e
                  exact zk_152
                ·
                  have e : mi = 153 := by omega
                  subst e
                  exact zk_153
              ·
                by_cases hs : mi < 155
                ·
                  have e : mi = 154 := by omega
                  subst e
                  exact zk_154
                ·
                  have e : mi = 155 := by omega
                  subst e
                  exact zk_155
          ·
            by_cases hs : mi < 160
            ·
              by_cases hs : mi < 158
              ·
                by_cases hs : mi < 157
                ·
                  have e : mi = 156 := by omega
                  subst e
                  exact zk_156
                ·
                  have e : mi = 157 := by omega
                  subst e
                  exact zk_157
              ·
                by_cases hs : mi < 159
                ·
                  have e : mi = 158 := by omega
                  subst e
                  exact zk_158
                ·
                  have e : mi = 159 := by omega
                  subst e
                  exact zk_159
            ·
              by_cases hs : mi < 162
              ·
                by_cases hs : mi < 161
                ·
                  have e : mi = 160 := by omega
                  subst e
                  exact zk_160
                ·
                  have e : mi = 161 := by omega
                  subst e
                  exact zk_161
              ·
                by_cases hs : mi < 163
                ·
                  have e : mi = 162 := by omega
                  subst e
                  exact zk_162
                ·
                  by_cases hs : mi < 164
                  ·
                    have e : mi = 163 := by omega
                    subst e
                    exact zk_163
                  ·
                    have e : mi = 164 := by omega
                    subst e
                    exact zk_164
      ·
        by_cases hs : mi < 181
        ·
          by_cases hs : mi < 173
          ·
            by_cases hs : mi < 169
            ·
              by_cases hs : mi < 167
              ·
                by_cases hs : mi < 166
                ·
                  have e : mi = 165 := by omega
                  subst e
                  exact zk_165
                ·
                  have e : mi = 166 := by omega
                  subst e
                  exact zk_166
              ·
                by_cases hs : mi < 168
                ·
                  have e : mi = 167 := by omega
                  subst e
                  exact zk_167
                ·
                  have e : mi = 168 := by omega
                  subst e
                  exact zk_168
            ·
              by_cases hs : mi < 171
              ·
                by_cases hs : mi < 170
                ·
                  have e : mi = 169 := by omega
                  subst e
                  exact zk_169
                ·
                  have e : mi = 170 := by omega
                  subst e
                  exact zk_170
              ·
                by_cases hs : mi < 172
                ·
                  have e : mi = 171 := by omega
                  subst e
                  exact zk_171
                ·
                  have e : mi = 172 := by omega
                  subst e
                  exact zk_172
          ·
            by_cases hs : mi < 177
            ·
              by_cases hs : mi < 175
              ·
                by_cases hs : mi < 174
                ·
                  have e : mi = 173 := by omega
                  subst e
                  exact zk_173
                ·
                  have e : mi = 174 := by omega
                  subst e
                  exact zk_174
              ·
                by_cases hs : mi < 176
                ·
                  have e : mi = 175 := by omega
                  subst e
                  exact zk_175
                ·
                  have e : mi = 176 := by omega
                  subst e
                  exact zk_176
            ·
              by_cases hs : mi < 179
              ·
                by_cases hs : mi < 178
                ·
                  have e : mi = 177 := by omega
                  subst e
                  exact zk_177
                ·
                  have e : mi = 178 := by omega
                  subst e
                  exact zk_178
              ·
                by_cases hs : mi < 180
                ·
                  have e : mi = 179 := by omega
                  subst e
                  exact zk_179
                ·
                  have e : mi = 180 := by omega
                  subst e
                  exact zk_180
        ·
          by_cases hs : mi < 189
          ·
            by_cases hs : mi < 185
            ·
              by_cases hs : mi < 183
              ·
                by_cases hs : mi < 182
                ·
                  have e : mi = 181 := by omega
                  subst e
                  exact zk_181
                ·
                  have e : mi = 182 := by omega
                  subst e
                  exact zk_182
              ·
                by_cases hs : mi < 184
                ·
                  have e : mi = 183 := by omega
                  subst e
                  exact zk_183
                ·
                  have e : mi = 184 := by omega
                  subst e
                  exact zk_184
            ·
              by_cases hs : mi < 187
              ·
                by_cases hs : mi < 186
                ·
                  have e : mi = 185 := by omega
                  subst e
                  exact zk_185
                ·
                  have e : mi = 186 := by omega
                  subst e
                  exact zk_186
              ·
                by_cases hs : mi < 188
                ·
                  have e : mi = 187 := by omega
                  subst e
                  exact zk_187
                ·
                  have e : mi = 188 := by omega
                  subst e
                  exact zk_188
          ·
            by_cases hs : mi < 193
            ·
              by_cases hs : mi < 191
              ·
                by_cases hs : mi < 190
                ·
                  have e : mi = 189 := by omega
                  subst e
                  exact zk_189
                ·
                  have e : mi = 190 := by omega
                  subst e
                  exact zk_190
              ·
                by_cases hs : mi < 192
                ·
                  have e : mi = 191 := by omega
                  subst e
                  exact zk_191
                ·
                  have e : mi = 192 := by omega
                  subst e
                  exact zk_192
            ·
              by_cases hs : mi < 195
              ·
                by_cases hs : mi < 194
                ·
                  have e : mi = 193 := by omega
                  subst e
                  exact zk_193
                ·
                  have e : mi = 194 := by omega
                  subst e
                  exact zk_194
              ·
                by_cases hs : mi < 196
                ·
                  have e : mi = 195 := by omega
                  subst e
                  exact zk_195
                ·
                  by_cases hs : mi < 197
                  ·
                    have e : mi = 196 := by omega
                    subst e
                    exact zk_196
                  ·
                    have e : mi = 197 := by omega
                    subst e
                    exact zk_197
    ·
      by_cases hs : mi < 231
      ·
        by_cases hs : mi < 214
        ·
          by_cases hs : mi < 206
          ·
            by_cases hs : mi < 202
            ·
              by_cases hs : mi < 200
              ·
                by_cases hs : mi < 199
                ·
                  have e : mi = 198 := by omega
                  subst e
                  exact zk_198
                ·
                  have e : mi = 199 := by omega
                  subst e
                  exact zk_199
              ·
                by_cases hs : mi < 201
                ·
                  have e : mi = 200 := by omega
                  subst e
                  exact zk_200
                ·
                  have e : mi = 201 := by omega
                  subst e
                  exact zk_201
            ·
              by_cases hs : mi < 204
              ·
                by_cases hs : mi < 203
                ·
                  have e : mi = 202 := by omega
                  subst e
                  exact zk_202
                ·
                  have e : mi = 203 := by omega
                  subst e
                  exact zk_203
              ·
                by_cases hs : mi < 205
                ·
                  have e : mi = 204 := by omega
                  subst e
                  exact zk_204
                ·
                  have e : mi = 205 := by omega
                  subst e
                  exact zk_205
          ·
            by_cases hs : mi < 210
            ·
              by_cases hs : mi < 208
              ·
                by_cases hs : mi < 207
                ·
                  have e : mi = 206 := by omega
                  subst e
                  exact zk_206
                ·
                  have e : mi = 207 := by omega
                  subst e
                  exact zk_207
              ·
                by_cases hs : mi < 209
                ·
                  have e : mi = 208 := by omega
                  subst e
                  exact zk_208
                ·
                  have e : mi = 209 := by omega
                  subst e
                  exact zk_209
            ·
              by_cases hs : mi < 212
              ·
                by_cases hs : mi < 211
                ·
                  have e : mi = 210 := by omega
                  subst e
                  exact zk_210
                ·
                  have e : mi = 211 := by omega
                  subst e
                  exact zk_211
              ·
                by_cases hs : mi < 213
                ·
                  have e : mi = 212 := by omega
                  subst e
                  exact zk_212
                ·
                  have e : mi = 213 := by omega
                  subst e
                  exact zk_213
        ·
          by_cases hs : mi < 222
          ·
            by_cases hs : mi < 218
            ·
              by_cases hs : mi < 216
              ·
                by_cases hs : mi < 215
                ·
                  have e : mi = 214 := by omega
                  subst e
                  exact zk_214
                ·
                  have e : mi = 215 := by omega
                  subst e
                  exact zk_215
              ·
                by_cases hs : mi < 217
                ·
                  have e : mi = 216 := by omega
                  subst e
                  exact zk_216
                ·
                  have e : mi = 217 := by omega
                  subst e
                  exact zk_217
            ·
              by_cases hs : mi < 220
              ·
                by_cases hs : mi < 219
                ·
                  have e : mi = 218 := by omega
                  subst e
                  exact zk_218
                ·
                  have e : mi = 219 := by omega
                  subst e
                  exact zk_219
              ·
                by_cases hs : mi < 221
                ·
                  have e : mi = 220 := by omega
                  subst e
                  exact zk_220
                ·
                  have e : mi = 221 := by omega
                  subst e
                  exact zk_221
          ·
            by_cases hs : mi < 226
            ·
              by_cases hs : mi < 224
              ·
                by_cases hs : mi < 223
                ·
                  have e : mi = 222 := by omega
                  subst e
                  exact zk_222
                ·
                  have e : mi = 223 := by omega
                  subst e
                  exact zk_223
              ·
                by_cases hs : mi < 225
                ·
                  have e : mi = 224 := by omega
                  subst e
                  exact zk_224
                ·
                  have e : mi = 225 := by omega
                  subst e
                  exact zk_225
            ·
              by_cases hs : mi < 228
              ·
                by_cases hs : mi < 227
                ·
                  have e : mi = 226 := by omega
                  subst e
                  exact zk_226
                ·
                  have e : mi = 227 := by omega
                  subst e
                  exact zk_227
              ·
                by_cases hs : mi < 229
                ·
                  have e : mi = 228 := by omega
                  subst e
                  exact zk_228
                ·
                  by_cases hs : mi < 230
                  ·
                    have e : mi = 229 := by omega
                    subst e
                    exact zk_229
                  ·
                    have e : mi = 230 := by omega
                    subst e
                    exact zk_230
      ·
        by_cases hs : mi < 248
        ·
          by_cases hs : mi < 239
          ·
            by_cases hs : mi < 235
            ·
              by_cases hs : mi < 233
              ·
                by_cases hs : mi < 232
                ·
                  have e : mi = 231 := by omega
                  subst e
                  exact zk_231
                ·
                  have e : mi = 232 := by omega
                  subst e
                  exact zk_232
              ·
                by_cases hs : mi < 234
                ·
                  have e : mi = 233 := by omega
                  subst e
                  exact zk_233
                ·
                  have e : mi = 234 := by omega
                  subst e
                  exact zk_234
            ·
              by_cases hs : mi < 237
              ·
                by_cases hs : mi < 236
                ·
                  have e : mi = 235 := by omega
                  subst e
                  exact zk_235
                ·
                  have e : mi = 236 := by omega
                  subst e
                  exact zk_236
              ·
                by_cases hs : mi < 238
                ·
                  have e : mi = 237 := by omega
                  subst e
                  exact zk_237
                ·
                  have e : mi = 238 := by omega
                  subst e
                  exact zk_238
          ·
            by_cases hs : mi < 243
            ·
              by_cases hs : mi < 241
              ·
                by_cases hs : mi < 240
                ·
                  have e : mi = 239 := by omega
                  subst e
                  exact zk_239
                ·
                  have e : mi = 240 := by omega
                  subst e
                  exact zk_240
              ·
                by_cases hs : mi < 242
                ·
                  have e : mi = 241 := by omega
                  subst e
                  exact zk_241
                ·
                  have e : mi = 242 := by omega
                  subst e
                  exact zk_242
            ·
              by_cases hs : mi < 245
              ·
                by_cases hs : mi < 244
                ·
                  have e : mi = 243 := by omega
                  subst e
                  exact zk_243
                ·
                  have e : mi = 244 := by omega
                  subst e
                  exact zk_244
              ·
                by_cases hs : mi < 246
                ·
                  have e : mi = 245 := by omega
                  subst e
                  exact zk_245
                ·
                  by_cases hs : mi < 247
                  ·
                    have e : mi = 246 := by omega
                    subst e
                    exact zk_246
                  ·
                    have e : mi = 247 := by omega
                    subst e
                    exact zk_247
        ·
          by_cases hs : mi < 256
          ·
            by_cases hs : mi < 252
            ·
              by_cases hs : mi < 250
              ·
                by_cases hs : mi < 249
                ·
                  have e : mi = 248 := by omega
                  subst e
                  exact zk_248
                ·
                  have e : mi = 249 := by omega
                  subst e
                  exact zk_249
              ·
                by_cases hs : mi < 251
                ·
                  have e : mi = 250 := by omega
                  subst e
                  exact zk_250
                ·
                  have e : mi = 251 := by omega
                  subst e
                  exact zk_251
            ·
              by_cases hs : mi < 254
              ·
                by_cases hs : mi < 253
                ·
                  have e : mi = 252 := by omega
                  subst e
                  exact zk_252
                ·
                  have e : mi = 253 := by omega
                  subst e
                  exact zk_253
              ·
                by_cases hs : mi < 255
                ·
                  have e : mi = 254 := by omega
                  subst e
                  exact zk_254
                ·
                  have e : mi = 255 := by omega
                  subst e
                  exact zk_255
          ·
            by_cases hs : mi < 260
            ·
              by_cases hs : mi < 258
              ·
                by_cases hs : mi < 257
                ·
                  have e : mi = 256 := by omega
                  subst e
                  exact zk_256
                ·
                  have e : mi = 257 := by omega
                  subst e
                  exact zk_257
              ·
                by_cases hs : mi < 259
                ·
                  have e : mi = 258 := by omega
                  subst e
                  exact zk_258
                ·
                  have e : mi = 259 := by omega
                  subst e
                  exact zk_259
            ·
              by_cases hs : mi < 262
              ·
                by_cases hs : mi < 261
                ·
                  have e : mi = 260 := by omega
                  subst e
                  exact zk_260
                ·
                  have e : mi = 261 := by omega
                  subst e
                  exact zk_261
              ·
                by_cases hs : mi < 263
                ·
                  have e : mi = 262 := by omega
                  subst e
                  exact zk_262
                ·
                  by_cases hs : mi < 264
                  ·
                    have e : mi = 263 := by omega
                    subst e
                    exact zk_263
                  ·
                    have e : mi = 264 := by omega
                    subst e
                    exact zallL
theorem zhM : ∀ mi, mi < 264 → zPm mi := by
  intro mi hmi
  by_cases hs : mi < 132
  ·
    by_cases hs : mi < 66
    ·
      by_cases hs : mi < 33
      ·
        by_cases hs : mi < 16
        ·
          by_cases hs : mi < 8
          ·
            by_cases hs : mi < 4
            ·
              by_cases hs : mi < 2
              ·
                by_cases hs : mi < 1
                ·
                  have e : mi = 0 := by omega
                  subst e
                  exact zm_0
                ·
                  have e : mi = 1 := by omega
                  subst e
                  exact zm_1
              ·
                by_cases hs : mi < 3
                ·
                  have e : mi = 2 := by omega
                  subst e
                  exact zm_2
                ·
                  have e : mi = 3 := by omega
                  subst e
                  exact zm_3
            ·
              by_cases hs : mi < 6
              ·
                by_cases hs : mi < 5
                ·
                  have e : mi = 4 := by omega
                  subst e
                  exact zm_4
                ·
                  have e : mi = 5 := by omega
                  subst e
                  exact zm_5
              ·
                by_cases hs : mi < 7
                ·
                  have e : mi = 6 := by omega
                  subst e
                  exact zm_6
                ·
                  have e : mi = 7 := by omega
                  subst e
                  exact zm_7
          ·
            by_cases hs : mi < 12
            ·
              by_cases hs : mi < 10
              ·
                by_cases hs : mi < 9
                ·
                  have e : mi = 8 := by omega
                  subst e
                  exact zm_8
                ·
                  have e : mi = 9 := by omega
                  subst e
                  exact zm_9
              ·
                by_cases hs : mi < 11
                ·
                  have e : mi = 10 := by omega
                  subst e
                  exact zm_10
                ·
                  have e : mi = 11 := by omega
                  subst e
                  exact zm_11
            ·
              by_cases hs : mi < 14
              ·
                by_cases hs : mi < 13
                ·
                  have e : mi = 12 := by omega
                  subst e
                  exact zm_12
                ·
                  have e : mi = 13 := by omega
                  subst e
                  exact zm_13
              ·
                by_cases hs : mi < 15
                ·
                  have e : mi = 14 := by omega
                  subst e
                  exact zm_14
                ·
                  have e : mi = 15 := by omega
                  subst e
                  exact zm_15
        ·
          by_cases hs : mi < 24
          ·
            by_cases hs : mi < 20
            ·
              by_cases hs : mi < 18
              ·
                by_cases hs : mi < 17
                ·
                  have e : mi = 16 := by omega
                  subst e
                  exact zm_16
                ·
                  have e : mi = 17 := by omega
                  subst e
                  exact zm_17
              ·
                by_cases hs : mi < 19
                ·
                  have e : mi = 18 := by omega
                  subst e
                  exact zm_18
                ·
                  have e : mi = 19 := by omega
                  subst e
                  exact zm_19
            ·
              by_cases hs : mi < 22
              ·
                by_cases hs : mi < 21
                ·
                  have e : mi = 20 := by omega
                  subst e
                  exact zm_20
                ·
                  have e : mi = 21 := by omega
                  subst e
                  exact zm_21
              ·
                by_cases hs : mi < 23
                ·
                  have e : mi = 22 := by omega
                  subst e
                  exact zm_22
                ·
                  have e : mi = 23 := by omega
                  subst e
                  exact zm_23
          ·
            by_cases hs : mi < 28
            ·
              by_cases hs : mi < 26
              ·
                by_cases hs : mi < 25
                ·
                  have e : mi = 24 := by omega
                  subst e
                  exact zm_24
                ·
                  have e : mi = 25 := by omega
                  subst e
                  exact zm_25
              ·
                by_cases hs : mi < 27
                ·
                  have e : mi = 26 := by omega
                  subst e
                  exact zm_26
                ·
                  have e : mi = 27 := by omega
                  subst e
                  exact zm_27
            ·
              by_cases hs : mi < 30
              ·
                by_cases hs : mi < 29
                ·
                  have e : mi = 28 := by omega
                  subst e
                  exact zm_28
                ·
                  have e : mi = 29 := by omega
                  subst e
                  exact zm_29
              ·
                by_cases hs : mi < 31
                ·
                  have e : mi = 30 := by omega
                  subst e
                  exact zm_30
                ·
                  by_cases hs : mi < 32
                  ·
                    have e : mi = 31 := by omega
                    subst e
                    exact zm_31
                  ·
                    have e : mi = 32 := by omega
                    subst e
                    exact zm_32
      ·
        by_cases hs : mi < 49
        ·
          by_cases hs : mi < 41
          ·
            by_cases hs : mi < 37
            ·
              by_cases hs : mi < 35
              ·
                by_cases hs : mi < 34
                ·
                  have e : mi = 33 := by omega
                  subst e
                  exact zm_33
                ·
                  have e : mi = 34 := by omega
                  subst e
                  exact zm_34
              ·
                by_cases hs : mi < 36
                ·
                  have e : mi = 35 := by omega
                  subst e
                  exact zm_35
                ·
                  have e : mi = 36 := by omega
                  subst e
                  exact zm_36
            ·
              by_cases hs : mi < 39
              ·
                by_cases hs : mi < 38
                ·
                  have e : mi = 37 := by omega
                  subst e
                  exact zm_37
                ·
                  have e : mi = 38 := by omega
                  subst e
                  exact zm_38
              ·
                by_cases hs : mi < 40
                ·
                  have e : mi = 39 := by omega
                  subst e
                  exact zm_39
                ·
                  have e : mi = 40 := by omega
                  subst e
                  exact zm_40
          ·
            by_cases hs : mi < 45
            ·
              by_cases hs : mi < 43
              ·
                by_cases hs : mi < 42
                ·
                  have e : mi = 41 := by omega
                  subst e
                  exact zm_41
                ·
                  have e : mi = 42 := by omega
                  subst e
                  exact zm_42
              ·
                by_cases hs : mi < 44
                ·
                  have e : mi = 43 := by omega
                  subst e
                  exact zm_43
                ·
                  have e : mi = 44 := by omega
                  subst e
                  exact zm_44
            ·
              by_cases hs : mi < 47
              ·
                by_cases hs : mi < 46
                ·
                  have e : mi = 45 := by omega
                  subst e
                  exact zm_45
                ·
                  have e : mi = 46 := by omega
                  subst e
                  exact zm_46
              ·
                by_cases hs : mi < 48
                ·
                  have e : mi = 47 := by omega
                  subst e
                  exact zm_47
                ·
                  have e : mi = 48 := by omega
                  subst e
                  exact zm_48
        ·
          by_cases hs : mi < 57
          ·
            by_cases hs : mi < 53
            ·
              by_cases hs : mi < 51
              ·
                by_cases hs : mi < 50
                ·
                  have e : mi = 49 := by omega
                  subst e
                  exact zm_49
                ·
                  have e : mi = 50 := by omega
                  subst e
                  exact zm_50
              ·
                by_cases hs : mi < 52
                ·
                  have e : mi = 51 := by omega
                  subst e
                  exact zm_51
                ·
                  have e : mi = 52 := by omega
                  subst e
                  exact zm_52
            ·
              by_cases hs : mi < 55
              ·
                by_cases hs : mi < 54
                ·
                  have e : mi = 53 := by omega
                  subst e
                  exact zm_53
                ·
                  have e : mi = 54 := by omega
                  subst e
                  exact zm_54
              ·
                by_cases hs : mi < 56
                ·
                  have e : mi = 55 := by omega
                  subst e
                  exact zm_55
                ·
                  have e : mi = 56 := by omega
                  subst e
                  exact zm_56
          ·
            by_cases hs : mi < 61
            ·
              by_cases hs : mi < 59
              ·
                by_cases hs : mi < 58
                ·
                  have e : mi = 57 := by omega
                  subst e
                  exact zm_57
                ·
                  have e : mi = 58 := by omega
                  subst e
                  exact zm_58
              ·
                by_cases hs : mi < 60
                ·
                  have e : mi = 59 := by omega
                  subst e
                  exact zm_59
                ·
                  have e : mi = 60 := by omega
                  subst e
                  exact zm_60
            ·
              by_cases hs : mi < 63
              ·
                by_cases hs : mi < 62
                ·
                  have e : mi = 61 := by omega
                  subst e
                  exact zm_61
                ·
                  have e : mi = 62 := by omega
                  subst e
                  exact zm_62
              ·
                by_cases hs : mi < 64
                ·
                  have e : mi = 63 := by omega
                  subst e
                  exact zm_63
                ·
                  by_cases hs : mi < 65
                  ·
                    have e : mi = 64 := by omega
                    subst e
                    exact zm_64
                  ·
                    have e : mi = 65 := by omega
                    subst e
                    exact zm_65
    ·
      by_cases hs : mi < 99
      ·
        by_cases hs : mi < 82
        ·
          by_cases hs : mi < 74
          ·
            by_cases hs : mi < 70
            ·
              by_cases hs : mi < 68
              ·
                by_cases hs : mi < 67
                ·
                  have e : mi = 66 := by omega
                  subst e
                  exact zm_66
                ·
                  have e : mi = 67 := by omega
                  subst e
                  exact zm_67
              ·
                by_cases hs : mi < 69
                ·
                  have e : mi = 68 := by omega
                  subst e
                  exact zm_68
                ·
                  have e : mi = 69 := by omega
                  subst e
                  exact zm_69
            ·
              by_cases hs : mi < 72
              ·
                by_cases hs : mi < 71
                ·
                  have e : mi = 70 := by omega
                  subst e
                  exact zm_70
                ·
                  have e : mi = 71 := by omega
                  subst e
                  exact zm_71
              ·
                by_cases hs : mi < 73
                ·
                  have e : mi = 72 := by omega
                  subst e
                  exact zm_72
                ·
                  have e : mi = 73 := by omega
                  subst e
                  exact zm_73
          ·
            by_cases hs : mi < 78
            ·
              by_cases hs : mi < 76
              ·
                by_cases hs : mi < 75
                ·
                  have e : mi = 74 := by omega
                  subst e
                  exact zm_74
                ·
                  have e : mi = 75 := by omega
                  subst e
                  exact zm_75
              ·
                by_cases hs : mi < 77
                ·
                  have e : mi = 76 := by omega
                  subst e
                  exact zm_76
                ·
                  have e : mi = 77 := by omega
                  subst e
                  exact zm_77
            ·
              by_cases hs : mi < 80
              ·
                by_cases hs : mi < 79
                ·
                  have e : mi = 78 := by omega
                  subst e
                  exact zm_78
                ·
                  have e : mi = 79 := by omega
                  subst e
                  exact zm_79
              ·
                by_cases hs : mi < 81
                ·
                  have e : mi = 80 := by omega
                  subst e
                  exact zm_80
                ·
                  have e : mi = 81 := by omega
                  subst e
                  exact zm_81
        ·
          by_cases hs : mi < 90
          ·
            by_cases hs : mi < 86
            ·
              by_cases hs : mi < 84
              ·
                by_cases hs : mi < 83
                ·
                  have e : mi = 82 := by omega
                  subst e
                  exact zm_82
                ·
                  have e : mi = 83 := by omega
                  subst e
                  exact zm_83
              ·
                by_cases hs : mi < 85
                ·
                  have e : mi = 84 := by omega
                  subst e
                  exact zm_84
                ·
                  have e : mi = 85 := by omega
                  subst e
                  exact zm_85
            ·
              by_cases hs : mi < 88
              ·
                by_cases hs : mi < 87
                ·
                  have e : mi = 86 := by omega
                  subst e
                  exact zm_86
                ·
                  have e : mi = 87 := by omega
                  subst e
                  exact zm_87
              ·
                by_cases hs : mi < 89
                ·
                  have e : mi = 88 := by omega
                  subst e
                  exact zm_88
                ·
                  have e : mi = 89 := by omega
                  subst e
                  exact zm_89
          ·
            by_cases hs : mi < 94
            ·
              by_cases hs : mi < 92
              ·
                by_cases hs : mi < 91
                ·
                  have e : mi = 90 := by omega
                  subst e
                  exact zm_90
                ·
                  have e : mi = 91 := by omega
                  subst e
                  exact zm_91
              ·
                by_cases hs : mi < 93
                ·
                  have e : mi = 92 := by omega
                  subst e
                  exact zm_92
                ·
                  have e : mi = 93 := by omega
                  subst e
                  exact zm_93
            ·
              by_cases hs : mi < 96
              ·
                by_cases hs : mi < 95
                ·
                  have e : mi = 94 := by omega
                  subst e
                  exact zm_94
                ·
                  have e : mi = 95 := by omega
                  subst e
                  exact zm_95
              ·
                by_cases hs : mi < 97
                ·
                  have e : mi = 96 := by omega
                  subst e
                  exact zm_96
                ·
                  by_cases hs : mi < 98
                  ·
                    have e : mi = 97 := by omega
                    subst e
                    exact zm_97
                  ·
                    have e : mi = 98 := by omega
                    subst e
                    exact zm_98
      ·
        by_cases hs : mi < 115
        ·
          by_cases hs : mi < 107
          ·
            by_cases hs : mi < 103
            ·
              by_cases hs : mi < 101
              ·
                by_cases hs : mi < 100
                ·
                  have e : mi = 99 := by omega
                  subst e
                  exact zm_99
                ·
                  have e : mi = 100 := by omega
                  subst e
                  exact zm_100
              ·
                by_cases hs : mi < 102
                ·
                  have e : mi = 101 := by omega
                  subst e
                  exact zm_101
                ·
                  have e : mi = 102 := by omega
                  subst e
                  exact zm_102
            ·
              by_cases hs : mi < 105
              ·
                by_cases hs : mi < 104
                ·
                  have e : mi = 103 := by omega
                  subst e
                  exact zm_103
                ·
                  have e : mi = 104 := by omega
                  subst e
                  exact zm_104
              ·
                by_cases hs : mi < 106
                ·
                  have e : mi = 105 := by omega
                  subst e
                  exact zm_105
                ·
                  have e : mi = 106 := by omega
                  subst e
                  exact zm_106
          ·
            by_cases hs : mi < 111
            ·
              by_cases hs : mi < 109
              ·
                by_cases hs : mi < 108
                ·
                  have e : mi = 107 := by omega
                  subst e
                  exact zm_107
                ·
                  have e : mi = 108 := by omega
                  subst e
                  exact zm_108
              ·
                by_cases hs : mi < 110
                ·
                  have e : mi = 109 := by omega
                  subst e
                  exact zm_109
                ·
                  have e : mi = 110 := by omega
                  subst e
                  exact zm_110
            ·
              by_cases hs : mi < 113
              ·
                by_cases hs : mi < 112
                ·
                  have e : mi = 111 := by omega
                  subst e
                  exact zm_111
                ·
                  have e : mi = 112 := by omega
                  subst e
                  exact zm_112
              ·
                by_cases hs : mi < 114
                ·
                  have e : mi = 113 := by omega
                  subst e
                  exact zm_113
                ·
                  have e : mi = 114 := by omega
                  subst e
                  exact zm_114
        ·
          by_cases hs : mi < 123
          ·
            by_cases hs : mi < 119
            ·
              by_cases hs : mi < 117
              ·
                by_cases hs : mi < 116
                ·
                  have e : mi = 115 := by omega
                  subst e
                  exact zm_115
                ·
                  have e : mi = 116 := by omega
                  subst e
                  exact zm_116
              ·
                by_cases hs : mi < 118
                ·
                  have e : mi = 117 := by omega
                  subst e
                  exact zm_117
                ·
                  have e : mi = 118 := by omega
                  subst e
                  exact zm_118
            ·
              by_cases hs : mi < 121
              ·
                by_cases hs : mi < 120
                ·
                  have e : mi = 119 := by omega
                  subst e
                  exact zm_119
                ·
                  have e : mi = 120 := by omega
                  subst e
                  exact zm_120
              ·
                by_cases hs : mi < 122
                ·
                  have e : mi = 121 := by omega
                  subst e
                  exact zm_121
                ·
                  have e : mi = 122 := by omega
                  subst e
                  exact zm_122
          ·
            by_cases hs : mi < 127
            ·
              by_cases hs : mi < 125
              ·
                by_cases hs : mi < 124
                ·
                  have e : mi = 123 := by omega
                  subst e
                  exact zm_123
                ·
                  have e : mi = 124 := by omega
                  subst e
                  exact zm_124
              ·
                by_cases hs : mi < 126
                ·
                  have e : mi = 125 := by omega
                  subst e
                  exact zm_125
                ·
                  have e : mi = 126 := by omega
                  subst e
                  exact zm_126
            ·
              by_cases hs : mi < 129
              ·
                by_cases hs : mi < 128
                ·
                  have e : mi = 127 := by omega
                  subst e
                  exact zm_127
                ·
                  have e : mi = 128 := by omega
                  subst e
                  exact zm_128
              ·
                by_cases hs : mi < 130
                ·
                  have e : mi = 129 := by omega
                  subst e
                  exact zm_129
                ·
                  by_cases hs : mi < 131
                  ·
                    have e : mi = 130 := by omega
                    subst e
                    exact zm_130
                  ·
                    have e : mi = 131 := by omega
                    subst e
                    exact zm_131
  ·
    by_cases hs : mi < 198
    ·
      by_cases hs : mi < 165
      ·
        by_cases hs : mi < 148
        ·
          by_cases hs : mi < 140
          ·
            by_cases hs : mi < 136
            ·
              by_cases hs : mi < 134
              ·
                by_cases hs : mi < 133
                ·
                  have e : mi = 132 := by omega
                  subst e
                  exact zm_132
                ·
                  have e : mi = 133 := by omega
                  subst e
                  exact zm_133
              ·
                by_cases hs : mi < 135
                ·
                  have e : mi = 134 := by omega
                  subst e
                  exact zm_134
                ·
                  have e : mi = 135 := by omega
                  subst e
                  exact zm_135
            ·
              by_cases hs : mi < 138
              ·
                by_cases hs : mi < 137
                ·
                  have e : mi = 136 := by omega
                  subst e
                  exact zm_136
                ·
                  have e : mi = 137 := by omega
                  subst e
                  exact zm_137
              ·
                by_cases hs : mi < 139
                ·
                  have e : mi = 138 := by omega
                  subst e
                  exact zm_138
                ·
                  have e : mi = 139 := by omega
                  subst e
                  exact zm_139
          ·
            by_cases hs : mi < 144
            ·
              by_cases hs : mi < 142
              ·
                by_cases hs : mi < 141
                ·
                  have e : mi = 140 := by omega
                  subst e
                  exact zm_140
                ·
                  have e : mi = 141 := by omega
                  subst e
                  exact zm_141
              ·
                by_cases hs : mi < 143
                ·
                  have e : mi = 142 := by omega
                  subst e
                  exact zm_142
                ·
                  have e : mi = 143 := by omega
                  subst e
                  exact zm_143
            ·
              by_cases hs : mi < 146
              ·
                by_cases hs : mi < 145
                ·
                  have e : mi = 144 := by omega
                  subst e
                  exact zm_144
                ·
                  have e : mi = 145 := by omega
                  subst e
                  exact zm_145
              ·
                by_cases hs : mi < 147
                ·
                  have e : mi = 146 := by omega
                  subst e
                  exact zm_146
                ·
                  have e : mi = 147 := by omega
                  subst e
                  exact zm_147
        ·
          by_cases hs : mi < 156
          ·
            by_cases hs : mi < 152
            ·
              by_cases hs : mi < 150
              ·
                by_cases hs : mi < 149
                ·
                  have e : mi = 148 := by omega
                  subst e
                  exact zm_148
                ·
                  have e : mi = 149 := by omega
                  subst e
                  exact zm_149
              ·
                by_cases hs : mi < 151
                ·
                  have e : mi = 150 := by omega
                  subst e
                  exact zm_150
                ·
                  have e : mi = 151 := by omega
                  subst e
                  exact zm_151
            ·
              by_cases hs : mi < 154
              ·
                by_cases hs : mi < 153
                ·
                  have e : mi = 152 := by omega
                  subst e
                  exact zm_152
                ·
                  have e : mi = 153 := by omega
                  subst e
                  exact zm_153
              ·
                by_cases hs : mi < 155
                ·
                  have e : mi = 154 := by omega
                  subst e
                  exact zm_154
                ·
                  have e : mi = 155 := by omega
                  subst e
                  exact zm_155
          ·
            by_cases hs : mi < 160
            ·
              by_cases hs : mi < 158
              ·
                by_cases hs : mi < 157
                ·
                  have e : mi = 156 := by omega
                  subst e
                  exact zm_156
                ·
                  have e : mi = 157 := by omega
                  subst e
                  exact zm_157
              ·
                by_cases hs : mi < 159
                ·
                  have e : mi = 158 := by omega
                  subst e
                  exact zm_158
                ·
                  have e : mi = 159 := by omega
                  subst e
                  exact zm_159
            ·
              by_cases hs : mi < 162
              ·
                by_cases hs : mi < 161
                ·
                  have e : mi = 160 := by omega
                  subst e
                  exact zm_160
                ·
                  have e : mi = 161 := by omega
                  subst e
                  exact zm_161
              ·
                by_cases hs : mi < 163
                ·
                  have e : mi = 162 := by omega
                  subst e
                  exact zm_162
                ·
                  by_cases hs : mi < 164
                  ·
                    have e : mi = 163 := by omega
                    subst e
                    exact zm_163
                  ·
                    have e : mi = 164 := by omega
                    subst e
                    exact zm_164
      ·
        by_cases hs : mi < 181
        ·
          by_cases hs : mi < 173
          ·
            by_cases hs : mi < 169
            ·
              by_cases hs : mi < 167
              ·
                by_cases hs : mi < 166
                ·
                  have e : mi = 165 := by omega
                  subst e
                  exact zm_165
                ·
                  have e : mi = 166 := by omega
                  subst e
                  exact zm_166
              ·
                by_cases hs : mi < 168
                ·
                  have e : mi = 167 := by omega
                  subst e
                  exact zm_167
                ·
                  have e : mi = 168 := by omega
                  subst e
                  exact zm_168
            ·
              by_cases hs : mi < 171
              ·
                by_cases hs : mi < 170
                ·
                  have e : mi = 169 := by omega
                  subst e
                  exact zm_169
                ·
                  have e : mi = 170 := by omega
                  subst e
                  exact zm_170
              ·
                by_cases hs : mi < 172
                ·
                  have e : mi = 171 := by omega
                  subst e
                  exact zm_171
                ·
                  have e : mi = 172 := by omega
                  subst e
                  exact zm_172
          ·
            by_cases hs : mi < 177
            ·
              by_cases hs : mi < 175
              ·
                by_cases hs : mi < 174
                ·
                  have e : mi = 173 := by omega
                  subst e
                  exact zm_173
                ·
                  have e : mi = 174 := by omega
                  subst e
                  exact zm_174
              ·
                by_cases hs : mi < 176
                ·
                  have e : mi = 175 := by omega
                  subst e
                  exact zm_175
                ·
                  have e : mi = 176 := by omega
                  subst e
                  exact zm_176
            ·
              by_cases hs : mi < 179
              ·
                by_cases hs : mi < 178
                ·
                  have e : mi = 177 := by omega
                  subst e
                  exact zm_177
                ·
                  have e : mi = 178 := by omega
                  subst e
                  exact zm_178
              ·
                by_cases hs : mi < 180
                ·
                  have e : mi = 179 := by omega
                  subst e
                  exact zm_179
                ·
                  have e : mi = 180 := by omega
                  subst e
                  exact zm_180
        ·
          by_cases hs : mi < 189
          ·
            by_cases hs : mi < 185
            ·
              by_cases hs : mi < 183
              ·
                by_cases hs : mi < 182
                ·
                  have e : mi = 181 := by omega
                  subst e
                  exact zm_181
                ·
                  have e : mi = 182 := by omega
                  subst e
                  exact zm_182
              ·
                by_cases hs : mi < 184
                ·
                  have e : mi = 183 := by omega
                  subst e
                  exact zm_183
                ·
                  have e : mi = 184 := by omega
                  subst e
                  exact zm_184
            ·
              by_cases hs : mi < 187
              ·
                by_cases hs : mi < 186
                ·
                  have e : mi = 185 := by omega
                  subst e
                  exact zm_185
                ·
                  have e : mi = 186 := by omega
                  subst e
                  exact zm_186
              ·
                by_cases hs : mi < 188
                ·
                  have e : mi = 187 := by omega
                  subst e
                  exact zm_187
                ·
                  have e : mi = 188 := by omega
                  subst e
                  exact zm_188
          ·
            by_cases hs : mi < 193
            ·
              by_cases hs : mi < 191
              ·
                by_cases hs : mi < 190
                ·
                  have e : mi = 189 := by omega
                  subst e
                  exact zm_189
                ·
                  have e : mi = 190 := by omega
                  subst e
                  exact zm_190
              ·
                by_cases hs : mi < 192
                ·
                  have e : mi = 191 := by omega
                  subst e
                  exact zm_191
                ·
                  have e : mi = 192 := by omega
                  subst e
                  exact zm_192
            ·
              by_cases hs : mi < 195
              ·
                by_cases hs : mi < 194
                ·
                  have e : mi = 193 := by omega
                  subst e
                  exact zm_193
                ·
                  have e : mi = 194 := by omega
                  subst e
                  exact zm_194
              ·
                by_cases hs : mi < 196
                ·
                  have e : mi = 195 := by omega
                  subst e
                  exact zm_195
                ·
                  by_cases hs : mi < 197
                  ·
                    have e : mi = 196 := by omega
                    subst e
                    exact zm_196
                  ·
                    have e : mi = 197 := by omega
                    subst e
                    exact zm_197
    ·
      by_cases hs : mi < 231
      ·
        by_cases hs : mi < 214
        ·
          by_cases hs : mi < 206
          ·
            by_cases hs : mi < 202
            ·
              by_cases hs : mi < 200
              ·
                by_cases hs : mi < 199
                ·
                  have e : mi = 198 := by omega
                  subst e
                  exact zm_198
                ·
                  have e : mi = 199 := by omega
                  subst e
                  exact zm_199
              ·
                by_cases hs : mi < 201
                ·
                  have e : mi = 200 := by omega
                  subst e
                  exact zm_200
                ·
                  have e : mi = 201 := by omega
                  subst e
                  exact zm_201
            ·
              by_cases hs : mi < 204
              ·
                by_cases hs : mi < 203
                ·
                  have e : mi = 202 := by omega
                  subst e
                  exact zm_202
                ·
                  have e : mi = 203 := by omega
                  subst e
                  exact zm_203
              ·
                by_cases hs : mi < 205
                ·
                  have e : mi = 204 := by omega
                  subst e
                  exact zm_204
                ·
                  have e : mi = 205 := by omega
                  subst e
                  exact zm_205
          ·
            by_cases hs : mi < 210
            ·
              by_cases hs : mi < 208
              ·
                by_cases hs : mi < 207
                ·
                  have e : mi = 206 := by omega
                  subst e
                  exact zm_206
                ·
                  have e : mi = 207 := by omega
                  subst e
                  exact zm_207
              ·
                by_cases hs : mi < 209
                ·
                  have e : mi = 208 := by omega
                  subst e
                  exact zm_208
                ·
                  have e : mi = 209 := by omega
                  subst e
                  exact zm_209
            ·
              by_cases hs : mi < 212
              ·
                by_cases hs : mi < 211
                ·
                  have e : mi = 210 := by omega
                  subst e
                  exact zm_210
                ·
                  have e : mi = 211 := by omega
                  subst e
                  exact zm_211
              ·
                by_cases hs : mi < 213
                ·
                  have e : mi = 212 := by omega
                  subst e
                  exact zm_212
                ·
                  have e : mi = 213 := by omega
                  subst e
                  exact zm_213
        ·
          by_cases hs : mi < 222
          ·
            by_cases hs : mi < 218
            ·
              by_cases hs : mi < 216
              ·
                by_cases hs : mi < 215
                ·
                  have e : mi = 214 := by omega
                  subst e
                  exact zm_214
                ·
                  have e : mi = 215 := by omega
                  subst e
                  exact zm_215
              ·
                by_cases hs : mi < 217
                ·
                  have e : mi = 216 := by omega
                  subst e
                  exact zm_216
                ·
                  have e : mi = 217 := by omega
                  subst e
                  exact zm_217
            ·
              by_cases hs : mi < 220
              ·
                by_cases hs : mi < 219
                ·
                  have e : mi = 218 := by omega
                  subst e
                  exact zm_218
                ·
                  have e : mi = 219 := by omega
                  subst e
                  exact zm_219
              ·
                by_cases hs : mi < 221
                ·
                  have e : mi = 220 := by omega
                  subst e
                  exact zm_220
                ·
                  have e : mi = 221 := by omega
                  subst e
                  exact zm_221
          ·
            by_cases hs : mi < 226
            ·
              by_cases hs : mi < 224
              ·
                by_cases hs : mi < 223
                ·
                  have e : mi = 222 := by omega
                  subst e
                  exact zm_222
                ·
                  have e : mi = 223 := by omega
                  subst e
                  exact zm_223
              ·
                by_cases hs : mi < 225
                ·
                  have e : mi = 224 := by omega
                  subst e
                  exact zm_224
                ·
                  have e : mi = 225 := by omega
                  subst e
                  exact zm_225
            ·
              by_cases hs : mi < 228
              ·
                by_cases hs : mi < 227
                ·
                  have e : mi = 226 := by omega
                  subst e
                  exact zm_226
                ·
                  have e : mi = 227 := by omega
                  subst e
                  exact zm_227
              ·
                by_cases hs : mi < 229
                ·
                  have e : mi = 228 := by omega
                  subst e
                  exact zm_228
                ·
                  by_cases hs : mi < 230
                  ·
                    have e : mi = 229 := by omega
                    subst e
                    exact zm_229
                  ·
                    have e : mi = 230 := by omega
                    subst e
                    exact zm_230
      ·
        by_cases hs : mi < 247
        ·
          by_cases hs : mi < 239
          ·
            by_cases hs : mi < 235
            ·
              by_cases hs : mi < 233
              ·
                by_cases hs : mi < 232
                ·
                  have e : mi = 231 := by omega
                  subst e
                  exact zm_231
                ·
                  have e : mi = 232 := by omega
                  subst e
                  exact zm_232
              ·
                by_cases hs : mi < 234
                ·
                  have e : mi = 233 := by omega
                  subst e
                  exact zm_233
                ·
                  have e : mi = 234 := by omega
                  subst e
                  exact zm_234
            ·
              by_cases hs : mi < 237
              ·
                by_cases hs : mi < 236
                ·
                  have e : mi = 235 := by omega
                  subst e
                  exact zm_235
                ·
                  have e : mi = 236 := by omega
                  subst e
                  exact zm_236
              ·
                by_cases hs : mi < 238
                ·
                  have e : mi = 237 := by omega
                  subst e
                  exact zm_237
                ·
                  have e : mi = 238 := by omega
                  subst e
                  exact zm_238
          ·
            by_cases hs : mi < 243
            ·
              by_cases hs : mi < 241
              ·
                by_cases hs : mi < 240
                ·
                  have e : mi = 239 := by omega
                  subst e
                  exact zm_239
                ·
                  have e : mi = 240 := by omega
                  subst e
                  exact zm_240
              ·
                by_cases hs : mi < 242
                ·
                  have e : mi = 241 := by omega
                  subst e
                  exact zm_241
                ·
                  have e : mi = 242 := by omega
                  subst e
                  exact zm_242
            ·
              by_cases hs : mi < 245
              ·
                by_cases hs : mi < 244
                ·
                  have e : mi = 243 := by omega
                  subst e
                  exact zm_243
                ·
                  have e : mi = 244 := by omega
                  subst e
                  exact zm_244
              ·
                by_cases hs : mi < 246
                ·
                  have e : mi = 245 := by omega
                  subst e
                  exact zm_245
                ·
                  have e : mi = 246 := by omega
                  subst e
                  exact zm_246
        ·
          by_cases hs : mi < 255
          ·
            by_cases hs : mi < 251
            ·
              by_cases hs : mi < 249
              ·
                by_cases hs : mi < 248
                ·
                  have e : mi = 247 := by omega
                  subst e
                  exact zm_247
                ·
                  have e : mi = 248 := by omega
                  subst e
                  exact zm_248
              ·
                by_cases hs : mi < 250
                ·
                  have e : mi = 249 := by omega
                  subst e
                  exact zm_249
                ·
                  have e : mi = 250 := by omega
                  subst e
                  exact zm_250
            ·
              by_cases hs : mi < 253
              ·
                by_cases hs : mi < 252
                ·
                  have e : mi = 251 := by omega
                  subst e
                  exact zm_251
                ·
                  have e : mi = 252 := by omega
                  subst e
                  exact zm_252
              ·
                by_cases hs : mi < 254
                ·
                  have e : mi = 253 := by omega
                  subst e
                  exact zm_253
                ·
                  have e : mi = 254 := by omega
                  subst e
                  exact zm_254
          ·
            by_cases hs : mi < 259
            ·
              by_cases hs : mi < 257
              ·
                by_cases hs : mi < 256
                ·
                  have e : mi = 255 := by omega
                  subst e
                  exact zm_255
                ·
                  have e : mi = 256 := by omega
                  subst e
                  exact zm_256
              ·
                by_cases hs : mi < 258
                ·
                  have e : mi = 257 := by omega
                  subst e
                  exact zm_257
                ·
                  have e : mi = 258 := by omega
                  subst e
                  exact zm_258
            ·
              by_cases hs : mi < 261
              ·
                by_cases hs : mi < 260
                ·
                  have e : mi = 259 := by omega
                  subst e
                  exact zm_259
                ·
                  have e : mi = 260 := by omega
                  subst e
                  exact zm_260
              ·
                by_cases hs : mi < 262
                ·
                  have e : mi = 261 := by omega
                  subst e
                  exact zm_261
                ·
                  by_cases hs : mi < 263
                  ·
                    have e : mi = 262 := by omega
                    subst e
                    exact zm_262
                  ·
                    have e : mi = 263 := by omega
                    subst e
                    exact zm_263
theorem zCT_len : zCT.length = 345 := by decide +kernel
theorem zhQ : ∀ q ∈ zCT, zPc q := by
  intro q hq
  obtain ⟨i, hi⟩ := List.getElem?_of_mem hq
  have hl : i < 345 := by have := (List.getElem?_eq_some_iff.mp hi).1; rw [zCT_len] at this; exact this
  have key : ∀ (a : Nat), (∀ q ∈ (zCT.drop a).take 120, zPc q) → a ≤ i → i < a + 120 → zPc q := by
    intro a ha h1 h2
    refine ha q (List.mem_of_getElem? (i := i - a) ?_)
    rw [List.getElem?_take, if_pos (by omega), List.getElem?_drop, show a + (i - a) = i by omega]
    exact hi
  by_cases h0 : i < 120
  · exact key 0 zq_0 (by omega) (by omega)
  by_cases h1 : i < 240
  · exact key 120 zq_1 (by omega) (by omega)
  by_cases h2 : i < 360
  · exact key 240 zq_2 (by omega) (by omega)
  · omega
theorem zhSt : ∀ mi, mi < zNM + 1 → zstart mi 0 = some 0 := by decide +kernel
