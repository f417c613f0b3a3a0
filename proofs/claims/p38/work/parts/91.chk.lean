/-! all of them -/
theorem zallL : zall 118 = true := by
  unfold zall
  rw [List.all_eq_true]
  intro q hq
  obtain ⟨i, hi⟩ := List.getElem?_of_mem hq
  have hl : i < 114 := (List.getElem?_eq_some_iff.mp hi).1
  have key : ∀ (a : Nat), zpart 118 a 5 = true → a ≤ i → i < a + 5 → zchk 118 q.1 q.2 = true := by
    intro a ha h1 h2
    refine List.all_eq_true.mp ha q (List.mem_of_getElem? (i := i - a) ?_)
    rw [List.getElem?_take, if_pos (by omega), List.getElem?_drop, show a + (i - a) = i by omega]
    exact hi
  by_cases h0 : i < 5
  · exact key 0 zkl_0 (by omega) (by omega)
  by_cases h1 : i < 10
  · exact key 5 zkl_1 (by omega) (by omega)
  by_cases h2 : i < 15
  · exact key 10 zkl_2 (by omega) (by omega)
  by_cases h3 : i < 20
  · exact key 15 zkl_3 (by omega) (by omega)
  by_cases h4 : i < 25
  · exact key 20 zkl_4 (by omega) (by omega)
  by_cases h5 : i < 30
  · exact key 25 zkl_5 (by omega) (by omega)
  by_cases h6 : i < 35
  · exact key 30 zkl_6 (by omega) (by omega)
  by_cases h7 : i < 40
  · exact key 35 zkl_7 (by omega) (by omega)
  by_cases h8 : i < 45
  · exact key 40 zkl_8 (by omega) (by omega)
  by_cases h9 : i < 50
  · exact key 45 zkl_9 (by omega) (by omega)
  by_cases h10 : i < 55
  · exact key 50 zkl_10 (by omega) (by omega)
  by_cases h11 : i < 60
  · exact key 55 zkl_11 (by omega) (by omega)
  by_cases h12 : i < 65
  · exact key 60 zkl_12 (by omega) (by omega)
  by_cases h13 : i < 70
  · exact key 65 zkl_13 (by omega) (by omega)
  by_cases h14 : i < 75
  · exact key 70 zkl_14 (by omega) (by omega)
  by_cases h15 : i < 80
  · exact key 75 zkl_15 (by omega) (by omega)
  by_cases h16 : i < 85
  · exact key 80 zkl_16 (by omega) (by omega)
  by_cases h17 : i < 90
  · exact key 85 zkl_17 (by omega) (by omega)
  by_cases h18 : i < 95
  · exact key 90 zkl_18 (by omega) (by omega)
  by_cases h19 : i < 100
  · exact key 95 zkl_19 (by omega) (by omega)
  by_cases h20 : i < 105
  · exact key 100 zkl_20 (by omega) (by omega)
  by_cases h21 : i < 110
  · exact key 105 zkl_21 (by omega) (by omega)
  by_cases h22 : i < 115
  · exact key 110 zkl_22 (by omega) (by omega)
  · omega
theorem zhAll : ∀ mi, mi < 119 → zall mi = true := by
  intro mi hmi
  by_cases hs : mi < 59
  ·
    by_cases hs : mi < 29
    ·
      by_cases hs : mi < 14
      ·
        by_cases hs : mi < 7
        ·
          by_cases hs : mi < 3
          ·
            by_cases hs : mi < 1
            ·
              have e : mi = 0 := by omega
              subst e
              exact zk_0
            ·
              by_cases hs : mi < 2
              ·
                have e : mi = 1 := by omega
                subst e
                exact zk_1
              ·
                have e : mi = 2 := by omega
                subst e
                exact zk_2
          ·
            by_cases hs : mi < 5
            ·
              by_cases hs : mi < 4
              ·
                have e : mi = 3 := by omega
                subst e
                exact zk_3
              ·
                have e : mi = 4 := by omega
                subst e
                exact zk_4
            ·
              by_cases hs : mi < 6
              ·
                have e : mi = 5 := by omega
                subst e
                exact zk_5
              ·
                have e : mi = 6 := by omega
                subst e
                exact zk_6
        ·
          by_cases hs : mi < 10
          ·
            by_cases hs : mi < 8
            ·
              have e : mi = 7 := by omega
              subst e
              exact zk_7
            ·
              by_cases hs : mi < 9
              ·
                have e : mi = 8 := by omega
                subst e
                exact zk_8
              ·
                have e : mi = 9 := by omega
                subst e
                exact zk_9
          ·
            by_cases hs : mi < 12
            ·
              by_cases hs : mi < 11
              ·
                have e : mi = 10 := by omega
                subst e
                exact zk_10
              ·
                have e : mi = 11 := by omega
                subst e
                exact zk_11
            ·
              by_cases hs : mi < 13
              ·
                have e : mi = 12 := by omega
                subst e
                exact zk_12
              ·
                have e : mi = 13 := by omega
                subst e
                exact zk_13
      ·
        by_cases hs : mi < 21
        ·
          by_cases hs : mi < 17
          ·
            by_cases hs : mi < 15
            ·
              have e : mi = 14 := by omega
              subst e
              exact zk_14
            ·
              by_cases hs : mi < 16
              ·
                have e : mi = 15 := by omega
                subst e
                exact zk_15
              ·
                have e : mi = 16 := by omega
                subst e
                exact zk_16
          ·
            by_cases hs : mi < 19
            ·
              by_cases hs : mi < 18
              ·
                have e : mi = 17 := by omega
                subst e
                exact zk_17
              ·
                have e : mi = 18 := by omega
                subst e
                exact zk_18
            ·
              by_cases hs : mi < 20
              ·
                have e : mi = 19 := by omega
                subst e
                exact zk_19
              ·
                have e : mi = 20 := by omega
                subst e
                exact zk_20
        ·
          by_cases hs : mi < 25
          ·
            by_cases hs : mi < 23
            ·
              by_cases hs : mi < 22
              ·
                have e : mi = 21 := by omega
                subst e
                exact zk_21
              ·
                have e : mi = 22 := by omega
                subst e
                exact zk_22
            ·
              by_cases hs : mi < 24
              ·
                have e : mi = 23 := by omega
                subst e
                exact zk_23
              ·
                have e : mi = 24 := by omega
                subst e
                exact zk_24
          ·
            by_cases hs : mi < 27
            ·
              by_cases hs : mi < 26
              ·
                have e : mi = 25 := by omega
                subst e
                exact zk_25
              ·
                have e : mi = 26 := by omega
                subst e
                exact zk_26
            ·
              by_cases hs : mi < 28
              ·
                have e : mi = 27 := by omega
                subst e
                exact zk_27
              ·
                have e : mi = 28 := by omega
                subst e
                exact zk_28
    ·
      by_cases hs : mi < 44
      ·
        by_cases hs : mi < 36
        ·
          by_cases hs : mi < 32
          ·
            by_cases hs : mi < 30
            ·
              have e : mi = 29 := by omega
              subst e
              exact zk_29
            ·
              by_cases hs : mi < 31
              ·
                have e : mi = 30 := by omega
                subst e
                exact zk_30
              ·
                have e : mi = 31 := by omega
                subst e
                exact zk_31
          ·
            by_cases hs : mi < 34
            ·
              by_cases hs : mi < 33
              ·
                have e : mi = 32 := by omega
                subst e
                exact zk_32
              ·
                have e : mi = 33 := by omega
                subst e
                exact zk_33
            ·
              by_cases hs : mi < 35
              ·
                have e : mi = 34 := by omega
                subst e
                exact zk_34
              ·
                have e : mi = 35 := by omega
                subst e
                exact zk_35
        ·
          by_cases hs : mi < 40
          ·
            by_cases hs : mi < 38
            ·
              by_cases hs : mi < 37
              ·
                have e : mi = 36 := by omega
                subst e
                exact zk_36
              ·
                have e : mi = 37 := by omega
                subst e
                exact zk_37
            ·
              by_cases hs : mi < 39
              ·
                have e : mi = 38 := by omega
                subst e
                exact zk_38
              ·
                have e : mi = 39 := by omega
                subst e
                exact zk_39
          ·
            by_cases hs : mi < 42
            ·
              by_cases hs : mi < 41
              ·
                have e : mi = 40 := by omega
                subst e
                exact zk_40
              ·
                have e : mi = 41 := by omega
                subst e
                exact zk_41
            ·
              by_cases hs : mi < 43
              ·
                have e : mi = 42 := by omega
                subst e
                exact zk_42
              ·
                have e : mi = 43 := by omega
                subst e
                exact zk_43
      ·
        by_cases hs : mi < 51
        ·
          by_cases hs : mi < 47
          ·
            by_cases hs : mi < 45
            ·
              have e : mi = 44 := by omega
              subst e
              exact zk_44
            ·
              by_cases hs : mi < 46
              ·
                have e : mi = 45 := by omega
                subst e
                exact zk_45
              ·
                have e : mi = 46 := by omega
                subst e
                exact zk_46
          ·
            by_cases hs : mi < 49
            ·
              by_cases hs : mi < 48
              ·
                have e : mi = 47 := by omega
                subst e
                exact zk_47
              ·
                have e : mi = 48 := by omega
                subst e
                exact zk_48
            ·
              by_cases hs : mi < 50
              ·
                have e : mi = 49 := by omega
                subst e
                exact zk_49
              ·
                have e : mi = 50 := by omega
                subst e
                exact zk_50
        ·
          by_cases hs : mi < 55
          ·
            by_cases hs : mi < 53
            ·
              by_cases hs : mi < 52
              ·
                have e : mi = 51 := by omega
                subst e
                exact zk_51
              ·
                have e : mi = 52 := by omega
                subst e
                exact zk_52
            ·
              by_cases hs : mi < 54
              ·
                have e : mi = 53 := by omega
                subst e
                exact zk_53
              ·
                have e : mi = 54 := by omega
                subst e
                exact zk_54
          ·
            by_cases hs : mi < 57
            ·
              by_cases hs : mi < 56
              ·
                have e : mi = 55 := by omega
                subst e
                exact zk_55
              ·
                have e : mi = 56 := by omega
                subst e
                exact zk_56
            ·
              by_cases hs : mi < 58
              ·
                have e : mi = 57 := by omega
                subst e
                exact zk_57
              ·
                have e : mi = 58 := by omega
                subst e
                exact zk_58
  ·
    by_cases hs : mi < 89
    ·
      by_cases hs : mi < 74
      ·
        by_cases hs : mi < 66
        ·
          by_cases hs : mi < 62
          ·
            by_cases hs : mi < 60
            ·
              have e : mi = 59 := by omega
              subst e
              exact zk_59
            ·
              by_cases hs : mi < 61
              ·
                have e : mi = 60 := by omega
                subst e
                exact zk_60
              ·
                have e : mi = 61 := by omega
                subst e
                exact zk_61
          ·
            by_cases hs : mi < 64
            ·
              by_cases hs : mi < 63
              ·
                have e : mi = 62 := by omega
                subst e
                exact zk_62
              ·
                have e : mi = 63 := by omega
                subst e
                exact zk_63
            ·
              by_cases hs : mi < 65
              ·
                have e : mi = 64 := by omega
                subst e
                exact zk_64
              ·
                have e : mi = 65 := by omega
                subst e
                exact zk_65
        ·
          by_cases hs : mi < 70
          ·
            by_cases hs : mi < 68
            ·
              by_cases hs : mi < 67
              ·
                have e : mi = 66 := by omega
                subst e
                exact zk_66
              ·
                have e : mi = 67 := by omega
                subst e
                exact zk_67
            ·
              by_cases hs : mi < 69
              ·
                have e : mi = 68 := by omega
                subst e
                exact zk_68
              ·
                have e : mi = 69 := by omega
                subst e
                exact zk_69
          ·
            by_cases hs : mi < 72
            ·
              by_cases hs : mi < 71
              ·
                have e : mi = 70 := by omega
                subst e
                exact zk_70
              ·
                have e : mi = 71 := by omega
                subst e
                exact zk_71
            ·
              by_cases hs : mi < 73
              ·
                have e : mi = 72 := by omega
                subst e
                exact zk_72
              ·
                have e : mi = 73 := by omega
                subst e
                exact zk_73
      ·
        by_cases hs : mi < 81
        ·
          by_cases hs : mi < 77
          ·
            by_cases hs : mi < 75
            ·
              have e : mi = 74 := by omega
              subst e
              exact zk_74
            ·
              by_cases hs : mi < 76
              ·
                have e : mi = 75 := by omega
                subst e
                exact zk_75
              ·
                have e : mi = 76 := by omega
                subst e
                exact zk_76
          ·
            by_cases hs : mi < 79
            ·
              by_cases hs : mi < 78
              ·
                have e : mi = 77 := by omega
                subst e
                exact zk_77
              ·
                have e : mi = 78 := by omega
                subst e
                exact zk_78
            ·
              by_cases hs : mi < 80
              ·
                have e : mi = 79 := by omega
                subst e
                exact zk_79
              ·
                have e : mi = 80 := by omega
                subst e
                exact zk_80
        ·
          by_cases hs : mi < 85
          ·
            by_cases hs : mi < 83
            ·
              by_cases hs : mi < 82
              ·
                have e : mi = 81 := by omega
                subst e
                exact zk_81
              ·
                have e : mi = 82 := by omega
                subst e
                exact zk_82
            ·
              by_cases hs : mi < 84
              ·
                have e : mi = 83 := by omega
                subst e
                exact zk_83
              ·
                have e : mi = 84 := by omega
                subst e
                exact zk_84
          ·
            by_cases hs : mi < 87
            ·
              by_cases hs : mi < 86
              ·
                have e : mi = 85 := by omega
                subst e
                exact zk_85
              ·
                have e : mi = 86 := by omega
                subst e
                exact zk_86
            ·
              by_cases hs : mi < 88
              ·
                have e : mi = 87 := by omega
                subst e
                exact zk_87
              ·
                have e : mi = 88 := by omega
                subst e
                exact zk_88
    ·
      by_cases hs : mi < 104
      ·
        by_cases hs : mi < 96
        ·
          by_cases hs : mi < 92
          ·
            by_cases hs : mi < 90
            ·
              have e : mi = 89 := by omega
              subst e
              exact zk_89
            ·
              by_cases hs : mi < 91
              ·
                have e : mi = 90 := by omega
                subst e
                exact zk_90
              ·
                have e : mi = 91 := by omega
                subst e
                exact zk_91
          ·
            by_cases hs : mi < 94
            ·
              by_cases hs : mi < 93
              ·
                have e : mi = 92 := by omega
                subst e
                exact zk_92
              ·
                have e : mi = 93 := by omega
                subst e
                exact zk_93
            ·
              by_cases hs : mi < 95
              ·
                have e : mi = 94 := by omega
                subst e
                exact zk_94
              ·
                have e : mi = 95 := by omega
                subst e
                exact zk_95
        ·
          by_cases hs : mi < 100
          ·
            by_cases hs : mi < 98
            ·
              by_cases hs : mi < 97
              ·
                have e : mi = 96 := by omega
                subst e
                exact zk_96
              ·
                have e : mi = 97 := by omega
                subst e
                exact zk_97
            ·
              by_cases hs : mi < 99
              ·
                have e : mi = 98 := by omega
                subst e
                exact zk_98
              ·
                have e : mi = 99 := by omega
                subst e
                exact zk_99
          ·
            by_cases hs : mi < 102
            ·
              by_cases hs : mi < 101
              ·
                have e : mi = 100 := by omega
                subst e
                exact zk_100
              ·
                have e : mi = 101 := by omega
                subst e
                exact zk_101
            ·
              by_cases hs : mi < 103
              ·
                have e : mi = 102 := by omega
                subst e
                exact zk_102
              ·
                have e : mi = 103 := by omega
                subst e
                exact zk_103
      ·
        by_cases hs : mi < 111
        ·
          by_cases hs : mi < 107
          ·
            by_cases hs : mi < 105
            ·
              have e : mi = 104 := by omega
              subst e
              exact zk_104
            ·
              by_cases hs : mi < 106
              ·
                have e : mi = 105 := by omega
                subst e
                exact zk_105
              ·
                have e : mi = 106 := by omega
                subst e
                exact zk_106
          ·
            by_cases hs : mi < 109
            ·
              by_cases hs : mi < 108
              ·
                have e : mi = 107 := by omega
                subst e
                exact zk_107
              ·
                have e : mi = 108 := by omega
                subst e
                exact zk_108
            ·
              by_cases hs : mi < 110
              ·
                have e : mi = 109 := by omega
                subst e
                exact zk_109
              ·
                have e : mi = 110 := by omega
                subst e
                exact zk_110
        ·
          by_cases hs : mi < 115
          ·
            by_cases hs : mi < 113
            ·
              by_cases hs : mi < 112
              ·
                have e : mi = 111 := by omega
                subst e
                exact zk_111
              ·
                have e : mi = 112 := by omega
                subst e
                exact zk_112
            ·
              by_cases hs : mi < 114
              ·
                have e : mi = 113 := by omega
                subst e
                exact zk_113
              ·
                have e : mi = 114 := by omega
                subst e
                exact zk_114
          ·
            by_cases hs : mi < 117
            ·
              by_cases hs : mi < 116
              ·
                have e : mi = 115 := by omega
                subst e
                exact zk_115
              ·
                have e : mi = 116 := by omega
                subst e
                exact zk_116
            ·
              by_cases hs : mi < 118
              ·
                have e : mi = 117 := by omega
                subst e
                exact zk_117
              ·
                have e : mi = 118 := by omega
                subst e
                exact zallL
theorem zhM : ∀ mi, mi < 118 → zPm mi := by
  intro mi hmi
  by_cases hs : mi < 59
  ·
    by_cases hs : mi < 29
    ·
      by_cases hs : mi < 14
      ·
        by_cases hs : mi < 7
        ·
          by_cases hs : mi < 3
          ·
            by_cases hs : mi < 1
            ·
              have e : mi = 0 := by omega
              subst e
              exact zm_0
            ·
              by_cases hs : mi < 2
              ·
                have e : mi = 1 := by omega
                subst e
                exact zm_1
              ·
                have e : mi = 2 := by omega
                subst e
                exact zm_2
          ·
            by_cases hs : mi < 5
            ·
              by_cases hs : mi < 4
              ·
                have e : mi = 3 := by omega
                subst e
                exact zm_3
              ·
                have e : mi = 4 := by omega
                subst e
                exact zm_4
            ·
              by_cases hs : mi < 6
              ·
                have e : mi = 5 := by omega
                subst e
                exact zm_5
              ·
                have e : mi = 6 := by omega
                subst e
                exact zm_6
        ·
          by_cases hs : mi < 10
          ·
            by_cases hs : mi < 8
            ·
              have e : mi = 7 := by omega
              subst e
              exact zm_7
            ·
              by_cases hs : mi < 9
              ·
                have e : mi = 8 := by omega
                subst e
                exact zm_8
              ·
                have e : mi = 9 := by omega
                subst e
                exact zm_9
          ·
            by_cases hs : mi < 12
            ·
              by_cases hs : mi < 11
              ·
                have e : mi = 10 := by omega
                subst e
                exact zm_10
              ·
                have e : mi = 11 := by omega
                subst e
                exact zm_11
            ·
              by_cases hs : mi < 13
              ·
                have e : mi = 12 := by omega
                subst e
                exact zm_12
              ·
                have e : mi = 13 := by omega
                subst e
                exact zm_13
      ·
        by_cases hs : mi < 21
        ·
          by_cases hs : mi < 17
          ·
            by_cases hs : mi < 15
            ·
              have e : mi = 14 := by omega
              subst e
              exact zm_14
            ·
              by_cases hs : mi < 16
              ·
                have e : mi = 15 := by omega
                subst e
                exact zm_15
              ·
                have e : mi = 16 := by omega
                subst e
                exact zm_16
          ·
            by_cases hs : mi < 19
            ·
              by_cases hs : mi < 18
              ·
                have e : mi = 17 := by omega
                subst e
                exact zm_17
              ·
                have e : mi = 18 := by omega
                subst e
                exact zm_18
            ·
              by_cases hs : mi < 20
              ·
                have e : mi = 19 := by omega
                subst e
                exact zm_19
              ·
                have e : mi = 20 := by omega
                subst e
                exact zm_20
        ·
          by_cases hs : mi < 25
          ·
            by_cases hs : mi < 23
            ·
              by_cases hs : mi < 22
              ·
                have e : mi = 21 := by omega
                subst e
                exact zm_21
              ·
                have e : mi = 22 := by omega
                subst e
                exact zm_22
            ·
              by_cases hs : mi < 24
              ·
                have e : mi = 23 := by omega
                subst e
                exact zm_23
              ·
                have e : mi = 24 := by omega
                subst e
                exact zm_24
          ·
            by_cases hs : mi < 27
            ·
              by_cases hs : mi < 26
              ·
                have e : mi = 25 := by omega
                subst e
                exact zm_25
              ·
                have e : mi = 26 := by omega
                subst e
                exact zm_26
            ·
              by_cases hs : mi < 28
              ·
                have e : mi = 27 := by omega
                subst e
                exact zm_27
              ·
                have e : mi = 28 := by omega
                subst e
                exact zm_28
    ·
      by_cases hs : mi < 44
      ·
        by_cases hs : mi < 36
        ·
          by_cases hs : mi < 32
          ·
            by_cases hs : mi < 30
            ·
              have e : mi = 29 := by omega
              subst e
              exact zm_29
            ·
              by_cases hs : mi < 31
              ·
                have e : mi = 30 := by omega
                subst e
                exact zm_30
              ·
                have e : mi = 31 := by omega
                subst e
                exact zm_31
          ·
            by_cases hs : mi < 34
            ·
              by_cases hs : mi < 33
              ·
                have e : mi = 32 := by omega
                subst e
                exact zm_32
              ·
                have e : mi = 33 := by omega
                subst e
                exact zm_33
            ·
              by_cases hs : mi < 35
              ·
                have e : mi = 34 := by omega
                subst e
                exact zm_34
              ·
                have e : mi = 35 := by omega
                subst e
                exact zm_35
        ·
          by_cases hs : mi < 40
          ·
            by_cases hs : mi < 38
            ·
              by_cases hs : mi < 37
              ·
                have e : mi = 36 := by omega
                subst e
                exact zm_36
              ·
                have e : mi = 37 := by omega
                subst e
                exact zm_37
            ·
              by_cases hs : mi < 39
              ·
                have e : mi = 38 := by omega
                subst e
                exact zm_38
              ·
                have e : mi = 39 := by omega
                subst e
                exact zm_39
          ·
            by_cases hs : mi < 42
            ·
              by_cases hs : mi < 41
              ·
                have e : mi = 40 := by omega
                subst e
                exact zm_40
              ·
                have e : mi = 41 := by omega
                subst e
                exact zm_41
            ·
              by_cases hs : mi < 43
              ·
                have e : mi = 42 := by omega
                subst e
                exact zm_42
              ·
                have e : mi = 43 := by omega
                subst e
                exact zm_43
      ·
        by_cases hs : mi < 51
        ·
          by_cases hs : mi < 47
          ·
            by_cases hs : mi < 45
            ·
              have e : mi = 44 := by omega
              subst e
              exact zm_44
            ·
              by_cases hs : mi < 46
              ·
                have e : mi = 45 := by omega
                subst e
                exact zm_45
              ·
                have e : mi = 46 := by omega
                subst e
                exact zm_46
          ·
            by_cases hs : mi < 49
            ·
              by_cases hs : mi < 48
              ·
                have e : mi = 47 := by omega
                subst e
                exact zm_47
              ·
                have e : mi = 48 := by omega
                subst e
                exact zm_48
            ·
              by_cases hs : mi < 50
              ·
                have e : mi = 49 := by omega
                subst e
                exact zm_49
              ·
                have e : mi = 50 := by omega
                subst e
                exact zm_50
        ·
          by_cases hs : mi < 55
          ·
            by_cases hs : mi < 53
            ·
              by_cases hs : mi < 52
              ·
                have e : mi = 51 := by omega
                subst e
                exact zm_51
              ·
                have e : mi = 52 := by omega
                subst e
                exact zm_52
            ·
              by_cases hs : mi < 54
              ·
                have e : mi = 53 := by omega
                subst e
                exact zm_53
              ·
                have e : mi = 54 := by omega
                subst e
                exact zm_54
          ·
            by_cases hs : mi < 57
            ·
              by_cases hs : mi < 56
              ·
                have e : mi = 55 := by omega
                subst e
                exact zm_55
              ·
                have e : mi = 56 := by omega
                subst e
                exact zm_56
            ·
              by_cases hs : mi < 58
              ·
                have e : mi = 57 := by omega
                subst e
                exact zm_57
              ·
                have e : mi = 58 := by omega
                subst e
                exact zm_58
  ·
    by_cases hs : mi < 88
    ·
      by_cases hs : mi < 73
      ·
        by_cases hs : mi < 66
        ·
          by_cases hs : mi < 62
          ·
            by_cases hs : mi < 60
            ·
              have e : mi = 59 := by omega
              subst e
              exact zm_59
            ·
              by_cases hs : mi < 61
              ·
                have e : mi = 60 := by omega
                subst e
                exact zm_60
              ·
                have e : mi = 61 := by omega
                subst e
                exact zm_61
          ·
            by_cases hs : mi < 64
            ·
              by_cases hs : mi < 63
              ·
                have e : mi = 62 := by omega
                subst e
                exact zm_62
              ·
                have e : mi = 63 := by omega
                subst e
                exact zm_63
            ·
              by_cases hs : mi < 65
              ·
                have e : mi = 64 := by omega
                subst e
                exact zm_64
              ·
                have e : mi = 65 := by omega
                subst e
                exact zm_65
        ·
          by_cases hs : mi < 69
          ·
            by_cases hs : mi < 67
            ·
              have e : mi = 66 := by omega
              subst e
              exact zm_66
            ·
              by_cases hs : mi < 68
              ·
                have e : mi = 67 := by omega
                subst e
                exact zm_67
              ·
                have e : mi = 68 := by omega
                subst e
                exact zm_68
          ·
            by_cases hs : mi < 71
            ·
              by_cases hs : mi < 70
              ·
                have e : mi = 69 := by omega
                subst e
                exact zm_69
              ·
                have e : mi = 70 := by omega
                subst e
                exact zm_70
            ·
              by_cases hs : mi < 72
              ·
                have e : mi = 71 := by omega
                subst e
                exact zm_71
              ·
                have e : mi = 72 := by omega
                subst e
                exact zm_72
      ·
        by_cases hs : mi < 80
        ·
          by_cases hs : mi < 76
          ·
            by_cases hs : mi < 74
            ·
              have e : mi = 73 := by omega
              subst e
              exact zm_73
            ·
              by_cases hs : mi < 75
              ·
                have e : mi = 74 := by omega
                subst e
                exact zm_74
              ·
                have e : mi = 75 := by omega
                subst e
                exact zm_75
          ·
            by_cases hs : mi < 78
            ·
              by_cases hs : mi < 77
              ·
                have e : mi = 76 := by omega
                subst e
                exact zm_76
              ·
                have e : mi = 77 := by omega
                subst e
                exact zm_77
            ·
              by_cases hs : mi < 79
              ·
                have e : mi = 78 := by omega
                subst e
                exact zm_78
              ·
                have e : mi = 79 := by omega
                subst e
                exact zm_79
        ·
          by_cases hs : mi < 84
          ·
            by_cases hs : mi < 82
            ·
              by_cases hs : mi < 81
              ·
                have e : mi = 80 := by omega
                subst e
                exact zm_80
              ·
                have e : mi = 81 := by omega
                subst e
                exact zm_81
            ·
              by_cases hs : mi < 83
              ·
                have e : mi = 82 := by omega
                subst e
                exact zm_82
              ·
                have e : mi = 83 := by omega
                subst e
                exact zm_83
          ·
            by_cases hs : mi < 86
            ·
              by_cases hs : mi < 85
              ·
                have e : mi = 84 := by omega
                subst e
                exact zm_84
              ·
                have e : mi = 85 := by omega
                subst e
                exact zm_85
            ·
              by_cases hs : mi < 87
              ·
                have e : mi = 86 := by omega
                subst e
                exact zm_86
              ·
                have e : mi = 87 := by omega
                subst e
                exact zm_87
    ·
      by_cases hs : mi < 103
      ·
        by_cases hs : mi < 95
        ·
          by_cases hs : mi < 91
          ·
            by_cases hs : mi < 89
            ·
              have e : mi = 88 := by omega
              subst e
              exact zm_88
            ·
              by_cases hs : mi < 90
              ·
                have e : mi = 89 := by omega
                subst e
                exact zm_89
              ·
                have e : mi = 90 := by omega
                subst e
                exact zm_90
          ·
            by_cases hs : mi < 93
            ·
              by_cases hs : mi < 92
              ·
                have e : mi = 91 := by omega
                subst e
                exact zm_91
              ·
                have e : mi = 92 := by omega
                subst e
                exact zm_92
            ·
              by_cases hs : mi < 94
              ·
                have e : mi = 93 := by omega
                subst e
                exact zm_93
              ·
                have e : mi = 94 := by omega
                subst e
                exact zm_94
        ·
          by_cases hs : mi < 99
          ·
            by_cases hs : mi < 97
            ·
              by_cases hs : mi < 96
              ·
                have e : mi = 95 := by omega
                subst e
                exact zm_95
              ·
                have e : mi = 96 := by omega
                subst e
                exact zm_96
            ·
              by_cases hs : mi < 98
              ·
                have e : mi = 97 := by omega
                subst e
                exact zm_97
              ·
                have e : mi = 98 := by omega
                subst e
                exact zm_98
          ·
            by_cases hs : mi < 101
            ·
              by_cases hs : mi < 100
              ·
                have e : mi = 99 := by omega
                subst e
                exact zm_99
              ·
                have e : mi = 100 := by omega
                subst e
                exact zm_100
            ·
              by_cases hs : mi < 102
              ·
                have e : mi = 101 := by omega
                subst e
                exact zm_101
              ·
                have e : mi = 102 := by omega
                subst e
                exact zm_102
      ·
        by_cases hs : mi < 110
        ·
          by_cases hs : mi < 106
          ·
            by_cases hs : mi < 104
            ·
              have e : mi = 103 := by omega
              subst e
              exact zm_103
            ·
              by_cases hs : mi < 105
              ·
                have e : mi = 104 := by omega
                subst e
                exact zm_104
              ·
                have e : mi = 105 := by omega
                subst e
                exact zm_105
          ·
            by_cases hs : mi < 108
            ·
              by_cases hs : mi < 107
              ·
                have e : mi = 106 := by omega
                subst e
                exact zm_106
              ·
                have e : mi = 107 := by omega
                subst e
                exact zm_107
            ·
              by_cases hs : mi < 109
              ·
                have e : mi = 108 := by omega
                subst e
                exact zm_108
              ·
                have e : mi = 109 := by omega
                subst e
                exact zm_109
        ·
          by_cases hs : mi < 114
          ·
            by_cases hs : mi < 112
            ·
              by_cases hs : mi < 111
              ·
                have e : mi = 110 := by omega
                subst e
                exact zm_110
              ·
                have e : mi = 111 := by omega
                subst e
                exact zm_111
            ·
              by_cases hs : mi < 113
              ·
                have e : mi = 112 := by omega
                subst e
                exact zm_112
              ·
                have e : mi = 113 := by omega
                subst e
                exact zm_113
          ·
            by_cases hs : mi < 116
            ·
              by_cases hs : mi < 115
              ·
                have e : mi = 114 := by omega
                subst e
                exact zm_114
              ·
                have e : mi = 115 := by omega
                subst e
                exact zm_115
            ·
              by_cases hs : mi < 117
              ·
                have e : mi = 116 := by omega
                subst e
                exact zm_116
              ·
                have e : mi = 117 := by omega
                subst e
                exact zm_117
theorem zCT_len : zCT.length = 168 := by decide +kernel
theorem zhQ : ∀ q ∈ zCT, zPc q := by
  intro q hq
  obtain ⟨i, hi⟩ := List.getElem?_of_mem hq
  have hl : i < 168 := by have := (List.getElem?_eq_some_iff.mp hi).1; rw [zCT_len] at this; exact this
  have key : ∀ (a : Nat), (∀ q ∈ (zCT.drop a).take 120, zPc q) → a ≤ i → i < a + 120 → zPc q := by
    intro a ha h1 h2
    refine ha q (List.mem_of_getElem? (i := i - a) ?_)
    rw [List.getElem?_take, if_pos (by omega), List.getElem?_drop, show a + (i - a) = i by omega]
    exact hi
  by_cases h0 : i < 120
  · exact key 0 zq_0 (by omega) (by omega)
  by_cases h1 : i < 240
  · exact key 120 zq_1 (by omega) (by omega)
  · omega
theorem zhSt : ∀ mi, mi < zNM + 1 → zstart mi 0 = some 0 := by decide +kernel
