/-! every block of every method is what its bytes say -/
set_option maxRecDepth 100000 in
theorem zk_0 : zall 0 = true := by decide +kernel
set_option maxRecDepth 100000 in
theorem zk_1 : zall 1 = true := by decide +kernel
set_option maxRecDepth 100000 in
theorem zk_2 : zall 2 = true := by decide +kernel
set_option maxRecDepth 100000 in
theorem zk_3 : zall 3 = true := by decide +kernel
set_option maxRecDepth 100000 in
theorem zk_4 : zall 4 = true := by decide +kernel
set_option maxRecDepth 100000 in
theorem zk_5 : zall 5 = true := by decide +kernel
set_option maxRecDepth 100000 in
theorem zk_6 : zall 6 = true := by decide +kernel
set_option maxRecDepth 100000 in
theorem zk_7 : zall 7 = true := by decide +kernel
set_option maxRecDepth 100000 in
theorem zk_8 : zall 8 = true := by decide +kernel
set_option maxRecDepth 100000 in
theorem zk_9 : zall 9 = true := by decide +kernel
set_option maxRecDepth 100000 in
theorem zk_10 : zall 10 = true := by decide +kernel
set_option maxRecDepth 100000 in
theorem zk_11 : zall 11 = true := by decide +kernel
set_option maxRecDepth 100000 in
theorem zk_12 : zall 12 = true := by decide +kernel
set_option maxRecDepth 100000 in
theorem zk_13 : zall 13 = true := by decide +kernel
set_option maxRecDepth 100000 in
theorem zk_14 : zall 14 = true := by decide +kernel
set_option maxRecDepth 100000 in
theorem zk_15 : zall 15 = true := by decide +kernel
set_option maxRecDepth 100000 in
theorem zk_16 : zall 16 = true := by decide +kernel
set_option maxRecDepth 100000 in
theorem zk_17 : zall 17 = true := by decide +kernel
set_option maxRecDepth 100000 in
theorem zk_18 : zall 18 = true := by decide +kernel
set_option maxRecDepth 100000 in
theorem zk_19 : zall 19 = true := by decide +kernel
set_option maxRecDepth 100000 in
theorem zk_20 : zall 20 = true := by decide +kernel
set_option maxRecDepth 100000 in
theorem zk_21 : zall 21 = true := by decide +kernel
set_option maxRecDepth 100000 in
theorem zk_22 : zall 22 = true := by decide +kernel
set_option maxRecDepth 100000 in
theorem zk_23 : zall 23 = true := by decide +kernel
set_option maxRecDepth 100000 in
theorem zk_24 : zall 24 = true := by decide +kernel
set_option maxRecDepth 100000 in
theorem zk_25 : zall 25 = true := by decide +kernel
set_option maxRecDepth 100000 in
theorem zk_26 : zall 26 = true := by decide +kernel
set_option maxRecDepth 100000 in
theorem zk_27 : zall 27 = true := by decide +kernel
set_option maxRecDepth 100000 in
theorem zk_28 : zall 28 = true := by decide +kernel
set_option maxRecDepth 100000 in
theorem zk_29 : zall 29 = true := by decide +kernel
set_option maxRecDepth 100000 in
theorem zk_30 : zall 30 = true := by decide +kernel
set_option maxRecDepth 100000 in
theorem zk_31 : zall 31 = true := by decide +kernel
set_option maxRecDepth 100000 in
theorem zk_32 : zall 32 = true := by decide +kernel
set_option maxRecDepth 100000 in
theorem zk_33 : zall 33 = true := by decide +kernel
set_option maxRecDepth 100000 in
theorem zk_34 : zall 34 = true := by decide +kernel
set_option maxRecDepth 100000 in
theorem zk_35 : zall 35 = true := by decide +kernel
set_option maxRecDepth 100000 in
theorem zk_36 : zall 36 = true := by decide +kernel
set_option maxRecDepth 100000 in
theorem zk_37 : zall 37 = true := by decide +kernel
set_option maxRecDepth 100000 in
theorem zk_38 : zall 38 = true := by decide +kernel
set_option maxRecDepth 100000 in
theorem zk_39 : zall 39 = true := by decide +kernel
set_option maxRecDepth 100000 in
theorem zk_40 : zall 40 = true := by decide +kernel
set_option maxRecDepth 100000 in
theorem zk_41 : zall 41 = true := by decide +kernel
set_option maxRecDepth 100000 in
theorem zk_42 : zall 42 = true := by decide +kernel
set_option maxRecDepth 100000 in
theorem zk_43 : zall 43 = true := by decide +kernel
set_option maxRecDepth 100000 in
theorem zk_44 : zall 44 = true := by decide +kernel
set_option maxRecDepth 100000 in
theorem zk_45 : zall 45 = true := by decide +kernel
set_option maxRecDepth 100000 in
theorem zk_46 : zall 46 = true := by decide +kernel
set_option maxRecDepth 100000 in
theorem zk_47 : zall 47 = true := by decide +kernel
set_option maxRecDepth 100000 in
theorem zk_48 : zall 48 = true := by decide +kernel
set_option maxRecDepth 100000 in
theorem zk_49 : zall 49 = true := by decide +kernel
set_option maxRecDepth 100000 in
theorem zk_50 : zall 50 = true := by decide +kernel
set_option maxRecDepth 100000 in
theorem zk_51 : zall 51 = true := by decide +kernel
set_option maxRecDepth 100000 in
theorem zk_52 : zall 52 = true := by decide +kernel
set_option maxRecDepth 100000 in
theorem zk_53 : zall 53 = true := by decide +kernel
set_option maxRecDepth 100000 in
theorem zk_54 : zall 54 = true := by decide +kernel
set_option maxRecDepth 100000 in
theorem zk_55 : zall 55 = true := by decide +kernel
set_option maxRecDepth 100000 in
theorem zk_56 : zall 56 = true := by decide +kernel
set_option maxRecDepth 100000 in
theorem zk_57 : zall 57 = true := by decide +kernel
set_option maxRecDepth 100000 in
theorem zk_58 : zall 58 = true := by decide +kernel
set_option maxRecDepth 100000 in
theorem zk_59 : zall 59 = true := by decide +kernel
set_option maxRecDepth 100000 in
theorem zk_60 : zall 60 = true := by decide +kernel
set_option maxRecDepth 100000 in
theorem zk_61 : zall 61 = true := by decide +kernel
set_option maxRecDepth 100000 in
theorem zk_62 : zall 62 = true := by decide +kernel
set_option maxRecDepth 100000 in
theorem zk_63 : zall 63 = true := by decide +kernel
set_option maxRecDepth 100000 in
theorem zk_64 : zall 64 = true := by decide +kernel
set_option maxRecDepth 100000 in
theorem zk_65 : zall 65 = true := by decide +kernel
set_option maxRecDepth 100000 in
theorem zk_66 : zall 66 = true := by decide +kernel
set_option maxRecDepth 100000 in
theorem zk_67 : zall 67 = true := by decide +kernel
set_option maxRecDepth 100000 in
theorem zk_68 : zall 68 = true := by decide +kernel
set_option maxRecDepth 100000 in
theorem zk_69 : zall 69 = true := by decide +kernel
set_option maxRecDepth 100000 in
theorem zk_70 : zall 70 = true := by decide +kernel
set_option maxRecDepth 100000 in
theorem zk_71 : zall 71 = true := by decide +kernel
set_option maxRecDepth 100000 in
theorem zk_72 : zall 72 = true := by decide +kernel
set_option maxRecDepth 100000 in
theorem zk_73 : zall 73 = true := by decide +kernel
set_option maxRecDepth 100000 in
theorem zk_74 : zall 74 = true := by decide +kernel
set_option maxRecDepth 100000 in
theorem zk_75 : zall 75 = true := by decide +kernel
set_option maxRecDepth 100000 in
theorem zk_76 : zall 76 = true := by decide +kernel
set_option maxRecDepth 100000 in
theorem zk_77 : zall 77 = true := by decide +kernel
set_option maxRecDepth 100000 in
theorem zk_78 : zall 78 = true := by decide +kernel
set_option maxRecDepth 100000 in
theorem zk_79 : zall 79 = true := by decide +kernel
set_option maxRecDepth 100000 in
theorem zk_80 : zall 80 = true := by decide +kernel
set_option maxRecDepth 100000 in
theorem zk_81 : zall 81 = true := by decide +kernel
set_option maxRecDepth 100000 in
theorem zk_82 : zall 82 = true := by decide +kernel
set_option maxRecDepth 100000 in
theorem zk_83 : zall 83 = true := by decide +kernel
set_option maxRecDepth 100000 in
theorem zk_84 : zall 84 = true := by decide +kernel
set_option maxRecDepth 100000 in
theorem zk_85 : zall 85 = true := by decide +kernel
set_option maxRecDepth 100000 in
theorem zk_86 : zall 86 = true := by decide +kernel
set_option maxRecDepth 100000 in
theorem zk_87 : zall 87 = true := by decide +kernel
set_option maxRecDepth 100000 in
theorem zk_88 : zall 88 = true := by decide +kernel
set_option maxRecDepth 100000 in
theorem zk_89 : zall 89 = true := by decide +kernel
set_option maxRecDepth 100000 in
theorem zk_90 : zall 90 = true := by decide +kernel
set_option maxRecDepth 100000 in
theorem zk_91 : zall 91 = true := by decide +kernel
set_option maxRecDepth 100000 in
theorem zk_92 : zall 92 = true := by decide +kernel
set_option maxRecDepth 100000 in
theorem zk_93 : zall 93 = true := by decide +kernel
set_option maxRecDepth 100000 in
theorem zk_94 : zall 94 = true := by decide +kernel
set_option maxRecDepth 100000 in
theorem zk_95 : zall 95 = true := by decide +kernel
set_option maxRecDepth 100000 in
theorem zk_96 : zall 96 = true := by decide +kernel
set_option maxRecDepth 100000 in
theorem zk_97 : zall 97 = true := by decide +kernel
set_option maxRecDepth 100000 in
theorem zk_98 : zall 98 = true := by decide +kernel
set_option maxRecDepth 100000 in
theorem zk_99 : zall 99 = true := by decide +kernel
set_option maxRecDepth 100000 in
theorem zk_100 : zall 100 = true := by decide +kernel
set_option maxRecDepth 100000 in
theorem zk_101 : zall 101 = true := by decide +kernel
set_option maxRecDepth 100000 in
theorem zk_102 : zall 102 = true := by decide +kernel
set_option maxRecDepth 100000 in
theorem zk_103 : zall 103 = true := by decide +kernel
set_option maxRecDepth 100000 in
theorem zk_104 : zall 104 = true := by decide +kernel
set_option maxRecDepth 100000 in
theorem zk_105 : zall 105 = true := by decide +kernel
set_option maxRecDepth 100000 in
theorem zk_106 : zall 106 = true := by decide +kernel
set_option maxRecDepth 100000 in
theorem zk_107 : zall 107 = true := by decide +kernel
set_option maxRecDepth 100000 in
theorem zk_108 : zall 108 = true := by decide +kernel
set_option maxRecDepth 100000 in
theorem zk_109 : zall 109 = true := by decide +kernel
set_option maxRecDepth 100000 in
theorem zk_110 : zall 110 = true := by decide +kernel
set_option maxRecDepth 100000 in
theorem zk_111 : zall 111 = true := by decide +kernel
set_option maxRecDepth 100000 in
theorem zk_112 : zall 112 = true := by decide +kernel
set_option maxRecDepth 100000 in
theorem zk_113 : zall 113 = true := by decide +kernel
set_option maxRecDepth 100000 in
theorem zk_114 : zall 114 = true := by decide +kernel
set_option maxRecDepth 100000 in
theorem zk_115 : zall 115 = true := by decide +kernel
set_option maxRecDepth 100000 in
theorem zk_116 : zall 116 = true := by decide +kernel
set_option maxRecDepth 100000 in
theorem zk_117 : zall 117 = true := by decide +kernel
