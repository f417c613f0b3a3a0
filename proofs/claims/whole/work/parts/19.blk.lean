/-! the blocks by name, the entries, the cells: laid by wip/whole/genblk.py -/
/-- all cells, once both objects stand -/
def zSH (Ln : Nat) : List zSh := [(0, Ln, []),
  (0, 16, []),
  (13, 9, [some 3, some 10, some 22, some 19, some 29, some 32, some 36, some 41, some 44]),
  (8, 9, [none, none, none, some 4, some 5, some 6, some 7, some 8, some 9]),
  (0, 48, []),
  (0, 48, []),
  (0, 144, []),
  (0, 972, []),
  (0, 12, []),
  (0, 48, []),
  (4, 6, [none, none, some 11, some 12, some 13, some 14]),
  (0, 24, []),
  (0, 24, []),
  (0, 24, []),
  (0, 24, []),
  (11, 6, [some 3, some 16, some 17, some 18, none, none]),
  (0, 972, []),
  (0, 12, []),
  (0, 81, []),
  (6, 7, [some 3, some 10, some 15, some 20, some 21, none, none]),
  (0, 24, []),
  (0, 12, []),
  (12, 6, [some 23, some 24, none, none, none, none]),
  (0, 100, []),
  (4, 6, [none, none, some 25, some 26, some 27, some 28]),
  (0, 24, []),
  (0, 24, []),
  (0, 24, []),
  (0, 24, []),
  (9, 7, [some 3, some 10, some 15, some 19, some 30, some 31, none]),
  (0, 12, []),
  (0, 41, []),
  (3, 9, [some 3, some 15, some 33, some 34, some 35, none, none, none, none]),
  (0, 48, []),
  (0, 48, []),
  (0, 12, []),
  (7, 8, [some 3, none, none, none, some 37, some 38, some 39, some 40]),
  (0, 144, []),
  (0, 12, []),
  (0, 12, []),
  (1, 156, []),
  (5, 3, [some 3, some 42, some 43]),
  (0, 4, []),
  (0, 48, []),
  (10, 3, [some 45, some 46, some 47]),
  (0, 4, []),
  (0, 4, []),
  (0, 324, []),
  (14, 47, [none, none, some 49, some 50, some 51, some 52, some 53, some 54, some 55, none, none, some 56, some 57, some 58, some 59, none, some 60, some 61, some 62, some 63, some 64, some 65, none, some 66, none, none, none, some 67, some 68, some 69, some 70, none, some 71, some 72, some 73, some 74, some 75, some 76, some 77, some 78, some 79, none, some 80, some 81, none, none, some 82]),
  (0, 48, []),
  (0, 972, []),
  (0, 144, []),
  (0, 12, []),
  (0, 48, []),
  (0, 48, []),
  (0, 4, []),
  (0, 24, []),
  (0, 24, []),
  (0, 24, []),
  (0, 24, []),
  (0, 24, []),
  (0, 24, []),
  (0, 24, []),
  (0, 24, []),
  (0, 24, []),
  (2, 24, []),
  (0, 100, []),
  (0, 24, []),
  (0, 12, []),
  (0, 12, []),
  (0, 12, []),
  (0, 41, []),
  (0, 4, []),
  (0, 4, []),
  (0, 324, []),
  (0, 81, []),
  (0, 48, []),
  (0, 48, []),
  (0, 48, []),
  (0, 48, []),
  (0, 12, []),
  (1, 156, []),
  (0, 48, [])]
theorem sh_1 (Ln : Nat) : (zSH Ln)[1]? = some (0, 16, []) := rfl
theorem sh_2 (Ln : Nat) : (zSH Ln)[2]? = some (13, 9, [some 3, some 10, some 22, some 19, some 29, some 32, some 36, some 41, some 44]) := rfl
theorem sh_3 (Ln : Nat) : (zSH Ln)[3]? = some (8, 9, [none, none, none, some 4, some 5, some 6, some 7, some 8, some 9]) := rfl
theorem sh_4 (Ln : Nat) : (zSH Ln)[4]? = some (0, 48, []) := rfl
theorem sh_5 (Ln : Nat) : (zSH Ln)[5]? = some (0, 48, []) := rfl
theorem sh_6 (Ln : Nat) : (zSH Ln)[6]? = some (0, 144, []) := rfl
theorem sh_7 (Ln : Nat) : (zSH Ln)[7]? = some (0, 972, []) := rfl
theorem sh_8 (Ln : Nat) : (zSH Ln)[8]? = some (0, 12, []) := rfl
theorem sh_9 (Ln : Nat) : (zSH Ln)[9]? = some (0, 48, []) := rfl
theorem sh_10 (Ln : Nat) : (zSH Ln)[10]? = some (4, 6, [none, none, some 11, some 12, some 13, some 14]) := rfl
theorem sh_11 (Ln : Nat) : (zSH Ln)[11]? = some (0, 24, []) := rfl
theorem sh_12 (Ln : Nat) : (zSH Ln)[12]? = some (0, 24, []) := rfl
theorem sh_13 (Ln : Nat) : (zSH Ln)[13]? = some (0, 24, []) := rfl
theorem sh_14 (Ln : Nat) : (zSH Ln)[14]? = some (0, 24, []) := rfl
theorem sh_15 (Ln : Nat) : (zSH Ln)[15]? = some (11, 6, [some 3, some 16, some 17, some 18, none, none]) := rfl
theorem sh_16 (Ln : Nat) : (zSH Ln)[16]? = some (0, 972, []) := rfl
theorem sh_17 (Ln : Nat) : (zSH Ln)[17]? = some (0, 12, []) := rfl
theorem sh_18 (Ln : Nat) : (zSH Ln)[18]? = some (0, 81, []) := rfl
theorem sh_19 (Ln : Nat) : (zSH Ln)[19]? = some (6, 7, [some 3, some 10, some 15, some 20, some 21, none, none]) := rfl
theorem sh_20 (Ln : Nat) : (zSH Ln)[20]? = some (0, 24, []) := rfl
theorem sh_21 (Ln : Nat) : (zSH Ln)[21]? = some (0, 12, []) := rfl
theorem sh_22 (Ln : Nat) : (zSH Ln)[22]? = some (12, 6, [some 23, some 24, none, none, none, none]) := rfl
theorem sh_23 (Ln : Nat) : (zSH Ln)[23]? = some (0, 100, []) := rfl
theorem sh_24 (Ln : Nat) : (zSH Ln)[24]? = some (4, 6, [none, none, some 25, some 26, some 27, some 28]) := rfl
theorem sh_25 (Ln : Nat) : (zSH Ln)[25]? = some (0, 24, []) := rfl
theorem sh_26 (Ln : Nat) : (zSH Ln)[26]? = some (0, 24, []) := rfl
theorem sh_27 (Ln : Nat) : (zSH Ln)[27]? = some (0, 24, []) := rfl
theorem sh_28 (Ln : Nat) : (zSH Ln)[28]? = some (0, 24, []) := rfl
theorem sh_29 (Ln : Nat) : (zSH Ln)[29]? = some (9, 7, [some 3, some 10, some 15, some 19, some 30, some 31, none]) := rfl
theorem sh_30 (Ln : Nat) : (zSH Ln)[30]? = some (0, 12, []) := rfl
theorem sh_31 (Ln : Nat) : (zSH Ln)[31]? = some (0, 41, []) := rfl
theorem sh_32 (Ln : Nat) : (zSH Ln)[32]? = some (3, 9, [some 3, some 15, some 33, some 34, some 35, none, none, none, none]) := rfl
theorem sh_33 (Ln : Nat) : (zSH Ln)[33]? = some (0, 48, []) := rfl
theorem sh_34 (Ln : Nat) : (zSH Ln)[34]? = some (0, 48, []) := rfl
theorem sh_35 (Ln : Nat) : (zSH Ln)[35]? = some (0, 12, []) := rfl
theorem sh_36 (Ln : Nat) : (zSH Ln)[36]? = some (7, 8, [some 3, none, none, none, some 37, some 38, some 39, some 40]) := rfl
theorem sh_37 (Ln : Nat) : (zSH Ln)[37]? = some (0, 144, []) := rfl
theorem sh_38 (Ln : Nat) : (zSH Ln)[38]? = some (0, 12, []) := rfl
theorem sh_39 (Ln : Nat) : (zSH Ln)[39]? = some (0, 12, []) := rfl
theorem sh_40 (Ln : Nat) : (zSH Ln)[40]? = some (1, 156, []) := rfl
theorem sh_41 (Ln : Nat) : (zSH Ln)[41]? = some (5, 3, [some 3, some 42, some 43]) := rfl
theorem sh_42 (Ln : Nat) : (zSH Ln)[42]? = some (0, 4, []) := rfl
theorem sh_43 (Ln : Nat) : (zSH Ln)[43]? = some (0, 48, []) := rfl
theorem sh_44 (Ln : Nat) : (zSH Ln)[44]? = some (10, 3, [some 45, some 46, some 47]) := rfl
theorem sh_45 (Ln : Nat) : (zSH Ln)[45]? = some (0, 4, []) := rfl
theorem sh_46 (Ln : Nat) : (zSH Ln)[46]? = some (0, 4, []) := rfl
theorem sh_47 (Ln : Nat) : (zSH Ln)[47]? = some (0, 324, []) := rfl
theorem sh_48 (Ln : Nat) : (zSH Ln)[48]? = some (14, 47, [none, none, some 49, some 50, some 51, some 52, some 53, some 54, some 55, none, none, some 56, some 57, some 58, some 59, none, some 60, some 61, some 62, some 63, some 64, some 65, none, some 66, none, none, none, some 67, some 68, some 69, some 70, none, some 71, some 72, some 73, some 74, some 75, some 76, some 77, some 78, some 79, none, some 80, some 81, none, none, some 82]) := rfl
theorem sh_49 (Ln : Nat) : (zSH Ln)[49]? = some (0, 48, []) := rfl
theorem sh_50 (Ln : Nat) : (zSH Ln)[50]? = some (0, 972, []) := rfl
theorem sh_51 (Ln : Nat) : (zSH Ln)[51]? = some (0, 144, []) := rfl
theorem sh_52 (Ln : Nat) : (zSH Ln)[52]? = some (0, 12, []) := rfl
theorem sh_53 (Ln : Nat) : (zSH Ln)[53]? = some (0, 48, []) := rfl
theorem sh_54 (Ln : Nat) : (zSH Ln)[54]? = some (0, 48, []) := rfl
theorem sh_55 (Ln : Nat) : (zSH Ln)[55]? = some (0, 4, []) := rfl
theorem sh_56 (Ln : Nat) : (zSH Ln)[56]? = some (0, 24, []) := rfl
theorem sh_57 (Ln : Nat) : (zSH Ln)[57]? = some (0, 24, []) := rfl
theorem sh_58 (Ln : Nat) : (zSH Ln)[58]? = some (0, 24, []) := rfl
theorem sh_59 (Ln : Nat) : (zSH Ln)[59]? = some (0, 24, []) := rfl
theorem sh_60 (Ln : Nat) : (zSH Ln)[60]? = some (0, 24, []) := rfl
theorem sh_61 (Ln : Nat) : (zSH Ln)[61]? = some (0, 24, []) := rfl
theorem sh_62 (Ln : Nat) : (zSH Ln)[62]? = some (0, 24, []) := rfl
theorem sh_63 (Ln : Nat) : (zSH Ln)[63]? = some (0, 24, []) := rfl
theorem sh_64 (Ln : Nat) : (zSH Ln)[64]? = some (0, 24, []) := rfl
theorem sh_65 (Ln : Nat) : (zSH Ln)[65]? = some (2, 24, []) := rfl
theorem sh_66 (Ln : Nat) : (zSH Ln)[66]? = some (0, 100, []) := rfl
theorem sh_67 (Ln : Nat) : (zSH Ln)[67]? = some (0, 24, []) := rfl
theorem sh_68 (Ln : Nat) : (zSH Ln)[68]? = some (0, 12, []) := rfl
theorem sh_69 (Ln : Nat) : (zSH Ln)[69]? = some (0, 12, []) := rfl
theorem sh_70 (Ln : Nat) : (zSH Ln)[70]? = some (0, 12, []) := rfl
theorem sh_71 (Ln : Nat) : (zSH Ln)[71]? = some (0, 41, []) := rfl
theorem sh_72 (Ln : Nat) : (zSH Ln)[72]? = some (0, 4, []) := rfl
theorem sh_73 (Ln : Nat) : (zSH Ln)[73]? = some (0, 4, []) := rfl
theorem sh_74 (Ln : Nat) : (zSH Ln)[74]? = some (0, 324, []) := rfl
theorem sh_75 (Ln : Nat) : (zSH Ln)[75]? = some (0, 81, []) := rfl
theorem sh_76 (Ln : Nat) : (zSH Ln)[76]? = some (0, 48, []) := rfl
theorem sh_77 (Ln : Nat) : (zSH Ln)[77]? = some (0, 48, []) := rfl
theorem sh_78 (Ln : Nat) : (zSH Ln)[78]? = some (0, 48, []) := rfl
theorem sh_79 (Ln : Nat) : (zSH Ln)[79]? = some (0, 48, []) := rfl
theorem sh_80 (Ln : Nat) : (zSH Ln)[80]? = some (0, 12, []) := rfl
theorem sh_81 (Ln : Nat) : (zSH Ln)[81]? = some (1, 156, []) := rfl
theorem sh_82 (Ln : Nat) : (zSH Ln)[82]? = some (0, 48, []) := rfl
theorem gf_2_0 (Ln : Nat) (M : Nat → Int → Int) : zgetf (zSH Ln, M) 2 10 0 = some (zR 3) := rfl
theorem gf_2_1 (Ln : Nat) (M : Nat → Int → Int) : zgetf (zSH Ln, M) 2 10 1 = some (zR 10) := rfl
theorem gf_2_2 (Ln : Nat) (M : Nat → Int → Int) : zgetf (zSH Ln, M) 2 10 2 = some (zR 22) := rfl
theorem gf_2_3 (Ln : Nat) (M : Nat → Int → Int) : zgetf (zSH Ln, M) 2 10 3 = some (zR 19) := rfl
theorem gf_2_4 (Ln : Nat) (M : Nat → Int → Int) : zgetf (zSH Ln, M) 2 10 4 = some (zR 29) := rfl
theorem gf_2_5 (Ln : Nat) (M : Nat → Int → Int) : zgetf (zSH Ln, M) 2 10 5 = some (zR 32) := rfl
theorem gf_2_6 (Ln : Nat) (M : Nat → Int → Int) : zgetf (zSH Ln, M) 2 10 6 = some (zR 36) := rfl
theorem gf_2_7 (Ln : Nat) (M : Nat → Int → Int) : zgetf (zSH Ln, M) 2 10 7 = some (zR 41) := rfl
theorem gf_2_8 (Ln : Nat) (M : Nat → Int → Int) : zgetf (zSH Ln, M) 2 10 8 = some (zR 44) := rfl
theorem gf_3_0 (Ln : Nat) (M : Nat → Int → Int) : zgetf (zSH Ln, M) 3 5 0 = some (zI (M 3 0)) := rfl
theorem pf_3_0 (Ln : Nat) (M : Nat → Int → Int) (x : Int) : zputf (zSH Ln, M) 3 5 0 (zI x) = some (zSH Ln, zup M 3 0 x) := rfl
theorem gf_3_1 (Ln : Nat) (M : Nat → Int → Int) : zgetf (zSH Ln, M) 3 5 1 = some (zI (M 3 1)) := rfl
theorem pf_3_1 (Ln : Nat) (M : Nat → Int → Int) (x : Int) : zputf (zSH Ln, M) 3 5 1 (zI x) = some (zSH Ln, zup M 3 1 x) := rfl
theorem gf_3_2 (Ln : Nat) (M : Nat → Int → Int) : zgetf (zSH Ln, M) 3 5 2 = some (zI (M 3 2)) := rfl
theorem pf_3_2 (Ln : Nat) (M : Nat → Int → Int) (x : Int) : zputf (zSH Ln, M) 3 5 2 (zI x) = some (zSH Ln, zup M 3 2 x) := rfl
theorem gf_3_3 (Ln : Nat) (M : Nat → Int → Int) : zgetf (zSH Ln, M) 3 5 3 = some (zR 4) := rfl
theorem gf_3_4 (Ln : Nat) (M : Nat → Int → Int) : zgetf (zSH Ln, M) 3 5 4 = some (zR 5) := rfl
theorem gf_3_5 (Ln : Nat) (M : Nat → Int → Int) : zgetf (zSH Ln, M) 3 5 5 = some (zR 6) := rfl
theorem gf_3_6 (Ln : Nat) (M : Nat → Int → Int) : zgetf (zSH Ln, M) 3 5 6 = some (zR 7) := rfl
theorem gf_3_7 (Ln : Nat) (M : Nat → Int → Int) : zgetf (zSH Ln, M) 3 5 7 = some (zR 8) := rfl
theorem gf_3_8 (Ln : Nat) (M : Nat → Int → Int) : zgetf (zSH Ln, M) 3 5 8 = some (zR 9) := rfl
theorem gf_10_0 (Ln : Nat) (M : Nat → Int → Int) : zgetf (zSH Ln, M) 10 1 0 = some (zI (M 10 0)) := rfl
theorem pf_10_0 (Ln : Nat) (M : Nat → Int → Int) (x : Int) : zputf (zSH Ln, M) 10 1 0 (zI x) = some (zSH Ln, zup M 10 0 x) := rfl
theorem gf_10_1 (Ln : Nat) (M : Nat → Int → Int) : zgetf (zSH Ln, M) 10 1 1 = some (zI (M 10 1)) := rfl
theorem pf_10_1 (Ln : Nat) (M : Nat → Int → Int) (x : Int) : zputf (zSH Ln, M) 10 1 1 (zI x) = some (zSH Ln, zup M 10 1 x) := rfl
theorem gf_10_2 (Ln : Nat) (M : Nat → Int → Int) : zgetf (zSH Ln, M) 10 1 2 = some (zR 11) := rfl
theorem gf_10_3 (Ln : Nat) (M : Nat → Int → Int) : zgetf (zSH Ln, M) 10 1 3 = some (zR 12) := rfl
theorem gf_10_4 (Ln : Nat) (M : Nat → Int → Int) : zgetf (zSH Ln, M) 10 1 4 = some (zR 13) := rfl
theorem gf_10_5 (Ln : Nat) (M : Nat → Int → Int) : zgetf (zSH Ln, M) 10 1 5 = some (zR 14) := rfl
theorem gf_15_0 (Ln : Nat) (M : Nat → Int → Int) : zgetf (zSH Ln, M) 15 8 0 = some (zR 3) := rfl
theorem gf_15_1 (Ln : Nat) (M : Nat → Int → Int) : zgetf (zSH Ln, M) 15 8 1 = some (zR 16) := rfl
theorem gf_15_2 (Ln : Nat) (M : Nat → Int → Int) : zgetf (zSH Ln, M) 15 8 2 = some (zR 17) := rfl
theorem gf_15_3 (Ln : Nat) (M : Nat → Int → Int) : zgetf (zSH Ln, M) 15 8 3 = some (zR 18) := rfl
theorem gf_15_4 (Ln : Nat) (M : Nat → Int → Int) : zgetf (zSH Ln, M) 15 8 4 = some (zI (M 15 4)) := rfl
theorem pf_15_4 (Ln : Nat) (M : Nat → Int → Int) (x : Int) : zputf (zSH Ln, M) 15 8 4 (zI x) = some (zSH Ln, zup M 15 4 x) := rfl
theorem gf_15_5 (Ln : Nat) (M : Nat → Int → Int) : zgetf (zSH Ln, M) 15 8 5 = some (zI (M 15 5)) := rfl
theorem pf_15_5 (Ln : Nat) (M : Nat → Int → Int) (x : Int) : zputf (zSH Ln, M) 15 8 5 (zI x) = some (zSH Ln, zup M 15 5 x) := rfl
theorem gf_19_0 (Ln : Nat) (M : Nat → Int → Int) : zgetf (zSH Ln, M) 19 3 0 = some (zR 3) := rfl
theorem gf_19_1 (Ln : Nat) (M : Nat → Int → Int) : zgetf (zSH Ln, M) 19 3 1 = some (zR 10) := rfl
theorem gf_19_2 (Ln : Nat) (M : Nat → Int → Int) : zgetf (zSH Ln, M) 19 3 2 = some (zR 15) := rfl
theorem gf_19_3 (Ln : Nat) (M : Nat → Int → Int) : zgetf (zSH Ln, M) 19 3 3 = some (zR 20) := rfl
theorem gf_19_4 (Ln : Nat) (M : Nat → Int → Int) : zgetf (zSH Ln, M) 19 3 4 = some (zR 21) := rfl
theorem gf_19_5 (Ln : Nat) (M : Nat → Int → Int) : zgetf (zSH Ln, M) 19 3 5 = some (zI (M 19 5)) := rfl
theorem pf_19_5 (Ln : Nat) (M : Nat → Int → Int) (x : Int) : zputf (zSH Ln, M) 19 3 5 (zI x) = some (zSH Ln, zup M 19 5 x) := rfl
theorem gf_19_6 (Ln : Nat) (M : Nat → Int → Int) : zgetf (zSH Ln, M) 19 3 6 = some (zI (M 19 6)) := rfl
theorem pf_19_6 (Ln : Nat) (M : Nat → Int → Int) (x : Int) : zputf (zSH Ln, M) 19 3 6 (zI x) = some (zSH Ln, zup M 19 6 x) := rfl
theorem gf_22_0 (Ln : Nat) (M : Nat → Int → Int) : zgetf (zSH Ln, M) 22 9 0 = some (zR 23) := rfl
theorem gf_22_1 (Ln : Nat) (M : Nat → Int → Int) : zgetf (zSH Ln, M) 22 9 1 = some (zR 24) := rfl
theorem gf_22_2 (Ln : Nat) (M : Nat → Int → Int) : zgetf (zSH Ln, M) 22 9 2 = some (zI (M 22 2)) := rfl
theorem pf_22_2 (Ln : Nat) (M : Nat → Int → Int) (x : Int) : zputf (zSH Ln, M) 22 9 2 (zI x) = some (zSH Ln, zup M 22 2 x) := rfl
theorem gf_22_3 (Ln : Nat) (M : Nat → Int → Int) : zgetf (zSH Ln, M) 22 9 3 = some (zI (M 22 3)) := rfl
theorem pf_22_3 (Ln : Nat) (M : Nat → Int → Int) (x : Int) : zputf (zSH Ln, M) 22 9 3 (zI x) = some (zSH Ln, zup M 22 3 x) := rfl
theorem gf_22_4 (Ln : Nat) (M : Nat → Int → Int) : zgetf (zSH Ln, M) 22 9 4 = some (zI (M 22 4)) := rfl
theorem pf_22_4 (Ln : Nat) (M : Nat → Int → Int) (x : Int) : zputf (zSH Ln, M) 22 9 4 (zI x) = some (zSH Ln, zup M 22 4 x) := rfl
theorem gf_22_5 (Ln : Nat) (M : Nat → Int → Int) : zgetf (zSH Ln, M) 22 9 5 = some (zI (M 22 5)) := rfl
theorem pf_22_5 (Ln : Nat) (M : Nat → Int → Int) (x : Int) : zputf (zSH Ln, M) 22 9 5 (zI x) = some (zSH Ln, zup M 22 5 x) := rfl
theorem gf_24_0 (Ln : Nat) (M : Nat → Int → Int) : zgetf (zSH Ln, M) 24 1 0 = some (zI (M 24 0)) := rfl
theorem pf_24_0 (Ln : Nat) (M : Nat → Int → Int) (x : Int) : zputf (zSH Ln, M) 24 1 0 (zI x) = some (zSH Ln, zup M 24 0 x) := rfl
theorem gf_24_1 (Ln : Nat) (M : Nat → Int → Int) : zgetf (zSH Ln, M) 24 1 1 = some (zI (M 24 1)) := rfl
theorem pf_24_1 (Ln : Nat) (M : Nat → Int → Int) (x : Int) : zputf (zSH Ln, M) 24 1 1 (zI x) = some (zSH Ln, zup M 24 1 x) := rfl
theorem gf_24_2 (Ln : Nat) (M : Nat → Int → Int) : zgetf (zSH Ln, M) 24 1 2 = some (zR 25) := rfl
theorem gf_24_3 (Ln : Nat) (M : Nat → Int → Int) : zgetf (zSH Ln, M) 24 1 3 = some (zR 26) := rfl
theorem gf_24_4 (Ln : Nat) (M : Nat → Int → Int) : zgetf (zSH Ln, M) 24 1 4 = some (zR 27) := rfl
theorem gf_24_5 (Ln : Nat) (M : Nat → Int → Int) : zgetf (zSH Ln, M) 24 1 5 = some (zR 28) := rfl
theorem gf_29_0 (Ln : Nat) (M : Nat → Int → Int) : zgetf (zSH Ln, M) 29 6 0 = some (zR 3) := rfl
theorem gf_29_1 (Ln : Nat) (M : Nat → Int → Int) : zgetf (zSH Ln, M) 29 6 1 = some (zR 10) := rfl
theorem gf_29_2 (Ln : Nat) (M : Nat → Int → Int) : zgetf (zSH Ln, M) 29 6 2 = some (zR 15) := rfl
theorem gf_29_3 (Ln : Nat) (M : Nat → Int → Int) : zgetf (zSH Ln, M) 29 6 3 = some (zR 19) := rfl
theorem gf_29_4 (Ln : Nat) (M : Nat → Int → Int) : zgetf (zSH Ln, M) 29 6 4 = some (zR 30) := rfl
theorem gf_29_5 (Ln : Nat) (M : Nat → Int → Int) : zgetf (zSH Ln, M) 29 6 5 = some (zR 31) := rfl
theorem gf_29_6 (Ln : Nat) (M : Nat → Int → Int) : zgetf (zSH Ln, M) 29 6 6 = some (zI (M 29 6)) := rfl
theorem pf_29_6 (Ln : Nat) (M : Nat → Int → Int) (x : Int) : zputf (zSH Ln, M) 29 6 6 (zI x) = some (zSH Ln, zup M 29 6 x) := rfl
theorem gf_32_0 (Ln : Nat) (M : Nat → Int → Int) : zgetf (zSH Ln, M) 32 0 0 = some (zR 3) := rfl
theorem gf_32_1 (Ln : Nat) (M : Nat → Int → Int) : zgetf (zSH Ln, M) 32 0 1 = some (zR 15) := rfl
theorem gf_32_2 (Ln : Nat) (M : Nat → Int → Int) : zgetf (zSH Ln, M) 32 0 2 = some (zR 33) := rfl
theorem gf_32_3 (Ln : Nat) (M : Nat → Int → Int) : zgetf (zSH Ln, M) 32 0 3 = some (zR 34) := rfl
theorem gf_32_4 (Ln : Nat) (M : Nat → Int → Int) : zgetf (zSH Ln, M) 32 0 4 = some (zR 35) := rfl
theorem gf_32_5 (Ln : Nat) (M : Nat → Int → Int) : zgetf (zSH Ln, M) 32 0 5 = some (zI (M 32 5)) := rfl
theorem pf_32_5 (Ln : Nat) (M : Nat → Int → Int) (x : Int) : zputf (zSH Ln, M) 32 0 5 (zI x) = some (zSH Ln, zup M 32 5 x) := rfl
theorem gf_32_6 (Ln : Nat) (M : Nat → Int → Int) : zgetf (zSH Ln, M) 32 0 6 = some (zI (M 32 6)) := rfl
theorem pf_32_6 (Ln : Nat) (M : Nat → Int → Int) (x : Int) : zputf (zSH Ln, M) 32 0 6 (zI x) = some (zSH Ln, zup M 32 6 x) := rfl
theorem gf_32_7 (Ln : Nat) (M : Nat → Int → Int) : zgetf (zSH Ln, M) 32 0 7 = some (zI (M 32 7)) := rfl
theorem pf_32_7 (Ln : Nat) (M : Nat → Int → Int) (x : Int) : zputf (zSH Ln, M) 32 0 7 (zI x) = some (zSH Ln, zup M 32 7 x) := rfl
theorem gf_32_8 (Ln : Nat) (M : Nat → Int → Int) : zgetf (zSH Ln, M) 32 0 8 = some (zI (M 32 8)) := rfl
theorem pf_32_8 (Ln : Nat) (M : Nat → Int → Int) (x : Int) : zputf (zSH Ln, M) 32 0 8 (zI x) = some (zSH Ln, zup M 32 8 x) := rfl
theorem gf_36_0 (Ln : Nat) (M : Nat → Int → Int) : zgetf (zSH Ln, M) 36 4 0 = some (zR 3) := rfl
theorem gf_36_1 (Ln : Nat) (M : Nat → Int → Int) : zgetf (zSH Ln, M) 36 4 1 = some (zI (M 36 1)) := rfl
theorem pf_36_1 (Ln : Nat) (M : Nat → Int → Int) (x : Int) : zputf (zSH Ln, M) 36 4 1 (zI x) = some (zSH Ln, zup M 36 1 x) := rfl
theorem gf_36_2 (Ln : Nat) (M : Nat → Int → Int) : zgetf (zSH Ln, M) 36 4 2 = some (zL (M 36 2)) := rfl
theorem pf_36_2 (Ln : Nat) (M : Nat → Int → Int) (x : Int) : zputf (zSH Ln, M) 36 4 2 (zL x) = some (zSH Ln, zup M 36 2 x) := rfl
theorem gf_36_3 (Ln : Nat) (M : Nat → Int → Int) : zgetf (zSH Ln, M) 36 4 3 = some (zL (M 36 3)) := rfl
theorem pf_36_3 (Ln : Nat) (M : Nat → Int → Int) (x : Int) : zputf (zSH Ln, M) 36 4 3 (zL x) = some (zSH Ln, zup M 36 3 x) := rfl
theorem gf_36_4 (Ln : Nat) (M : Nat → Int → Int) : zgetf (zSH Ln, M) 36 4 4 = some (zR 37) := rfl
theorem gf_36_5 (Ln : Nat) (M : Nat → Int → Int) : zgetf (zSH Ln, M) 36 4 5 = some (zR 38) := rfl
theorem gf_36_6 (Ln : Nat) (M : Nat → Int → Int) : zgetf (zSH Ln, M) 36 4 6 = some (zR 39) := rfl
theorem gf_36_7 (Ln : Nat) (M : Nat → Int → Int) : zgetf (zSH Ln, M) 36 4 7 = some (zR 40) := rfl
theorem gf_41_0 (Ln : Nat) (M : Nat → Int → Int) : zgetf (zSH Ln, M) 41 2 0 = some (zR 3) := rfl
theorem gf_41_1 (Ln : Nat) (M : Nat → Int → Int) : zgetf (zSH Ln, M) 41 2 1 = some (zR 42) := rfl
theorem gf_41_2 (Ln : Nat) (M : Nat → Int → Int) : zgetf (zSH Ln, M) 41 2 2 = some (zR 43) := rfl
theorem gf_44_0 (Ln : Nat) (M : Nat → Int → Int) : zgetf (zSH Ln, M) 44 7 0 = some (zR 45) := rfl
theorem gf_44_1 (Ln : Nat) (M : Nat → Int → Int) : zgetf (zSH Ln, M) 44 7 1 = some (zR 46) := rfl
theorem gf_44_2 (Ln : Nat) (M : Nat → Int → Int) : zgetf (zSH Ln, M) 44 7 2 = some (zR 47) := rfl
theorem gf_48_0 (Ln : Nat) (M : Nat → Int → Int) : zgetf (zSH Ln, M) 48 11 0 = some (zI (M 48 0)) := rfl
theorem pf_48_0 (Ln : Nat) (M : Nat → Int → Int) (x : Int) : zputf (zSH Ln, M) 48 11 0 (zI x) = some (zSH Ln, zup M 48 0 x) := rfl
theorem gf_48_1 (Ln : Nat) (M : Nat → Int → Int) : zgetf (zSH Ln, M) 48 11 1 = some (zI (M 48 1)) := rfl
theorem pf_48_1 (Ln : Nat) (M : Nat → Int → Int) (x : Int) : zputf (zSH Ln, M) 48 11 1 (zI x) = some (zSH Ln, zup M 48 1 x) := rfl
theorem gf_48_2 (Ln : Nat) (M : Nat → Int → Int) : zgetf (zSH Ln, M) 48 11 2 = some (zR 49) := rfl
theorem gf_48_3 (Ln : Nat) (M : Nat → Int → Int) : zgetf (zSH Ln, M) 48 11 3 = some (zR 50) := rfl
theorem gf_48_4 (Ln : Nat) (M : Nat → Int → Int) : zgetf (zSH Ln, M) 48 11 4 = some (zR 51) := rfl
theorem gf_48_5 (Ln : Nat) (M : Nat → Int → Int) : zgetf (zSH Ln, M) 48 11 5 = some (zR 52) := rfl
theorem gf_48_6 (Ln : Nat) (M : Nat → Int → Int) : zgetf (zSH Ln, M) 48 11 6 = some (zR 53) := rfl
theorem gf_48_7 (Ln : Nat) (M : Nat → Int → Int) : zgetf (zSH Ln, M) 48 11 7 = some (zR 54) := rfl
theorem gf_48_8 (Ln : Nat) (M : Nat → Int → Int) : zgetf (zSH Ln, M) 48 11 8 = some (zR 55) := rfl
theorem gf_48_9 (Ln : Nat) (M : Nat → Int → Int) : zgetf (zSH Ln, M) 48 11 9 = some (zI (M 48 9)) := rfl
theorem pf_48_9 (Ln : Nat) (M : Nat → Int → Int) (x : Int) : zputf (zSH Ln, M) 48 11 9 (zI x) = some (zSH Ln, zup M 48 9 x) := rfl
theorem gf_48_10 (Ln : Nat) (M : Nat → Int → Int) : zgetf (zSH Ln, M) 48 11 10 = some (zI (M 48 10)) := rfl
theorem pf_48_10 (Ln : Nat) (M : Nat → Int → Int) (x : Int) : zputf (zSH Ln, M) 48 11 10 (zI x) = some (zSH Ln, zup M 48 10 x) := rfl
theorem gf_48_11 (Ln : Nat) (M : Nat → Int → Int) : zgetf (zSH Ln, M) 48 11 11 = some (zR 56) := rfl
theorem gf_48_12 (Ln : Nat) (M : Nat → Int → Int) : zgetf (zSH Ln, M) 48 11 12 = some (zR 57) := rfl
theorem gf_48_13 (Ln : Nat) (M : Nat → Int → Int) : zgetf (zSH Ln, M) 48 11 13 = some (zR 58) := rfl
theorem gf_48_14 (Ln : Nat) (M : Nat → Int → Int) : zgetf (zSH Ln, M) 48 11 14 = some (zR 59) := rfl
theorem gf_48_15 (Ln : Nat) (M : Nat → Int → Int) : zgetf (zSH Ln, M) 48 11 15 = some (zI (M 48 15)) := rfl
theorem pf_48_15 (Ln : Nat) (M : Nat → Int → Int) (x : Int) : zputf (zSH Ln, M) 48 11 15 (zI x) = some (zSH Ln, zup M 48 15 x) := rfl
theorem gf_48_16 (Ln : Nat) (M : Nat → Int → Int) : zgetf (zSH Ln, M) 48 11 16 = some (zR 60) := rfl
theorem gf_48_17 (Ln : Nat) (M : Nat → Int → Int) : zgetf (zSH Ln, M) 48 11 17 = some (zR 61) := rfl
theorem gf_48_18 (Ln : Nat) (M : Nat → Int → Int) : zgetf (zSH Ln, M) 48 11 18 = some (zR 62) := rfl
theorem gf_48_19 (Ln : Nat) (M : Nat → Int → Int) : zgetf (zSH Ln, M) 48 11 19 = some (zR 63) := rfl
theorem gf_48_20 (Ln : Nat) (M : Nat → Int → Int) : zgetf (zSH Ln, M) 48 11 20 = some (zR 64) := rfl
theorem gf_48_21 (Ln : Nat) (M : Nat → Int → Int) : zgetf (zSH Ln, M) 48 11 21 = some (zR 65) := rfl
theorem gf_48_22 (Ln : Nat) (M : Nat → Int → Int) : zgetf (zSH Ln, M) 48 11 22 = some (zI (M 48 22)) := rfl
theorem pf_48_22 (Ln : Nat) (M : Nat → Int → Int) (x : Int) : zputf (zSH Ln, M) 48 11 22 (zI x) = some (zSH Ln, zup M 48 22 x) := rfl
theorem gf_48_23 (Ln : Nat) (M : Nat → Int → Int) : zgetf (zSH Ln, M) 48 11 23 = some (zR 66) := rfl
theorem gf_48_24 (Ln : Nat) (M : Nat → Int → Int) : zgetf (zSH Ln, M) 48 11 24 = some (zI (M 48 24)) := rfl
theorem pf_48_24 (Ln : Nat) (M : Nat → Int → Int) (x : Int) : zputf (zSH Ln, M) 48 11 24 (zI x) = some (zSH Ln, zup M 48 24 x) := rfl
theorem gf_48_25 (Ln : Nat) (M : Nat → Int → Int) : zgetf (zSH Ln, M) 48 11 25 = some (zI (M 48 25)) := rfl
theorem pf_48_25 (Ln : Nat) (M : Nat → Int → Int) (x : Int) : zputf (zSH Ln, M) 48 11 25 (zI x) = some (zSH Ln, zup M 48 25 x) := rfl
theorem gf_48_26 (Ln : Nat) (M : Nat → Int → Int) : zgetf (zSH Ln, M) 48 11 26 = some (zI (M 48 26)) := rfl
theorem pf_48_26 (Ln : Nat) (M : Nat → Int → Int) (x : Int) (hx : x = 0 ∨ x = 1) : zputf (zSH Ln, M) 48 11 26 (zI x) = some (zSH Ln, zup M 48 26 x) := by rcases hx with rfl | rfl <;> rfl
theorem gf_48_27 (Ln : Nat) (M : Nat → Int → Int) : zgetf (zSH Ln, M) 48 11 27 = some (zR 67) := rfl
theorem gf_48_28 (Ln : Nat) (M : Nat → Int → Int) : zgetf (zSH Ln, M) 48 11 28 = some (zR 68) := rfl
theorem gf_48_29 (Ln : Nat) (M : Nat → Int → Int) : zgetf (zSH Ln, M) 48 11 29 = some (zR 69) := rfl
theorem gf_48_30 (Ln : Nat) (M : Nat → Int → Int) : zgetf (zSH Ln, M) 48 11 30 = some (zR 70) := rfl
theorem gf_48_31 (Ln : Nat) (M : Nat → Int → Int) : zgetf (zSH Ln, M) 48 11 31 = some (zI (M 48 31)) := rfl
theorem pf_48_31 (Ln : Nat) (M : Nat → Int → Int) (x : Int) : zputf (zSH Ln, M) 48 11 31 (zI x) = some (zSH Ln, zup M 48 31 x) := rfl
theorem gf_48_32 (Ln : Nat) (M : Nat → Int → Int) : zgetf (zSH Ln, M) 48 11 32 = some (zR 71) := rfl
theorem gf_48_33 (Ln : Nat) (M : Nat → Int → Int) : zgetf (zSH Ln, M) 48 11 33 = some (zR 72) := rfl
theorem gf_48_34 (Ln : Nat) (M : Nat → Int → Int) : zgetf (zSH Ln, M) 48 11 34 = some (zR 73) := rfl
theorem gf_48_35 (Ln : Nat) (M : Nat → Int → Int) : zgetf (zSH Ln, M) 48 11 35 = some (zR 74) := rfl
theorem gf_48_36 (Ln : Nat) (M : Nat → Int → Int) : zgetf (zSH Ln, M) 48 11 36 = some (zR 75) := rfl
theorem gf_48_37 (Ln : Nat) (M : Nat → Int → Int) : zgetf (zSH Ln, M) 48 11 37 = some (zR 76) := rfl
theorem gf_48_38 (Ln : Nat) (M : Nat → Int → Int) : zgetf (zSH Ln, M) 48 11 38 = some (zR 77) := rfl
theorem gf_48_39 (Ln : Nat) (M : Nat → Int → Int) : zgetf (zSH Ln, M) 48 11 39 = some (zR 78) := rfl
theorem gf_48_40 (Ln : Nat) (M : Nat → Int → Int) : zgetf (zSH Ln, M) 48 11 40 = some (zR 79) := rfl
theorem gf_48_41 (Ln : Nat) (M : Nat → Int → Int) : zgetf (zSH Ln, M) 48 11 41 = some (zI (M 48 41)) := rfl
theorem pf_48_41 (Ln : Nat) (M : Nat → Int → Int) (x : Int) : zputf (zSH Ln, M) 48 11 41 (zI x) = some (zSH Ln, zup M 48 41 x) := rfl
theorem gf_48_42 (Ln : Nat) (M : Nat → Int → Int) : zgetf (zSH Ln, M) 48 11 42 = some (zR 80) := rfl
theorem gf_48_43 (Ln : Nat) (M : Nat → Int → Int) : zgetf (zSH Ln, M) 48 11 43 = some (zR 81) := rfl
theorem gf_48_44 (Ln : Nat) (M : Nat → Int → Int) : zgetf (zSH Ln, M) 48 11 44 = some (zL (M 48 44)) := rfl
theorem pf_48_44 (Ln : Nat) (M : Nat → Int → Int) (x : Int) : zputf (zSH Ln, M) 48 11 44 (zL x) = some (zSH Ln, zup M 48 44 x) := rfl
theorem gf_48_45 (Ln : Nat) (M : Nat → Int → Int) : zgetf (zSH Ln, M) 48 11 45 = some (zL (M 48 45)) := rfl
theorem pf_48_45 (Ln : Nat) (M : Nat → Int → Int) (x : Int) : zputf (zSH Ln, M) 48 11 45 (zL x) = some (zSH Ln, zup M 48 45 x) := rfl
theorem gf_48_46 (Ln : Nat) (M : Nat → Int → Int) : zgetf (zSH Ln, M) 48 11 46 = some (zR 82) := rfl
theorem k_Bl_init_0 : zblk i_Bl_init 0 = [(.aload 0, 0, 0), (.nop, 0, 0), (.aload 0, 0, 0), (.iconst (48), 0, 0), (.newarray .int, 0, 0), (.putfield 0, 0, 2), (.aload 0, 0, 0), (.iconst (48), 0, 0), (.newarray .int, 0, 0), (.putfield 0, 0, 3), (.aload 0, 0, 0), (.iconst (12), 0, 0), (.newarray .int, 0, 0), (.putfield 0, 0, 4), (.aload 0, 0, 0), (.aload 1, 0, 0), (.putfield 0, 0, 0), (.aload 0, 0, 0), (.aload 2, 0, 0), (.putfield 0, 0, 1), (.return_, 0, 0)] := rfl
theorem a_Bl_init : zmA i_Bl_init = 2 := rfl
theorem l_Bl_init : zmL i_Bl_init = 3 := rfl
theorem r_Bl_init : zmR i_Bl_init = none := rfl
theorem o_Bl_init : zmO i_Bl_init = 0 := rfl
theorem k_Bl_prepare_0 : zblk i_Bl_prepare 0 = [(.aload 0, 0, 0), (.iload 1, 0, 0), (.putfield 0, 0, 5), (.iconst (1), 0, 0), (.istore 2, 0, 0), (.iconst (0), 0, 0), (.istore 3, 0, 0), (.goto_w 0, 1, 0)] := rfl
theorem k_Bl_prepare_1 : zblk i_Bl_prepare 1 = [(.iload 3, 0, 0), (.iconst (4), 0, 0), (.if_icmp .ge 0, 10, 0), (.goto_w 0, 2, 0)] := rfl
theorem k_Bl_prepare_2 : zblk i_Bl_prepare 2 = [(.iconst (0), 0, 0), (.istore 4, 0, 0), (.goto_w 0, 3, 0)] := rfl
theorem k_Bl_prepare_3 : zblk i_Bl_prepare 3 = [(.iload 4, 0, 0), (.iconst (12), 0, 0), (.if_icmp .ge 0, 9, 0), (.goto_w 0, 4, 0)] := rfl
theorem k_Bl_prepare_4 : zblk i_Bl_prepare 4 = [(.iload 3, 0, 0), (.aload 0, 0, 0), (.getfield 0, 0, 0), (.getfield 0, 5, 1), (.if_icmp .ge 0, 7, 0), (.goto_w 0, 5, 0)] := rfl
theorem k_Bl_prepare_5 : zblk i_Bl_prepare 5 = [(.aload 0, 0, 0), (.getfield 0, 0, 5), (.iload 3, 0, 0), (.invokestatic 0, 162, 0), (.ifCond .eq 0, 7, 0), (.goto_w 0, 6, 0)] := rfl
theorem k_Bl_prepare_6 : zblk i_Bl_prepare 6 = [(.aload 0, 0, 0), (.getfield 0, 0, 0), (.iload 3, 0, 0), (.iload 4, 0, 0), (.invokevirtual 0, 78, 0), (.goto 0, 8, 0)] := rfl
theorem k_Bl_prepare_7 : zblk i_Bl_prepare 7 = [(.iconst (0), 0, 0), (.goto_w 0, 8, 0)] := rfl
theorem k_Bl_prepare_8 : zblk i_Bl_prepare 8 = [(.istore 5, 0, 0), (.aload 0, 0, 0), (.getfield 0, 0, 3), (.iload 3, 0, 0), (.iconst (12), 0, 0), (.imul, 0, 0), (.iload 4, 0, 0), (.iadd, 0, 0), (.iload 5, 0, 0), (.invokestatic 0, 160, 0), (.iload 2, 0, 0), (.iload 5, 0, 0), (.iconst (1), 0, 0), (.fadd, 0, 0), (.imul, 0, 0), (.iconst (5001), 0, 0), (.fsub, 0, 0), (.istore 2, 0, 0), (.iinc 4 (1), 0, 0), (.goto 0, 3, 0)] := rfl
theorem k_Bl_prepare_9 : zblk i_Bl_prepare 9 = [(.iinc 3 (1), 0, 0), (.goto 0, 1, 0)] := rfl
theorem k_Bl_prepare_10 : zblk i_Bl_prepare 10 = [(.iload 2, 0, 0), (.ireturn, 0, 0)] := rfl
theorem a_Bl_prepare : zmA i_Bl_prepare = 1 := rfl
theorem l_Bl_prepare : zmL i_Bl_prepare = 6 := rfl
theorem r_Bl_prepare : zmR i_Bl_prepare = some .int := rfl
theorem o_Bl_prepare : zmO i_Bl_prepare = 0 := rfl
theorem k_Bl_want_0 : zblk i_Bl_want 0 = [(.aload 0, 0, 0), (.iload 1, 0, 0), (.putfield 0, 0, 6), (.aload 0, 0, 0), (.iload 2, 0, 0), (.putfield 0, 0, 7), (.aload 0, 0, 0), (.iload 3, 0, 0), (.putfield 0, 0, 8), (.return_, 0, 0)] := rfl
theorem a_Bl_want : zmA i_Bl_want = 3 := rfl
theorem l_Bl_want : zmL i_Bl_want = 4 := rfl
theorem r_Bl_want : zmR i_Bl_want = none := rfl
theorem o_Bl_want : zmO i_Bl_want = 0 := rfl
theorem k_Bl_fit_0 : zblk i_Bl_fit 0 = [(.iconst (1), 0, 0), (.iload 1, 0, 0), (.ishl, 0, 0), (.istore 2, 0, 0), (.iconst (0), 0, 0), (.istore 3, 0, 0), (.goto_w 0, 1, 0)] := rfl
theorem k_Bl_fit_1 : zblk i_Bl_fit 1 = [(.iload 3, 0, 0), (.aload 0, 0, 0), (.getfield 0, 0, 0), (.getfield 0, 5, 1), (.if_icmp .ge 0, 9, 0), (.goto_w 0, 2, 0)] := rfl
theorem k_Bl_fit_2 : zblk i_Bl_fit 2 = [(.iconst (0), 0, 0), (.istore 4, 0, 0), (.goto_w 0, 3, 0)] := rfl
theorem k_Bl_fit_3 : zblk i_Bl_fit 3 = [(.iload 4, 0, 0), (.aload 0, 0, 0), (.getfield 0, 0, 0), (.getfield 0, 5, 0), (.if_icmp .ge 0, 8, 0), (.goto_w 0, 4, 0)] := rfl
theorem k_Bl_fit_4 : zblk i_Bl_fit 4 = [(.aload 0, 0, 0), (.getfield 0, 0, 5), (.iload 3, 0, 0), (.invokestatic 0, 162, 0), (.ifCond .eq 0, 7, 0), (.goto_w 0, 5, 0)] := rfl
theorem k_Bl_fit_5 : zblk i_Bl_fit 5 = [(.aload 0, 0, 0), (.getfield 0, 0, 0), (.iload 3, 0, 0), (.iload 4, 0, 0), (.invokevirtual 0, 68, 0), (.aload 0, 0, 0), (.getfield 0, 0, 0), (.iload 3, 0, 0), (.iload 1, 0, 0), (.invokevirtual 0, 68, 0), (.if_icmp .ne 0, 7, 0), (.goto_w 0, 6, 0)] := rfl
theorem k_Bl_fit_6 : zblk i_Bl_fit 6 = [(.iload 2, 0, 0), (.iconst (1), 0, 0), (.iload 4, 0, 0), (.ishl, 0, 0), (.ior, 0, 0), (.istore 2, 0, 0), (.goto_w 0, 7, 0)] := rfl
theorem k_Bl_fit_7 : zblk i_Bl_fit 7 = [(.iinc 4 (1), 0, 0), (.goto 0, 3, 0)] := rfl
theorem k_Bl_fit_8 : zblk i_Bl_fit 8 = [(.iinc 3 (1), 0, 0), (.goto 0, 1, 0)] := rfl
theorem k_Bl_fit_9 : zblk i_Bl_fit 9 = [(.iload 2, 0, 0), (.ireturn, 0, 0)] := rfl
theorem a_Bl_fit : zmA i_Bl_fit = 1 := rfl
theorem l_Bl_fit : zmL i_Bl_fit = 5 := rfl
theorem r_Bl_fit : zmR i_Bl_fit = some .int := rfl
theorem o_Bl_fit : zmO i_Bl_fit = 0 := rfl
theorem k_Bl_search_0 : zblk i_Bl_search 0 = [(.aload 0, 0, 0), (.getfield 0, 0, 2), (.iconst (0), 0, 0), (.invokestatic 0, 263, 0), (.iconst (0), 0, 0), (.istore 2, 0, 0), (.goto_w 0, 1, 0)] := rfl
theorem k_Bl_search_1 : zblk i_Bl_search 1 = [(.iload 2, 0, 0), (.iconst (5000), 0, 0), (.if_icmp .ge 0, 7, 0), (.goto_w 0, 2, 0)] := rfl
theorem k_Bl_search_2 : zblk i_Bl_search 2 = [(.aload 0, 0, 0), (.iload 1, 0, 0), (.invokevirtual 0, 6, 0), (.ifCond .eq 0, 4, 0), (.goto_w 0, 3, 0)] := rfl
theorem k_Bl_search_3 : zblk i_Bl_search 3 = [(.iconst (1), 0, 0), (.ireturn, 0, 0)] := rfl
theorem k_Bl_search_4 : zblk i_Bl_search 4 = [(.aload 0, 0, 0), (.invokevirtual 0, 5, 0), (.ifCond .ne 0, 6, 0), (.goto_w 0, 5, 0)] := rfl
theorem k_Bl_search_5 : zblk i_Bl_search 5 = [(.iconst (0), 0, 0), (.ireturn, 0, 0)] := rfl
theorem k_Bl_search_6 : zblk i_Bl_search 6 = [(.iinc 2 (1), 0, 0), (.goto 0, 1, 0)] := rfl
theorem k_Bl_search_7 : zblk i_Bl_search 7 = [(.iconst (0), 0, 0), (.ireturn, 0, 0)] := rfl
theorem a_Bl_search : zmA i_Bl_search = 1 := rfl
theorem l_Bl_search : zmL i_Bl_search = 3 := rfl
theorem r_Bl_search : zmR i_Bl_search = some .boolean := rfl
theorem o_Bl_search : zmO i_Bl_search = 0 := rfl
theorem k_Bl_advance_0 : zblk i_Bl_advance 0 = [(.iconst (47), 0, 0), (.istore 1, 0, 0), (.goto_w 0, 1, 0)] := rfl
theorem k_Bl_advance_1 : zblk i_Bl_advance 1 = [(.iload 1, 0, 0), (.ifCond .lt 0, 5, 0), (.goto_w 0, 2, 0)] := rfl
theorem k_Bl_advance_2 : zblk i_Bl_advance 2 = [(.aload 0, 0, 0), (.getfield 0, 0, 2), (.iload 1, 0, 0), (.invokestatic 0, 159, 0), (.iconst (1), 0, 0), (.iadd, 0, 0), (.aload 0, 0, 0), (.getfield 0, 0, 3), (.iload 1, 0, 0), (.invokestatic 0, 159, 0), (.if_icmp .ge 0, 4, 0), (.goto_w 0, 3, 0)] := rfl
theorem k_Bl_advance_3 : zblk i_Bl_advance 3 = [(.aload 0, 0, 0), (.getfield 0, 0, 2), (.iload 1, 0, 0), (.aload 0, 0, 0), (.getfield 0, 0, 2), (.iload 1, 0, 0), (.invokestatic 0, 159, 0), (.iconst (1), 0, 0), (.iadd, 0, 0), (.invokestatic 0, 160, 0), (.iconst (1), 0, 0), (.ireturn, 0, 0)] := rfl
theorem k_Bl_advance_4 : zblk i_Bl_advance 4 = [(.aload 0, 0, 0), (.getfield 0, 0, 2), (.iload 1, 0, 0), (.iconst (0), 0, 0), (.invokestatic 0, 160, 0), (.iinc 1 (-1), 0, 0), (.goto 0, 1, 0)] := rfl
theorem k_Bl_advance_5 : zblk i_Bl_advance 5 = [(.iconst (0), 0, 0), (.ireturn, 0, 0)] := rfl
theorem a_Bl_advance : zmA i_Bl_advance = 0 := rfl
theorem l_Bl_advance : zmL i_Bl_advance = 2 := rfl
theorem r_Bl_advance : zmR i_Bl_advance = some .boolean := rfl
theorem o_Bl_advance : zmO i_Bl_advance = 0 := rfl
theorem k_Bl_does_0 : zblk i_Bl_does 0 = [(.aload 0, 0, 0), (.iload 1, 0, 0), (.invokevirtual 0, 7, 0), (.istore 2, 0, 0), (.aload 0, 0, 0), (.getfield 0, 0, 6), (.tableswitch 17 (5) (9) #[1, 5, 17, 13, 9], 0, 0)] := rfl
theorem k_Bl_does_1 : zblk i_Bl_does 1 = [(.aload 0, 0, 0), (.iload 1, 0, 0), (.invokevirtual 0, 9, 0), (.aload 0, 0, 0), (.getfield 0, 0, 7), (.iconst (-1), 0, 0), (.ixor, 0, 0), (.iand, 0, 0), (.ifCond .ne 0, 3, 0), (.goto_w 0, 2, 0)] := rfl
theorem k_Bl_does_2 : zblk i_Bl_does 2 = [(.iconst (1), 0, 0), (.goto 0, 4, 0)] := rfl
theorem k_Bl_does_3 : zblk i_Bl_does 3 = [(.iconst (0), 0, 0), (.goto_w 0, 4, 0)] := rfl
theorem k_Bl_does_4 : zblk i_Bl_does 4 = [(.ireturn, 0, 0)] := rfl
theorem k_Bl_does_5 : zblk i_Bl_does 5 = [(.iload 2, 0, 0), (.aload 0, 0, 0), (.getfield 0, 0, 7), (.iconst (-1), 0, 0), (.ixor, 0, 0), (.iand, 0, 0), (.ifCond .ne 0, 7, 0), (.goto_w 0, 6, 0)] := rfl
theorem k_Bl_does_6 : zblk i_Bl_does 6 = [(.iconst (1), 0, 0), (.goto 0, 8, 0)] := rfl
theorem k_Bl_does_7 : zblk i_Bl_does 7 = [(.iconst (0), 0, 0), (.goto_w 0, 8, 0)] := rfl
theorem k_Bl_does_8 : zblk i_Bl_does 8 = [(.ireturn, 0, 0)] := rfl
theorem k_Bl_does_9 : zblk i_Bl_does 9 = [(.aload 0, 0, 0), (.iload 2, 0, 0), (.aload 0, 0, 0), (.getfield 0, 0, 7), (.iconst (-1), 0, 0), (.ixor, 0, 0), (.iand, 0, 0), (.invokevirtual 0, 10, 0), (.ifCond .ne 0, 11, 0), (.goto_w 0, 10, 0)] := rfl
theorem k_Bl_does_10 : zblk i_Bl_does 10 = [(.iconst (1), 0, 0), (.goto 0, 12, 0)] := rfl
theorem k_Bl_does_11 : zblk i_Bl_does 11 = [(.iconst (0), 0, 0), (.goto_w 0, 12, 0)] := rfl
theorem k_Bl_does_12 : zblk i_Bl_does 12 = [(.ireturn, 0, 0)] := rfl
theorem k_Bl_does_13 : zblk i_Bl_does 13 = [(.iload 1, 0, 0), (.aload 0, 0, 0), (.iload 2, 0, 0), (.aload 0, 0, 0), (.getfield 0, 0, 7), (.iand, 0, 0), (.aload 0, 0, 0), (.getfield 0, 0, 8), (.invokevirtual 0, 11, 0), (.iconst (-1), 0, 0), (.ixor, 0, 0), (.iand, 0, 0), (.ifCond .ne 0, 15, 0), (.goto_w 0, 14, 0)] := rfl
theorem k_Bl_does_14 : zblk i_Bl_does 14 = [(.iconst (1), 0, 0), (.goto 0, 16, 0)] := rfl
theorem k_Bl_does_15 : zblk i_Bl_does 15 = [(.iconst (0), 0, 0), (.goto_w 0, 16, 0)] := rfl
theorem k_Bl_does_16 : zblk i_Bl_does 16 = [(.ireturn, 0, 0)] := rfl
theorem k_Bl_does_17 : zblk i_Bl_does 17 = [(.iload 1, 0, 0), (.aload 0, 0, 0), (.iload 2, 0, 0), (.aload 0, 0, 0), (.getfield 0, 0, 7), (.invokevirtual 0, 11, 0), (.iconst (-1), 0, 0), (.ixor, 0, 0), (.iand, 0, 0), (.ifCond .ne 0, 19, 0), (.goto_w 0, 18, 0)] := rfl
theorem k_Bl_does_18 : zblk i_Bl_does 18 = [(.iconst (1), 0, 0), (.goto 0, 20, 0)] := rfl
theorem k_Bl_does_19 : zblk i_Bl_does 19 = [(.iconst (0), 0, 0), (.goto_w 0, 20, 0)] := rfl
theorem k_Bl_does_20 : zblk i_Bl_does 20 = [(.ireturn, 0, 0)] := rfl
theorem a_Bl_does : zmA i_Bl_does = 1 := rfl
theorem l_Bl_does : zmL i_Bl_does = 3 := rfl
theorem r_Bl_does : zmR i_Bl_does = some .boolean := rfl
theorem o_Bl_does : zmO i_Bl_does = 0 := rfl
theorem k_Bl_spread_0 : zblk i_Bl_spread 0 = [(.iload 1, 0, 0), (.istore 2, 0, 0), (.iload 1, 0, 0), (.istore 3, 0, 0), (.iconst (0), 0, 0), (.istore 4, 0, 0), (.goto_w 0, 1, 0)] := rfl
theorem k_Bl_spread_1 : zblk i_Bl_spread 1 = [(.iload 4, 0, 0), (.iconst (12), 0, 0), (.if_icmp .ge 0, 4, 0), (.goto_w 0, 2, 0)] := rfl
theorem k_Bl_spread_2 : zblk i_Bl_spread 2 = [(.iload 3, 0, 0), (.ifCond .eq 0, 4, 0), (.goto_w 0, 3, 0)] := rfl
theorem k_Bl_spread_3 : zblk i_Bl_spread 3 = [(.iload 3, 0, 0), (.invokestatic 0, 163, 0), (.istore 5, 0, 0), (.aload 0, 0, 0), (.iload 5, 0, 0), (.invokevirtual 0, 8, 0), (.istore 6, 0, 0), (.aload 0, 0, 0), (.getfield 0, 0, 4), (.iload 5, 0, 0), (.iload 6, 0, 0), (.invokestatic 0, 160, 0), (.iload 3, 0, 0), (.iconst (1), 0, 0), (.iload 5, 0, 0), (.ishl, 0, 0), (.iconst (-1), 0, 0), (.ixor, 0, 0), (.iand, 0, 0), (.iload 6, 0, 0), (.iload 2, 0, 0), (.iconst (-1), 0, 0), (.ixor, 0, 0), (.iand, 0, 0), (.ior, 0, 0), (.istore 3, 0, 0), (.iload 2, 0, 0), (.iload 6, 0, 0), (.ior, 0, 0), (.istore 2, 0, 0), (.iinc 4 (1), 0, 0), (.goto 0, 1, 0)] := rfl
theorem k_Bl_spread_4 : zblk i_Bl_spread 4 = [(.iload 2, 0, 0), (.ireturn, 0, 0)] := rfl
theorem a_Bl_spread : zmA i_Bl_spread = 1 := rfl
theorem l_Bl_spread : zmL i_Bl_spread = 7 := rfl
theorem r_Bl_spread : zmR i_Bl_spread = some .int := rfl
theorem o_Bl_spread : zmO i_Bl_spread = 0 := rfl
theorem k_Bl_endsBy_0 : zblk i_Bl_endsBy 0 = [(.iconst (0), 0, 0), (.istore 2, 0, 0), (.iconst (0), 0, 0), (.istore 3, 0, 0), (.goto_w 0, 1, 0)] := rfl
theorem k_Bl_endsBy_1 : zblk i_Bl_endsBy 1 = [(.iload 3, 0, 0), (.aload 0, 0, 0), (.getfield 0, 0, 0), (.getfield 0, 5, 1), (.if_icmp .ge 0, 5, 0), (.goto_w 0, 2, 0)] := rfl
theorem k_Bl_endsBy_2 : zblk i_Bl_endsBy 2 = [(.aload 0, 0, 0), (.getfield 0, 0, 5), (.iload 3, 0, 0), (.invokestatic 0, 162, 0), (.ifCond .eq 0, 4, 0), (.goto_w 0, 3, 0)] := rfl
theorem k_Bl_endsBy_3 : zblk i_Bl_endsBy 3 = [(.aload 0, 0, 0), (.getfield 0, 0, 2), (.iload 3, 0, 0), (.iconst (12), 0, 0), (.imul, 0, 0), (.aload 0, 0, 0), (.getfield 0, 0, 0), (.getfield 0, 5, 8), (.iload 3, 0, 0), (.iconst (12), 0, 0), (.imul, 0, 0), (.iload 1, 0, 0), (.iadd, 0, 0), (.invokestatic 0, 159, 0), (.iadd, 0, 0), (.invokestatic 0, 159, 0), (.istore 4, 0, 0), (.iload 2, 0, 0), (.aload 0, 0, 0), (.getfield 0, 0, 0), (.getfield 0, 5, 3), (.iload 1, 0, 0), (.iconst (4), 0, 0), (.imul, 0, 0), (.iload 3, 0, 0), (.iadd, 0, 0), (.invokestatic 0, 159, 0), (.imul, 0, 0), (.iload 4, 0, 0), (.iadd, 0, 0), (.istore 2, 0, 0), (.goto_w 0, 4, 0)] := rfl
theorem k_Bl_endsBy_4 : zblk i_Bl_endsBy 4 = [(.iinc 3 (1), 0, 0), (.goto 0, 1, 0)] := rfl
theorem k_Bl_endsBy_5 : zblk i_Bl_endsBy 5 = [(.aload 0, 0, 0), (.getfield 0, 0, 1), (.getfield 0, 8, 1), (.iload 1, 0, 0), (.iconst (81), 0, 0), (.imul, 0, 0), (.iload 2, 0, 0), (.iadd, 0, 0), (.invokestatic 0, 159, 0), (.ireturn, 0, 0)] := rfl
theorem a_Bl_endsBy : zmA i_Bl_endsBy = 1 := rfl
theorem l_Bl_endsBy : zmL i_Bl_endsBy = 5 := rfl
theorem r_Bl_endsBy : zmR i_Bl_endsBy = some .int := rfl
theorem o_Bl_endsBy : zmO i_Bl_endsBy = 0 := rfl
theorem k_Bl_endsOfAll_0 : zblk i_Bl_endsOfAll 0 = [(.iconst (0), 0, 0), (.istore 2, 0, 0), (.iconst (0), 0, 0), (.istore 3, 0, 0), (.goto_w 0, 1, 0)] := rfl
theorem k_Bl_endsOfAll_1 : zblk i_Bl_endsOfAll 1 = [(.iload 3, 0, 0), (.aload 0, 0, 0), (.getfield 0, 0, 0), (.getfield 0, 5, 0), (.if_icmp .ge 0, 5, 0), (.goto_w 0, 2, 0)] := rfl
theorem k_Bl_endsOfAll_2 : zblk i_Bl_endsOfAll 2 = [(.iload 1, 0, 0), (.iload 3, 0, 0), (.invokestatic 0, 162, 0), (.ifCond .eq 0, 4, 0), (.goto_w 0, 3, 0)] := rfl
theorem k_Bl_endsOfAll_3 : zblk i_Bl_endsOfAll 3 = [(.iload 2, 0, 0), (.aload 0, 0, 0), (.getfield 0, 0, 4), (.iload 3, 0, 0), (.invokestatic 0, 159, 0), (.ior, 0, 0), (.istore 2, 0, 0), (.goto_w 0, 4, 0)] := rfl
theorem k_Bl_endsOfAll_4 : zblk i_Bl_endsOfAll 4 = [(.iinc 3 (1), 0, 0), (.goto 0, 1, 0)] := rfl
theorem k_Bl_endsOfAll_5 : zblk i_Bl_endsOfAll 5 = [(.iload 2, 0, 0), (.ireturn, 0, 0)] := rfl
theorem a_Bl_endsOfAll : zmA i_Bl_endsOfAll = 1 := rfl
theorem l_Bl_endsOfAll : zmL i_Bl_endsOfAll = 4 := rfl
theorem r_Bl_endsOfAll : zmR i_Bl_endsOfAll = some .int := rfl
theorem o_Bl_endsOfAll : zmO i_Bl_endsOfAll = 0 := rfl
theorem k_Bl_staying_0 : zblk i_Bl_staying 0 = [(.iload 1, 0, 0), (.istore 2, 0, 0), (.iconst (0), 0, 0), (.istore 3, 0, 0), (.goto_w 0, 1, 0)] := rfl
theorem k_Bl_staying_1 : zblk i_Bl_staying 1 = [(.iload 3, 0, 0), (.iconst (12), 0, 0), (.if_icmp .ge 0, 9, 0), (.goto_w 0, 2, 0)] := rfl
theorem k_Bl_staying_2 : zblk i_Bl_staying 2 = [(.iconst (0), 0, 0), (.istore 4, 0, 0), (.goto_w 0, 3, 0)] := rfl
theorem k_Bl_staying_3 : zblk i_Bl_staying 3 = [(.iload 4, 0, 0), (.aload 0, 0, 0), (.getfield 0, 0, 0), (.getfield 0, 5, 0), (.if_icmp .ge 0, 8, 0), (.goto_w 0, 4, 0)] := rfl
theorem k_Bl_staying_4 : zblk i_Bl_staying 4 = [(.iload 2, 0, 0), (.iload 4, 0, 0), (.invokestatic 0, 162, 0), (.ifCond .eq 0, 7, 0), (.goto_w 0, 5, 0)] := rfl
theorem k_Bl_staying_5 : zblk i_Bl_staying 5 = [(.aload 0, 0, 0), (.getfield 0, 0, 4), (.iload 4, 0, 0), (.invokestatic 0, 159, 0), (.iload 2, 0, 0), (.iand, 0, 0), (.ifCond .ne 0, 7, 0), (.goto_w 0, 6, 0)] := rfl
theorem k_Bl_staying_6 : zblk i_Bl_staying 6 = [(.iload 2, 0, 0), (.iconst (1), 0, 0), (.iload 4, 0, 0), (.ishl, 0, 0), (.iconst (-1), 0, 0), (.ixor, 0, 0), (.iand, 0, 0), (.istore 2, 0, 0), (.goto_w 0, 7, 0)] := rfl
theorem k_Bl_staying_7 : zblk i_Bl_staying 7 = [(.iinc 4 (1), 0, 0), (.goto 0, 3, 0)] := rfl
theorem k_Bl_staying_8 : zblk i_Bl_staying 8 = [(.iinc 3 (1), 0, 0), (.goto 0, 1, 0)] := rfl
theorem k_Bl_staying_9 : zblk i_Bl_staying 9 = [(.iload 2, 0, 0), (.ireturn, 0, 0)] := rfl
theorem a_Bl_staying : zmA i_Bl_staying = 1 := rfl
theorem l_Bl_staying : zmL i_Bl_staying = 5 := rfl
theorem r_Bl_staying : zmR i_Bl_staying = some .int := rfl
theorem o_Bl_staying : zmO i_Bl_staying = 0 := rfl
theorem k_Bl_sure_0 : zblk i_Bl_sure 0 = [(.iload 2, 0, 0), (.istore 3, 0, 0), (.iconst (0), 0, 0), (.istore 4, 0, 0), (.goto_w 0, 1, 0)] := rfl
theorem k_Bl_sure_1 : zblk i_Bl_sure 1 = [(.iload 4, 0, 0), (.iconst (12), 0, 0), (.if_icmp .ge 0, 9, 0), (.goto_w 0, 2, 0)] := rfl
theorem k_Bl_sure_2 : zblk i_Bl_sure 2 = [(.iconst (0), 0, 0), (.istore 5, 0, 0), (.goto_w 0, 3, 0)] := rfl
theorem k_Bl_sure_3 : zblk i_Bl_sure 3 = [(.iload 5, 0, 0), (.aload 0, 0, 0), (.getfield 0, 0, 0), (.getfield 0, 5, 0), (.if_icmp .ge 0, 8, 0), (.goto_w 0, 4, 0)] := rfl
theorem k_Bl_sure_4 : zblk i_Bl_sure 4 = [(.iload 1, 0, 0), (.iload 5, 0, 0), (.invokestatic 0, 162, 0), (.ifCond .eq 0, 7, 0), (.goto_w 0, 5, 0)] := rfl
theorem k_Bl_sure_5 : zblk i_Bl_sure 5 = [(.aload 0, 0, 0), (.getfield 0, 0, 4), (.iload 5, 0, 0), (.invokestatic 0, 159, 0), (.iload 3, 0, 0), (.iconst (-1), 0, 0), (.ixor, 0, 0), (.iand, 0, 0), (.ifCond .ne 0, 7, 0), (.goto_w 0, 6, 0)] := rfl
theorem k_Bl_sure_6 : zblk i_Bl_sure 6 = [(.iload 3, 0, 0), (.iconst (1), 0, 0), (.iload 5, 0, 0), (.ishl, 0, 0), (.ior, 0, 0), (.istore 3, 0, 0), (.goto_w 0, 7, 0)] := rfl
theorem k_Bl_sure_7 : zblk i_Bl_sure 7 = [(.iinc 5 (1), 0, 0), (.goto 0, 3, 0)] := rfl
theorem k_Bl_sure_8 : zblk i_Bl_sure 8 = [(.iinc 4 (1), 0, 0), (.goto 0, 1, 0)] := rfl
theorem k_Bl_sure_9 : zblk i_Bl_sure 9 = [(.iload 3, 0, 0), (.ireturn, 0, 0)] := rfl
theorem a_Bl_sure : zmA i_Bl_sure = 2 := rfl
theorem l_Bl_sure : zmL i_Bl_sure = 6 := rfl
theorem r_Bl_sure : zmR i_Bl_sure = some .int := rfl
theorem o_Bl_sure : zmO i_Bl_sure = 0 := rfl
theorem k_Fo_init_0 : zblk i_Fo_init 0 = [(.aload 0, 0, 0), (.nop, 0, 0), (.aload 0, 0, 0), (.iconst (24), 0, 0), (.newarray .int, 0, 0), (.putfield 0, 1, 2), (.aload 0, 0, 0), (.iconst (24), 0, 0), (.newarray .int, 0, 0), (.putfield 0, 1, 3), (.aload 0, 0, 0), (.iconst (24), 0, 0), (.newarray .int, 0, 0), (.putfield 0, 1, 4), (.aload 0, 0, 0), (.iconst (24), 0, 0), (.newarray .int, 0, 0), (.putfield 0, 1, 5), (.aload 0, 0, 0), (.invokevirtual 0, 13, 0), (.return_, 0, 0)] := rfl
theorem a_Fo_init : zmA i_Fo_init = 0 := rfl
theorem l_Fo_init : zmL i_Fo_init = 1 := rfl
theorem r_Fo_init : zmR i_Fo_init = none := rfl
theorem o_Fo_init : zmO i_Fo_init = 1 := rfl
theorem k_Fo_becomeTrue_0 : zblk i_Fo_becomeTrue 0 = [(.aload 0, 0, 0), (.invokevirtual 0, 14, 0), (.aload 0, 0, 0), (.aload 0, 0, 0), (.iconst (0), 0, 0), (.invokevirtual 0, 15, 0), (.iconst (0), 0, 0), (.iconst (0), 0, 0), (.iconst (0), 0, 0), (.invokevirtual 0, 16, 0), (.return_, 0, 0)] := rfl
theorem a_Fo_becomeTrue : zmA i_Fo_becomeTrue = 0 := rfl
theorem l_Fo_becomeTrue : zmL i_Fo_becomeTrue = 1 := rfl
theorem r_Fo_becomeTrue : zmR i_Fo_becomeTrue = none := rfl
theorem o_Fo_becomeTrue : zmO i_Fo_becomeTrue = 1 := rfl
theorem k_Fo_clear_0 : zblk i_Fo_clear 0 = [(.aload 0, 0, 0), (.iconst (0), 0, 0), (.putfield 0, 1, 0), (.aload 0, 0, 0), (.dup, 0, 0), (.getfield 0, 1, 1), (.iconst (1), 0, 0), (.iadd, 0, 0), (.putfield 0, 1, 1), (.return_, 0, 0)] := rfl
theorem a_Fo_clear : zmA i_Fo_clear = 0 := rfl
theorem l_Fo_clear : zmL i_Fo_clear = 1 := rfl
theorem r_Fo_clear : zmR i_Fo_clear = none := rfl
theorem o_Fo_clear : zmO i_Fo_clear = 1 := rfl
theorem k_Fo_add_0 : zblk i_Fo_add 0 = [(.aload 0, 0, 0), (.getfield 0, 1, 0), (.istore 2, 0, 0), (.aload 0, 0, 0), (.getfield 0, 1, 5), (.iload 2, 0, 0), (.iload 1, 0, 0), (.invokestatic 0, 160, 0), (.aload 0, 0, 0), (.dup, 0, 0), (.getfield 0, 1, 0), (.iconst (1), 0, 0), (.iadd, 0, 0), (.putfield 0, 1, 0), (.iload 2, 0, 0), (.ireturn, 0, 0)] := rfl
theorem a_Fo_add : zmA i_Fo_add = 1 := rfl
theorem l_Fo_add : zmL i_Fo_add = 3 := rfl
theorem r_Fo_add : zmR i_Fo_add = some .int := rfl
theorem o_Fo_add : zmO i_Fo_add = 1 := rfl
theorem k_Fo_set_0 : zblk i_Fo_set 0 = [(.aload 0, 0, 0), (.getfield 0, 1, 2), (.iload 1, 0, 0), (.iload 2, 0, 0), (.invokestatic 0, 160, 0), (.aload 0, 0, 0), (.getfield 0, 1, 3), (.iload 1, 0, 0), (.iload 3, 0, 0), (.invokestatic 0, 160, 0), (.aload 0, 0, 0), (.getfield 0, 1, 4), (.iload 1, 0, 0), (.iload 4, 0, 0), (.invokestatic 0, 160, 0), (.return_, 0, 0)] := rfl
theorem a_Fo_set : zmA i_Fo_set = 4 := rfl
theorem l_Fo_set : zmL i_Fo_set = 5 := rfl
theorem r_Fo_set : zmR i_Fo_set = none := rfl
theorem o_Fo_set : zmO i_Fo_set = 1 := rfl
theorem k_Fo_become_0 : zblk i_Fo_become 0 = [(.aload 0, 0, 0), (.invokevirtual 0, 14, 0), (.iconst (0), 0, 0), (.istore 2, 0, 0), (.goto_w 0, 1, 0)] := rfl
theorem k_Fo_become_1 : zblk i_Fo_become 1 = [(.iload 2, 0, 0), (.aload 1, 0, 0), (.getfield 0, 1, 0), (.if_icmp .ge 0, 3, 0), (.goto_w 0, 2, 0)] := rfl
theorem k_Fo_become_2 : zblk i_Fo_become 2 = [(.aload 0, 0, 0), (.aload 0, 0, 0), (.aload 1, 0, 0), (.iload 2, 0, 0), (.invokevirtual 0, 21, 0), (.invokevirtual 0, 15, 0), (.aload 1, 0, 0), (.iload 2, 0, 0), (.invokevirtual 0, 18, 0), (.aload 1, 0, 0), (.iload 2, 0, 0), (.invokevirtual 0, 19, 0), (.aload 1, 0, 0), (.iload 2, 0, 0), (.invokevirtual 0, 20, 0), (.invokevirtual 0, 16, 0), (.iinc 2 (1), 0, 0), (.goto 0, 1, 0)] := rfl
theorem k_Fo_become_3 : zblk i_Fo_become 3 = [(.return_, 0, 0)] := rfl
theorem a_Fo_become : zmA i_Fo_become = 1 := rfl
theorem l_Fo_become : zmL i_Fo_become = 3 := rfl
theorem r_Fo_become : zmR i_Fo_become = none := rfl
theorem o_Fo_become : zmO i_Fo_become = 1 := rfl
theorem k_Fo_kind_0 : zblk i_Fo_kind 0 = [(.aload 0, 0, 0), (.getfield 0, 1, 2), (.iload 1, 0, 0), (.invokestatic 0, 159, 0), (.ireturn, 0, 0)] := rfl
theorem a_Fo_kind : zmA i_Fo_kind = 1 := rfl
theorem l_Fo_kind : zmL i_Fo_kind = 2 := rfl
theorem r_Fo_kind : zmR i_Fo_kind = some .int := rfl
theorem o_Fo_kind : zmO i_Fo_kind = 1 := rfl
theorem k_Fo_left_0 : zblk i_Fo_left 0 = [(.aload 0, 0, 0), (.getfield 0, 1, 3), (.iload 1, 0, 0), (.invokestatic 0, 159, 0), (.ireturn, 0, 0)] := rfl
theorem a_Fo_left : zmA i_Fo_left = 1 := rfl
theorem l_Fo_left : zmL i_Fo_left = 2 := rfl
theorem r_Fo_left : zmR i_Fo_left = some .int := rfl
theorem o_Fo_left : zmO i_Fo_left = 1 := rfl
theorem k_Fo_right_0 : zblk i_Fo_right 0 = [(.aload 0, 0, 0), (.getfield 0, 1, 4), (.iload 1, 0, 0), (.invokestatic 0, 159, 0), (.ireturn, 0, 0)] := rfl
theorem a_Fo_right : zmA i_Fo_right = 1 := rfl
theorem l_Fo_right : zmL i_Fo_right = 2 := rfl
theorem r_Fo_right : zmR i_Fo_right = some .int := rfl
theorem o_Fo_right : zmO i_Fo_right = 1 := rfl
theorem k_Fo_group_0 : zblk i_Fo_group 0 = [(.aload 0, 0, 0), (.getfield 0, 1, 5), (.iload 1, 0, 0), (.invokestatic 0, 159, 0), (.ireturn, 0, 0)] := rfl
theorem a_Fo_group : zmA i_Fo_group = 1 := rfl
theorem l_Fo_group : zmL i_Fo_group = 2 := rfl
theorem r_Fo_group : zmR i_Fo_group = some .int := rfl
theorem o_Fo_group : zmO i_Fo_group = 1 := rfl
theorem k_Fo_isLaw_0 : zblk i_Fo_isLaw 0 = [(.aload 0, 0, 0), (.iload 1, 0, 0), (.invokevirtual 0, 18, 0), (.iconst (5), 0, 0), (.if_icmp .lt 0, 2, 0), (.goto_w 0, 1, 0)] := rfl
theorem k_Fo_isLaw_1 : zblk i_Fo_isLaw 1 = [(.iconst (1), 0, 0), (.goto 0, 3, 0)] := rfl
theorem k_Fo_isLaw_2 : zblk i_Fo_isLaw 2 = [(.iconst (0), 0, 0), (.goto_w 0, 3, 0)] := rfl
theorem k_Fo_isLaw_3 : zblk i_Fo_isLaw 3 = [(.ireturn, 0, 0)] := rfl
theorem a_Fo_isLaw : zmA i_Fo_isLaw = 1 := rfl
theorem l_Fo_isLaw : zmL i_Fo_isLaw = 2 := rfl
theorem r_Fo_isLaw : zmR i_Fo_isLaw = some .boolean := rfl
theorem o_Fo_isLaw : zmO i_Fo_isLaw = 1 := rfl
theorem k_Fo_isOfGroup_0 : zblk i_Fo_isOfGroup 0 = [(.aload 0, 0, 0), (.iconst (0), 0, 0), (.invokevirtual 0, 22, 0), (.ireturn, 0, 0)] := rfl
theorem a_Fo_isOfGroup : zmA i_Fo_isOfGroup = 0 := rfl
theorem l_Fo_isOfGroup : zmL i_Fo_isOfGroup = 1 := rfl
theorem r_Fo_isOfGroup : zmR i_Fo_isOfGroup = some .boolean := rfl
theorem o_Fo_isOfGroup : zmO i_Fo_isOfGroup = 1 := rfl
theorem k_Fo_hasRounds_0 : zblk i_Fo_hasRounds 0 = [(.aload 0, 0, 0), (.iconst (0), 0, 0), (.invokevirtual 0, 18, 0), (.iconst (7), 0, 0), (.if_icmp .lt 0, 2, 0), (.goto_w 0, 1, 0)] := rfl
theorem k_Fo_hasRounds_1 : zblk i_Fo_hasRounds 1 = [(.iconst (1), 0, 0), (.goto 0, 3, 0)] := rfl
theorem k_Fo_hasRounds_2 : zblk i_Fo_hasRounds 2 = [(.iconst (0), 0, 0), (.goto_w 0, 3, 0)] := rfl
theorem k_Fo_hasRounds_3 : zblk i_Fo_hasRounds 3 = [(.ireturn, 0, 0)] := rfl
theorem a_Fo_hasRounds : zmA i_Fo_hasRounds = 0 := rfl
theorem l_Fo_hasRounds : zmL i_Fo_hasRounds = 1 := rfl
theorem r_Fo_hasRounds : zmR i_Fo_hasRounds = some .boolean := rfl
theorem o_Fo_hasRounds : zmO i_Fo_hasRounds = 1 := rfl
theorem k_Fo_hasToll_0 : zblk i_Fo_hasToll 0 = [(.aload 0, 0, 0), (.iconst (0), 0, 0), (.invokevirtual 0, 18, 0), (.iconst (7), 0, 0), (.if_icmp .eq 0, 2, 0), (.goto_w 0, 1, 0)] := rfl
theorem k_Fo_hasToll_1 : zblk i_Fo_hasToll 1 = [(.aload 0, 0, 0), (.iconst (0), 0, 0), (.invokevirtual 0, 18, 0), (.iconst (8), 0, 0), (.if_icmp .ne 0, 3, 0), (.goto_w 0, 2, 0)] := rfl
theorem k_Fo_hasToll_2 : zblk i_Fo_hasToll 2 = [(.iconst (1), 0, 0), (.goto 0, 4, 0)] := rfl
theorem k_Fo_hasToll_3 : zblk i_Fo_hasToll 3 = [(.iconst (0), 0, 0), (.goto_w 0, 4, 0)] := rfl
theorem k_Fo_hasToll_4 : zblk i_Fo_hasToll 4 = [(.ireturn, 0, 0)] := rfl
theorem a_Fo_hasToll : zmA i_Fo_hasToll = 0 := rfl
theorem l_Fo_hasToll : zmL i_Fo_hasToll = 1 := rfl
theorem r_Fo_hasToll : zmR i_Fo_hasToll = some .boolean := rfl
theorem o_Fo_hasToll : zmO i_Fo_hasToll = 1 := rfl
theorem k_Go_init_0 : zblk i_Go_init 0 = [(.aload 0, 0, 0), (.nop, 0, 0), (.aload 0, 0, 0), (.iconst (4), 0, 0), (.newarray .int, 0, 0), (.putfield 0, 2, 1), (.aload 0, 0, 0), (.iconst (48), 0, 0), (.newarray .int, 0, 0), (.putfield 0, 2, 2), (.aload 0, 0, 0), (.aload 1, 0, 0), (.putfield 0, 2, 0), (.return_, 0, 0)] := rfl
theorem a_Go_init : zmA i_Go_init = 1 := rfl
theorem l_Go_init : zmL i_Go_init = 2 := rfl
theorem r_Go_init : zmR i_Go_init = none := rfl
theorem o_Go_init : zmO i_Go_init = 2 := rfl
theorem k_Go_forget_0 : zblk i_Go_forget 0 = [(.aload 0, 0, 0), (.getfield 0, 2, 1), (.iconst (0), 0, 0), (.invokestatic 0, 263, 0), (.return_, 0, 0)] := rfl
theorem a_Go_forget : zmA i_Go_forget = 0 := rfl
theorem l_Go_forget : zmL i_Go_forget = 1 := rfl
theorem r_Go_forget : zmR i_Go_forget = none := rfl
theorem o_Go_forget : zmO i_Go_forget = 2 := rfl
theorem k_Go_passed_0 : zblk i_Go_passed 0 = [(.iconst (0), 0, 0), (.istore 3, 0, 0), (.iload 2, 0, 0), (.istore 4, 0, 0), (.iconst (0), 0, 0), (.istore 5, 0, 0), (.goto_w 0, 1, 0)] := rfl
theorem k_Go_passed_1 : zblk i_Go_passed 1 = [(.iload 5, 0, 0), (.iconst (12), 0, 0), (.if_icmp .ge 0, 4, 0), (.goto_w 0, 2, 0)] := rfl
theorem k_Go_passed_2 : zblk i_Go_passed 2 = [(.iload 3, 0, 0), (.iload 4, 0, 0), (.invokestatic 0, 162, 0), (.ifCond .ne 0, 4, 0), (.goto_w 0, 3, 0)] := rfl
theorem k_Go_passed_3 : zblk i_Go_passed 3 = [(.iload 3, 0, 0), (.iconst (1), 0, 0), (.iload 4, 0, 0), (.ishl, 0, 0), (.ior, 0, 0), (.istore 3, 0, 0), (.aload 0, 0, 0), (.getfield 0, 2, 0), (.aload 1, 0, 0), (.iload 4, 0, 0), (.iconst (-1), 0, 0), (.iconst (0), 0, 0), (.invokevirtual 0, 79, 0), (.istore 4, 0, 0), (.iinc 5 (1), 0, 0), (.goto 0, 1, 0)] := rfl
theorem k_Go_passed_4 : zblk i_Go_passed 4 = [(.iload 3, 0, 0), (.ireturn, 0, 0)] := rfl
theorem a_Go_passed : zmA i_Go_passed = 2 := rfl
theorem l_Go_passed : zmL i_Go_passed = 6 := rfl
theorem r_Go_passed : zmR i_Go_passed = some .int := rfl
theorem o_Go_passed : zmO i_Go_passed = 2 := rfl
theorem k_Go_meeting_0 : zblk i_Go_meeting 0 = [(.iconst (0), 0, 0), (.istore 2, 0, 0), (.iconst (0), 0, 0), (.istore 3, 0, 0), (.goto_w 0, 1, 0)] := rfl
theorem k_Go_meeting_1 : zblk i_Go_meeting 1 = [(.iload 3, 0, 0), (.aload 0, 0, 0), (.getfield 0, 2, 0), (.getfield 0, 5, 1), (.if_icmp .ge 0, 5, 0), (.goto_w 0, 2, 0)] := rfl
theorem k_Go_meeting_2 : zblk i_Go_meeting 2 = [(.aload 0, 0, 0), (.getfield 0, 2, 1), (.iload 3, 0, 0), (.invokestatic 0, 159, 0), (.iload 1, 0, 0), (.iand, 0, 0), (.ifCond .eq 0, 4, 0), (.goto_w 0, 3, 0)] := rfl
theorem k_Go_meeting_3 : zblk i_Go_meeting 3 = [(.iload 2, 0, 0), (.iconst (1), 0, 0), (.iload 3, 0, 0), (.ishl, 0, 0), (.ior, 0, 0), (.istore 2, 0, 0), (.goto_w 0, 4, 0)] := rfl
theorem k_Go_meeting_4 : zblk i_Go_meeting 4 = [(.iinc 3 (1), 0, 0), (.goto 0, 1, 0)] := rfl
theorem k_Go_meeting_5 : zblk i_Go_meeting 5 = [(.iload 2, 0, 0), (.ireturn, 0, 0)] := rfl
theorem a_Go_meeting : zmA i_Go_meeting = 1 := rfl
theorem l_Go_meeting : zmL i_Go_meeting = 4 := rfl
theorem r_Go_meeting : zmR i_Go_meeting = some .int := rfl
theorem o_Go_meeting : zmO i_Go_meeting = 2 := rfl
theorem k_Go_isStable_0 : zblk i_Go_isStable 0 = [(.aload 0, 0, 0), (.aload 0, 0, 0), (.aload 1, 0, 0), (.iload 2, 0, 0), (.invokevirtual 0, 28, 0), (.invokevirtual 0, 29, 0), (.istore 3, 0, 0), (.iconst (0), 0, 0), (.istore 4, 0, 0), (.goto_w 0, 1, 0)] := rfl
theorem k_Go_isStable_1 : zblk i_Go_isStable 1 = [(.iload 4, 0, 0), (.aload 0, 0, 0), (.getfield 0, 2, 0), (.getfield 0, 5, 1), (.if_icmp .ge 0, 7, 0), (.goto_w 0, 2, 0)] := rfl
theorem k_Go_isStable_2 : zblk i_Go_isStable 2 = [(.iload 3, 0, 0), (.iload 4, 0, 0), (.invokestatic 0, 162, 0), (.ifCond .ne 0, 6, 0), (.goto_w 0, 3, 0)] := rfl
theorem k_Go_isStable_3 : zblk i_Go_isStable 3 = [(.aload 0, 0, 0), (.getfield 0, 2, 1), (.iload 4, 0, 0), (.invokestatic 0, 159, 0), (.ifCond .eq 0, 6, 0), (.goto_w 0, 4, 0)] := rfl
theorem k_Go_isStable_4 : zblk i_Go_isStable 4 = [(.aload 0, 0, 0), (.aload 1, 0, 0), (.iload 2, 0, 0), (.iload 4, 0, 0), (.invokevirtual 0, 31, 0), (.ifCond .eq 0, 6, 0), (.goto_w 0, 5, 0)] := rfl
theorem k_Go_isStable_5 : zblk i_Go_isStable 5 = [(.iconst (0), 0, 0), (.ireturn, 0, 0)] := rfl
theorem k_Go_isStable_6 : zblk i_Go_isStable 6 = [(.iinc 4 (1), 0, 0), (.goto 0, 1, 0)] := rfl
theorem k_Go_isStable_7 : zblk i_Go_isStable 7 = [(.iconst (1), 0, 0), (.ireturn, 0, 0)] := rfl
theorem a_Go_isStable : zmA i_Go_isStable = 2 := rfl
theorem l_Go_isStable : zmL i_Go_isStable = 5 := rfl
theorem r_Go_isStable : zmR i_Go_isStable = some .boolean := rfl
theorem o_Go_isStable : zmO i_Go_isStable = 2 := rfl
theorem k_Go_couldMeet_0 : zblk i_Go_couldMeet 0 = [(.iconst (1), 0, 0), (.iload 2, 0, 0), (.ishl, 0, 0), (.istore 4, 0, 0), (.iload 4, 0, 0), (.istore 5, 0, 0), (.iconst (0), 0, 0), (.istore 6, 0, 0), (.goto_w 0, 1, 0)] := rfl
theorem k_Go_couldMeet_1 : zblk i_Go_couldMeet 1 = [(.iload 6, 0, 0), (.iconst (12), 0, 0), (.if_icmp .ge 0, 7, 0), (.goto_w 0, 2, 0)] := rfl
theorem k_Go_couldMeet_2 : zblk i_Go_couldMeet 2 = [(.iload 5, 0, 0), (.ifCond .eq 0, 7, 0), (.goto_w 0, 3, 0)] := rfl
theorem k_Go_couldMeet_3 : zblk i_Go_couldMeet 3 = [(.iload 5, 0, 0), (.invokestatic 0, 163, 0), (.istore 7, 0, 0), (.iload 5, 0, 0), (.iconst (1), 0, 0), (.iload 7, 0, 0), (.ishl, 0, 0), (.iconst (-1), 0, 0), (.ixor, 0, 0), (.iand, 0, 0), (.istore 5, 0, 0), (.aload 0, 0, 0), (.getfield 0, 2, 0), (.iload 7, 0, 0), (.iload 3, 0, 0), (.invokevirtual 0, 67, 0), (.istore 8, 0, 0), (.iconst (0), 0, 0), (.istore 9, 0, 0), (.goto_w 0, 4, 0)] := rfl
theorem k_Go_couldMeet_4 : zblk i_Go_couldMeet 4 = [(.iload 9, 0, 0), (.iload 8, 0, 0), (.if_icmp .ge 0, 6, 0), (.goto_w 0, 5, 0)] := rfl
theorem k_Go_couldMeet_5 : zblk i_Go_couldMeet 5 = [(.iconst (1), 0, 0), (.aload 0, 0, 0), (.getfield 0, 2, 0), (.aload 1, 0, 0), (.iload 7, 0, 0), (.iload 3, 0, 0), (.iload 9, 0, 0), (.invokevirtual 0, 79, 0), (.ishl, 0, 0), (.istore 10, 0, 0), (.iload 5, 0, 0), (.iload 10, 0, 0), (.iload 4, 0, 0), (.iconst (-1), 0, 0), (.ixor, 0, 0), (.iand, 0, 0), (.ior, 0, 0), (.istore 5, 0, 0), (.iload 4, 0, 0), (.iload 10, 0, 0), (.ior, 0, 0), (.istore 4, 0, 0), (.iinc 9 (1), 0, 0), (.goto 0, 4, 0)] := rfl
theorem k_Go_couldMeet_6 : zblk i_Go_couldMeet 6 = [(.iinc 6 (1), 0, 0), (.goto 0, 1, 0)] := rfl
theorem k_Go_couldMeet_7 : zblk i_Go_couldMeet 7 = [(.iload 4, 0, 0), (.aload 0, 0, 0), (.getfield 0, 2, 1), (.iload 3, 0, 0), (.invokestatic 0, 159, 0), (.iand, 0, 0), (.ifCond .eq 0, 9, 0), (.goto_w 0, 8, 0)] := rfl
theorem k_Go_couldMeet_8 : zblk i_Go_couldMeet 8 = [(.iconst (1), 0, 0), (.goto 0, 10, 0)] := rfl
theorem k_Go_couldMeet_9 : zblk i_Go_couldMeet 9 = [(.iconst (0), 0, 0), (.goto_w 0, 10, 0)] := rfl
theorem k_Go_couldMeet_10 : zblk i_Go_couldMeet 10 = [(.ireturn, 0, 0)] := rfl
theorem a_Go_couldMeet : zmA i_Go_couldMeet = 3 := rfl
theorem l_Go_couldMeet : zmL i_Go_couldMeet = 11 := rfl
theorem r_Go_couldMeet : zmR i_Go_couldMeet = some .boolean := rfl
theorem o_Go_couldMeet : zmO i_Go_couldMeet = 2 := rfl
theorem k_Go_search_0 : zblk i_Go_search 0 = [(.aload 0, 0, 0), (.getfield 0, 2, 2), (.iconst (0), 0, 0), (.invokestatic 0, 263, 0), (.iconst (0), 0, 0), (.istore 2, 0, 0), (.goto_w 0, 1, 0)] := rfl
theorem k_Go_search_1 : zblk i_Go_search 1 = [(.iload 2, 0, 0), (.iconst (20000), 0, 0), (.if_icmp .ge 0, 7, 0), (.goto_w 0, 2, 0)] := rfl
theorem k_Go_search_2 : zblk i_Go_search 2 = [(.aload 0, 0, 0), (.aload 0, 0, 0), (.getfield 0, 2, 2), (.iload 1, 0, 0), (.invokevirtual 0, 30, 0), (.ifCond .eq 0, 4, 0), (.goto_w 0, 3, 0)] := rfl
theorem k_Go_search_3 : zblk i_Go_search 3 = [(.iconst (1), 0, 0), (.ireturn, 0, 0)] := rfl
theorem k_Go_search_4 : zblk i_Go_search 4 = [(.aload 0, 0, 0), (.invokevirtual 0, 33, 0), (.ifCond .ne 0, 6, 0), (.goto_w 0, 5, 0)] := rfl
theorem k_Go_search_5 : zblk i_Go_search 5 = [(.iconst (0), 0, 0), (.ireturn, 0, 0)] := rfl
theorem k_Go_search_6 : zblk i_Go_search 6 = [(.iinc 2 (1), 0, 0), (.goto 0, 1, 0)] := rfl
theorem k_Go_search_7 : zblk i_Go_search 7 = [(.iconst (0), 0, 0), (.ireturn, 0, 0)] := rfl
theorem a_Go_search : zmA i_Go_search = 1 := rfl
theorem l_Go_search : zmL i_Go_search = 3 := rfl
theorem r_Go_search : zmR i_Go_search = some .boolean := rfl
theorem o_Go_search : zmO i_Go_search = 2 := rfl
theorem k_Go_advance_0 : zblk i_Go_advance 0 = [(.aload 0, 0, 0), (.getfield 0, 2, 0), (.getfield 0, 5, 1), (.iconst (1), 0, 0), (.isub, 0, 0), (.istore 1, 0, 0), (.goto_w 0, 1, 0)] := rfl
theorem k_Go_advance_1 : zblk i_Go_advance 1 = [(.iload 1, 0, 0), (.ifCond .lt 0, 8, 0), (.goto_w 0, 2, 0)] := rfl
theorem k_Go_advance_2 : zblk i_Go_advance 2 = [(.aload 0, 0, 0), (.getfield 0, 2, 0), (.getfield 0, 5, 0), (.iconst (1), 0, 0), (.isub, 0, 0), (.istore 2, 0, 0), (.goto_w 0, 3, 0)] := rfl
theorem k_Go_advance_3 : zblk i_Go_advance 3 = [(.iload 2, 0, 0), (.ifCond .lt 0, 7, 0), (.goto_w 0, 4, 0)] := rfl
theorem k_Go_advance_4 : zblk i_Go_advance 4 = [(.iload 2, 0, 0), (.iconst (4), 0, 0), (.imul, 0, 0), (.iload 1, 0, 0), (.iadd, 0, 0), (.istore 3, 0, 0), (.aload 0, 0, 0), (.getfield 0, 2, 2), (.iload 3, 0, 0), (.invokestatic 0, 159, 0), (.iconst (1), 0, 0), (.iadd, 0, 0), (.aload 0, 0, 0), (.getfield 0, 2, 0), (.iload 2, 0, 0), (.iload 1, 0, 0), (.invokevirtual 0, 67, 0), (.if_icmp .ge 0, 6, 0), (.goto_w 0, 5, 0)] := rfl
theorem k_Go_advance_5 : zblk i_Go_advance 5 = [(.aload 0, 0, 0), (.getfield 0, 2, 2), (.iload 3, 0, 0), (.aload 0, 0, 0), (.getfield 0, 2, 2), (.iload 3, 0, 0), (.invokestatic 0, 159, 0), (.iconst (1), 0, 0), (.iadd, 0, 0), (.invokestatic 0, 160, 0), (.iconst (1), 0, 0), (.ireturn, 0, 0)] := rfl
theorem k_Go_advance_6 : zblk i_Go_advance 6 = [(.aload 0, 0, 0), (.getfield 0, 2, 2), (.iload 3, 0, 0), (.iconst (0), 0, 0), (.invokestatic 0, 160, 0), (.iinc 2 (-1), 0, 0), (.goto 0, 3, 0)] := rfl
theorem k_Go_advance_7 : zblk i_Go_advance 7 = [(.iinc 1 (-1), 0, 0), (.goto 0, 1, 0)] := rfl
theorem k_Go_advance_8 : zblk i_Go_advance 8 = [(.iconst (0), 0, 0), (.ireturn, 0, 0)] := rfl
theorem a_Go_advance : zmA i_Go_advance = 0 := rfl
theorem l_Go_advance : zmL i_Go_advance = 4 := rfl
theorem r_Go_advance : zmR i_Go_advance = some .boolean := rfl
theorem o_Go_advance : zmO i_Go_advance = 2 := rfl
theorem k_La_init_0 : zblk i_La_init 0 = [(.aload 0, 0, 0), (.nop, 0, 0), (.aload 0, 0, 0), (.iconst (24), 0, 0), (.newarray .int, 0, 0), (.putfield 0, 3, 3), (.aload 0, 0, 0), (.iconst (12), 0, 0), (.newarray .int, 0, 0), (.putfield 0, 3, 4), (.aload 0, 0, 0), (.iconst (-1), 0, 0), (.putfield 0, 3, 5), (.aload 0, 0, 0), (.iconst (-1), 0, 0), (.putfield 0, 3, 6), (.aload 0, 0, 0), (.aload 1, 0, 0), (.putfield 0, 3, 0), (.aload 0, 0, 0), (.aload 2, 0, 0), (.putfield 0, 3, 1), (.aload 0, 0, 0), (.aload 3, 0, 0), (.putfield 0, 3, 2), (.return_, 0, 0)] := rfl
theorem a_La_init : zmA i_La_init = 3 := rfl
theorem l_La_init : zmL i_La_init = 4 := rfl
theorem r_La_init : zmR i_La_init = none := rfl
theorem o_La_init : zmO i_La_init = 3 := rfl
theorem k_La_whole_0 : zblk i_La_whole 0 = [(.aload 0, 0, 0), (.getfield 0, 3, 3), (.iconst (0), 0, 0), (.invokestatic 0, 159, 0), (.ireturn, 0, 0)] := rfl
theorem a_La_whole : zmA i_La_whole = 0 := rfl
theorem l_La_whole : zmL i_La_whole = 1 := rfl
theorem r_La_whole : zmR i_La_whole = some .int := rfl
theorem o_La_whole : zmO i_La_whole = 3 := rfl
theorem k_La_refresh_0 : zblk i_La_refresh 0 = [(.aload 0, 0, 0), (.getfield 0, 3, 5), (.aload 0, 0, 0), (.getfield 0, 3, 0), (.getfield 0, 5, 2), (.if_icmp .ne 0, 2, 0), (.goto_w 0, 1, 0)] := rfl
theorem k_La_refresh_1 : zblk i_La_refresh 1 = [(.aload 0, 0, 0), (.getfield 0, 3, 6), (.aload 0, 0, 0), (.getfield 0, 3, 1), (.getfield 0, 1, 1), (.if_icmp .eq 0, 8, 0), (.goto_w 0, 2, 0)] := rfl
theorem k_La_refresh_2 : zblk i_La_refresh 2 = [(.aload 0, 0, 0), (.getfield 0, 3, 1), (.getfield 0, 1, 0), (.iconst (1), 0, 0), (.isub, 0, 0), (.istore 1, 0, 0), (.goto_w 0, 3, 0)] := rfl
theorem k_La_refresh_3 : zblk i_La_refresh 3 = [(.iload 1, 0, 0), (.ifCond .lt 0, 7, 0), (.goto_w 0, 4, 0)] := rfl
theorem k_La_refresh_4 : zblk i_La_refresh 4 = [(.aload 0, 0, 0), (.getfield 0, 3, 1), (.iload 1, 0, 0), (.invokevirtual 0, 22, 0), (.ifCond .eq 0, 6, 0), (.goto_w 0, 5, 0)] := rfl
theorem k_La_refresh_5 : zblk i_La_refresh 5 = [(.aload 0, 0, 0), (.getfield 0, 3, 2), (.aload 0, 0, 0), (.getfield 0, 3, 1), (.iload 1, 0, 0), (.invokevirtual 0, 21, 0), (.invokevirtual 0, 103, 0), (.goto_w 0, 6, 0)] := rfl
theorem k_La_refresh_6 : zblk i_La_refresh 6 = [(.aload 0, 0, 0), (.getfield 0, 3, 3), (.iload 1, 0, 0), (.aload 0, 0, 0), (.iload 1, 0, 0), (.invokevirtual 0, 37, 0), (.invokestatic 0, 160, 0), (.iinc 1 (-1), 0, 0), (.goto 0, 3, 0)] := rfl
theorem k_La_refresh_7 : zblk i_La_refresh 7 = [(.aload 0, 0, 0), (.aload 0, 0, 0), (.getfield 0, 3, 0), (.getfield 0, 5, 2), (.putfield 0, 3, 5), (.aload 0, 0, 0), (.aload 0, 0, 0), (.getfield 0, 3, 1), (.getfield 0, 1, 1), (.putfield 0, 3, 6), (.goto_w 0, 8, 0)] := rfl
theorem k_La_refresh_8 : zblk i_La_refresh 8 = [(.return_, 0, 0)] := rfl
theorem a_La_refresh : zmA i_La_refresh = 0 := rfl
theorem l_La_refresh : zmL i_La_refresh = 2 := rfl
theorem r_La_refresh : zmR i_La_refresh = none := rfl
theorem o_La_refresh : zmO i_La_refresh = 3 := rfl
theorem k_La_judge_0 : zblk i_La_judge 0 = [(.aload 0, 0, 0), (.getfield 0, 3, 3), (.aload 0, 0, 0), (.getfield 0, 3, 1), (.iload 1, 0, 0), (.invokevirtual 0, 19, 0), (.invokestatic 0, 159, 0), (.istore 2, 0, 0), (.aload 0, 0, 0), (.getfield 0, 3, 3), (.aload 0, 0, 0), (.getfield 0, 3, 1), (.iload 1, 0, 0), (.invokevirtual 0, 20, 0), (.invokestatic 0, 159, 0), (.istore 3, 0, 0), (.aload 0, 0, 0), (.getfield 0, 3, 0), (.invokevirtual 0, 66, 0), (.istore 4, 0, 0), (.aload 0, 0, 0), (.getfield 0, 3, 1), (.iload 1, 0, 0), (.invokevirtual 0, 18, 0), (.tableswitch 10 (0) (8) #[1, 2, 3, 4, 5, 6, 7, 8, 9], 0, 0)] := rfl
theorem k_La_judge_1 : zblk i_La_judge 1 = [(.iload 4, 0, 0), (.ireturn, 0, 0)] := rfl
theorem k_La_judge_2 : zblk i_La_judge 2 = [(.aload 0, 0, 0), (.getfield 0, 3, 0), (.aload 0, 0, 0), (.getfield 0, 3, 1), (.iload 1, 0, 0), (.invokevirtual 0, 19, 0), (.invokevirtual 0, 73, 0), (.ireturn, 0, 0)] := rfl
theorem k_La_judge_3 : zblk i_La_judge 3 = [(.iload 4, 0, 0), (.iload 2, 0, 0), (.iconst (-1), 0, 0), (.ixor, 0, 0), (.iand, 0, 0), (.ireturn, 0, 0)] := rfl
theorem k_La_judge_4 : zblk i_La_judge 4 = [(.iload 2, 0, 0), (.iload 3, 0, 0), (.iand, 0, 0), (.ireturn, 0, 0)] := rfl
theorem k_La_judge_5 : zblk i_La_judge 5 = [(.iload 2, 0, 0), (.iload 3, 0, 0), (.ior, 0, 0), (.ireturn, 0, 0)] := rfl
theorem k_La_judge_6 : zblk i_La_judge 6 = [(.aload 0, 0, 0), (.getfield 0, 3, 2), (.iload 4, 0, 0), (.iload 2, 0, 0), (.invokevirtual 0, 108, 0), (.ireturn, 0, 0)] := rfl
theorem k_La_judge_7 : zblk i_La_judge 7 = [(.aload 0, 0, 0), (.iload 2, 0, 0), (.invokevirtual 0, 38, 0), (.ireturn, 0, 0)] := rfl
theorem k_La_judge_8 : zblk i_La_judge 8 = [(.aload 0, 0, 0), (.iload 4, 0, 0), (.iload 2, 0, 0), (.invokevirtual 0, 39, 0), (.ireturn, 0, 0)] := rfl
theorem k_La_judge_9 : zblk i_La_judge 9 = [(.aload 0, 0, 0), (.iload 2, 0, 0), (.iload 3, 0, 0), (.invokevirtual 0, 39, 0), (.ireturn, 0, 0)] := rfl
theorem k_La_judge_10 : zblk i_La_judge 10 = [(.aload 0, 0, 0), (.iload 2, 0, 0), (.invokevirtual 0, 41, 0), (.ireturn, 0, 0)] := rfl
theorem a_La_judge : zmA i_La_judge = 1 := rfl
theorem l_La_judge : zmL i_La_judge = 5 := rfl
theorem r_La_judge : zmR i_La_judge = some .int := rfl
theorem o_La_judge : zmO i_La_judge = 3 := rfl
theorem k_La_always_0 : zblk i_La_always 0 = [(.iload 1, 0, 0), (.istore 2, 0, 0), (.iconst (0), 0, 0), (.istore 3, 0, 0), (.goto_w 0, 1, 0)] := rfl
theorem k_La_always_1 : zblk i_La_always 1 = [(.iload 3, 0, 0), (.iconst (12), 0, 0), (.if_icmp .ge 0, 3, 0), (.goto_w 0, 2, 0)] := rfl
theorem k_La_always_2 : zblk i_La_always 2 = [(.aload 0, 0, 0), (.getfield 0, 3, 2), (.iload 2, 0, 0), (.iload 2, 0, 0), (.invokevirtual 0, 108, 0), (.istore 2, 0, 0), (.iinc 3 (1), 0, 0), (.goto 0, 1, 0)] := rfl
theorem k_La_always_3 : zblk i_La_always 3 = [(.iload 2, 0, 0), (.ireturn, 0, 0)] := rfl
theorem a_La_always : zmA i_La_always = 1 := rfl
theorem l_La_always : zmL i_La_always = 4 := rfl
theorem r_La_always : zmR i_La_always = some .int := rfl
theorem o_La_always : zmO i_La_always = 3 := rfl
theorem k_La_until_0 : zblk i_La_until 0 = [(.iload 2, 0, 0), (.istore 3, 0, 0), (.iconst (0), 0, 0), (.istore 4, 0, 0), (.goto_w 0, 1, 0)] := rfl
theorem k_La_until_1 : zblk i_La_until 1 = [(.iload 4, 0, 0), (.iconst (12), 0, 0), (.if_icmp .ge 0, 6, 0), (.goto_w 0, 2, 0)] := rfl
theorem k_La_until_2 : zblk i_La_until 2 = [(.aload 0, 0, 0), (.getfield 0, 3, 4), (.iload 4, 0, 0), (.iload 2, 0, 0), (.iload 4, 0, 0), (.invokestatic 0, 162, 0), (.ifCond .eq 0, 4, 0), (.goto_w 0, 3, 0)] := rfl
theorem k_La_until_3 : zblk i_La_until 3 = [(.iconst (0), 0, 0), (.goto 0, 5, 0)] := rfl
theorem k_La_until_4 : zblk i_La_until 4 = [(.iconst (-1), 0, 0), (.goto_w 0, 5, 0)] := rfl
theorem k_La_until_5 : zblk i_La_until 5 = [(.invokestatic 0, 160, 0), (.iinc 4 (1), 0, 0), (.goto 0, 1, 0)] := rfl
theorem k_La_until_6 : zblk i_La_until 6 = [(.iconst (1), 0, 0), (.istore 4, 0, 0), (.goto_w 0, 7, 0)] := rfl
theorem k_La_until_7 : zblk i_La_until 7 = [(.iload 4, 0, 0), (.iconst (12), 0, 0), (.if_icmp .gt 0, 11, 0), (.goto_w 0, 8, 0)] := rfl
theorem k_La_until_8 : zblk i_La_until 8 = [(.aload 0, 0, 0), (.getfield 0, 3, 2), (.iload 1, 0, 0), (.iload 3, 0, 0), (.iconst (-1), 0, 0), (.ixor, 0, 0), (.iand, 0, 0), (.iload 3, 0, 0), (.invokevirtual 0, 108, 0), (.istore 5, 0, 0), (.iload 5, 0, 0), (.ifCond .ne 0, 10, 0), (.goto_w 0, 9, 0)] := rfl
theorem k_La_until_9 : zblk i_La_until 9 = [(.goto 0, 11, 0)] := rfl
theorem k_La_until_10 : zblk i_La_until 10 = [(.aload 0, 0, 0), (.iload 5, 0, 0), (.iload 4, 0, 0), (.invokevirtual 0, 40, 0), (.iload 3, 0, 0), (.iload 5, 0, 0), (.ior, 0, 0), (.istore 3, 0, 0), (.iinc 4 (1), 0, 0), (.goto 0, 7, 0)] := rfl
theorem k_La_until_11 : zblk i_La_until 11 = [(.iload 3, 0, 0), (.ireturn, 0, 0)] := rfl
theorem a_La_until : zmA i_La_until = 2 := rfl
theorem l_La_until : zmL i_La_until = 6 := rfl
theorem r_La_until : zmR i_La_until = some .int := rfl
theorem o_La_until : zmO i_La_until = 3 := rfl
theorem k_La_mark_0 : zblk i_La_mark 0 = [(.iconst (0), 0, 0), (.istore 3, 0, 0), (.goto_w 0, 1, 0)] := rfl
theorem k_La_mark_1 : zblk i_La_mark 1 = [(.iload 3, 0, 0), (.iconst (12), 0, 0), (.if_icmp .ge 0, 5, 0), (.goto_w 0, 2, 0)] := rfl
theorem k_La_mark_2 : zblk i_La_mark 2 = [(.iload 1, 0, 0), (.iload 3, 0, 0), (.invokestatic 0, 162, 0), (.ifCond .eq 0, 4, 0), (.goto_w 0, 3, 0)] := rfl
theorem k_La_mark_3 : zblk i_La_mark 3 = [(.aload 0, 0, 0), (.getfield 0, 3, 4), (.iload 3, 0, 0), (.iload 2, 0, 0), (.invokestatic 0, 160, 0), (.goto_w 0, 4, 0)] := rfl
theorem k_La_mark_4 : zblk i_La_mark 4 = [(.iinc 3 (1), 0, 0), (.goto 0, 1, 0)] := rfl
theorem k_La_mark_5 : zblk i_La_mark 5 = [(.return_, 0, 0)] := rfl
theorem a_La_mark : zmA i_La_mark = 2 := rfl
theorem l_La_mark : zmL i_La_mark = 4 := rfl
theorem r_La_mark : zmR i_La_mark = none := rfl
theorem o_La_mark : zmO i_La_mark = 3 := rfl
theorem k_La_again_0 : zblk i_La_again 0 = [(.aload 0, 0, 0), (.getfield 0, 3, 0), (.invokevirtual 0, 66, 0), (.istore 2, 0, 0), (.iconst (0), 0, 0), (.istore 3, 0, 0), (.goto_w 0, 1, 0)] := rfl
theorem k_La_again_1 : zblk i_La_again 1 = [(.iload 3, 0, 0), (.iconst (12), 0, 0), (.if_icmp .gt 0, 5, 0), (.goto_w 0, 2, 0)] := rfl
theorem k_La_again_2 : zblk i_La_again 2 = [(.aload 0, 0, 0), (.aload 0, 0, 0), (.getfield 0, 3, 0), (.invokevirtual 0, 66, 0), (.aload 0, 0, 0), (.getfield 0, 3, 2), (.iload 1, 0, 0), (.iload 2, 0, 0), (.invokevirtual 0, 108, 0), (.invokevirtual 0, 39, 0), (.istore 4, 0, 0), (.iload 4, 0, 0), (.iload 2, 0, 0), (.if_icmp .ne 0, 4, 0), (.goto_w 0, 3, 0)] := rfl
theorem k_La_again_3 : zblk i_La_again 3 = [(.goto 0, 5, 0)] := rfl
theorem k_La_again_4 : zblk i_La_again 4 = [(.iload 4, 0, 0), (.istore 2, 0, 0), (.iinc 3 (1), 0, 0), (.goto 0, 1, 0)] := rfl
theorem k_La_again_5 : zblk i_La_again 5 = [(.iload 2, 0, 0), (.ireturn, 0, 0)] := rfl
theorem a_La_again : zmA i_La_again = 1 := rfl
theorem l_La_again : zmL i_La_again = 5 := rfl
theorem r_La_again : zmR i_La_again = some .int := rfl
theorem o_La_again : zmO i_La_again = 3 := rfl
theorem k_La_ahead_0 : zblk i_La_ahead 0 = [(.iconst (0), 0, 0), (.istore 2, 0, 0), (.iconst (0), 0, 0), (.istore 3, 0, 0), (.goto_w 0, 1, 0)] := rfl
theorem k_La_ahead_1 : zblk i_La_ahead 1 = [(.iload 3, 0, 0), (.aload 0, 0, 0), (.getfield 0, 3, 0), (.getfield 0, 5, 0), (.if_icmp .ge 0, 6, 0), (.goto_w 0, 2, 0)] := rfl
theorem k_La_ahead_2 : zblk i_La_ahead 2 = [(.aload 0, 0, 0), (.getfield 0, 3, 4), (.iload 3, 0, 0), (.invokestatic 0, 159, 0), (.ifCond .lt 0, 5, 0), (.goto_w 0, 3, 0)] := rfl
theorem k_La_ahead_3 : zblk i_La_ahead 3 = [(.aload 0, 0, 0), (.getfield 0, 3, 4), (.iload 3, 0, 0), (.invokestatic 0, 159, 0), (.iload 1, 0, 0), (.if_icmp .ge 0, 5, 0), (.goto_w 0, 4, 0)] := rfl
theorem k_La_ahead_4 : zblk i_La_ahead 4 = [(.iload 2, 0, 0), (.iconst (1), 0, 0), (.iload 3, 0, 0), (.ishl, 0, 0), (.ior, 0, 0), (.istore 2, 0, 0), (.goto_w 0, 5, 0)] := rfl
theorem k_La_ahead_5 : zblk i_La_ahead 5 = [(.iinc 3 (1), 0, 0), (.goto 0, 1, 0)] := rfl
theorem k_La_ahead_6 : zblk i_La_ahead 6 = [(.iload 2, 0, 0), (.ireturn, 0, 0)] := rfl
theorem a_La_ahead : zmA i_La_ahead = 1 := rfl
theorem l_La_ahead : zmL i_La_ahead = 4 := rfl
theorem r_La_ahead : zmR i_La_ahead = some .int := rfl
theorem o_La_ahead : zmO i_La_ahead = 3 := rfl
theorem k_La_fewestMore_0 : zblk i_La_fewestMore 0 = [(.iconst (-4), 0, 0), (.istore 2, 0, 0), (.aload 0, 0, 0), (.getfield 0, 3, 1), (.iconst (0), 0, 0), (.invokevirtual 0, 21, 0), (.istore 3, 0, 0), (.iconst (0), 0, 0), (.istore 4, 0, 0), (.goto_w 0, 1, 0)] := rfl
theorem k_La_fewestMore_1 : zblk i_La_fewestMore 1 = [(.iload 4, 0, 0), (.getstatic 0, 0, 0), (.arraylength, 0, 0), (.if_icmp .ge 0, 10, 0), (.goto_w 0, 2, 0)] := rfl
theorem k_La_fewestMore_2 : zblk i_La_fewestMore 2 = [(.iload 2, 0, 0), (.iconst (-4), 0, 0), (.if_icmp .ne 0, 10, 0), (.goto_w 0, 3, 0)] := rfl
theorem k_La_fewestMore_3 : zblk i_La_fewestMore 3 = [(.getstatic 0, 0, 0), (.iload 4, 0, 0), (.invokestatic 0, 159, 0), (.istore 5, 0, 0), (.aload 0, 0, 0), (.getfield 0, 3, 0), (.iload 5, 0, 0), (.invokevirtual 0, 61, 0), (.ifCond .eq 0, 9, 0), (.goto_w 0, 4, 0)] := rfl
theorem k_La_fewestMore_4 : zblk i_La_fewestMore 4 = [(.iload 5, 0, 0), (.iload 3, 0, 0), (.iand, 0, 0), (.ifCond .ne 0, 9, 0), (.goto_w 0, 5, 0)] := rfl
theorem k_La_fewestMore_5 : zblk i_La_fewestMore 5 = [(.aload 0, 0, 0), (.getfield 0, 3, 2), (.iload 3, 0, 0), (.iload 5, 0, 0), (.ior, 0, 0), (.invokevirtual 0, 103, 0), (.aload 0, 0, 0), (.iconst (0), 0, 0), (.invokevirtual 0, 37, 0), (.iload 1, 0, 0), (.invokestatic 0, 162, 0), (.ifCond .eq 0, 7, 0), (.goto_w 0, 6, 0)] := rfl
theorem k_La_fewestMore_6 : zblk i_La_fewestMore 6 = [(.iload 5, 0, 0), (.goto 0, 8, 0)] := rfl
theorem k_La_fewestMore_7 : zblk i_La_fewestMore 7 = [(.iconst (-4), 0, 0), (.goto_w 0, 8, 0)] := rfl
theorem k_La_fewestMore_8 : zblk i_La_fewestMore 8 = [(.istore 2, 0, 0), (.goto_w 0, 9, 0)] := rfl
theorem k_La_fewestMore_9 : zblk i_La_fewestMore 9 = [(.iinc 4 (1), 0, 0), (.goto 0, 1, 0)] := rfl
theorem k_La_fewestMore_10 : zblk i_La_fewestMore 10 = [(.aload 0, 0, 0), (.iconst (-1), 0, 0), (.putfield 0, 3, 5), (.iload 2, 0, 0), (.ireturn, 0, 0)] := rfl
theorem a_La_fewestMore : zmA i_La_fewestMore = 1 := rfl
theorem l_La_fewestMore : zmL i_La_fewestMore = 6 := rfl
theorem r_La_fewestMore : zmR i_La_fewestMore = some .int := rfl
theorem o_La_fewestMore : zmO i_La_fewestMore = 3 := rfl
theorem k_Lo_init_0 : zblk i_Lo_init 0 = [(.aload 0, 0, 0), (.nop, 0, 0), (.aload 0, 0, 0), (.iconst (-1), 0, 0), (.putfield 0, 4, 1), (.aload 0, 0, 0), (.iconst (144), 0, 0), (.newarray .int, 0, 0), (.putfield 0, 4, 4), (.aload 0, 0, 0), (.iconst (12), 0, 0), (.newarray .int, 0, 0), (.putfield 0, 4, 5), (.aload 0, 0, 0), (.iconst (12), 0, 0), (.newarray .int, 0, 0), (.putfield 0, 4, 6), (.aload 0, 0, 0), (.iconst (156), 0, 0), (.newarray .long, 0, 0), (.putfield 0, 4, 7), (.aload 0, 0, 0), (.aload 1, 0, 0), (.putfield 0, 4, 0), (.return_, 0, 0)] := rfl
theorem a_Lo_init : zmA i_Lo_init = 1 := rfl
theorem l_Lo_init : zmL i_Lo_init = 2 := rfl
theorem r_Lo_init : zmR i_Lo_init = none := rfl
theorem o_Lo_init : zmO i_Lo_init = 4 := rfl
theorem k_Lo_weigh_0 : zblk i_Lo_weigh 0 = [(.aload 0, 0, 0), (.iload 2, 0, 0), (.iload 1, 0, 0), (.invokestatic 0, 162, 0), (.ifCond .eq 0, 2, 0), (.goto_w 0, 1, 0)] := rfl
theorem k_Lo_weigh_1 : zblk i_Lo_weigh 1 = [(.sipush (1), 0, 0), (.goto 0, 3, 0)] := rfl
theorem k_Lo_weigh_2 : zblk i_Lo_weigh 2 = [(.sipush (0), 0, 0), (.goto_w 0, 3, 0)] := rfl
theorem k_Lo_weigh_3 : zblk i_Lo_weigh 3 = [(.putfield 0, 4, 2), (.aload 0, 0, 0), (.sipush (1), 0, 0), (.putfield 0, 4, 3), (.aload 0, 0, 0), (.getfield 0, 4, 2), (.sipush (1), 0, 0), (.lcmp, 0, 0), (.ifCond .ne 0, 5, 0), (.goto_w 0, 4, 0)] := rfl
theorem k_Lo_weigh_4 : zblk i_Lo_weigh 4 = [(.return_, 0, 0)] := rfl
theorem k_Lo_weigh_5 : zblk i_Lo_weigh 5 = [(.aload 0, 0, 0), (.invokevirtual 0, 46, 0), (.aload 0, 0, 0), (.iload 2, 0, 0), (.invokevirtual 0, 47, 0), (.iload 2, 0, 0), (.iconst (-1), 0, 0), (.ixor, 0, 0), (.iand, 0, 0), (.istore 3, 0, 0), (.iload 3, 0, 0), (.iload 1, 0, 0), (.invokestatic 0, 162, 0), (.ifCond .eq 0, 7, 0), (.goto_w 0, 6, 0)] := rfl
theorem k_Lo_weigh_6 : zblk i_Lo_weigh 6 = [(.aload 0, 0, 0), (.iload 3, 0, 0), (.iload 1, 0, 0), (.invokevirtual 0, 49, 0), (.istore 4, 0, 0), (.aload 0, 0, 0), (.iload 4, 0, 0), (.iload 2, 0, 0), (.invokevirtual 0, 50, 0), (.aload 0, 0, 0), (.iload 4, 0, 0), (.invokevirtual 0, 51, 0), (.aload 0, 0, 0), (.aload 0, 0, 0), (.iload 4, 0, 0), (.iconst (1), 0, 0), (.isub, 0, 0), (.iload 4, 0, 0), (.invokevirtual 0, 53, 0), (.putfield 0, 4, 2), (.aload 0, 0, 0), (.aload 0, 0, 0), (.iload 4, 0, 0), (.iconst (1), 0, 0), (.isub, 0, 0), (.iload 4, 0, 0), (.iconst (1), 0, 0), (.isub, 0, 0), (.invokevirtual 0, 53, 0), (.putfield 0, 4, 3), (.aload 0, 0, 0), (.invokevirtual 0, 55, 0), (.goto_w 0, 7, 0)] := rfl
theorem k_Lo_weigh_7 : zblk i_Lo_weigh 7 = [(.return_, 0, 0)] := rfl
theorem a_Lo_weigh : zmA i_Lo_weigh = 2 := rfl
theorem l_Lo_weigh : zmL i_Lo_weigh = 5 := rfl
theorem r_Lo_weigh : zmR i_Lo_weigh = none := rfl
theorem o_Lo_weigh : zmO i_Lo_weigh = 4 := rfl
theorem k_Lo_countAll_0 : zblk i_Lo_countAll 0 = [(.aload 0, 0, 0), (.getfield 0, 4, 4), (.iconst (0), 0, 0), (.invokestatic 0, 263, 0), (.iconst (0), 0, 0), (.istore 1, 0, 0), (.goto_w 0, 1, 0)] := rfl
theorem k_Lo_countAll_1 : zblk i_Lo_countAll 1 = [(.iload 1, 0, 0), (.aload 0, 0, 0), (.getfield 0, 4, 0), (.getfield 0, 5, 0), (.if_icmp .ge 0, 9, 0), (.goto_w 0, 2, 0)] := rfl
theorem k_Lo_countAll_2 : zblk i_Lo_countAll 2 = [(.aload 0, 0, 0), (.getfield 0, 4, 1), (.ifCond .ge 0, 4, 0), (.goto_w 0, 3, 0)] := rfl
theorem k_Lo_countAll_3 : zblk i_Lo_countAll 3 = [(.iconst (1), 0, 0), (.goto 0, 5, 0)] := rfl
theorem k_Lo_countAll_4 : zblk i_Lo_countAll 4 = [(.aload 0, 0, 0), (.getfield 0, 4, 0), (.iload 1, 0, 0), (.aload 0, 0, 0), (.getfield 0, 4, 1), (.invokevirtual 0, 67, 0), (.goto_w 0, 5, 0)] := rfl
theorem k_Lo_countAll_5 : zblk i_Lo_countAll 5 = [(.istore 2, 0, 0), (.aload 0, 0, 0), (.getfield 0, 4, 5), (.iload 1, 0, 0), (.iload 2, 0, 0), (.invokestatic 0, 160, 0), (.iconst (0), 0, 0), (.istore 3, 0, 0), (.goto_w 0, 6, 0)] := rfl
theorem k_Lo_countAll_6 : zblk i_Lo_countAll 6 = [(.iload 3, 0, 0), (.iload 2, 0, 0), (.if_icmp .ge 0, 8, 0), (.goto_w 0, 7, 0)] := rfl
theorem k_Lo_countAll_7 : zblk i_Lo_countAll 7 = [(.iload 1, 0, 0), (.iconst (12), 0, 0), (.imul, 0, 0), (.aload 0, 0, 0), (.getfield 0, 4, 0), (.aload 0, 0, 0), (.getfield 0, 4, 0), (.getfield 0, 5, 4), (.iload 1, 0, 0), (.aload 0, 0, 0), (.getfield 0, 4, 1), (.iload 3, 0, 0), (.invokevirtual 0, 79, 0), (.iadd, 0, 0), (.istore 4, 0, 0), (.aload 0, 0, 0), (.getfield 0, 4, 4), (.iload 4, 0, 0), (.aload 0, 0, 0), (.getfield 0, 4, 4), (.iload 4, 0, 0), (.invokestatic 0, 159, 0), (.iconst (1), 0, 0), (.iadd, 0, 0), (.invokestatic 0, 160, 0), (.iinc 3 (1), 0, 0), (.goto 0, 6, 0)] := rfl
theorem k_Lo_countAll_8 : zblk i_Lo_countAll 8 = [(.iinc 1 (1), 0, 0), (.goto 0, 1, 0)] := rfl
theorem k_Lo_countAll_9 : zblk i_Lo_countAll 9 = [(.return_, 0, 0)] := rfl
theorem a_Lo_countAll : zmA i_Lo_countAll = 0 := rfl
theorem l_Lo_countAll : zmL i_Lo_countAll = 5 := rfl
theorem r_Lo_countAll : zmR i_Lo_countAll = none := rfl
theorem o_Lo_countAll : zmO i_Lo_countAll = 4 := rfl
theorem k_Lo_coming_0 : zblk i_Lo_coming 0 = [(.iload 1, 0, 0), (.istore 2, 0, 0), (.iconst (0), 0, 0), (.istore 3, 0, 0), (.goto_w 0, 1, 0)] := rfl
theorem k_Lo_coming_1 : zblk i_Lo_coming 1 = [(.iload 3, 0, 0), (.iconst (12), 0, 0), (.if_icmp .ge 0, 8, 0), (.goto_w 0, 2, 0)] := rfl
theorem k_Lo_coming_2 : zblk i_Lo_coming 2 = [(.iconst (0), 0, 0), (.istore 4, 0, 0), (.goto_w 0, 3, 0)] := rfl
theorem k_Lo_coming_3 : zblk i_Lo_coming 3 = [(.iload 4, 0, 0), (.aload 0, 0, 0), (.getfield 0, 4, 0), (.getfield 0, 5, 0), (.if_icmp .ge 0, 7, 0), (.goto_w 0, 4, 0)] := rfl
theorem k_Lo_coming_4 : zblk i_Lo_coming 4 = [(.aload 0, 0, 0), (.iload 4, 0, 0), (.iload 2, 0, 0), (.invokevirtual 0, 48, 0), (.ifCond .le 0, 6, 0), (.goto_w 0, 5, 0)] := rfl
theorem k_Lo_coming_5 : zblk i_Lo_coming 5 = [(.iload 2, 0, 0), (.iconst (1), 0, 0), (.iload 4, 0, 0), (.ishl, 0, 0), (.ior, 0, 0), (.istore 2, 0, 0), (.goto_w 0, 6, 0)] := rfl
theorem k_Lo_coming_6 : zblk i_Lo_coming 6 = [(.iinc 4 (1), 0, 0), (.goto 0, 3, 0)] := rfl
theorem k_Lo_coming_7 : zblk i_Lo_coming 7 = [(.iinc 3 (1), 0, 0), (.goto 0, 1, 0)] := rfl
theorem k_Lo_coming_8 : zblk i_Lo_coming 8 = [(.iload 2, 0, 0), (.ireturn, 0, 0)] := rfl
theorem a_Lo_coming : zmA i_Lo_coming = 1 := rfl
theorem l_Lo_coming : zmL i_Lo_coming = 5 := rfl
theorem r_Lo_coming : zmR i_Lo_coming = some .int := rfl
theorem o_Lo_coming : zmO i_Lo_coming = 4 := rfl
theorem k_Lo_countInto_0 : zblk i_Lo_countInto 0 = [(.iconst (0), 0, 0), (.istore 3, 0, 0), (.iconst (0), 0, 0), (.istore 4, 0, 0), (.goto_w 0, 1, 0)] := rfl
theorem k_Lo_countInto_1 : zblk i_Lo_countInto 1 = [(.iload 4, 0, 0), (.aload 0, 0, 0), (.getfield 0, 4, 0), (.getfield 0, 5, 0), (.if_icmp .ge 0, 5, 0), (.goto_w 0, 2, 0)] := rfl
theorem k_Lo_countInto_2 : zblk i_Lo_countInto 2 = [(.iload 2, 0, 0), (.iload 4, 0, 0), (.invokestatic 0, 162, 0), (.ifCond .eq 0, 4, 0), (.goto_w 0, 3, 0)] := rfl
theorem k_Lo_countInto_3 : zblk i_Lo_countInto 3 = [(.iload 3, 0, 0), (.aload 0, 0, 0), (.getfield 0, 4, 4), (.iload 1, 0, 0), (.iconst (12), 0, 0), (.imul, 0, 0), (.iload 4, 0, 0), (.iadd, 0, 0), (.invokestatic 0, 159, 0), (.iadd, 0, 0), (.istore 3, 0, 0), (.goto_w 0, 4, 0)] := rfl
theorem k_Lo_countInto_4 : zblk i_Lo_countInto 4 = [(.iinc 4 (1), 0, 0), (.goto 0, 1, 0)] := rfl
theorem k_Lo_countInto_5 : zblk i_Lo_countInto 5 = [(.iload 3, 0, 0), (.ireturn, 0, 0)] := rfl
theorem a_Lo_countInto : zmA i_Lo_countInto = 2 := rfl
theorem l_Lo_countInto : zmL i_Lo_countInto = 5 := rfl
theorem r_Lo_countInto : zmR i_Lo_countInto = some .int := rfl
theorem o_Lo_countInto : zmO i_Lo_countInto = 4 := rfl
theorem k_Lo_line_0 : zblk i_Lo_line 0 = [(.iconst (0), 0, 0), (.istore 3, 0, 0), (.iconst (0), 0, 0), (.istore 4, 0, 0), (.goto_w 0, 1, 0)] := rfl
theorem k_Lo_line_1 : zblk i_Lo_line 1 = [(.iload 4, 0, 0), (.aload 0, 0, 0), (.getfield 0, 4, 0), (.getfield 0, 5, 0), (.if_icmp .ge 0, 6, 0), (.goto_w 0, 2, 0)] := rfl
theorem k_Lo_line_2 : zblk i_Lo_line 2 = [(.iload 1, 0, 0), (.iload 4, 0, 0), (.invokestatic 0, 162, 0), (.ifCond .eq 0, 5, 0), (.goto_w 0, 3, 0)] := rfl
theorem k_Lo_line_3 : zblk i_Lo_line 3 = [(.iload 4, 0, 0), (.iload 2, 0, 0), (.if_icmp .eq 0, 5, 0), (.goto_w 0, 4, 0)] := rfl
theorem k_Lo_line_4 : zblk i_Lo_line 4 = [(.aload 0, 0, 0), (.getfield 0, 4, 6), (.iload 3, 0, 0), (.iload 4, 0, 0), (.invokestatic 0, 160, 0), (.iinc 3 (1), 0, 0), (.goto_w 0, 5, 0)] := rfl
theorem k_Lo_line_5 : zblk i_Lo_line 5 = [(.iinc 4 (1), 0, 0), (.goto 0, 1, 0)] := rfl
theorem k_Lo_line_6 : zblk i_Lo_line 6 = [(.aload 0, 0, 0), (.getfield 0, 4, 6), (.iload 3, 0, 0), (.iload 2, 0, 0), (.invokestatic 0, 160, 0), (.iload 3, 0, 0), (.iconst (1), 0, 0), (.iadd, 0, 0), (.ireturn, 0, 0)] := rfl
theorem a_Lo_line : zmA i_Lo_line = 2 := rfl
theorem l_Lo_line : zmL i_Lo_line = 5 := rfl
theorem r_Lo_line : zmR i_Lo_line = some .int := rfl
theorem o_Lo_line : zmO i_Lo_line = 4 := rfl
theorem k_Lo_write_0 : zblk i_Lo_write 0 = [(.iconst (0), 0, 0), (.istore 3, 0, 0), (.goto_w 0, 1, 0)] := rfl
theorem k_Lo_write_1 : zblk i_Lo_write 1 = [(.iload 3, 0, 0), (.iload 1, 0, 0), (.if_icmp .ge 0, 9, 0), (.goto_w 0, 2, 0)] := rfl
theorem k_Lo_write_2 : zblk i_Lo_write 2 = [(.aload 0, 0, 0), (.getfield 0, 4, 6), (.iload 3, 0, 0), (.invokestatic 0, 159, 0), (.istore 4, 0, 0), (.iconst (0), 0, 0), (.istore 5, 0, 0), (.goto_w 0, 3, 0)] := rfl
theorem k_Lo_write_3 : zblk i_Lo_write 3 = [(.iload 5, 0, 0), (.iload 1, 0, 0), (.if_icmp .ge 0, 8, 0), (.goto_w 0, 4, 0)] := rfl
theorem k_Lo_write_4 : zblk i_Lo_write 4 = [(.iload 3, 0, 0), (.iload 5, 0, 0), (.if_icmp .ne 0, 6, 0), (.goto_w 0, 5, 0)] := rfl
theorem k_Lo_write_5 : zblk i_Lo_write 5 = [(.aload 0, 0, 0), (.getfield 0, 4, 5), (.iload 4, 0, 0), (.invokestatic 0, 159, 0), (.goto 0, 7, 0)] := rfl
theorem k_Lo_write_6 : zblk i_Lo_write 6 = [(.iconst (0), 0, 0), (.goto_w 0, 7, 0)] := rfl
theorem k_Lo_write_7 : zblk i_Lo_write 7 = [(.istore 6, 0, 0), (.aload 0, 0, 0), (.iload 3, 0, 0), (.iload 5, 0, 0), (.iload 6, 0, 0), (.aload 0, 0, 0), (.getfield 0, 4, 4), (.iload 4, 0, 0), (.iconst (12), 0, 0), (.imul, 0, 0), (.aload 0, 0, 0), (.getfield 0, 4, 6), (.iload 5, 0, 0), (.invokestatic 0, 159, 0), (.iadd, 0, 0), (.invokestatic 0, 159, 0), (.isub, 0, 0), (.i2l, 0, 0), (.invokevirtual 0, 54, 0), (.iinc 5 (1), 0, 0), (.goto 0, 3, 0)] := rfl
theorem k_Lo_write_8 : zblk i_Lo_write 8 = [(.aload 0, 0, 0), (.iload 3, 0, 0), (.iload 1, 0, 0), (.aload 0, 0, 0), (.iload 4, 0, 0), (.iload 2, 0, 0), (.invokevirtual 0, 48, 0), (.i2l, 0, 0), (.invokevirtual 0, 54, 0), (.iinc 3 (1), 0, 0), (.goto 0, 1, 0)] := rfl
theorem k_Lo_write_9 : zblk i_Lo_write 9 = [(.return_, 0, 0)] := rfl
theorem a_Lo_write : zmA i_Lo_write = 2 := rfl
theorem l_Lo_write : zmL i_Lo_write = 7 := rfl
theorem r_Lo_write : zmR i_Lo_write = none := rfl
theorem o_Lo_write : zmO i_Lo_write = 4 := rfl
theorem k_Lo_solve_0 : zblk i_Lo_solve 0 = [(.sipush (1), 0, 0), (.lstore 2, 0, 0), (.iconst (0), 0, 0), (.istore 4, 0, 0), (.goto_w 0, 1, 0)] := rfl
theorem k_Lo_solve_1 : zblk i_Lo_solve 1 = [(.iload 4, 0, 0), (.iconst (1), 0, 0), (.iadd, 0, 0), (.iload 1, 0, 0), (.if_icmp .ge 0, 6, 0), (.goto_w 0, 2, 0)] := rfl
theorem k_Lo_solve_2 : zblk i_Lo_solve 2 = [(.iload 4, 0, 0), (.iconst (1), 0, 0), (.iadd, 0, 0), (.istore 5, 0, 0), (.goto_w 0, 3, 0)] := rfl
theorem k_Lo_solve_3 : zblk i_Lo_solve 3 = [(.iload 5, 0, 0), (.iload 1, 0, 0), (.if_icmp .ge 0, 5, 0), (.goto_w 0, 4, 0)] := rfl
theorem k_Lo_solve_4 : zblk i_Lo_solve 4 = [(.aload 0, 0, 0), (.iload 5, 0, 0), (.iload 4, 0, 0), (.iload 1, 0, 0), (.lload 2, 0, 0), (.invokevirtual 0, 52, 0), (.iinc 5 (1), 0, 0), (.goto 0, 3, 0)] := rfl
theorem k_Lo_solve_5 : zblk i_Lo_solve 5 = [(.aload 0, 0, 0), (.iload 4, 0, 0), (.iload 4, 0, 0), (.invokevirtual 0, 53, 0), (.lstore 2, 0, 0), (.iinc 4 (1), 0, 0), (.goto 0, 1, 0)] := rfl
theorem k_Lo_solve_6 : zblk i_Lo_solve 6 = [(.return_, 0, 0)] := rfl
theorem a_Lo_solve : zmA i_Lo_solve = 1 := rfl
theorem l_Lo_solve : zmL i_Lo_solve = 6 := rfl
theorem r_Lo_solve : zmR i_Lo_solve = none := rfl
theorem o_Lo_solve : zmO i_Lo_solve = 4 := rfl
theorem k_Lo_clearBelow_0 : zblk i_Lo_clearBelow 0 = [(.aload 0, 0, 0), (.iload 1, 0, 0), (.iload 2, 0, 0), (.invokevirtual 0, 53, 0), (.lstore 6, 0, 0), (.iload 2, 0, 0), (.istore 8, 0, 0), (.goto_w 0, 1, 0)] := rfl
theorem k_Lo_clearBelow_1 : zblk i_Lo_clearBelow 1 = [(.iload 8, 0, 0), (.iload 3, 0, 0), (.if_icmp .gt 0, 6, 0), (.goto_w 0, 2, 0)] := rfl
theorem k_Lo_clearBelow_2 : zblk i_Lo_clearBelow 2 = [(.aload 0, 0, 0), (.iload 2, 0, 0), (.iload 2, 0, 0), (.invokevirtual 0, 53, 0), (.aload 0, 0, 0), (.iload 1, 0, 0), (.iload 8, 0, 0), (.invokevirtual 0, 53, 0), (.lmul, 0, 0), (.lload 6, 0, 0), (.aload 0, 0, 0), (.iload 2, 0, 0), (.iload 8, 0, 0), (.invokevirtual 0, 53, 0), (.lmul, 0, 0), (.lsub, 0, 0), (.lstore 9, 0, 0), (.aload 0, 0, 0), (.iload 1, 0, 0), (.iload 8, 0, 0), (.lload 4, 0, 0), (.sipush (0), 0, 0), (.lcmp, 0, 0), (.ifCond .ne 0, 4, 0), (.goto_w 0, 3, 0)] := rfl
theorem k_Lo_clearBelow_3 : zblk i_Lo_clearBelow 3 = [(.sipush (0), 0, 0), (.goto 0, 5, 0)] := rfl
theorem k_Lo_clearBelow_4 : zblk i_Lo_clearBelow 4 = [(.lload 9, 0, 0), (.lload 4, 0, 0), (.ldiv, 0, 0), (.goto_w 0, 5, 0)] := rfl
theorem k_Lo_clearBelow_5 : zblk i_Lo_clearBelow 5 = [(.invokevirtual 0, 54, 0), (.iinc 8 (1), 0, 0), (.goto 0, 1, 0)] := rfl
theorem k_Lo_clearBelow_6 : zblk i_Lo_clearBelow 6 = [(.return_, 0, 0)] := rfl
theorem a_Lo_clearBelow : zmA i_Lo_clearBelow = 4 := rfl
theorem l_Lo_clearBelow : zmL i_Lo_clearBelow = 11 := rfl
theorem r_Lo_clearBelow : zmR i_Lo_clearBelow = none := rfl
theorem o_Lo_clearBelow : zmO i_Lo_clearBelow = 4 := rfl
theorem k_Lo_cell_0 : zblk i_Lo_cell 0 = [(.iload 1, 0, 0), (.iconst (13), 0, 0), (.imul, 0, 0), (.iload 2, 0, 0), (.iadd, 0, 0), (.istore 3, 0, 0), (.iload 3, 0, 0), (.ifCond .lt 0, 3, 0), (.goto_w 0, 1, 0)] := rfl
theorem k_Lo_cell_1 : zblk i_Lo_cell 1 = [(.iload 3, 0, 0), (.aload 0, 0, 0), (.getfield 0, 4, 7), (.arraylength, 0, 0), (.if_icmp .ge 0, 3, 0), (.goto_w 0, 2, 0)] := rfl
theorem k_Lo_cell_2 : zblk i_Lo_cell 2 = [(.aload 0, 0, 0), (.getfield 0, 4, 7), (.iload 3, 0, 0), (.laload, 0, 0), (.goto 0, 4, 0)] := rfl
theorem k_Lo_cell_3 : zblk i_Lo_cell 3 = [(.sipush (0), 0, 0), (.goto_w 0, 4, 0)] := rfl
theorem k_Lo_cell_4 : zblk i_Lo_cell 4 = [(.lreturn, 0, 0)] := rfl
theorem a_Lo_cell : zmA i_Lo_cell = 2 := rfl
theorem l_Lo_cell : zmL i_Lo_cell = 4 := rfl
theorem r_Lo_cell : zmR i_Lo_cell = some .long := rfl
theorem o_Lo_cell : zmO i_Lo_cell = 4 := rfl
theorem k_Lo_setCell_0 : zblk i_Lo_setCell 0 = [(.iload 1, 0, 0), (.iconst (13), 0, 0), (.imul, 0, 0), (.iload 2, 0, 0), (.iadd, 0, 0), (.istore 5, 0, 0), (.iload 5, 0, 0), (.ifCond .lt 0, 3, 0), (.goto_w 0, 1, 0)] := rfl
theorem k_Lo_setCell_1 : zblk i_Lo_setCell 1 = [(.iload 5, 0, 0), (.aload 0, 0, 0), (.getfield 0, 4, 7), (.arraylength, 0, 0), (.if_icmp .ge 0, 3, 0), (.goto_w 0, 2, 0)] := rfl
theorem k_Lo_setCell_2 : zblk i_Lo_setCell 2 = [(.aload 0, 0, 0), (.getfield 0, 4, 7), (.iload 5, 0, 0), (.lload 3, 0, 0), (.lastore, 0, 0), (.goto_w 0, 3, 0)] := rfl
theorem k_Lo_setCell_3 : zblk i_Lo_setCell 3 = [(.return_, 0, 0)] := rfl
theorem a_Lo_setCell : zmA i_Lo_setCell = 3 := rfl
theorem l_Lo_setCell : zmL i_Lo_setCell = 6 := rfl
theorem r_Lo_setCell : zmR i_Lo_setCell = none := rfl
theorem o_Lo_setCell : zmO i_Lo_setCell = 4 := rfl
theorem k_Lo_shorten_0 : zblk i_Lo_shorten 0 = [(.aload 0, 0, 0), (.getfield 0, 4, 3), (.lstore 1, 0, 0), (.aload 0, 0, 0), (.getfield 0, 4, 2), (.lstore 3, 0, 0), (.iconst (0), 0, 0), (.istore 5, 0, 0), (.goto_w 0, 1, 0)] := rfl
theorem k_Lo_shorten_1 : zblk i_Lo_shorten 1 = [(.iload 5, 0, 0), (.iconst (1000), 0, 0), (.if_icmp .ge 0, 4, 0), (.goto_w 0, 2, 0)] := rfl
theorem k_Lo_shorten_2 : zblk i_Lo_shorten 2 = [(.lload 3, 0, 0), (.sipush (0), 0, 0), (.lcmp, 0, 0), (.ifCond .eq 0, 4, 0), (.goto_w 0, 3, 0)] := rfl
theorem k_Lo_shorten_3 : zblk i_Lo_shorten 3 = [(.lload 1, 0, 0), (.lload 3, 0, 0), (.lrem, 0, 0), (.lstore 6, 0, 0), (.lload 3, 0, 0), (.lstore 1, 0, 0), (.lload 6, 0, 0), (.lstore 3, 0, 0), (.iinc 5 (1), 0, 0), (.goto 0, 1, 0)] := rfl
theorem k_Lo_shorten_4 : zblk i_Lo_shorten 4 = [(.lload 1, 0, 0), (.sipush (0), 0, 0), (.lcmp, 0, 0), (.ifCond .eq 0, 6, 0), (.goto_w 0, 5, 0)] := rfl
theorem k_Lo_shorten_5 : zblk i_Lo_shorten 5 = [(.aload 0, 0, 0), (.dup, 0, 0), (.getfield 0, 4, 2), (.lload 1, 0, 0), (.ldiv, 0, 0), (.putfield 0, 4, 2), (.aload 0, 0, 0), (.dup, 0, 0), (.getfield 0, 4, 3), (.lload 1, 0, 0), (.ldiv, 0, 0), (.putfield 0, 4, 3), (.goto_w 0, 6, 0)] := rfl
theorem k_Lo_shorten_6 : zblk i_Lo_shorten 6 = [(.return_, 0, 0)] := rfl
theorem a_Lo_shorten : zmA i_Lo_shorten = 0 := rfl
theorem l_Lo_shorten : zmL i_Lo_shorten = 8 := rfl
theorem r_Lo_shorten : zmR i_Lo_shorten = none := rfl
theorem o_Lo_shorten : zmO i_Lo_shorten = 4 := rfl
theorem k_Ne_init_0 : zblk i_Ne_init 0 = [(.aload 0, 0, 0), (.nop, 0, 0), (.aload 0, 0, 0), (.iconst (48), 0, 0), (.newarray .int, 0, 0), (.putfield 0, 5, 3), (.aload 0, 0, 0), (.iconst (48), 0, 0), (.newarray .int, 0, 0), (.putfield 0, 5, 4), (.aload 0, 0, 0), (.iconst (144), 0, 0), (.newarray .int, 0, 0), (.putfield 0, 5, 5), (.aload 0, 0, 0), (.iconst (972), 0, 0), (.newarray .int, 0, 0), (.putfield 0, 5, 6), (.aload 0, 0, 0), (.iconst (12), 0, 0), (.newarray .int, 0, 0), (.putfield 0, 5, 7), (.aload 0, 0, 0), (.iconst (48), 0, 0), (.newarray .int, 0, 0), (.putfield 0, 5, 8), (.aload 0, 0, 0), (.iconst (4), 0, 0), (.iconst (2), 0, 0), (.invokevirtual 0, 57, 0), (.return_, 0, 0)] := rfl
theorem a_Ne_init : zmA i_Ne_init = 0 := rfl
theorem l_Ne_init : zmL i_Ne_init = 1 := rfl
theorem r_Ne_init : zmR i_Ne_init = none := rfl
theorem o_Ne_init : zmO i_Ne_init = 5 := rfl
theorem k_Ne_begin_0 : zblk i_Ne_begin 0 = [(.aload 0, 0, 0), (.iload 1, 0, 0), (.putfield 0, 5, 0), (.aload 0, 0, 0), (.iload 2, 0, 0), (.putfield 0, 5, 1), (.aload 0, 0, 0), (.getfield 0, 5, 3), (.iconst (1), 0, 0), (.invokestatic 0, 263, 0), (.aload 0, 0, 0), (.getfield 0, 5, 7), (.iconst (0), 0, 0), (.invokestatic 0, 263, 0), (.iconst (0), 0, 0), (.istore 3, 0, 0), (.goto_w 0, 1, 0)] := rfl
theorem k_Ne_begin_1 : zblk i_Ne_begin 1 = [(.iload 3, 0, 0), (.iconst (12), 0, 0), (.if_icmp .ge 0, 6, 0), (.goto_w 0, 2, 0)] := rfl
theorem k_Ne_begin_2 : zblk i_Ne_begin 2 = [(.aload 0, 0, 0), (.iload 3, 0, 0), (.invokevirtual 0, 58, 0), (.iconst (0), 0, 0), (.istore 4, 0, 0), (.goto_w 0, 3, 0)] := rfl
theorem k_Ne_begin_3 : zblk i_Ne_begin 3 = [(.iload 4, 0, 0), (.iconst (4), 0, 0), (.if_icmp .ge 0, 5, 0), (.goto_w 0, 4, 0)] := rfl
theorem k_Ne_begin_4 : zblk i_Ne_begin 4 = [(.aload 0, 0, 0), (.getfield 0, 5, 8), (.iload 4, 0, 0), (.iconst (12), 0, 0), (.imul, 0, 0), (.iload 3, 0, 0), (.iadd, 0, 0), (.iload 3, 0, 0), (.invokestatic 0, 160, 0), (.iinc 4 (1), 0, 0), (.goto 0, 3, 0)] := rfl
theorem k_Ne_begin_5 : zblk i_Ne_begin 5 = [(.iinc 3 (1), 0, 0), (.goto 0, 1, 0)] := rfl
theorem k_Ne_begin_6 : zblk i_Ne_begin 6 = [(.aload 0, 0, 0), (.dup, 0, 0), (.getfield 0, 5, 2), (.iconst (1), 0, 0), (.iadd, 0, 0), (.putfield 0, 5, 2), (.return_, 0, 0)] := rfl
theorem a_Ne_begin : zmA i_Ne_begin = 2 := rfl
theorem l_Ne_begin : zmL i_Ne_begin = 5 := rfl
theorem r_Ne_begin : zmR i_Ne_begin = none := rfl
theorem o_Ne_begin : zmO i_Ne_begin = 5 := rfl
theorem k_Ne_leadBack_0 : zblk i_Ne_leadBack 0 = [(.iconst (0), 0, 0), (.istore 2, 0, 0), (.goto_w 0, 1, 0)] := rfl
theorem k_Ne_leadBack_1 : zblk i_Ne_leadBack 1 = [(.iload 2, 0, 0), (.iconst (81), 0, 0), (.if_icmp .ge 0, 3, 0), (.goto_w 0, 2, 0)] := rfl
theorem k_Ne_leadBack_2 : zblk i_Ne_leadBack 2 = [(.aload 0, 0, 0), (.getfield 0, 5, 6), (.iload 1, 0, 0), (.iconst (81), 0, 0), (.imul, 0, 0), (.iload 2, 0, 0), (.iadd, 0, 0), (.iload 1, 0, 0), (.invokestatic 0, 160, 0), (.iinc 2 (1), 0, 0), (.goto 0, 1, 0)] := rfl
theorem k_Ne_leadBack_3 : zblk i_Ne_leadBack 3 = [(.iconst (0), 0, 0), (.istore 2, 0, 0), (.goto_w 0, 4, 0)] := rfl
theorem k_Ne_leadBack_4 : zblk i_Ne_leadBack 4 = [(.iload 2, 0, 0), (.iconst (4), 0, 0), (.if_icmp .ge 0, 6, 0), (.goto_w 0, 5, 0)] := rfl
theorem k_Ne_leadBack_5 : zblk i_Ne_leadBack 5 = [(.aload 0, 0, 0), (.getfield 0, 5, 4), (.iload 1, 0, 0), (.iconst (4), 0, 0), (.imul, 0, 0), (.iload 2, 0, 0), (.iadd, 0, 0), (.iconst (0), 0, 0), (.invokestatic 0, 160, 0), (.iinc 2 (1), 0, 0), (.goto 0, 4, 0)] := rfl
theorem k_Ne_leadBack_6 : zblk i_Ne_leadBack 6 = [(.iconst (0), 0, 0), (.istore 2, 0, 0), (.goto_w 0, 7, 0)] := rfl
theorem k_Ne_leadBack_7 : zblk i_Ne_leadBack 7 = [(.iload 2, 0, 0), (.iconst (12), 0, 0), (.if_icmp .ge 0, 9, 0), (.goto_w 0, 8, 0)] := rfl
theorem k_Ne_leadBack_8 : zblk i_Ne_leadBack 8 = [(.aload 0, 0, 0), (.getfield 0, 5, 5), (.iload 1, 0, 0), (.iconst (4), 0, 0), (.imul, 0, 0), (.iconst (3), 0, 0), (.imul, 0, 0), (.iload 2, 0, 0), (.iadd, 0, 0), (.iconst (0), 0, 0), (.invokestatic 0, 160, 0), (.iinc 2 (1), 0, 0), (.goto 0, 7, 0)] := rfl
theorem k_Ne_leadBack_9 : zblk i_Ne_leadBack 9 = [(.return_, 0, 0)] := rfl
theorem a_Ne_leadBack : zmA i_Ne_leadBack = 1 := rfl
theorem l_Ne_leadBack : zmL i_Ne_leadBack = 3 := rfl
theorem r_Ne_leadBack : zmR i_Ne_leadBack = none := rfl
theorem o_Ne_leadBack : zmO i_Ne_leadBack = 5 := rfl
theorem k_Ne_hasState_0 : zblk i_Ne_hasState 0 = [(.iload 1, 0, 0), (.ifCond .lt 0, 3, 0), (.goto_w 0, 1, 0)] := rfl
theorem k_Ne_hasState_1 : zblk i_Ne_hasState 1 = [(.iload 1, 0, 0), (.aload 0, 0, 0), (.getfield 0, 5, 0), (.if_icmp .ge 0, 3, 0), (.goto_w 0, 2, 0)] := rfl
theorem k_Ne_hasState_2 : zblk i_Ne_hasState 2 = [(.iconst (1), 0, 0), (.goto 0, 4, 0)] := rfl
theorem k_Ne_hasState_3 : zblk i_Ne_hasState 3 = [(.iconst (0), 0, 0), (.goto_w 0, 4, 0)] := rfl
theorem k_Ne_hasState_4 : zblk i_Ne_hasState 4 = [(.ireturn, 0, 0)] := rfl
theorem a_Ne_hasState : zmA i_Ne_hasState = 1 := rfl
theorem l_Ne_hasState : zmL i_Ne_hasState = 2 := rfl
theorem r_Ne_hasState : zmR i_Ne_hasState = some .boolean := rfl
theorem o_Ne_hasState : zmO i_Ne_hasState = 5 := rfl
theorem k_Ne_hasPlayer_0 : zblk i_Ne_hasPlayer 0 = [(.iload 1, 0, 0), (.ifCond .lt 0, 3, 0), (.goto_w 0, 1, 0)] := rfl
theorem k_Ne_hasPlayer_1 : zblk i_Ne_hasPlayer 1 = [(.iload 1, 0, 0), (.aload 0, 0, 0), (.getfield 0, 5, 1), (.if_icmp .ge 0, 3, 0), (.goto_w 0, 2, 0)] := rfl
theorem k_Ne_hasPlayer_2 : zblk i_Ne_hasPlayer 2 = [(.iconst (1), 0, 0), (.goto 0, 4, 0)] := rfl
theorem k_Ne_hasPlayer_3 : zblk i_Ne_hasPlayer 3 = [(.iconst (0), 0, 0), (.goto_w 0, 4, 0)] := rfl
theorem k_Ne_hasPlayer_4 : zblk i_Ne_hasPlayer 4 = [(.ireturn, 0, 0)] := rfl
theorem a_Ne_hasPlayer : zmA i_Ne_hasPlayer = 1 := rfl
theorem l_Ne_hasPlayer : zmL i_Ne_hasPlayer = 2 := rfl
theorem r_Ne_hasPlayer : zmR i_Ne_hasPlayer = some .boolean := rfl
theorem o_Ne_hasPlayer : zmO i_Ne_hasPlayer = 5 := rfl
theorem k_Ne_hasGroup_0 : zblk i_Ne_hasGroup 0 = [(.iload 1, 0, 0), (.ifCond .lt 0, 3, 0), (.goto_w 0, 1, 0)] := rfl
theorem k_Ne_hasGroup_1 : zblk i_Ne_hasGroup 1 = [(.iload 1, 0, 0), (.aload 0, 0, 0), (.invokevirtual 0, 65, 0), (.if_icmp .gt 0, 3, 0), (.goto_w 0, 2, 0)] := rfl
theorem k_Ne_hasGroup_2 : zblk i_Ne_hasGroup 2 = [(.iconst (1), 0, 0), (.goto 0, 4, 0)] := rfl
theorem k_Ne_hasGroup_3 : zblk i_Ne_hasGroup 3 = [(.iconst (0), 0, 0), (.goto_w 0, 4, 0)] := rfl
theorem k_Ne_hasGroup_4 : zblk i_Ne_hasGroup 4 = [(.ireturn, 0, 0)] := rfl
theorem a_Ne_hasGroup : zmA i_Ne_hasGroup = 1 := rfl
theorem l_Ne_hasGroup : zmL i_Ne_hasGroup = 2 := rfl
theorem r_Ne_hasGroup : zmR i_Ne_hasGroup = some .boolean := rfl
theorem o_Ne_hasGroup : zmO i_Ne_hasGroup = 5 := rfl
theorem k_Ne_hasSet_0 : zblk i_Ne_hasSet 0 = [(.iload 1, 0, 0), (.ifCond .lt 0, 3, 0), (.goto_w 0, 1, 0)] := rfl
theorem k_Ne_hasSet_1 : zblk i_Ne_hasSet 1 = [(.iload 1, 0, 0), (.aload 0, 0, 0), (.invokevirtual 0, 66, 0), (.if_icmp .gt 0, 3, 0), (.goto_w 0, 2, 0)] := rfl
theorem k_Ne_hasSet_2 : zblk i_Ne_hasSet 2 = [(.iconst (1), 0, 0), (.goto 0, 4, 0)] := rfl
theorem k_Ne_hasSet_3 : zblk i_Ne_hasSet 3 = [(.iconst (0), 0, 0), (.goto_w 0, 4, 0)] := rfl
theorem k_Ne_hasSet_4 : zblk i_Ne_hasSet 4 = [(.ireturn, 0, 0)] := rfl
theorem a_Ne_hasSet : zmA i_Ne_hasSet = 1 := rfl
theorem l_Ne_hasSet : zmL i_Ne_hasSet = 2 := rfl
theorem r_Ne_hasSet : zmR i_Ne_hasSet = some .boolean := rfl
theorem o_Ne_hasSet : zmO i_Ne_hasSet = 5 := rfl
theorem k_Ne_hasMove_0 : zblk i_Ne_hasMove 0 = [(.aload 0, 0, 0), (.iload 1, 0, 0), (.invokevirtual 0, 59, 0), (.ifCond .eq 0, 5, 0), (.goto_w 0, 1, 0)] := rfl
theorem k_Ne_hasMove_1 : zblk i_Ne_hasMove 1 = [(.aload 0, 0, 0), (.iload 2, 0, 0), (.invokevirtual 0, 60, 0), (.ifCond .eq 0, 5, 0), (.goto_w 0, 2, 0)] := rfl
theorem k_Ne_hasMove_2 : zblk i_Ne_hasMove 2 = [(.iload 3, 0, 0), (.ifCond .lt 0, 5, 0), (.goto_w 0, 3, 0)] := rfl
theorem k_Ne_hasMove_3 : zblk i_Ne_hasMove 3 = [(.iload 3, 0, 0), (.aload 0, 0, 0), (.iload 1, 0, 0), (.iload 2, 0, 0), (.invokevirtual 0, 67, 0), (.if_icmp .ge 0, 5, 0), (.goto_w 0, 4, 0)] := rfl
theorem k_Ne_hasMove_4 : zblk i_Ne_hasMove 4 = [(.iconst (1), 0, 0), (.goto 0, 6, 0)] := rfl
theorem k_Ne_hasMove_5 : zblk i_Ne_hasMove 5 = [(.iconst (0), 0, 0), (.goto_w 0, 6, 0)] := rfl
theorem k_Ne_hasMove_6 : zblk i_Ne_hasMove 6 = [(.ireturn, 0, 0)] := rfl
theorem a_Ne_hasMove : zmA i_Ne_hasMove = 3 := rfl
theorem l_Ne_hasMove : zmL i_Ne_hasMove = 4 := rfl
theorem r_Ne_hasMove : zmR i_Ne_hasMove = some .boolean := rfl
theorem o_Ne_hasMove : zmO i_Ne_hasMove = 5 := rfl
theorem k_Ne_hasJoint_0 : zblk i_Ne_hasJoint 0 = [(.aload 0, 0, 0), (.iload 1, 0, 0), (.invokevirtual 0, 59, 0), (.ifCond .eq 0, 4, 0), (.goto_w 0, 1, 0)] := rfl
theorem k_Ne_hasJoint_1 : zblk i_Ne_hasJoint 1 = [(.iload 2, 0, 0), (.ifCond .lt 0, 4, 0), (.goto_w 0, 2, 0)] := rfl
theorem k_Ne_hasJoint_2 : zblk i_Ne_hasJoint 2 = [(.iload 2, 0, 0), (.aload 0, 0, 0), (.iload 1, 0, 0), (.aload 0, 0, 0), (.invokevirtual 0, 65, 0), (.invokevirtual 0, 74, 0), (.if_icmp .ge 0, 4, 0), (.goto_w 0, 3, 0)] := rfl
theorem k_Ne_hasJoint_3 : zblk i_Ne_hasJoint 3 = [(.iconst (1), 0, 0), (.goto 0, 5, 0)] := rfl
theorem k_Ne_hasJoint_4 : zblk i_Ne_hasJoint 4 = [(.iconst (0), 0, 0), (.goto_w 0, 5, 0)] := rfl
theorem k_Ne_hasJoint_5 : zblk i_Ne_hasJoint 5 = [(.ireturn, 0, 0)] := rfl
theorem a_Ne_hasJoint : zmA i_Ne_hasJoint = 2 := rfl
theorem l_Ne_hasJoint : zmL i_Ne_hasJoint = 3 := rfl
theorem r_Ne_hasJoint : zmR i_Ne_hasJoint = some .boolean := rfl
theorem o_Ne_hasJoint : zmO i_Ne_hasJoint = 5 := rfl
theorem k_Ne_everyone_0 : zblk i_Ne_everyone 0 = [(.iconst (1), 0, 0), (.aload 0, 0, 0), (.getfield 0, 5, 1), (.ishl, 0, 0), (.iconst (1), 0, 0), (.isub, 0, 0), (.ireturn, 0, 0)] := rfl
theorem a_Ne_everyone : zmA i_Ne_everyone = 0 := rfl
theorem l_Ne_everyone : zmL i_Ne_everyone = 1 := rfl
theorem r_Ne_everyone : zmR i_Ne_everyone = some .int := rfl
theorem o_Ne_everyone : zmO i_Ne_everyone = 5 := rfl
theorem k_Ne_everywhere_0 : zblk i_Ne_everywhere 0 = [(.iconst (1), 0, 0), (.aload 0, 0, 0), (.getfield 0, 5, 0), (.ishl, 0, 0), (.iconst (1), 0, 0), (.isub, 0, 0), (.ireturn, 0, 0)] := rfl
theorem a_Ne_everywhere : zmA i_Ne_everywhere = 0 := rfl
theorem l_Ne_everywhere : zmL i_Ne_everywhere = 1 := rfl
theorem r_Ne_everywhere : zmR i_Ne_everywhere = some .int := rfl
theorem o_Ne_everywhere : zmO i_Ne_everywhere = 5 := rfl
theorem k_Ne_movesOf_0 : zblk i_Ne_movesOf 0 = [(.aload 0, 0, 0), (.getfield 0, 5, 3), (.iload 1, 0, 0), (.iconst (4), 0, 0), (.imul, 0, 0), (.iload 2, 0, 0), (.iadd, 0, 0), (.invokestatic 0, 159, 0), (.ireturn, 0, 0)] := rfl
theorem a_Ne_movesOf : zmA i_Ne_movesOf = 2 := rfl
theorem l_Ne_movesOf : zmL i_Ne_movesOf = 3 := rfl
theorem r_Ne_movesOf : zmR i_Ne_movesOf = some .int := rfl
theorem o_Ne_movesOf : zmO i_Ne_movesOf = 5 := rfl
theorem k_Ne_heapOf_0 : zblk i_Ne_heapOf 0 = [(.aload 0, 0, 0), (.getfield 0, 5, 8), (.iload 1, 0, 0), (.iconst (12), 0, 0), (.imul, 0, 0), (.iload 2, 0, 0), (.iadd, 0, 0), (.invokestatic 0, 159, 0), (.ireturn, 0, 0)] := rfl
theorem a_Ne_heapOf : zmA i_Ne_heapOf = 2 := rfl
theorem l_Ne_heapOf : zmL i_Ne_heapOf = 3 := rfl
theorem r_Ne_heapOf : zmR i_Ne_heapOf = some .int := rfl
theorem o_Ne_heapOf : zmO i_Ne_heapOf = 5 := rfl
theorem k_Ne_target_0 : zblk i_Ne_target 0 = [(.aload 0, 0, 0), (.getfield 0, 5, 6), (.iload 1, 0, 0), (.iconst (81), 0, 0), (.imul, 0, 0), (.iload 2, 0, 0), (.iadd, 0, 0), (.invokestatic 0, 159, 0), (.ireturn, 0, 0)] := rfl
theorem a_Ne_target : zmA i_Ne_target = 2 := rfl
theorem l_Ne_target : zmL i_Ne_target = 3 := rfl
theorem r_Ne_target : zmR i_Ne_target = some .int := rfl
theorem o_Ne_target : zmO i_Ne_target = 5 := rfl
theorem k_Ne_changeMoves_0 : zblk i_Ne_changeMoves 0 = [(.aload 0, 0, 0), (.dup, 0, 0), (.getfield 0, 5, 2), (.iconst (1), 0, 0), (.iadd, 0, 0), (.putfield 0, 5, 2), (.aload 0, 0, 0), (.iload 1, 0, 0), (.invokevirtual 0, 58, 0), (.aload 0, 0, 0), (.getfield 0, 5, 3), (.iload 1, 0, 0), (.iconst (4), 0, 0), (.imul, 0, 0), (.iload 2, 0, 0), (.iadd, 0, 0), (.iload 3, 0, 0), (.invokestatic 0, 161, 0), (.ireturn, 0, 0)] := rfl
theorem a_Ne_changeMoves : zmA i_Ne_changeMoves = 3 := rfl
theorem l_Ne_changeMoves : zmL i_Ne_changeMoves = 4 := rfl
theorem r_Ne_changeMoves : zmR i_Ne_changeMoves = some .int := rfl
theorem o_Ne_changeMoves : zmO i_Ne_changeMoves = 5 := rfl
theorem k_Ne_changeTarget_0 : zblk i_Ne_changeTarget 0 = [(.aload 0, 0, 0), (.dup, 0, 0), (.getfield 0, 5, 2), (.iconst (1), 0, 0), (.iadd, 0, 0), (.putfield 0, 5, 2), (.aload 0, 0, 0), (.getfield 0, 5, 6), (.iload 1, 0, 0), (.iconst (81), 0, 0), (.imul, 0, 0), (.iload 2, 0, 0), (.iadd, 0, 0), (.iload 3, 0, 0), (.invokestatic 0, 161, 0), (.ireturn, 0, 0)] := rfl
theorem a_Ne_changeTarget : zmA i_Ne_changeTarget = 3 := rfl
theorem l_Ne_changeTarget : zmL i_Ne_changeTarget = 4 := rfl
theorem r_Ne_changeTarget : zmR i_Ne_changeTarget = some .int := rfl
theorem o_Ne_changeTarget : zmO i_Ne_changeTarget = 5 := rfl
theorem k_Ne_changeLetters_0 : zblk i_Ne_changeLetters 0 = [(.aload 0, 0, 0), (.dup, 0, 0), (.getfield 0, 5, 2), (.iconst (1), 0, 0), (.iadd, 0, 0), (.putfield 0, 5, 2), (.aload 0, 0, 0), (.getfield 0, 5, 7), (.iload 1, 0, 0), (.iload 2, 0, 0), (.invokestatic 0, 161, 0), (.ireturn, 0, 0)] := rfl
theorem a_Ne_changeLetters : zmA i_Ne_changeLetters = 2 := rfl
theorem l_Ne_changeLetters : zmL i_Ne_changeLetters = 3 := rfl
theorem r_Ne_changeLetters : zmR i_Ne_changeLetters = some .int := rfl
theorem o_Ne_changeLetters : zmO i_Ne_changeLetters = 5 := rfl
theorem k_Ne_bearing_0 : zblk i_Ne_bearing 0 = [(.iconst (0), 0, 0), (.istore 2, 0, 0), (.iconst (0), 0, 0), (.istore 3, 0, 0), (.goto_w 0, 1, 0)] := rfl
theorem k_Ne_bearing_1 : zblk i_Ne_bearing 1 = [(.iload 3, 0, 0), (.aload 0, 0, 0), (.getfield 0, 5, 0), (.if_icmp .ge 0, 5, 0), (.goto_w 0, 2, 0)] := rfl
theorem k_Ne_bearing_2 : zblk i_Ne_bearing 2 = [(.aload 0, 0, 0), (.getfield 0, 5, 7), (.iload 3, 0, 0), (.invokestatic 0, 159, 0), (.iload 1, 0, 0), (.invokestatic 0, 162, 0), (.ifCond .eq 0, 4, 0), (.goto_w 0, 3, 0)] := rfl
theorem k_Ne_bearing_3 : zblk i_Ne_bearing 3 = [(.iload 2, 0, 0), (.iconst (1), 0, 0), (.iload 3, 0, 0), (.ishl, 0, 0), (.ior, 0, 0), (.istore 2, 0, 0), (.goto_w 0, 4, 0)] := rfl
theorem k_Ne_bearing_4 : zblk i_Ne_bearing 4 = [(.iinc 3 (1), 0, 0), (.goto 0, 1, 0)] := rfl
theorem k_Ne_bearing_5 : zblk i_Ne_bearing 5 = [(.iload 2, 0, 0), (.ireturn, 0, 0)] := rfl
theorem a_Ne_bearing : zmA i_Ne_bearing = 1 := rfl
theorem l_Ne_bearing : zmL i_Ne_bearing = 4 := rfl
theorem r_Ne_bearing : zmR i_Ne_bearing = some .int := rfl
theorem o_Ne_bearing : zmO i_Ne_bearing = 5 := rfl
theorem k_Ne_ways_0 : zblk i_Ne_ways 0 = [(.iconst (1), 0, 0), (.istore 3, 0, 0), (.iconst (0), 0, 0), (.istore 4, 0, 0), (.goto_w 0, 1, 0)] := rfl
theorem k_Ne_ways_1 : zblk i_Ne_ways 1 = [(.iload 4, 0, 0), (.aload 0, 0, 0), (.getfield 0, 5, 1), (.if_icmp .ge 0, 5, 0), (.goto_w 0, 2, 0)] := rfl
theorem k_Ne_ways_2 : zblk i_Ne_ways 2 = [(.iload 2, 0, 0), (.iload 4, 0, 0), (.invokestatic 0, 162, 0), (.ifCond .eq 0, 4, 0), (.goto_w 0, 3, 0)] := rfl
theorem k_Ne_ways_3 : zblk i_Ne_ways 3 = [(.iload 3, 0, 0), (.aload 0, 0, 0), (.iload 1, 0, 0), (.iload 4, 0, 0), (.invokevirtual 0, 67, 0), (.imul, 0, 0), (.istore 3, 0, 0), (.goto_w 0, 4, 0)] := rfl
theorem k_Ne_ways_4 : zblk i_Ne_ways 4 = [(.iinc 4 (1), 0, 0), (.goto 0, 1, 0)] := rfl
theorem k_Ne_ways_5 : zblk i_Ne_ways 5 = [(.iload 3, 0, 0), (.ireturn, 0, 0)] := rfl
theorem a_Ne_ways : zmA i_Ne_ways = 2 := rfl
theorem l_Ne_ways : zmL i_Ne_ways = 5 := rfl
theorem r_Ne_ways : zmR i_Ne_ways = some .int := rfl
theorem o_Ne_ways : zmO i_Ne_ways = 5 := rfl
theorem k_Ne_together_0 : zblk i_Ne_together 0 = [(.iload 3, 0, 0), (.istore 5, 0, 0), (.iload 4, 0, 0), (.istore 6, 0, 0), (.iconst (0), 0, 0), (.istore 7, 0, 0), (.iconst (1), 0, 0), (.istore 8, 0, 0), (.aload 0, 0, 0), (.getfield 0, 5, 1), (.iconst (1), 0, 0), (.isub, 0, 0), (.istore 9, 0, 0), (.goto_w 0, 1, 0)] := rfl
theorem k_Ne_together_1 : zblk i_Ne_together 1 = [(.iload 9, 0, 0), (.ifCond .lt 0, 6, 0), (.goto_w 0, 2, 0)] := rfl
theorem k_Ne_together_2 : zblk i_Ne_together 2 = [(.aload 0, 0, 0), (.iload 1, 0, 0), (.iload 9, 0, 0), (.invokevirtual 0, 67, 0), (.istore 10, 0, 0), (.iload 2, 0, 0), (.iload 9, 0, 0), (.invokestatic 0, 162, 0), (.ifCond .eq 0, 4, 0), (.goto_w 0, 3, 0)] := rfl
theorem k_Ne_together_3 : zblk i_Ne_together 3 = [(.iload 7, 0, 0), (.iload 5, 0, 0), (.iload 10, 0, 0), (.invokestatic 0, 165, 0), (.iload 8, 0, 0), (.imul, 0, 0), (.iadd, 0, 0), (.istore 7, 0, 0), (.iload 5, 0, 0), (.iload 10, 0, 0), (.invokestatic 0, 164, 0), (.istore 5, 0, 0), (.goto 0, 5, 0)] := rfl
theorem k_Ne_together_4 : zblk i_Ne_together 4 = [(.iload 7, 0, 0), (.iload 6, 0, 0), (.iload 10, 0, 0), (.invokestatic 0, 165, 0), (.iload 8, 0, 0), (.imul, 0, 0), (.iadd, 0, 0), (.istore 7, 0, 0), (.iload 6, 0, 0), (.iload 10, 0, 0), (.invokestatic 0, 164, 0), (.istore 6, 0, 0), (.goto_w 0, 5, 0)] := rfl
theorem k_Ne_together_5 : zblk i_Ne_together 5 = [(.iload 8, 0, 0), (.iload 10, 0, 0), (.imul, 0, 0), (.istore 8, 0, 0), (.iinc 9 (-1), 0, 0), (.goto 0, 1, 0)] := rfl
theorem k_Ne_together_6 : zblk i_Ne_together 6 = [(.iload 7, 0, 0), (.ireturn, 0, 0)] := rfl
theorem a_Ne_together : zmA i_Ne_together = 4 := rfl
theorem l_Ne_together : zmL i_Ne_together = 11 := rfl
theorem r_Ne_together : zmR i_Ne_together = some .int := rfl
theorem o_Ne_together : zmO i_Ne_together = 5 := rfl
theorem k_Ne_leastInto_0 : zblk i_Ne_leastInto 0 = [(.aload 0, 0, 0), (.iload 1, 0, 0), (.iload 2, 0, 0), (.invokevirtual 0, 74, 0), (.istore 4, 0, 0), (.aload 0, 0, 0), (.iload 1, 0, 0), (.aload 0, 0, 0), (.invokevirtual 0, 65, 0), (.iload 2, 0, 0), (.iconst (-1), 0, 0), (.ixor, 0, 0), (.iand, 0, 0), (.invokevirtual 0, 74, 0), (.istore 5, 0, 0), (.iconst (0), 0, 0), (.istore 6, 0, 0), (.goto_w 0, 1, 0)] := rfl
theorem k_Ne_leastInto_1 : zblk i_Ne_leastInto 1 = [(.iload 6, 0, 0), (.iload 4, 0, 0), (.if_icmp .ge 0, 10, 0), (.goto_w 0, 2, 0)] := rfl
theorem k_Ne_leastInto_2 : zblk i_Ne_leastInto 2 = [(.iconst (0), 0, 0), (.istore 7, 0, 0), (.iconst (0), 0, 0), (.istore 8, 0, 0), (.goto_w 0, 3, 0)] := rfl
theorem k_Ne_leastInto_3 : zblk i_Ne_leastInto 3 = [(.iload 8, 0, 0), (.iload 5, 0, 0), (.if_icmp .ge 0, 7, 0), (.goto_w 0, 4, 0)] := rfl
theorem k_Ne_leastInto_4 : zblk i_Ne_leastInto 4 = [(.iload 3, 0, 0), (.aload 0, 0, 0), (.iload 1, 0, 0), (.aload 0, 0, 0), (.iload 1, 0, 0), (.iload 2, 0, 0), (.iload 6, 0, 0), (.iload 8, 0, 0), (.invokevirtual 0, 75, 0), (.invokevirtual 0, 69, 0), (.invokestatic 0, 162, 0), (.ifCond .eq 0, 6, 0), (.goto_w 0, 5, 0)] := rfl
theorem k_Ne_leastInto_5 : zblk i_Ne_leastInto 5 = [(.iinc 7 (1), 0, 0), (.goto_w 0, 6, 0)] := rfl
theorem k_Ne_leastInto_6 : zblk i_Ne_leastInto 6 = [(.iinc 8 (1), 0, 0), (.goto 0, 3, 0)] := rfl
theorem k_Ne_leastInto_7 : zblk i_Ne_leastInto 7 = [(.iload 7, 0, 0), (.iload 5, 0, 0), (.if_icmp .ne 0, 9, 0), (.goto_w 0, 8, 0)] := rfl
theorem k_Ne_leastInto_8 : zblk i_Ne_leastInto 8 = [(.iload 6, 0, 0), (.ireturn, 0, 0)] := rfl
theorem k_Ne_leastInto_9 : zblk i_Ne_leastInto 9 = [(.iinc 6 (1), 0, 0), (.goto 0, 1, 0)] := rfl
theorem k_Ne_leastInto_10 : zblk i_Ne_leastInto 10 = [(.iconst (-1), 0, 0), (.ireturn, 0, 0)] := rfl
theorem a_Ne_leastInto : zmA i_Ne_leastInto = 3 := rfl
theorem l_Ne_leastInto : zmL i_Ne_leastInto = 9 := rfl
theorem r_Ne_leastInto : zmR i_Ne_leastInto = some .int := rfl
theorem o_Ne_leastInto : zmO i_Ne_leastInto = 5 := rfl
theorem k_Ne_sumOfPrices_0 : zblk i_Ne_sumOfPrices 0 = [(.iload 3, 0, 0), (.istore 4, 0, 0), (.iconst (0), 0, 0), (.istore 5, 0, 0), (.aload 0, 0, 0), (.getfield 0, 5, 1), (.iconst (1), 0, 0), (.isub, 0, 0), (.istore 6, 0, 0), (.goto_w 0, 1, 0)] := rfl
theorem k_Ne_sumOfPrices_1 : zblk i_Ne_sumOfPrices 1 = [(.iload 6, 0, 0), (.ifCond .lt 0, 5, 0), (.goto_w 0, 2, 0)] := rfl
theorem k_Ne_sumOfPrices_2 : zblk i_Ne_sumOfPrices 2 = [(.iload 2, 0, 0), (.iload 6, 0, 0), (.invokestatic 0, 162, 0), (.ifCond .eq 0, 4, 0), (.goto_w 0, 3, 0)] := rfl
theorem k_Ne_sumOfPrices_3 : zblk i_Ne_sumOfPrices 3 = [(.aload 0, 0, 0), (.iload 1, 0, 0), (.iload 6, 0, 0), (.invokevirtual 0, 67, 0), (.istore 7, 0, 0), (.iload 5, 0, 0), (.aload 0, 0, 0), (.getfield 0, 5, 5), (.iload 1, 0, 0), (.iconst (4), 0, 0), (.imul, 0, 0), (.iload 6, 0, 0), (.iadd, 0, 0), (.iconst (3), 0, 0), (.imul, 0, 0), (.iload 4, 0, 0), (.iload 7, 0, 0), (.invokestatic 0, 165, 0), (.iadd, 0, 0), (.invokestatic 0, 159, 0), (.iadd, 0, 0), (.istore 5, 0, 0), (.iload 4, 0, 0), (.iload 7, 0, 0), (.invokestatic 0, 164, 0), (.istore 4, 0, 0), (.goto_w 0, 4, 0)] := rfl
theorem k_Ne_sumOfPrices_4 : zblk i_Ne_sumOfPrices 4 = [(.iinc 6 (-1), 0, 0), (.goto 0, 1, 0)] := rfl
theorem k_Ne_sumOfPrices_5 : zblk i_Ne_sumOfPrices 5 = [(.iload 5, 0, 0), (.ireturn, 0, 0)] := rfl
theorem a_Ne_sumOfPrices : zmA i_Ne_sumOfPrices = 3 := rfl
theorem l_Ne_sumOfPrices : zmL i_Ne_sumOfPrices = 8 := rfl
theorem r_Ne_sumOfPrices : zmR i_Ne_sumOfPrices = some .int := rfl
theorem o_Ne_sumOfPrices : zmO i_Ne_sumOfPrices = 5 := rfl
theorem k_Ne_leastMoves_0 : zblk i_Ne_leastMoves 0 = [(.iconst (0), 0, 0), (.istore 3, 0, 0), (.iconst (0), 0, 0), (.istore 4, 0, 0), (.goto_w 0, 1, 0)] := rfl
theorem k_Ne_leastMoves_1 : zblk i_Ne_leastMoves 1 = [(.iload 4, 0, 0), (.aload 0, 0, 0), (.getfield 0, 5, 0), (.if_icmp .ge 0, 7, 0), (.goto_w 0, 2, 0)] := rfl
theorem k_Ne_leastMoves_2 : zblk i_Ne_leastMoves 2 = [(.aload 0, 0, 0), (.iload 1, 0, 0), (.iload 4, 0, 0), (.invokevirtual 0, 68, 0), (.iload 2, 0, 0), (.if_icmp .ne 0, 6, 0), (.goto_w 0, 3, 0)] := rfl
theorem k_Ne_leastMoves_3 : zblk i_Ne_leastMoves 3 = [(.iload 3, 0, 0), (.ifCond .eq 0, 5, 0), (.goto_w 0, 4, 0)] := rfl
theorem k_Ne_leastMoves_4 : zblk i_Ne_leastMoves 4 = [(.aload 0, 0, 0), (.iload 4, 0, 0), (.iload 1, 0, 0), (.invokevirtual 0, 67, 0), (.iload 3, 0, 0), (.if_icmp .ge 0, 6, 0), (.goto_w 0, 5, 0)] := rfl
theorem k_Ne_leastMoves_5 : zblk i_Ne_leastMoves 5 = [(.aload 0, 0, 0), (.iload 4, 0, 0), (.iload 1, 0, 0), (.invokevirtual 0, 67, 0), (.istore 3, 0, 0), (.goto_w 0, 6, 0)] := rfl
theorem k_Ne_leastMoves_6 : zblk i_Ne_leastMoves 6 = [(.iinc 4 (1), 0, 0), (.goto 0, 1, 0)] := rfl
theorem k_Ne_leastMoves_7 : zblk i_Ne_leastMoves 7 = [(.iload 3, 0, 0), (.ireturn, 0, 0)] := rfl
theorem a_Ne_leastMoves : zmA i_Ne_leastMoves = 2 := rfl
theorem l_Ne_leastMoves : zmL i_Ne_leastMoves = 5 := rfl
theorem r_Ne_leastMoves : zmR i_Ne_leastMoves = some .int := rfl
theorem o_Ne_leastMoves : zmO i_Ne_leastMoves = 5 := rfl
theorem k_Ne_next_0 : zblk i_Ne_next 0 = [(.iconst (0), 0, 0), (.istore 5, 0, 0), (.iconst (0), 0, 0), (.istore 6, 0, 0), (.goto_w 0, 1, 0)] := rfl
theorem k_Ne_next_1 : zblk i_Ne_next 1 = [(.iload 6, 0, 0), (.aload 0, 0, 0), (.getfield 0, 5, 1), (.if_icmp .ge 0, 6, 0), (.goto_w 0, 2, 0)] := rfl
theorem k_Ne_next_2 : zblk i_Ne_next 2 = [(.iload 6, 0, 0), (.iload 3, 0, 0), (.if_icmp .ne 0, 4, 0), (.goto_w 0, 3, 0)] := rfl
theorem k_Ne_next_3 : zblk i_Ne_next 3 = [(.iload 4, 0, 0), (.goto 0, 5, 0)] := rfl
theorem k_Ne_next_4 : zblk i_Ne_next 4 = [(.aload 1, 0, 0), (.iload 2, 0, 0), (.iconst (4), 0, 0), (.imul, 0, 0), (.iload 6, 0, 0), (.iadd, 0, 0), (.invokestatic 0, 159, 0), (.goto_w 0, 5, 0)] := rfl
theorem k_Ne_next_5 : zblk i_Ne_next 5 = [(.istore 7, 0, 0), (.iload 5, 0, 0), (.aload 0, 0, 0), (.iload 2, 0, 0), (.iload 6, 0, 0), (.invokevirtual 0, 67, 0), (.imul, 0, 0), (.iload 7, 0, 0), (.iadd, 0, 0), (.istore 5, 0, 0), (.iinc 6 (1), 0, 0), (.goto 0, 1, 0)] := rfl
theorem k_Ne_next_6 : zblk i_Ne_next 6 = [(.aload 0, 0, 0), (.iload 2, 0, 0), (.iload 5, 0, 0), (.invokevirtual 0, 69, 0), (.ireturn, 0, 0)] := rfl
theorem a_Ne_next : zmA i_Ne_next = 4 := rfl
theorem l_Ne_next : zmL i_Ne_next = 8 := rfl
theorem r_Ne_next : zmR i_Ne_next = some .int := rfl
theorem o_Ne_next : zmO i_Ne_next = 5 := rfl
theorem k_Ne_allPlans_0 : zblk i_Ne_allPlans 0 = [(.sipush (1), 0, 0), (.lstore 1, 0, 0), (.iconst (0), 0, 0), (.istore 3, 0, 0), (.goto_w 0, 1, 0)] := rfl
theorem k_Ne_allPlans_1 : zblk i_Ne_allPlans 1 = [(.iload 3, 0, 0), (.aload 0, 0, 0), (.getfield 0, 5, 0), (.if_icmp .ge 0, 3, 0), (.goto_w 0, 2, 0)] := rfl
theorem k_Ne_allPlans_2 : zblk i_Ne_allPlans 2 = [(.lload 1, 0, 0), (.aload 0, 0, 0), (.iload 3, 0, 0), (.aload 0, 0, 0), (.invokevirtual 0, 65, 0), (.invokevirtual 0, 74, 0), (.i2l, 0, 0), (.lmul, 0, 0), (.sipush (2000000000), 0, 0), (.dsub, 0, 0), (.lstore 1, 0, 0), (.iinc 3 (1), 0, 0), (.goto 0, 1, 0)] := rfl
theorem k_Ne_allPlans_3 : zblk i_Ne_allPlans 3 = [(.lload 1, 0, 0), (.l2i, 0, 0), (.ireturn, 0, 0)] := rfl
theorem a_Ne_allPlans : zmA i_Ne_allPlans = 0 := rfl
theorem l_Ne_allPlans : zmL i_Ne_allPlans = 4 := rfl
theorem r_Ne_allPlans : zmR i_Ne_allPlans = some .int := rfl
theorem o_Ne_allPlans : zmO i_Ne_allPlans = 5 := rfl
theorem k_Pl_init_0 : zblk i_Pl_init 0 = [(.aload 0, 0, 0), (.nop, 0, 0), (.aload 0, 0, 0), (.iconst (12), 0, 0), (.newarray .int, 0, 0), (.putfield 0, 6, 4), (.aload 0, 0, 0), (.iconst (41), 0, 0), (.newarray .int, 0, 0), (.putfield 0, 6, 5), (.aload 0, 0, 0), (.aload 1, 0, 0), (.putfield 0, 6, 0), (.aload 0, 0, 0), (.aload 2, 0, 0), (.putfield 0, 6, 1), (.aload 0, 0, 0), (.aload 3, 0, 0), (.putfield 0, 6, 2), (.aload 0, 0, 0), (.aload 4, 0, 0), (.putfield 0, 6, 3), (.return_, 0, 0)] := rfl
theorem a_Pl_init : zmA i_Pl_init = 4 := rfl
theorem l_Pl_init : zmL i_Pl_init = 5 := rfl
theorem r_Pl_init : zmR i_Pl_init = none := rfl
theorem o_Pl_init : zmO i_Pl_init = 6 := rfl
theorem k_Pl_move_0 : zblk i_Pl_move 0 = [(.aload 0, 0, 0), (.getfield 0, 6, 3), (.invokevirtual 0, 35, 0), (.iload 1, 0, 0), (.invokestatic 0, 162, 0), (.ifCond .ne 0, 2, 0), (.goto_w 0, 1, 0)] := rfl
theorem k_Pl_move_1 : zblk i_Pl_move 1 = [(.iconst (-4), 0, 0), (.ireturn, 0, 0)] := rfl
theorem k_Pl_move_2 : zblk i_Pl_move 2 = [(.aload 0, 0, 0), (.getfield 0, 6, 2), (.iload 1, 0, 0), (.aload 0, 0, 0), (.iload 1, 0, 0), (.invokevirtual 0, 83, 0), (.invokevirtual 0, 107, 0), (.istore 2, 0, 0), (.iload 2, 0, 0), (.ifCond .ge 0, 4, 0), (.goto_w 0, 3, 0)] := rfl
theorem k_Pl_move_3 : zblk i_Pl_move 3 = [(.iconst (-4), 0, 0), (.goto 0, 5, 0)] := rfl
theorem k_Pl_move_4 : zblk i_Pl_move 4 = [(.iload 2, 0, 0), (.goto_w 0, 5, 0)] := rfl
theorem k_Pl_move_5 : zblk i_Pl_move 5 = [(.ireturn, 0, 0)] := rfl
theorem a_Pl_move : zmA i_Pl_move = 1 := rfl
theorem l_Pl_move : zmL i_Pl_move = 3 := rfl
theorem r_Pl_move : zmR i_Pl_move = some .int := rfl
theorem o_Pl_move : zmO i_Pl_move = 6 := rfl
theorem k_Pl_aim_0 : zblk i_Pl_aim 0 = [(.aload 0, 0, 0), (.getfield 0, 6, 3), (.getfield 0, 3, 4), (.iload 1, 0, 0), (.invokestatic 0, 159, 0), (.istore 2, 0, 0), (.aload 0, 0, 0), (.getfield 0, 6, 1), (.iconst (0), 0, 0), (.invokevirtual 0, 18, 0), (.tableswitch 7 (5) (9) #[1, 2, 7, 7, 3], 0, 0)] := rfl
theorem k_Pl_aim_1 : zblk i_Pl_aim 1 = [(.aload 0, 0, 0), (.getfield 0, 6, 3), (.getfield 0, 3, 3), (.aload 0, 0, 0), (.getfield 0, 6, 1), (.iconst (0), 0, 0), (.invokevirtual 0, 19, 0), (.invokestatic 0, 159, 0), (.ireturn, 0, 0)] := rfl
theorem k_Pl_aim_2 : zblk i_Pl_aim 2 = [(.aload 0, 0, 0), (.getfield 0, 6, 3), (.invokevirtual 0, 35, 0), (.ireturn, 0, 0)] := rfl
theorem k_Pl_aim_3 : zblk i_Pl_aim 3 = [(.iload 2, 0, 0), (.ifCond .ne 0, 5, 0), (.goto_w 0, 4, 0)] := rfl
theorem k_Pl_aim_4 : zblk i_Pl_aim 4 = [(.aload 0, 0, 0), (.getfield 0, 6, 3), (.invokevirtual 0, 35, 0), (.goto 0, 6, 0)] := rfl
theorem k_Pl_aim_5 : zblk i_Pl_aim 5 = [(.aload 0, 0, 0), (.getfield 0, 6, 3), (.iload 2, 0, 0), (.invokevirtual 0, 42, 0), (.goto_w 0, 6, 0)] := rfl
theorem k_Pl_aim_6 : zblk i_Pl_aim 6 = [(.ireturn, 0, 0)] := rfl
theorem k_Pl_aim_7 : zblk i_Pl_aim 7 = [(.aload 0, 0, 0), (.getfield 0, 6, 3), (.iload 2, 0, 0), (.invokevirtual 0, 42, 0), (.ireturn, 0, 0)] := rfl
theorem a_Pl_aim : zmA i_Pl_aim = 1 := rfl
theorem l_Pl_aim : zmL i_Pl_aim = 3 := rfl
theorem r_Pl_aim : zmR i_Pl_aim = some .int := rfl
theorem o_Pl_aim : zmO i_Pl_aim = 6 := rfl
theorem k_Pl_hinder_0 : zblk i_Pl_hinder 0 = [(.aload 0, 0, 0), (.getfield 0, 6, 1), (.iconst (0), 0, 0), (.invokevirtual 0, 21, 0), (.istore 3, 0, 0), (.aload 0, 0, 0), (.getfield 0, 6, 1), (.iconst (0), 0, 0), (.invokevirtual 0, 18, 0), (.iconst (5), 0, 0), (.if_icmp .ne 0, 2, 0), (.goto_w 0, 1, 0)] := rfl
theorem k_Pl_hinder_1 : zblk i_Pl_hinder 1 = [(.aload 0, 0, 0), (.getfield 0, 6, 3), (.getfield 0, 3, 3), (.aload 0, 0, 0), (.getfield 0, 6, 1), (.iconst (0), 0, 0), (.invokevirtual 0, 19, 0), (.invokestatic 0, 159, 0), (.goto 0, 3, 0)] := rfl
theorem k_Pl_hinder_2 : zblk i_Pl_hinder 2 = [(.aload 0, 0, 0), (.getfield 0, 6, 3), (.invokevirtual 0, 35, 0), (.goto_w 0, 3, 0)] := rfl
theorem k_Pl_hinder_3 : zblk i_Pl_hinder 3 = [(.istore 4, 0, 0), (.aload 0, 0, 0), (.getfield 0, 6, 0), (.iload 1, 0, 0), (.aload 0, 0, 0), (.getfield 0, 6, 0), (.invokevirtual 0, 65, 0), (.iload 3, 0, 0), (.iconst (-1), 0, 0), (.ixor, 0, 0), (.iand, 0, 0), (.invokevirtual 0, 74, 0), (.istore 5, 0, 0), (.iconst (0), 0, 0), (.istore 6, 0, 0), (.goto_w 0, 4, 0)] := rfl
theorem k_Pl_hinder_4 : zblk i_Pl_hinder 4 = [(.iload 6, 0, 0), (.iload 5, 0, 0), (.if_icmp .ge 0, 8, 0), (.goto_w 0, 5, 0)] := rfl
theorem k_Pl_hinder_5 : zblk i_Pl_hinder 5 = [(.iload 4, 0, 0), (.aload 0, 0, 0), (.getfield 0, 6, 0), (.iload 1, 0, 0), (.aload 0, 0, 0), (.getfield 0, 6, 0), (.iload 1, 0, 0), (.iload 3, 0, 0), (.iload 2, 0, 0), (.iload 6, 0, 0), (.invokevirtual 0, 75, 0), (.invokevirtual 0, 69, 0), (.invokestatic 0, 162, 0), (.ifCond .ne 0, 7, 0), (.goto_w 0, 6, 0)] := rfl
theorem k_Pl_hinder_6 : zblk i_Pl_hinder 6 = [(.iload 6, 0, 0), (.ireturn, 0, 0)] := rfl
theorem k_Pl_hinder_7 : zblk i_Pl_hinder 7 = [(.iinc 6 (1), 0, 0), (.goto 0, 4, 0)] := rfl
theorem k_Pl_hinder_8 : zblk i_Pl_hinder 8 = [(.iconst (-4), 0, 0), (.ireturn, 0, 0)] := rfl
theorem a_Pl_hinder : zmA i_Pl_hinder = 2 := rfl
theorem l_Pl_hinder : zmL i_Pl_hinder = 7 := rfl
theorem r_Pl_hinder : zmR i_Pl_hinder = some .int := rfl
theorem o_Pl_hinder : zmO i_Pl_hinder = 6 := rfl
theorem k_Pl_leastSum_0 : zblk i_Pl_leastSum 0 = [(.iconst (0), 0, 0), (.istore 2, 0, 0), (.goto_w 0, 1, 0)] := rfl
theorem k_Pl_leastSum_1 : zblk i_Pl_leastSum 1 = [(.iload 2, 0, 0), (.iconst (12), 0, 0), (.if_icmp .ge 0, 3, 0), (.goto_w 0, 2, 0)] := rfl
theorem k_Pl_leastSum_2 : zblk i_Pl_leastSum 2 = [(.aload 0, 0, 0), (.getfield 0, 6, 4), (.iload 2, 0, 0), (.iconst (1000000), 0, 0), (.invokestatic 0, 160, 0), (.iinc 2 (1), 0, 0), (.goto 0, 1, 0)] := rfl
theorem k_Pl_leastSum_3 : zblk i_Pl_leastSum 3 = [(.iconst (0), 0, 0), (.istore 2, 0, 0), (.goto_w 0, 4, 0)] := rfl
theorem k_Pl_leastSum_4 : zblk i_Pl_leastSum 4 = [(.iload 2, 0, 0), (.aload 0, 0, 0), (.getfield 0, 6, 0), (.getfield 0, 5, 0), (.if_icmp .gt 0, 14, 0), (.goto_w 0, 5, 0)] := rfl
theorem k_Pl_leastSum_5 : zblk i_Pl_leastSum 5 = [(.iconst (0), 0, 0), (.istore 3, 0, 0), (.goto_w 0, 6, 0)] := rfl
theorem k_Pl_leastSum_6 : zblk i_Pl_leastSum 6 = [(.iload 3, 0, 0), (.aload 0, 0, 0), (.getfield 0, 6, 0), (.getfield 0, 5, 0), (.if_icmp .ge 0, 13, 0), (.goto_w 0, 7, 0)] := rfl
theorem k_Pl_leastSum_7 : zblk i_Pl_leastSum 7 = [(.aload 0, 0, 0), (.getfield 0, 6, 3), (.invokevirtual 0, 35, 0), (.iload 3, 0, 0), (.invokestatic 0, 162, 0), (.ifCond .eq 0, 12, 0), (.goto_w 0, 8, 0)] := rfl
theorem k_Pl_leastSum_8 : zblk i_Pl_leastSum 8 = [(.aload 0, 0, 0), (.getfield 0, 6, 4), (.iload 3, 0, 0), (.aload 0, 0, 0), (.getfield 0, 6, 3), (.getfield 0, 3, 4), (.iload 3, 0, 0), (.invokestatic 0, 159, 0), (.ifCond .ne 0, 10, 0), (.goto_w 0, 9, 0)] := rfl
theorem k_Pl_leastSum_9 : zblk i_Pl_leastSum 9 = [(.iconst (0), 0, 0), (.goto 0, 11, 0)] := rfl
theorem k_Pl_leastSum_10 : zblk i_Pl_leastSum 10 = [(.aload 0, 0, 0), (.iload 3, 0, 0), (.invokevirtual 0, 86, 0), (.goto_w 0, 11, 0)] := rfl
theorem k_Pl_leastSum_11 : zblk i_Pl_leastSum 11 = [(.invokestatic 0, 160, 0), (.goto_w 0, 12, 0)] := rfl
theorem k_Pl_leastSum_12 : zblk i_Pl_leastSum 12 = [(.iinc 3 (1), 0, 0), (.goto 0, 6, 0)] := rfl
theorem k_Pl_leastSum_13 : zblk i_Pl_leastSum 13 = [(.iinc 2 (1), 0, 0), (.goto 0, 4, 0)] := rfl
theorem k_Pl_leastSum_14 : zblk i_Pl_leastSum 14 = [(.aload 0, 0, 0), (.getfield 0, 6, 4), (.iload 1, 0, 0), (.invokestatic 0, 159, 0), (.ireturn, 0, 0)] := rfl
theorem a_Pl_leastSum : zmA i_Pl_leastSum = 1 := rfl
theorem l_Pl_leastSum : zmL i_Pl_leastSum = 4 := rfl
theorem r_Pl_leastSum : zmR i_Pl_leastSum = some .int := rfl
theorem o_Pl_leastSum : zmO i_Pl_leastSum = 6 := rfl
theorem k_Pl_cheapest_0 : zblk i_Pl_cheapest 0 = [(.iconst (1000000), 0, 0), (.istore 2, 0, 0), (.aload 0, 0, 0), (.getfield 0, 6, 2), (.getfield 0, 8, 2), (.iload 1, 0, 0), (.invokestatic 0, 159, 0), (.istore 3, 0, 0), (.iconst (0), 0, 0), (.istore 4, 0, 0), (.goto_w 0, 1, 0)] := rfl
theorem k_Pl_cheapest_1 : zblk i_Pl_cheapest 1 = [(.iload 4, 0, 0), (.iload 3, 0, 0), (.if_icmp .ge 0, 3, 0), (.goto_w 0, 2, 0)] := rfl
theorem k_Pl_cheapest_2 : zblk i_Pl_cheapest 2 = [(.aload 0, 0, 0), (.getfield 0, 6, 0), (.iload 1, 0, 0), (.aload 0, 0, 0), (.getfield 0, 6, 1), (.iconst (0), 0, 0), (.invokevirtual 0, 21, 0), (.iload 4, 0, 0), (.invokevirtual 0, 77, 0), (.aload 0, 0, 0), (.aload 0, 0, 0), (.getfield 0, 6, 2), (.iload 1, 0, 0), (.iload 4, 0, 0), (.invokevirtual 0, 106, 0), (.invokevirtual 0, 87, 0), (.iadd, 0, 0), (.istore 5, 0, 0), (.iload 2, 0, 0), (.iload 5, 0, 0), (.fsub, 0, 0), (.istore 2, 0, 0), (.iinc 4 (1), 0, 0), (.goto 0, 1, 0)] := rfl
theorem k_Pl_cheapest_3 : zblk i_Pl_cheapest 3 = [(.iload 2, 0, 0), (.ireturn, 0, 0)] := rfl
theorem a_Pl_cheapest : zmA i_Pl_cheapest = 1 := rfl
theorem l_Pl_cheapest : zmL i_Pl_cheapest = 6 := rfl
theorem r_Pl_cheapest : zmR i_Pl_cheapest = some .int := rfl
theorem o_Pl_cheapest : zmO i_Pl_cheapest = 6 := rfl
theorem k_Pl_worst_0 : zblk i_Pl_worst 0 = [(.iconst (0), 0, 0), (.istore 2, 0, 0), (.iconst (0), 0, 0), (.istore 3, 0, 0), (.goto_w 0, 1, 0)] := rfl
theorem k_Pl_worst_1 : zblk i_Pl_worst 1 = [(.iload 3, 0, 0), (.aload 0, 0, 0), (.getfield 0, 6, 0), (.getfield 0, 5, 0), (.if_icmp .ge 0, 5, 0), (.goto_w 0, 2, 0)] := rfl
theorem k_Pl_worst_2 : zblk i_Pl_worst 2 = [(.iload 1, 0, 0), (.iload 3, 0, 0), (.invokestatic 0, 162, 0), (.ifCond .eq 0, 4, 0), (.goto_w 0, 3, 0)] := rfl
theorem k_Pl_worst_3 : zblk i_Pl_worst 3 = [(.iload 2, 0, 0), (.aload 0, 0, 0), (.getfield 0, 6, 4), (.iload 3, 0, 0), (.invokestatic 0, 159, 0), (.fadd, 0, 0), (.istore 2, 0, 0), (.goto_w 0, 4, 0)] := rfl
theorem k_Pl_worst_4 : zblk i_Pl_worst 4 = [(.iinc 3 (1), 0, 0), (.goto 0, 1, 0)] := rfl
theorem k_Pl_worst_5 : zblk i_Pl_worst 5 = [(.iload 2, 0, 0), (.ireturn, 0, 0)] := rfl
theorem a_Pl_worst : zmA i_Pl_worst = 1 := rfl
theorem l_Pl_worst : zmL i_Pl_worst = 4 := rfl
theorem r_Pl_worst : zmR i_Pl_worst = some .int := rfl
theorem o_Pl_worst : zmO i_Pl_worst = 6 := rfl
theorem k_Pl_forget_0 : zblk i_Pl_forget 0 = [(.aload 0, 0, 0), (.iconst (0), 0, 0), (.putfield 0, 6, 6), (.return_, 0, 0)] := rfl
theorem a_Pl_forget : zmA i_Pl_forget = 0 := rfl
theorem l_Pl_forget : zmL i_Pl_forget = 1 := rfl
theorem r_Pl_forget : zmR i_Pl_forget = none := rfl
theorem o_Pl_forget : zmO i_Pl_forget = 6 := rfl
theorem k_Pl_startWalk_0 : zblk i_Pl_startWalk 0 = [(.aload 0, 0, 0), (.getfield 0, 6, 5), (.iconst (0), 0, 0), (.iload 1, 0, 0), (.invokestatic 0, 160, 0), (.aload 0, 0, 0), (.iconst (1), 0, 0), (.putfield 0, 6, 6), (.return_, 0, 0)] := rfl
theorem a_Pl_startWalk : zmA i_Pl_startWalk = 1 := rfl
theorem l_Pl_startWalk : zmL i_Pl_startWalk = 2 := rfl
theorem r_Pl_startWalk : zmR i_Pl_startWalk = none := rfl
theorem o_Pl_startWalk : zmO i_Pl_startWalk = 6 := rfl
theorem k_Pl_goOn_0 : zblk i_Pl_goOn 0 = [(.aload 0, 0, 0), (.getfield 0, 6, 5), (.aload 0, 0, 0), (.getfield 0, 6, 6), (.iconst (1), 0, 0), (.isub, 0, 0), (.invokestatic 0, 159, 0), (.istore 2, 0, 0), (.aload 0, 0, 0), (.getfield 0, 6, 1), (.iconst (0), 0, 0), (.invokevirtual 0, 21, 0), (.istore 3, 0, 0), (.iload 1, 0, 0), (.aload 0, 0, 0), (.getfield 0, 6, 0), (.iload 2, 0, 0), (.aload 0, 0, 0), (.getfield 0, 6, 0), (.invokevirtual 0, 65, 0), (.iload 3, 0, 0), (.iconst (-1), 0, 0), (.ixor, 0, 0), (.iand, 0, 0), (.invokevirtual 0, 74, 0), (.invokestatic 0, 165, 0), (.istore 4, 0, 0), (.aload 0, 0, 0), (.iload 2, 0, 0), (.invokevirtual 0, 82, 0), (.iconst (0), 0, 0), (.fadd, 0, 0), (.istore 5, 0, 0), (.aload 0, 0, 0), (.getfield 0, 6, 5), (.aload 0, 0, 0), (.getfield 0, 6, 6), (.aload 0, 0, 0), (.getfield 0, 6, 0), (.iload 2, 0, 0), (.aload 0, 0, 0), (.getfield 0, 6, 0), (.iload 2, 0, 0), (.iload 3, 0, 0), (.iload 5, 0, 0), (.iload 4, 0, 0), (.invokevirtual 0, 75, 0), (.invokevirtual 0, 69, 0), (.invokestatic 0, 160, 0), (.aload 0, 0, 0), (.dup, 0, 0), (.getfield 0, 6, 6), (.iconst (1), 0, 0), (.iadd, 0, 0), (.putfield 0, 6, 6), (.return_, 0, 0)] := rfl
theorem a_Pl_goOn : zmA i_Pl_goOn = 1 := rfl
theorem l_Pl_goOn : zmL i_Pl_goOn = 6 := rfl
theorem r_Pl_goOn : zmR i_Pl_goOn = none := rfl
theorem o_Pl_goOn : zmO i_Pl_goOn = 6 := rfl
theorem k_Pl_behind_0 : zblk i_Pl_behind 0 = [(.iload 1, 0, 0), (.ifCond .lt 0, 3, 0), (.goto_w 0, 1, 0)] := rfl
theorem k_Pl_behind_1 : zblk i_Pl_behind 1 = [(.iload 1, 0, 0), (.aload 0, 0, 0), (.getfield 0, 6, 6), (.if_icmp .ge 0, 3, 0), (.goto_w 0, 2, 0)] := rfl
theorem k_Pl_behind_2 : zblk i_Pl_behind 2 = [(.aload 0, 0, 0), (.getfield 0, 6, 5), (.iload 1, 0, 0), (.invokestatic 0, 159, 0), (.goto 0, 4, 0)] := rfl
theorem k_Pl_behind_3 : zblk i_Pl_behind 3 = [(.iconst (-1), 0, 0), (.goto_w 0, 4, 0)] := rfl
theorem k_Pl_behind_4 : zblk i_Pl_behind 4 = [(.ireturn, 0, 0)] := rfl
theorem a_Pl_behind : zmA i_Pl_behind = 1 := rfl
theorem l_Pl_behind : zmL i_Pl_behind = 2 := rfl
theorem r_Pl_behind : zmR i_Pl_behind = some .int := rfl
theorem o_Pl_behind : zmO i_Pl_behind = 6 := rfl
theorem k_Sh_init_0 : zblk i_Sh_init 0 = [(.aload 0, 0, 0), (.nop, 0, 0), (.aload 0, 0, 0), (.iconst (4), 0, 0), (.newarray .int, 0, 0), (.putfield 0, 7, 0), (.aload 0, 0, 0), (.iconst (4), 0, 0), (.newarray .int, 0, 0), (.putfield 0, 7, 1), (.aload 0, 0, 0), (.iconst (324), 0, 0), (.newarray .int, 0, 0), (.putfield 0, 7, 2), (.aload 0, 0, 0), (.getfield 0, 7, 0), (.iconst (-1), 0, 0), (.invokestatic 0, 263, 0), (.return_, 0, 0)] := rfl
theorem a_Sh_init : zmA i_Sh_init = 0 := rfl
theorem l_Sh_init : zmL i_Sh_init = 1 := rfl
theorem r_Sh_init : zmR i_Sh_init = none := rfl
theorem o_Sh_init : zmO i_Sh_init = 7 := rfl
theorem k_Sh_hasPlace_0 : zblk i_Sh_hasPlace 0 = [(.iload 1, 0, 0), (.ifCond .lt 0, 5, 0), (.goto_w 0, 1, 0)] := rfl
theorem k_Sh_hasPlace_1 : zblk i_Sh_hasPlace 1 = [(.iload 1, 0, 0), (.iconst (4), 0, 0), (.if_icmp .ge 0, 5, 0), (.goto_w 0, 2, 0)] := rfl
theorem k_Sh_hasPlace_2 : zblk i_Sh_hasPlace 2 = [(.iload 2, 0, 0), (.ifCond .lt 0, 5, 0), (.goto_w 0, 3, 0)] := rfl
theorem k_Sh_hasPlace_3 : zblk i_Sh_hasPlace 3 = [(.iload 2, 0, 0), (.iconst (3), 0, 0), (.if_icmp .ge 0, 5, 0), (.goto_w 0, 4, 0)] := rfl
theorem k_Sh_hasPlace_4 : zblk i_Sh_hasPlace 4 = [(.iconst (1), 0, 0), (.goto 0, 6, 0)] := rfl
theorem k_Sh_hasPlace_5 : zblk i_Sh_hasPlace 5 = [(.iconst (0), 0, 0), (.goto_w 0, 6, 0)] := rfl
theorem k_Sh_hasPlace_6 : zblk i_Sh_hasPlace 6 = [(.ireturn, 0, 0)] := rfl
theorem a_Sh_hasPlace : zmA i_Sh_hasPlace = 2 := rfl
theorem l_Sh_hasPlace : zmL i_Sh_hasPlace = 3 := rfl
theorem r_Sh_hasPlace : zmR i_Sh_hasPlace = some .boolean := rfl
theorem o_Sh_hasPlace : zmO i_Sh_hasPlace = 7 := rfl
theorem k_Sh_isEmptyPlace_0 : zblk i_Sh_isEmptyPlace 0 = [(.aload 0, 0, 0), (.getfield 0, 7, 0), (.iload 1, 0, 0), (.invokestatic 0, 159, 0), (.iconst (-1), 0, 0), (.if_icmp .ne 0, 2, 0), (.goto_w 0, 1, 0)] := rfl
theorem k_Sh_isEmptyPlace_1 : zblk i_Sh_isEmptyPlace 1 = [(.iconst (1), 0, 0), (.goto 0, 3, 0)] := rfl
theorem k_Sh_isEmptyPlace_2 : zblk i_Sh_isEmptyPlace 2 = [(.iconst (0), 0, 0), (.goto_w 0, 3, 0)] := rfl
theorem k_Sh_isEmptyPlace_3 : zblk i_Sh_isEmptyPlace 3 = [(.ireturn, 0, 0)] := rfl
theorem a_Sh_isEmptyPlace : zmA i_Sh_isEmptyPlace = 1 := rfl
theorem l_Sh_isEmptyPlace : zmL i_Sh_isEmptyPlace = 2 := rfl
theorem r_Sh_isEmptyPlace : zmR i_Sh_isEmptyPlace = some .boolean := rfl
theorem o_Sh_isEmptyPlace : zmO i_Sh_isEmptyPlace = 7 := rfl
theorem k_Sh_hasItems_0 : zblk i_Sh_hasItems 0 = [(.aload 0, 0, 0), (.getfield 0, 7, 1), (.iload 1, 0, 0), (.invokestatic 0, 159, 0), (.istore 4, 0, 0), (.iload 3, 0, 0), (.ifCond .lt 0, 5, 0), (.goto_w 0, 1, 0)] := rfl
theorem k_Sh_hasItems_1 : zblk i_Sh_hasItems 1 = [(.iload 2, 0, 0), (.ifCond .lt 0, 5, 0), (.goto_w 0, 2, 0)] := rfl
theorem k_Sh_hasItems_2 : zblk i_Sh_hasItems 2 = [(.iload 2, 0, 0), (.iload 4, 0, 0), (.if_icmp .gt 0, 5, 0), (.goto_w 0, 3, 0)] := rfl
theorem k_Sh_hasItems_3 : zblk i_Sh_hasItems 3 = [(.iload 3, 0, 0), (.iload 4, 0, 0), (.iload 2, 0, 0), (.isub, 0, 0), (.if_icmp .gt 0, 5, 0), (.goto_w 0, 4, 0)] := rfl
theorem k_Sh_hasItems_4 : zblk i_Sh_hasItems 4 = [(.iconst (1), 0, 0), (.goto 0, 6, 0)] := rfl
theorem k_Sh_hasItems_5 : zblk i_Sh_hasItems 5 = [(.iconst (0), 0, 0), (.goto_w 0, 6, 0)] := rfl
theorem k_Sh_hasItems_6 : zblk i_Sh_hasItems 6 = [(.ireturn, 0, 0)] := rfl
theorem a_Sh_hasItems : zmA i_Sh_hasItems = 3 := rfl
theorem l_Sh_hasItems : zmL i_Sh_hasItems = 5 := rfl
theorem r_Sh_hasItems : zmR i_Sh_hasItems = some .boolean := rfl
theorem o_Sh_hasItems : zmO i_Sh_hasItems = 7 := rfl
theorem k_Sh_wrong_0 : zblk i_Sh_wrong 0 = [(.aload 0, 0, 0), (.iload 1, 0, 0), (.invokevirtual 0, 94, 0), (.ifCond .eq 0, 2, 0), (.goto_w 0, 1, 0)] := rfl
theorem k_Sh_wrong_1 : zblk i_Sh_wrong 1 = [(.iconst (-11), 0, 0), (.ireturn, 0, 0)] := rfl
theorem k_Sh_wrong_2 : zblk i_Sh_wrong 2 = [(.aload 0, 0, 0), (.getfield 0, 7, 0), (.iload 1, 0, 0), (.invokestatic 0, 159, 0), (.iload 2, 0, 0), (.if_icmp .eq 0, 4, 0), (.goto_w 0, 3, 0)] := rfl
theorem k_Sh_wrong_3 : zblk i_Sh_wrong 3 = [(.iconst (-12), 0, 0), (.ireturn, 0, 0)] := rfl
theorem k_Sh_wrong_4 : zblk i_Sh_wrong 4 = [(.aload 0, 0, 0), (.iload 1, 0, 0), (.iload 3, 0, 0), (.iload 4, 0, 0), (.invokevirtual 0, 95, 0), (.ifCond .eq 0, 6, 0), (.goto_w 0, 5, 0)] := rfl
theorem k_Sh_wrong_5 : zblk i_Sh_wrong 5 = [(.iconst (0), 0, 0), (.goto 0, 7, 0)] := rfl
theorem k_Sh_wrong_6 : zblk i_Sh_wrong 6 = [(.iconst (-13), 0, 0), (.goto_w 0, 7, 0)] := rfl
theorem k_Sh_wrong_7 : zblk i_Sh_wrong 7 = [(.ireturn, 0, 0)] := rfl
theorem a_Sh_wrong : zmA i_Sh_wrong = 4 := rfl
theorem l_Sh_wrong : zmL i_Sh_wrong = 5 := rfl
theorem r_Sh_wrong : zmR i_Sh_wrong = some .int := rfl
theorem o_Sh_wrong : zmO i_Sh_wrong = 7 := rfl
theorem k_Sh_start_0 : zblk i_Sh_start 0 = [(.aload 0, 0, 0), (.getfield 0, 7, 0), (.iload 1, 0, 0), (.iload 2, 0, 0), (.invokestatic 0, 160, 0), (.aload 0, 0, 0), (.getfield 0, 7, 1), (.iload 1, 0, 0), (.iload 3, 0, 0), (.invokestatic 0, 160, 0), (.iconst (0), 0, 0), (.istore 4, 0, 0), (.goto_w 0, 1, 0)] := rfl
theorem k_Sh_start_1 : zblk i_Sh_start 1 = [(.iload 4, 0, 0), (.iconst (81), 0, 0), (.if_icmp .ge 0, 3, 0), (.goto_w 0, 2, 0)] := rfl
theorem k_Sh_start_2 : zblk i_Sh_start 2 = [(.aload 0, 0, 0), (.getfield 0, 7, 2), (.iload 1, 0, 0), (.iconst (81), 0, 0), (.imul, 0, 0), (.iload 4, 0, 0), (.iadd, 0, 0), (.iconst (0), 0, 0), (.invokestatic 0, 160, 0), (.iinc 4 (1), 0, 0), (.goto 0, 1, 0)] := rfl
theorem k_Sh_start_3 : zblk i_Sh_start 3 = [(.return_, 0, 0)] := rfl
theorem a_Sh_start : zmA i_Sh_start = 3 := rfl
theorem l_Sh_start : zmL i_Sh_start = 5 := rfl
theorem r_Sh_start : zmR i_Sh_start = none := rfl
theorem o_Sh_start : zmO i_Sh_start = 7 := rfl
theorem k_Sh_empty_0 : zblk i_Sh_empty 0 = [(.aload 0, 0, 0), (.getfield 0, 7, 0), (.iload 1, 0, 0), (.iconst (-1), 0, 0), (.invokestatic 0, 160, 0), (.aload 0, 0, 0), (.getfield 0, 7, 1), (.iload 1, 0, 0), (.invokestatic 0, 159, 0), (.ireturn, 0, 0)] := rfl
theorem a_Sh_empty : zmA i_Sh_empty = 1 := rfl
theorem l_Sh_empty : zmL i_Sh_empty = 2 := rfl
theorem r_Sh_empty : zmR i_Sh_empty = some .int := rfl
theorem o_Sh_empty : zmO i_Sh_empty = 7 := rfl
theorem k_Sh_read_0 : zblk i_Sh_read 0 = [(.aload 0, 0, 0), (.getfield 0, 7, 2), (.iload 1, 0, 0), (.iconst (81), 0, 0), (.imul, 0, 0), (.iload 2, 0, 0), (.iadd, 0, 0), (.invokestatic 0, 159, 0), (.ireturn, 0, 0)] := rfl
theorem a_Sh_read : zmA i_Sh_read = 2 := rfl
theorem l_Sh_read : zmL i_Sh_read = 3 := rfl
theorem r_Sh_read : zmR i_Sh_read = some .int := rfl
theorem o_Sh_read : zmO i_Sh_read = 7 := rfl
theorem k_Sh_write_0 : zblk i_Sh_write 0 = [(.aload 0, 0, 0), (.getfield 0, 7, 2), (.iload 1, 0, 0), (.iconst (81), 0, 0), (.imul, 0, 0), (.iload 2, 0, 0), (.iadd, 0, 0), (.aload 0, 0, 0), (.getfield 0, 7, 0), (.iload 1, 0, 0), (.invokestatic 0, 159, 0), (.ifCond .ne 0, 2, 0), (.goto_w 0, 1, 0)] := rfl
theorem k_Sh_write_1 : zblk i_Sh_write 1 = [(.iload 3, 0, 0), (.i2b, 0, 0), (.goto 0, 3, 0)] := rfl
theorem k_Sh_write_2 : zblk i_Sh_write 2 = [(.iload 3, 0, 0), (.goto_w 0, 3, 0)] := rfl
theorem k_Sh_write_3 : zblk i_Sh_write 3 = [(.invokestatic 0, 160, 0), (.return_, 0, 0)] := rfl
theorem a_Sh_write : zmA i_Sh_write = 3 := rfl
theorem l_Sh_write : zmL i_Sh_write = 4 := rfl
theorem r_Sh_write : zmR i_Sh_write = none := rfl
theorem o_Sh_write : zmO i_Sh_write = 7 := rfl
theorem k_Sh_hasBelowZero_0 : zblk i_Sh_hasBelowZero 0 = [(.iconst (0), 0, 0), (.istore 4, 0, 0), (.goto_w 0, 1, 0)] := rfl
theorem k_Sh_hasBelowZero_1 : zblk i_Sh_hasBelowZero 1 = [(.iload 4, 0, 0), (.iload 3, 0, 0), (.if_icmp .ge 0, 5, 0), (.goto_w 0, 2, 0)] := rfl
theorem k_Sh_hasBelowZero_2 : zblk i_Sh_hasBelowZero 2 = [(.aload 0, 0, 0), (.iload 1, 0, 0), (.iload 2, 0, 0), (.iload 4, 0, 0), (.iadd, 0, 0), (.invokevirtual 0, 99, 0), (.ifCond .ge 0, 4, 0), (.goto_w 0, 3, 0)] := rfl
theorem k_Sh_hasBelowZero_3 : zblk i_Sh_hasBelowZero 3 = [(.iconst (1), 0, 0), (.ireturn, 0, 0)] := rfl
theorem k_Sh_hasBelowZero_4 : zblk i_Sh_hasBelowZero 4 = [(.iinc 4 (1), 0, 0), (.goto 0, 1, 0)] := rfl
theorem k_Sh_hasBelowZero_5 : zblk i_Sh_hasBelowZero 5 = [(.iconst (0), 0, 0), (.ireturn, 0, 0)] := rfl
theorem a_Sh_hasBelowZero : zmA i_Sh_hasBelowZero = 3 := rfl
theorem l_Sh_hasBelowZero : zmL i_Sh_hasBelowZero = 5 := rfl
theorem r_Sh_hasBelowZero : zmR i_Sh_hasBelowZero = some .boolean := rfl
theorem o_Sh_hasBelowZero : zmO i_Sh_hasBelowZero = 7 := rfl
theorem k_Ta_init_0 : zblk i_Ta_init 0 = [(.aload 0, 0, 0), (.nop, 0, 0), (.aload 0, 0, 0), (.iconst (972), 0, 0), (.newarray .int, 0, 0), (.putfield 0, 8, 1), (.aload 0, 0, 0), (.iconst (12), 0, 0), (.newarray .int, 0, 0), (.putfield 0, 8, 2), (.aload 0, 0, 0), (.iconst (81), 0, 0), (.newarray .int, 0, 0), (.putfield 0, 8, 3), (.aload 0, 0, 0), (.iconst (-1), 0, 0), (.putfield 0, 8, 4), (.aload 0, 0, 0), (.iconst (-1), 0, 0), (.putfield 0, 8, 5), (.aload 0, 0, 0), (.aload 1, 0, 0), (.putfield 0, 8, 0), (.return_, 0, 0)] := rfl
theorem a_Ta_init : zmA i_Ta_init = 1 := rfl
theorem l_Ta_init : zmL i_Ta_init = 2 := rfl
theorem r_Ta_init : zmR i_Ta_init = none := rfl
theorem o_Ta_init : zmO i_Ta_init = 8 := rfl
theorem k_Ta_prepare_0 : zblk i_Ta_prepare 0 = [(.iload 1, 0, 0), (.aload 0, 0, 0), (.getfield 0, 8, 4), (.if_icmp .ne 0, 3, 0), (.goto_w 0, 1, 0)] := rfl
theorem k_Ta_prepare_1 : zblk i_Ta_prepare 1 = [(.aload 0, 0, 0), (.getfield 0, 8, 5), (.aload 0, 0, 0), (.getfield 0, 8, 0), (.getfield 0, 5, 2), (.if_icmp .ne 0, 3, 0), (.goto_w 0, 2, 0)] := rfl
theorem k_Ta_prepare_2 : zblk i_Ta_prepare 2 = [(.return_, 0, 0)] := rfl
theorem k_Ta_prepare_3 : zblk i_Ta_prepare 3 = [(.aload 0, 0, 0), (.iload 1, 0, 0), (.putfield 0, 8, 4), (.aload 0, 0, 0), (.aload 0, 0, 0), (.getfield 0, 8, 0), (.getfield 0, 5, 2), (.putfield 0, 8, 5), (.aload 0, 0, 0), (.getfield 0, 8, 1), (.iconst (0), 0, 0), (.invokestatic 0, 263, 0), (.iconst (0), 0, 0), (.istore 2, 0, 0), (.goto_w 0, 4, 0)] := rfl
theorem k_Ta_prepare_4 : zblk i_Ta_prepare 4 = [(.iload 2, 0, 0), (.aload 0, 0, 0), (.getfield 0, 8, 0), (.getfield 0, 5, 0), (.if_icmp .ge 0, 6, 0), (.goto_w 0, 5, 0)] := rfl
theorem k_Ta_prepare_5 : zblk i_Ta_prepare 5 = [(.aload 0, 0, 0), (.iload 2, 0, 0), (.invokevirtual 0, 104, 0), (.iinc 2 (1), 0, 0), (.goto 0, 4, 0)] := rfl
theorem k_Ta_prepare_6 : zblk i_Ta_prepare 6 = [(.return_, 0, 0)] := rfl
theorem a_Ta_prepare : zmA i_Ta_prepare = 1 := rfl
theorem l_Ta_prepare : zmL i_Ta_prepare = 3 := rfl
theorem r_Ta_prepare : zmR i_Ta_prepare = none := rfl
theorem o_Ta_prepare : zmO i_Ta_prepare = 8 := rfl
theorem k_Ta_fill_0 : zblk i_Ta_fill 0 = [(.aload 0, 0, 0), (.getfield 0, 8, 2), (.iload 1, 0, 0), (.aload 0, 0, 0), (.getfield 0, 8, 0), (.iload 1, 0, 0), (.aload 0, 0, 0), (.getfield 0, 8, 4), (.invokevirtual 0, 74, 0), (.invokestatic 0, 160, 0), (.aload 0, 0, 0), (.iload 1, 0, 0), (.invokevirtual 0, 105, 0), (.istore 2, 0, 0), (.iconst (0), 0, 0), (.istore 3, 0, 0), (.goto_w 0, 1, 0)] := rfl
theorem k_Ta_fill_1 : zblk i_Ta_fill 1 = [(.iload 3, 0, 0), (.iload 2, 0, 0), (.if_icmp .ge 0, 3, 0), (.goto_w 0, 2, 0)] := rfl
theorem k_Ta_fill_2 : zblk i_Ta_fill 2 = [(.iload 1, 0, 0), (.iconst (81), 0, 0), (.imul, 0, 0), (.aload 0, 0, 0), (.getfield 0, 8, 3), (.iload 3, 0, 0), (.invokestatic 0, 159, 0), (.iadd, 0, 0), (.istore 4, 0, 0), (.aload 0, 0, 0), (.getfield 0, 8, 1), (.iload 4, 0, 0), (.aload 0, 0, 0), (.getfield 0, 8, 1), (.iload 4, 0, 0), (.invokestatic 0, 159, 0), (.iconst (1), 0, 0), (.aload 0, 0, 0), (.getfield 0, 8, 0), (.iload 1, 0, 0), (.iload 3, 0, 0), (.invokevirtual 0, 69, 0), (.ishl, 0, 0), (.ior, 0, 0), (.invokestatic 0, 160, 0), (.iinc 3 (1), 0, 0), (.goto 0, 1, 0)] := rfl
theorem k_Ta_fill_3 : zblk i_Ta_fill 3 = [(.return_, 0, 0)] := rfl
theorem a_Ta_fill : zmA i_Ta_fill = 1 := rfl
theorem l_Ta_fill : zmL i_Ta_fill = 5 := rfl
theorem r_Ta_fill : zmR i_Ta_fill = none := rfl
theorem o_Ta_fill : zmO i_Ta_fill = 8 := rfl
theorem k_Ta_share_0 : zblk i_Ta_share 0 = [(.iconst (1), 0, 0), (.istore 2, 0, 0), (.aload 0, 0, 0), (.getfield 0, 8, 3), (.iconst (0), 0, 0), (.iconst (0), 0, 0), (.invokestatic 0, 160, 0), (.iconst (0), 0, 0), (.istore 3, 0, 0), (.goto_w 0, 1, 0)] := rfl
theorem k_Ta_share_1 : zblk i_Ta_share 1 = [(.iload 3, 0, 0), (.aload 0, 0, 0), (.getfield 0, 8, 0), (.getfield 0, 5, 1), (.if_icmp .ge 0, 12, 0), (.goto_w 0, 2, 0)] := rfl
theorem k_Ta_share_2 : zblk i_Ta_share 2 = [(.aload 0, 0, 0), (.getfield 0, 8, 0), (.iload 1, 0, 0), (.iload 3, 0, 0), (.invokevirtual 0, 67, 0), (.istore 4, 0, 0), (.iload 2, 0, 0), (.iconst (1), 0, 0), (.isub, 0, 0), (.istore 5, 0, 0), (.goto_w 0, 3, 0)] := rfl
theorem k_Ta_share_3 : zblk i_Ta_share 3 = [(.iload 5, 0, 0), (.ifCond .lt 0, 11, 0), (.goto_w 0, 4, 0)] := rfl
theorem k_Ta_share_4 : zblk i_Ta_share 4 = [(.aload 0, 0, 0), (.getfield 0, 8, 3), (.iload 5, 0, 0), (.invokestatic 0, 159, 0), (.istore 6, 0, 0), (.iconst (0), 0, 0), (.istore 7, 0, 0), (.goto_w 0, 5, 0)] := rfl
theorem k_Ta_share_5 : zblk i_Ta_share 5 = [(.iload 7, 0, 0), (.iload 4, 0, 0), (.if_icmp .ge 0, 10, 0), (.goto_w 0, 6, 0)] := rfl
theorem k_Ta_share_6 : zblk i_Ta_share 6 = [(.aload 0, 0, 0), (.getfield 0, 8, 3), (.iload 5, 0, 0), (.iload 4, 0, 0), (.imul, 0, 0), (.iload 7, 0, 0), (.iadd, 0, 0), (.aload 0, 0, 0), (.getfield 0, 8, 4), (.iload 3, 0, 0), (.invokestatic 0, 162, 0), (.ifCond .eq 0, 8, 0), (.goto_w 0, 7, 0)] := rfl
theorem k_Ta_share_7 : zblk i_Ta_share 7 = [(.iload 6, 0, 0), (.iload 4, 0, 0), (.imul, 0, 0), (.iload 7, 0, 0), (.iadd, 0, 0), (.goto 0, 9, 0)] := rfl
theorem k_Ta_share_8 : zblk i_Ta_share 8 = [(.iload 6, 0, 0), (.goto_w 0, 9, 0)] := rfl
theorem k_Ta_share_9 : zblk i_Ta_share 9 = [(.invokestatic 0, 160, 0), (.iinc 7 (1), 0, 0), (.goto 0, 5, 0)] := rfl
theorem k_Ta_share_10 : zblk i_Ta_share 10 = [(.iinc 5 (-1), 0, 0), (.goto 0, 3, 0)] := rfl
theorem k_Ta_share_11 : zblk i_Ta_share 11 = [(.iload 2, 0, 0), (.iload 4, 0, 0), (.imul, 0, 0), (.istore 2, 0, 0), (.iinc 3 (1), 0, 0), (.goto 0, 1, 0)] := rfl
theorem k_Ta_share_12 : zblk i_Ta_share 12 = [(.iload 2, 0, 0), (.ireturn, 0, 0)] := rfl
theorem a_Ta_share : zmA i_Ta_share = 1 := rfl
theorem l_Ta_share : zmL i_Ta_share = 8 := rfl
theorem r_Ta_share : zmR i_Ta_share = some .int := rfl
theorem o_Ta_share : zmO i_Ta_share = 8 := rfl
theorem k_Ta_endsOf_0 : zblk i_Ta_endsOf 0 = [(.aload 0, 0, 0), (.getfield 0, 8, 1), (.iload 1, 0, 0), (.iconst (81), 0, 0), (.imul, 0, 0), (.iload 2, 0, 0), (.iadd, 0, 0), (.invokestatic 0, 159, 0), (.ireturn, 0, 0)] := rfl
theorem a_Ta_endsOf : zmA i_Ta_endsOf = 2 := rfl
theorem l_Ta_endsOf : zmL i_Ta_endsOf = 3 := rfl
theorem r_Ta_endsOf : zmR i_Ta_endsOf = some .int := rfl
theorem o_Ta_endsOf : zmO i_Ta_endsOf = 8 := rfl
theorem k_Ta_leastInto_0 : zblk i_Ta_leastInto 0 = [(.aload 0, 0, 0), (.getfield 0, 8, 2), (.iload 1, 0, 0), (.invokestatic 0, 159, 0), (.istore 3, 0, 0), (.iconst (0), 0, 0), (.istore 4, 0, 0), (.goto_w 0, 1, 0)] := rfl
theorem k_Ta_leastInto_1 : zblk i_Ta_leastInto 1 = [(.iload 4, 0, 0), (.iload 3, 0, 0), (.if_icmp .ge 0, 5, 0), (.goto_w 0, 2, 0)] := rfl
theorem k_Ta_leastInto_2 : zblk i_Ta_leastInto 2 = [(.aload 0, 0, 0), (.getfield 0, 8, 1), (.iload 1, 0, 0), (.iconst (81), 0, 0), (.imul, 0, 0), (.iload 4, 0, 0), (.iadd, 0, 0), (.invokestatic 0, 159, 0), (.iload 2, 0, 0), (.iconst (-1), 0, 0), (.ixor, 0, 0), (.iand, 0, 0), (.ifCond .ne 0, 4, 0), (.goto_w 0, 3, 0)] := rfl
theorem k_Ta_leastInto_3 : zblk i_Ta_leastInto 3 = [(.iload 4, 0, 0), (.ireturn, 0, 0)] := rfl
theorem k_Ta_leastInto_4 : zblk i_Ta_leastInto 4 = [(.iinc 4 (1), 0, 0), (.goto 0, 1, 0)] := rfl
theorem k_Ta_leastInto_5 : zblk i_Ta_leastInto 5 = [(.iconst (-1), 0, 0), (.ireturn, 0, 0)] := rfl
theorem a_Ta_leastInto : zmA i_Ta_leastInto = 2 := rfl
theorem l_Ta_leastInto : zmL i_Ta_leastInto = 5 := rfl
theorem r_Ta_leastInto : zmR i_Ta_leastInto = some .int := rfl
theorem o_Ta_leastInto : zmO i_Ta_leastInto = 8 := rfl
theorem k_Ta_forcing_0 : zblk i_Ta_forcing 0 = [(.iconst (0), 0, 0), (.istore 3, 0, 0), (.iconst (0), 0, 0), (.istore 4, 0, 0), (.goto_w 0, 1, 0)] := rfl
theorem k_Ta_forcing_1 : zblk i_Ta_forcing 1 = [(.iload 4, 0, 0), (.aload 0, 0, 0), (.getfield 0, 8, 0), (.getfield 0, 5, 0), (.if_icmp .ge 0, 6, 0), (.goto_w 0, 2, 0)] := rfl
theorem k_Ta_forcing_2 : zblk i_Ta_forcing 2 = [(.iload 1, 0, 0), (.iload 4, 0, 0), (.invokestatic 0, 162, 0), (.ifCond .eq 0, 5, 0), (.goto_w 0, 3, 0)] := rfl
theorem k_Ta_forcing_3 : zblk i_Ta_forcing 3 = [(.aload 0, 0, 0), (.iload 4, 0, 0), (.iload 2, 0, 0), (.invokevirtual 0, 107, 0), (.ifCond .lt 0, 5, 0), (.goto_w 0, 4, 0)] := rfl
theorem k_Ta_forcing_4 : zblk i_Ta_forcing 4 = [(.iload 3, 0, 0), (.iconst (1), 0, 0), (.iload 4, 0, 0), (.ishl, 0, 0), (.ior, 0, 0), (.istore 3, 0, 0), (.goto_w 0, 5, 0)] := rfl
theorem k_Ta_forcing_5 : zblk i_Ta_forcing 5 = [(.iinc 4 (1), 0, 0), (.goto 0, 1, 0)] := rfl
theorem k_Ta_forcing_6 : zblk i_Ta_forcing 6 = [(.iload 3, 0, 0), (.ireturn, 0, 0)] := rfl
theorem a_Ta_forcing : zmA i_Ta_forcing = 2 := rfl
theorem l_Ta_forcing : zmL i_Ta_forcing = 5 := rfl
theorem r_Ta_forcing : zmR i_Ta_forcing = some .int := rfl
theorem o_Ta_forcing : zmO i_Ta_forcing = 8 := rfl
theorem k_Tp_init_0 : zblk i_Tp_init 0 = [(.aload 0, 0, 0), (.nop, 0, 0), (.aload 0, 0, 0), (.iconst (100), 0, 0), (.newarray .int, 0, 0), (.putfield 0, 9, 0), (.aload 0, 0, 0), (.new 0, 1, 0), (.dup, 0, 0), (.invokevirtual 0, 12, 0), (.putfield 0, 9, 1), (.return_, 0, 0)] := rfl
theorem a_Tp_init : zmA i_Tp_init = 0 := rfl
theorem l_Tp_init : zmL i_Tp_init = 1 := rfl
theorem r_Tp_init : zmR i_Tp_init = none := rfl
theorem o_Tp_init : zmO i_Tp_init = 9 := rfl
theorem k_Tp_add_0 : zblk i_Tp_add 0 = [(.iconst (0), 0, 0), (.istore 4, 0, 0), (.goto_w 0, 1, 0)] := rfl
theorem k_Tp_add_1 : zblk i_Tp_add 1 = [(.iload 4, 0, 0), (.iload 3, 0, 0), (.if_icmp .ge 0, 6, 0), (.goto_w 0, 2, 0)] := rfl
theorem k_Tp_add_2 : zblk i_Tp_add 2 = [(.lload 1, 0, 0), (.iload 4, 0, 0), (.invokestatic 0, 111, 0), (.istore 5, 0, 0), (.iload 5, 0, 0), (.iconst (32), 0, 0), (.if_icmp .lt 0, 4, 0), (.goto_w 0, 3, 0)] := rfl
theorem k_Tp_add_3 : zblk i_Tp_add 3 = [(.iload 5, 0, 0), (.iconst (126), 0, 0), (.if_icmp .le 0, 5, 0), (.goto_w 0, 4, 0)] := rfl
theorem k_Tp_add_4 : zblk i_Tp_add 4 = [(.iconst (-1), 0, 0), (.ireturn, 0, 0)] := rfl
theorem k_Tp_add_5 : zblk i_Tp_add 5 = [(.iinc 4 (1), 0, 0), (.goto 0, 1, 0)] := rfl
theorem k_Tp_add_6 : zblk i_Tp_add 6 = [(.iload 3, 0, 0), (.iconst (100), 0, 0), (.aload 0, 0, 0), (.getfield 0, 9, 2), (.isub, 0, 0), (.if_icmp .le 0, 8, 0), (.goto_w 0, 7, 0)] := rfl
theorem k_Tp_add_7 : zblk i_Tp_add 7 = [(.iconst (-3), 0, 0), (.ireturn, 0, 0)] := rfl
theorem k_Tp_add_8 : zblk i_Tp_add 8 = [(.iload 3, 0, 0), (.iconst (1), 0, 0), (.isub, 0, 0), (.istore 4, 0, 0), (.goto_w 0, 9, 0)] := rfl
theorem k_Tp_add_9 : zblk i_Tp_add 9 = [(.iload 4, 0, 0), (.ifCond .lt 0, 11, 0), (.goto_w 0, 10, 0)] := rfl
theorem k_Tp_add_10 : zblk i_Tp_add 10 = [(.aload 0, 0, 0), (.getfield 0, 9, 0), (.aload 0, 0, 0), (.getfield 0, 9, 2), (.lload 1, 0, 0), (.iload 4, 0, 0), (.invokestatic 0, 111, 0), (.invokestatic 0, 160, 0), (.aload 0, 0, 0), (.dup, 0, 0), (.getfield 0, 9, 2), (.iconst (1), 0, 0), (.iadd, 0, 0), (.putfield 0, 9, 2), (.iinc 4 (-1), 0, 0), (.goto 0, 9, 0)] := rfl
theorem k_Tp_add_11 : zblk i_Tp_add 11 = [(.aload 0, 0, 0), (.getfield 0, 9, 2), (.ireturn, 0, 0)] := rfl
theorem a_Tp_add : zmA i_Tp_add = 2 := rfl
theorem l_Tp_add : zmL i_Tp_add = 6 := rfl
theorem r_Tp_add : zmR i_Tp_add = some .int := rfl
theorem o_Tp_add : zmO i_Tp_add = 9 := rfl
theorem k_Tp_byteOf_0 : zblk i_Tp_byteOf 0 = [(.lload 0, 0, 0), (.iconst (8), 0, 0), (.iload 2, 0, 0), (.imul, 0, 0), (.lshr, 0, 0), (.l2i, 0, 0), (.iconst (255), 0, 0), (.iand, 0, 0), (.ireturn, 0, 0)] := rfl
theorem a_Tp_byteOf : zmA i_Tp_byteOf = 2 := rfl
theorem l_Tp_byteOf : zmL i_Tp_byteOf = 3 := rfl
theorem r_Tp_byteOf : zmR i_Tp_byteOf = some .int := rfl
theorem o_Tp_byteOf : zmO i_Tp_byteOf = 9 := rfl
theorem k_Tp_understand_0 : zblk i_Tp_understand 0 = [(.aload 0, 0, 0), (.iload 1, 0, 0), (.putfield 0, 9, 5), (.aload 0, 0, 0), (.iconst (0), 0, 0), (.putfield 0, 9, 3), (.aload 0, 0, 0), (.iconst (-1), 0, 0), (.putfield 0, 9, 4), (.aload 0, 0, 0), (.getfield 0, 9, 1), (.invokevirtual 0, 14, 0), (.aload 0, 0, 0), (.iconst (0), 0, 0), (.invokevirtual 0, 116, 0), (.ifCond .eq 0, 3, 0), (.goto_w 0, 1, 0)] := rfl
theorem k_Tp_understand_1 : zblk i_Tp_understand 1 = [(.aload 0, 0, 0), (.invokevirtual 0, 113, 0), (.iconst (-1), 0, 0), (.if_icmp .eq 0, 3, 0), (.goto_w 0, 2, 0)] := rfl
theorem k_Tp_understand_2 : zblk i_Tp_understand 2 = [(.aload 0, 0, 0), (.invokevirtual 0, 114, 0), (.pop, 0, 0), (.goto_w 0, 3, 0)] := rfl
theorem k_Tp_understand_3 : zblk i_Tp_understand 3 = [(.aload 0, 0, 0), (.iconst (0), 0, 0), (.putfield 0, 9, 2), (.aload 0, 0, 0), (.getfield 0, 9, 4), (.ifCond .ge 0, 5, 0), (.goto_w 0, 4, 0)] := rfl
theorem k_Tp_understand_4 : zblk i_Tp_understand 4 = [(.iconst (0), 0, 0), (.goto 0, 6, 0)] := rfl
theorem k_Tp_understand_5 : zblk i_Tp_understand 5 = [(.iconst (-20), 0, 0), (.aload 0, 0, 0), (.getfield 0, 9, 4), (.isub, 0, 0), (.goto_w 0, 6, 0)] := rfl
theorem k_Tp_understand_6 : zblk i_Tp_understand 6 = [(.ireturn, 0, 0)] := rfl
theorem a_Tp_understand : zmA i_Tp_understand = 1 := rfl
theorem l_Tp_understand : zmL i_Tp_understand = 2 := rfl
theorem r_Tp_understand : zmR i_Tp_understand = some .int := rfl
theorem o_Tp_understand : zmO i_Tp_understand = 9 := rfl
theorem k_Tp_here_0 : zblk i_Tp_here 0 = [(.aload 0, 0, 0), (.getfield 0, 9, 3), (.aload 0, 0, 0), (.getfield 0, 9, 2), (.if_icmp .ge 0, 3, 0), (.goto_w 0, 1, 0)] := rfl
theorem k_Tp_here_1 : zblk i_Tp_here 1 = [(.aload 0, 0, 0), (.getfield 0, 9, 0), (.aload 0, 0, 0), (.getfield 0, 9, 3), (.invokestatic 0, 159, 0), (.iconst (32), 0, 0), (.if_icmp .ne 0, 3, 0), (.goto_w 0, 2, 0)] := rfl
theorem k_Tp_here_2 : zblk i_Tp_here 2 = [(.aload 0, 0, 0), (.dup, 0, 0), (.getfield 0, 9, 3), (.iconst (1), 0, 0), (.iadd, 0, 0), (.putfield 0, 9, 3), (.goto 0, 0, 0)] := rfl
theorem k_Tp_here_3 : zblk i_Tp_here 3 = [(.aload 0, 0, 0), (.getfield 0, 9, 3), (.aload 0, 0, 0), (.getfield 0, 9, 2), (.if_icmp .ge 0, 5, 0), (.goto_w 0, 4, 0)] := rfl
theorem k_Tp_here_4 : zblk i_Tp_here 4 = [(.aload 0, 0, 0), (.getfield 0, 9, 0), (.aload 0, 0, 0), (.getfield 0, 9, 3), (.invokestatic 0, 159, 0), (.goto 0, 6, 0)] := rfl
theorem k_Tp_here_5 : zblk i_Tp_here 5 = [(.iconst (-1), 0, 0), (.goto_w 0, 6, 0)] := rfl
theorem k_Tp_here_6 : zblk i_Tp_here 6 = [(.ireturn, 0, 0)] := rfl
theorem a_Tp_here : zmA i_Tp_here = 0 := rfl
theorem l_Tp_here : zmL i_Tp_here = 1 := rfl
theorem r_Tp_here : zmR i_Tp_here = some .int := rfl
theorem o_Tp_here : zmO i_Tp_here = 9 := rfl
theorem k_Tp_refuse_0 : zblk i_Tp_refuse 0 = [(.aload 0, 0, 0), (.aload 0, 0, 0), (.getfield 0, 9, 3), (.putfield 0, 9, 4), (.iconst (0), 0, 0), (.ireturn, 0, 0)] := rfl
theorem a_Tp_refuse : zmA i_Tp_refuse = 0 := rfl
theorem l_Tp_refuse : zmL i_Tp_refuse = 1 := rfl
theorem r_Tp_refuse : zmR i_Tp_refuse = some .boolean := rfl
theorem o_Tp_refuse : zmO i_Tp_refuse = 9 := rfl
theorem k_Tp_take_0 : zblk i_Tp_take 0 = [(.aload 0, 0, 0), (.invokevirtual 0, 113, 0), (.iload 1, 0, 0), (.if_icmp .eq 0, 2, 0), (.goto_w 0, 1, 0)] := rfl
theorem k_Tp_take_1 : zblk i_Tp_take 1 = [(.aload 0, 0, 0), (.invokevirtual 0, 114, 0), (.ireturn, 0, 0)] := rfl
theorem k_Tp_take_2 : zblk i_Tp_take 2 = [(.aload 0, 0, 0), (.dup, 0, 0), (.getfield 0, 9, 3), (.iconst (1), 0, 0), (.iadd, 0, 0), (.putfield 0, 9, 3), (.iconst (1), 0, 0), (.ireturn, 0, 0)] := rfl
theorem a_Tp_take : zmA i_Tp_take = 1 := rfl
theorem l_Tp_take : zmL i_Tp_take = 2 := rfl
theorem r_Tp_take : zmR i_Tp_take = some .boolean := rfl
theorem o_Tp_take : zmO i_Tp_take = 9 := rfl
theorem k_Tp_readForm_0 : zblk i_Tp_readForm 0 = [(.aload 0, 0, 0), (.invokevirtual 0, 113, 0), (.istore 2, 0, 0), (.iload 1, 0, 0), (.iconst (24), 0, 0), (.if_icmp .ge 0, 2, 0), (.goto_w 0, 1, 0)] := rfl
theorem k_Tp_readForm_1 : zblk i_Tp_readForm 1 = [(.aload 0, 0, 0), (.getfield 0, 9, 1), (.getfield 0, 1, 0), (.iconst (24), 0, 0), (.if_icmp .lt 0, 3, 0), (.goto_w 0, 2, 0)] := rfl
theorem k_Tp_readForm_2 : zblk i_Tp_readForm 2 = [(.aload 0, 0, 0), (.invokevirtual 0, 114, 0), (.ireturn, 0, 0)] := rfl
theorem k_Tp_readForm_3 : zblk i_Tp_readForm 3 = [(.iload 2, 0, 0), (.iconst (84), 0, 0), (.if_icmp .eq 0, 6, 0), (.goto_w 0, 4, 0)] := rfl
theorem k_Tp_readForm_4 : zblk i_Tp_readForm 4 = [(.iload 2, 0, 0), (.iconst (97), 0, 0), (.if_icmp .lt 0, 10, 0), (.goto_w 0, 5, 0)] := rfl
theorem k_Tp_readForm_5 : zblk i_Tp_readForm 5 = [(.iload 2, 0, 0), (.iconst (104), 0, 0), (.if_icmp .gt 0, 10, 0), (.goto_w 0, 6, 0)] := rfl
theorem k_Tp_readForm_6 : zblk i_Tp_readForm 6 = [(.aload 0, 0, 0), (.dup, 0, 0), (.getfield 0, 9, 3), (.iconst (1), 0, 0), (.iadd, 0, 0), (.putfield 0, 9, 3), (.aload 0, 0, 0), (.getfield 0, 9, 1), (.aload 0, 0, 0), (.getfield 0, 9, 1), (.iconst (0), 0, 0), (.invokevirtual 0, 15, 0), (.iload 2, 0, 0), (.iconst (84), 0, 0), (.if_icmp .ne 0, 8, 0), (.goto_w 0, 7, 0)] := rfl
theorem k_Tp_readForm_7 : zblk i_Tp_readForm 7 = [(.iconst (0), 0, 0), (.goto 0, 9, 0)] := rfl
theorem k_Tp_readForm_8 : zblk i_Tp_readForm 8 = [(.iconst (1), 0, 0), (.goto_w 0, 9, 0)] := rfl
theorem k_Tp_readForm_9 : zblk i_Tp_readForm 9 = [(.iload 2, 0, 0), (.iconst (97), 0, 0), (.isub, 0, 0), (.iconst (0), 0, 0), (.invokevirtual 0, 16, 0), (.iconst (1), 0, 0), (.ireturn, 0, 0)] := rfl
theorem k_Tp_readForm_10 : zblk i_Tp_readForm 10 = [(.iload 2, 0, 0), (.iconst (33), 0, 0), (.if_icmp .eq 0, 14, 0), (.goto_w 0, 11, 0)] := rfl
theorem k_Tp_readForm_11 : zblk i_Tp_readForm 11 = [(.iload 2, 0, 0), (.iconst (40), 0, 0), (.if_icmp .eq 0, 14, 0), (.goto_w 0, 12, 0)] := rfl
theorem k_Tp_readForm_12 : zblk i_Tp_readForm 12 = [(.iload 2, 0, 0), (.iconst (60), 0, 0), (.if_icmp .eq 0, 14, 0), (.goto_w 0, 13, 0)] := rfl
theorem k_Tp_readForm_13 : zblk i_Tp_readForm 13 = [(.aload 0, 0, 0), (.invokevirtual 0, 114, 0), (.ireturn, 0, 0)] := rfl
theorem k_Tp_readForm_14 : zblk i_Tp_readForm 14 = [(.aload 0, 0, 0), (.dup, 0, 0), (.getfield 0, 9, 3), (.iconst (1), 0, 0), (.iadd, 0, 0), (.putfield 0, 9, 3), (.aload 0, 0, 0), (.getfield 0, 9, 1), (.iconst (0), 0, 0), (.invokevirtual 0, 15, 0), (.istore 3, 0, 0), (.iload 2, 0, 0), (.iconst (33), 0, 0), (.if_icmp .ne 0, 16, 0), (.goto_w 0, 15, 0)] := rfl
theorem k_Tp_readForm_15 : zblk i_Tp_readForm 15 = [(.aload 0, 0, 0), (.getfield 0, 9, 1), (.iload 3, 0, 0), (.iconst (2), 0, 0), (.iload 3, 0, 0), (.iconst (1), 0, 0), (.iadd, 0, 0), (.iconst (0), 0, 0), (.invokevirtual 0, 16, 0), (.aload 0, 0, 0), (.iload 1, 0, 0), (.iconst (1), 0, 0), (.iadd, 0, 0), (.invokevirtual 0, 116, 0), (.ireturn, 0, 0)] := rfl
theorem k_Tp_readForm_16 : zblk i_Tp_readForm 16 = [(.iload 2, 0, 0), (.iconst (40), 0, 0), (.if_icmp .ne 0, 18, 0), (.goto_w 0, 17, 0)] := rfl
theorem k_Tp_readForm_17 : zblk i_Tp_readForm 17 = [(.aload 0, 0, 0), (.iload 3, 0, 0), (.iconst (0), 0, 0), (.iload 1, 0, 0), (.invokevirtual 0, 119, 0), (.goto 0, 22, 0)] := rfl
theorem k_Tp_readForm_18 : zblk i_Tp_readForm 18 = [(.aload 0, 0, 0), (.iload 3, 0, 0), (.invokevirtual 0, 117, 0), (.ifCond .eq 0, 21, 0), (.goto_w 0, 19, 0)] := rfl
theorem k_Tp_readForm_19 : zblk i_Tp_readForm 19 = [(.aload 0, 0, 0), (.iload 3, 0, 0), (.iload 1, 0, 0), (.invokevirtual 0, 118, 0), (.ifCond .eq 0, 21, 0), (.goto_w 0, 20, 0)] := rfl
theorem k_Tp_readForm_20 : zblk i_Tp_readForm 20 = [(.iconst (1), 0, 0), (.goto 0, 22, 0)] := rfl
theorem k_Tp_readForm_21 : zblk i_Tp_readForm 21 = [(.iconst (0), 0, 0), (.goto_w 0, 22, 0)] := rfl
theorem k_Tp_readForm_22 : zblk i_Tp_readForm 22 = [(.ireturn, 0, 0)] := rfl
theorem a_Tp_readForm : zmA i_Tp_readForm = 1 := rfl
theorem l_Tp_readForm : zmL i_Tp_readForm = 4 := rfl
theorem r_Tp_readForm : zmR i_Tp_readForm = some .boolean := rfl
theorem o_Tp_readForm : zmO i_Tp_readForm = 9 := rfl
theorem k_Tp_readGroup_0 : zblk i_Tp_readGroup 0 = [(.iconst (0), 0, 0), (.istore 2, 0, 0), (.iconst (0), 0, 0), (.istore 3, 0, 0), (.iconst (0), 0, 0), (.istore 4, 0, 0), (.goto_w 0, 1, 0)] := rfl
theorem k_Tp_readGroup_1 : zblk i_Tp_readGroup 1 = [(.iload 4, 0, 0), (.iconst (4), 0, 0), (.if_icmp .ge 0, 6, 0), (.goto_w 0, 2, 0)] := rfl
theorem k_Tp_readGroup_2 : zblk i_Tp_readGroup 2 = [(.aload 0, 0, 0), (.invokevirtual 0, 113, 0), (.iconst (48), 0, 0), (.isub, 0, 0), (.istore 5, 0, 0), (.iload 5, 0, 0), (.iload 3, 0, 0), (.if_icmp .lt 0, 6, 0), (.goto_w 0, 3, 0)] := rfl
theorem k_Tp_readGroup_3 : zblk i_Tp_readGroup 3 = [(.iload 5, 0, 0), (.aload 0, 0, 0), (.getfield 0, 9, 5), (.if_icmp .lt 0, 5, 0), (.goto_w 0, 4, 0)] := rfl
theorem k_Tp_readGroup_4 : zblk i_Tp_readGroup 4 = [(.goto 0, 6, 0)] := rfl
theorem k_Tp_readGroup_5 : zblk i_Tp_readGroup 5 = [(.iload 2, 0, 0), (.iconst (1), 0, 0), (.iload 5, 0, 0), (.ishl, 0, 0), (.ior, 0, 0), (.istore 2, 0, 0), (.iload 5, 0, 0), (.iconst (1), 0, 0), (.iadd, 0, 0), (.istore 3, 0, 0), (.aload 0, 0, 0), (.dup, 0, 0), (.getfield 0, 9, 3), (.iconst (1), 0, 0), (.iadd, 0, 0), (.putfield 0, 9, 3), (.iinc 4 (1), 0, 0), (.goto 0, 1, 0)] := rfl
theorem k_Tp_readGroup_6 : zblk i_Tp_readGroup 6 = [(.aload 0, 0, 0), (.getfield 0, 9, 1), (.getfield 0, 1, 5), (.iload 1, 0, 0), (.iload 2, 0, 0), (.invokestatic 0, 160, 0), (.aload 0, 0, 0), (.iconst (62), 0, 0), (.invokevirtual 0, 115, 0), (.ireturn, 0, 0)] := rfl
theorem a_Tp_readGroup : zmA i_Tp_readGroup = 1 := rfl
theorem l_Tp_readGroup : zmL i_Tp_readGroup = 6 := rfl
theorem r_Tp_readGroup : zmR i_Tp_readGroup = some .boolean := rfl
theorem o_Tp_readGroup : zmO i_Tp_readGroup = 9 := rfl
theorem k_Tp_readLaw_0 : zblk i_Tp_readLaw 0 = [(.aload 0, 0, 0), (.invokevirtual 0, 113, 0), (.istore 3, 0, 0), (.iload 3, 0, 0), (.invokestatic 0, 120, 0), (.istore 4, 0, 0), (.iload 4, 0, 0), (.ifCond .ge 0, 2, 0), (.goto_w 0, 1, 0)] := rfl
theorem k_Tp_readLaw_1 : zblk i_Tp_readLaw 1 = [(.aload 0, 0, 0), (.invokevirtual 0, 114, 0), (.ireturn, 0, 0)] := rfl
theorem k_Tp_readLaw_2 : zblk i_Tp_readLaw 2 = [(.aload 0, 0, 0), (.dup, 0, 0), (.getfield 0, 9, 3), (.iconst (1), 0, 0), (.iadd, 0, 0), (.putfield 0, 9, 3), (.iload 4, 0, 0), (.iconst (8), 0, 0), (.if_icmp .ne 0, 4, 0), (.goto_w 0, 3, 0)] := rfl
theorem k_Tp_readLaw_3 : zblk i_Tp_readLaw 3 = [(.aload 0, 0, 0), (.iload 1, 0, 0), (.iconst (1), 0, 0), (.iload 2, 0, 0), (.invokevirtual 0, 119, 0), (.ireturn, 0, 0)] := rfl
theorem k_Tp_readLaw_4 : zblk i_Tp_readLaw 4 = [(.aload 0, 0, 0), (.getfield 0, 9, 1), (.iload 1, 0, 0), (.iload 4, 0, 0), (.iload 1, 0, 0), (.iconst (1), 0, 0), (.iadd, 0, 0), (.iconst (0), 0, 0), (.invokevirtual 0, 16, 0), (.aload 0, 0, 0), (.iload 2, 0, 0), (.iconst (1), 0, 0), (.iadd, 0, 0), (.invokevirtual 0, 116, 0), (.ireturn, 0, 0)] := rfl
theorem a_Tp_readLaw : zmA i_Tp_readLaw = 2 := rfl
theorem l_Tp_readLaw : zmL i_Tp_readLaw = 5 := rfl
theorem r_Tp_readLaw : zmR i_Tp_readLaw = some .boolean := rfl
theorem o_Tp_readLaw : zmO i_Tp_readLaw = 9 := rfl
theorem k_Tp_readPair_0 : zblk i_Tp_readPair 0 = [(.aload 0, 0, 0), (.iload 3, 0, 0), (.iconst (1), 0, 0), (.iadd, 0, 0), (.invokevirtual 0, 116, 0), (.ifCond .ne 0, 2, 0), (.goto_w 0, 1, 0)] := rfl
theorem k_Tp_readPair_1 : zblk i_Tp_readPair 1 = [(.iconst (0), 0, 0), (.ireturn, 0, 0)] := rfl
theorem k_Tp_readPair_2 : zblk i_Tp_readPair 2 = [(.aload 0, 0, 0), (.invokevirtual 0, 113, 0), (.invokestatic 0, 121, 0), (.istore 4, 0, 0), (.iload 4, 0, 0), (.ifCond .lt 0, 7, 0), (.goto_w 0, 3, 0)] := rfl
theorem k_Tp_readPair_3 : zblk i_Tp_readPair 3 = [(.iload 2, 0, 0), (.iload 4, 0, 0), (.iconst (8), 0, 0), (.if_icmp .ne 0, 5, 0), (.goto_w 0, 4, 0)] := rfl
theorem k_Tp_readPair_4 : zblk i_Tp_readPair 4 = [(.iconst (1), 0, 0), (.goto 0, 6, 0)] := rfl
theorem k_Tp_readPair_5 : zblk i_Tp_readPair 5 = [(.iconst (0), 0, 0), (.goto_w 0, 6, 0)] := rfl
theorem k_Tp_readPair_6 : zblk i_Tp_readPair 6 = [(.if_icmp .eq 0, 8, 0), (.goto_w 0, 7, 0)] := rfl
theorem k_Tp_readPair_7 : zblk i_Tp_readPair 7 = [(.aload 0, 0, 0), (.invokevirtual 0, 114, 0), (.ireturn, 0, 0)] := rfl
theorem k_Tp_readPair_8 : zblk i_Tp_readPair 8 = [(.aload 0, 0, 0), (.dup, 0, 0), (.getfield 0, 9, 3), (.iconst (1), 0, 0), (.iadd, 0, 0), (.putfield 0, 9, 3), (.aload 0, 0, 0), (.getfield 0, 9, 1), (.iload 1, 0, 0), (.iload 4, 0, 0), (.iload 1, 0, 0), (.iconst (1), 0, 0), (.iadd, 0, 0), (.aload 0, 0, 0), (.getfield 0, 9, 1), (.getfield 0, 1, 0), (.invokevirtual 0, 16, 0), (.aload 0, 0, 0), (.iload 3, 0, 0), (.iconst (1), 0, 0), (.iadd, 0, 0), (.invokevirtual 0, 116, 0), (.ifCond .eq 0, 11, 0), (.goto_w 0, 9, 0)] := rfl
theorem k_Tp_readPair_9 : zblk i_Tp_readPair 9 = [(.aload 0, 0, 0), (.iconst (41), 0, 0), (.invokevirtual 0, 115, 0), (.ifCond .eq 0, 11, 0), (.goto_w 0, 10, 0)] := rfl
theorem k_Tp_readPair_10 : zblk i_Tp_readPair 10 = [(.iconst (1), 0, 0), (.goto 0, 12, 0)] := rfl
theorem k_Tp_readPair_11 : zblk i_Tp_readPair 11 = [(.iconst (0), 0, 0), (.goto_w 0, 12, 0)] := rfl
theorem k_Tp_readPair_12 : zblk i_Tp_readPair 12 = [(.ireturn, 0, 0)] := rfl
theorem a_Tp_readPair : zmA i_Tp_readPair = 3 := rfl
theorem l_Tp_readPair : zmL i_Tp_readPair = 5 := rfl
theorem r_Tp_readPair : zmR i_Tp_readPair = some .boolean := rfl
theorem o_Tp_readPair : zmO i_Tp_readPair = 9 := rfl
theorem k_Tp_lawKind_0 : zblk i_Tp_lawKind 0 = [(.iload 0, 0, 0), (.lookupswitch 6 #[(40, 5), (70, 3), (71, 2), (73, 4), (88, 1)], 0, 0)] := rfl
theorem k_Tp_lawKind_1 : zblk i_Tp_lawKind 1 = [(.iconst (5), 0, 0), (.ireturn, 0, 0)] := rfl
theorem k_Tp_lawKind_2 : zblk i_Tp_lawKind 2 = [(.iconst (6), 0, 0), (.ireturn, 0, 0)] := rfl
theorem k_Tp_lawKind_3 : zblk i_Tp_lawKind 3 = [(.iconst (7), 0, 0), (.ireturn, 0, 0)] := rfl
theorem k_Tp_lawKind_4 : zblk i_Tp_lawKind 4 = [(.iconst (9), 0, 0), (.ireturn, 0, 0)] := rfl
theorem k_Tp_lawKind_5 : zblk i_Tp_lawKind 5 = [(.iconst (8), 0, 0), (.ireturn, 0, 0)] := rfl
theorem k_Tp_lawKind_6 : zblk i_Tp_lawKind 6 = [(.iconst (-1), 0, 0), (.ireturn, 0, 0)] := rfl
theorem a_Tp_lawKind : zmA i_Tp_lawKind = 1 := rfl
theorem l_Tp_lawKind : zmL i_Tp_lawKind = 1 := rfl
theorem r_Tp_lawKind : zmR i_Tp_lawKind = some .int := rfl
theorem o_Tp_lawKind : zmO i_Tp_lawKind = 9 := rfl
theorem k_Tp_pairKind_0 : zblk i_Tp_pairKind 0 = [(.iload 0, 0, 0), (.lookupswitch 4 #[(38, 1), (85, 3), (124, 2)], 0, 0)] := rfl
theorem k_Tp_pairKind_1 : zblk i_Tp_pairKind 1 = [(.iconst (3), 0, 0), (.ireturn, 0, 0)] := rfl
theorem k_Tp_pairKind_2 : zblk i_Tp_pairKind 2 = [(.iconst (4), 0, 0), (.ireturn, 0, 0)] := rfl
theorem k_Tp_pairKind_3 : zblk i_Tp_pairKind 3 = [(.iconst (8), 0, 0), (.ireturn, 0, 0)] := rfl
theorem k_Tp_pairKind_4 : zblk i_Tp_pairKind 4 = [(.iconst (-1), 0, 0), (.ireturn, 0, 0)] := rfl
theorem a_Tp_pairKind : zmA i_Tp_pairKind = 1 := rfl
theorem l_Tp_pairKind : zmL i_Tp_pairKind = 1 := rfl
theorem r_Tp_pairKind : zmR i_Tp_pairKind = some .int := rfl
theorem o_Tp_pairKind : zmO i_Tp_pairKind = 9 := rfl
theorem k_FN_init_0 : zblk i_FN_init 0 = [(.aload 0, 0, 0), (.nop, 0, 0), (.new 0, 5, 0), (.dup, 0, 0), (.invokevirtual 0, 56, 0), (.astore 1, 0, 0), (.new 0, 1, 0), (.dup, 0, 0), (.invokevirtual 0, 12, 0), (.astore 2, 0, 0), (.new 0, 8, 0), (.dup, 0, 0), (.aload 1, 0, 0), (.invokevirtual 0, 102, 0), (.astore 3, 0, 0), (.new 0, 3, 0), (.dup, 0, 0), (.aload 1, 0, 0), (.aload 2, 0, 0), (.aload 3, 0, 0), (.invokevirtual 0, 34, 0), (.astore 4, 0, 0), (.aload 0, 0, 0), (.aload 1, 0, 0), (.putfield 0, 10, 0), (.aload 0, 0, 0), (.aload 2, 0, 0), (.putfield 0, 10, 1), (.aload 0, 0, 0), (.new 0, 9, 0), (.dup, 0, 0), (.invokevirtual 0, 109, 0), (.putfield 0, 10, 2), (.aload 0, 0, 0), (.aload 4, 0, 0), (.putfield 0, 10, 3), (.aload 0, 0, 0), (.new 0, 6, 0), (.dup, 0, 0), (.aload 1, 0, 0), (.aload 2, 0, 0), (.aload 3, 0, 0), (.aload 4, 0, 0), (.invokevirtual 0, 81, 0), (.putfield 0, 10, 4), (.aload 0, 0, 0), (.new 0, 0, 0), (.dup, 0, 0), (.aload 1, 0, 0), (.aload 3, 0, 0), (.invokevirtual 0, 0, 0), (.putfield 0, 10, 5), (.aload 0, 0, 0), (.new 0, 4, 0), (.dup, 0, 0), (.aload 1, 0, 0), (.invokevirtual 0, 44, 0), (.putfield 0, 10, 6), (.aload 0, 0, 0), (.new 0, 2, 0), (.dup, 0, 0), (.aload 1, 0, 0), (.invokevirtual 0, 26, 0), (.putfield 0, 10, 7), (.aload 0, 0, 0), (.new 0, 7, 0), (.dup, 0, 0), (.invokevirtual 0, 92, 0), (.putfield 0, 10, 8), (.return_, 0, 0)] := rfl
theorem a_FN_init : zmA i_FN_init = 0 := rfl
theorem l_FN_init : zmL i_FN_init = 5 := rfl
theorem r_FN_init : zmR i_FN_init = none := rfl
theorem o_FN_init : zmO i_FN_init = 10 := rfl
theorem k_FN_net_0 : zblk i_FN_net 0 = [(.iload 1, 0, 0), (.iconst (2), 0, 0), (.if_icmp .lt 0, 4, 0), (.goto_w 0, 1, 0)] := rfl
theorem k_FN_net_1 : zblk i_FN_net 1 = [(.iload 1, 0, 0), (.iconst (12), 0, 0), (.if_icmp .gt 0, 4, 0), (.goto_w 0, 2, 0)] := rfl
theorem k_FN_net_2 : zblk i_FN_net 2 = [(.iload 2, 0, 0), (.iconst (1), 0, 0), (.if_icmp .lt 0, 4, 0), (.goto_w 0, 3, 0)] := rfl
theorem k_FN_net_3 : zblk i_FN_net 3 = [(.iload 2, 0, 0), (.iconst (4), 0, 0), (.if_icmp .le 0, 5, 0), (.goto_w 0, 4, 0)] := rfl
theorem k_FN_net_4 : zblk i_FN_net 4 = [(.iconst (-1), 0, 0), (.ireturn, 0, 0)] := rfl
theorem k_FN_net_5 : zblk i_FN_net 5 = [(.aload 0, 0, 0), (.getfield 0, 10, 0), (.iload 1, 0, 0), (.iload 2, 0, 0), (.invokevirtual 0, 57, 0), (.aload 0, 0, 0), (.getfield 0, 10, 1), (.invokevirtual 0, 13, 0), (.aload 0, 0, 0), (.getfield 0, 10, 6), (.iconst (-1), 0, 0), (.putfield 0, 4, 1), (.aload 0, 0, 0), (.getfield 0, 10, 7), (.invokevirtual 0, 27, 0), (.aload 0, 0, 0), (.getfield 0, 10, 4), (.invokevirtual 0, 88, 0), (.iconst (1), 0, 0), (.ireturn, 0, 0)] := rfl
theorem a_FN_net : zmA i_FN_net = 2 := rfl
theorem l_FN_net : zmL i_FN_net = 3 := rfl
theorem r_FN_net : zmR i_FN_net = some .int := rfl
theorem o_FN_net : zmO i_FN_net = 10 := rfl
theorem k_FN_moves_0 : zblk i_FN_moves 0 = [(.aload 0, 0, 0), (.getfield 0, 10, 0), (.iload 1, 0, 0), (.invokevirtual 0, 59, 0), (.ifCond .eq 0, 4, 0), (.goto_w 0, 1, 0)] := rfl
theorem k_FN_moves_1 : zblk i_FN_moves 1 = [(.aload 0, 0, 0), (.getfield 0, 10, 0), (.iload 2, 0, 0), (.invokevirtual 0, 60, 0), (.ifCond .eq 0, 4, 0), (.goto_w 0, 2, 0)] := rfl
theorem k_FN_moves_2 : zblk i_FN_moves 2 = [(.iload 3, 0, 0), (.iconst (1), 0, 0), (.if_icmp .lt 0, 4, 0), (.goto_w 0, 3, 0)] := rfl
theorem k_FN_moves_3 : zblk i_FN_moves 3 = [(.iload 3, 0, 0), (.iconst (3), 0, 0), (.if_icmp .le 0, 5, 0), (.goto_w 0, 4, 0)] := rfl
theorem k_FN_moves_4 : zblk i_FN_moves 4 = [(.iconst (-1), 0, 0), (.ireturn, 0, 0)] := rfl
theorem k_FN_moves_5 : zblk i_FN_moves 5 = [(.aload 0, 0, 0), (.getfield 0, 10, 0), (.iload 1, 0, 0), (.iload 2, 0, 0), (.iload 3, 0, 0), (.invokevirtual 0, 70, 0), (.ireturn, 0, 0)] := rfl
theorem a_FN_moves : zmA i_FN_moves = 3 := rfl
theorem l_FN_moves : zmL i_FN_moves = 4 := rfl
theorem r_FN_moves : zmR i_FN_moves = some .int := rfl
theorem o_FN_moves : zmO i_FN_moves = 10 := rfl
theorem k_FN_joint_0 : zblk i_FN_joint 0 = [(.aload 0, 0, 0), (.getfield 0, 10, 0), (.iload 1, 0, 0), (.invokevirtual 0, 59, 0), (.ifCond .eq 0, 2, 0), (.goto_w 0, 1, 0)] := rfl
theorem k_FN_joint_1 : zblk i_FN_joint 1 = [(.aload 0, 0, 0), (.getfield 0, 10, 0), (.iload 2, 0, 0), (.invokevirtual 0, 61, 0), (.ifCond .ne 0, 3, 0), (.goto_w 0, 2, 0)] := rfl
theorem k_FN_joint_2 : zblk i_FN_joint 2 = [(.iconst (-1), 0, 0), (.ireturn, 0, 0)] := rfl
theorem k_FN_joint_3 : zblk i_FN_joint 3 = [(.aload 0, 0, 0), (.getfield 0, 10, 0), (.iload 1, 0, 0), (.iload 2, 0, 0), (.invokevirtual 0, 74, 0), (.ireturn, 0, 0)] := rfl
theorem a_FN_joint : zmA i_FN_joint = 2 := rfl
theorem l_FN_joint : zmL i_FN_joint = 3 := rfl
theorem r_FN_joint : zmR i_FN_joint = some .int := rfl
theorem o_FN_joint : zmO i_FN_joint = 10 := rfl
theorem k_FN_step_0 : zblk i_FN_step 0 = [(.aload 0, 0, 0), (.getfield 0, 10, 0), (.iload 1, 0, 0), (.iload 2, 0, 0), (.invokevirtual 0, 64, 0), (.ifCond .eq 0, 2, 0), (.goto_w 0, 1, 0)] := rfl
theorem k_FN_step_1 : zblk i_FN_step 1 = [(.aload 0, 0, 0), (.getfield 0, 10, 0), (.iload 3, 0, 0), (.invokevirtual 0, 59, 0), (.ifCond .ne 0, 3, 0), (.goto_w 0, 2, 0)] := rfl
theorem k_FN_step_2 : zblk i_FN_step 2 = [(.iconst (-1), 0, 0), (.ireturn, 0, 0)] := rfl
theorem k_FN_step_3 : zblk i_FN_step 3 = [(.aload 0, 0, 0), (.getfield 0, 10, 0), (.iload 1, 0, 0), (.iload 2, 0, 0), (.iload 3, 0, 0), (.invokevirtual 0, 71, 0), (.ireturn, 0, 0)] := rfl
theorem a_FN_step : zmA i_FN_step = 3 := rfl
theorem l_FN_step : zmL i_FN_step = 4 := rfl
theorem r_FN_step : zmR i_FN_step = some .int := rfl
theorem o_FN_step : zmO i_FN_step = 10 := rfl
theorem k_FN_leads_0 : zblk i_FN_leads 0 = [(.aload 0, 0, 0), (.getfield 0, 10, 0), (.iload 1, 0, 0), (.iload 2, 0, 0), (.invokevirtual 0, 64, 0), (.ifCond .ne 0, 2, 0), (.goto_w 0, 1, 0)] := rfl
theorem k_FN_leads_1 : zblk i_FN_leads 1 = [(.iconst (-1), 0, 0), (.ireturn, 0, 0)] := rfl
theorem k_FN_leads_2 : zblk i_FN_leads 2 = [(.aload 0, 0, 0), (.getfield 0, 10, 0), (.iload 1, 0, 0), (.iload 2, 0, 0), (.invokevirtual 0, 69, 0), (.ireturn, 0, 0)] := rfl
theorem a_FN_leads : zmA i_FN_leads = 2 := rfl
theorem l_FN_leads : zmL i_FN_leads = 3 := rfl
theorem r_FN_leads : zmR i_FN_leads = some .int := rfl
theorem o_FN_leads : zmO i_FN_leads = 10 := rfl
theorem k_FN_letters_0 : zblk i_FN_letters 0 = [(.aload 0, 0, 0), (.getfield 0, 10, 0), (.iload 1, 0, 0), (.invokevirtual 0, 59, 0), (.ifCond .eq 0, 3, 0), (.goto_w 0, 1, 0)] := rfl
theorem k_FN_letters_1 : zblk i_FN_letters 1 = [(.iload 2, 0, 0), (.ifCond .lt 0, 3, 0), (.goto_w 0, 2, 0)] := rfl
theorem k_FN_letters_2 : zblk i_FN_letters 2 = [(.iload 2, 0, 0), (.iconst (256), 0, 0), (.if_icmp .lt 0, 4, 0), (.goto_w 0, 3, 0)] := rfl
theorem k_FN_letters_3 : zblk i_FN_letters 3 = [(.iconst (-1), 0, 0), (.ireturn, 0, 0)] := rfl
theorem k_FN_letters_4 : zblk i_FN_letters 4 = [(.aload 0, 0, 0), (.getfield 0, 10, 0), (.iload 1, 0, 0), (.iload 2, 0, 0), (.invokevirtual 0, 72, 0), (.ireturn, 0, 0)] := rfl
theorem a_FN_letters : zmA i_FN_letters = 2 := rfl
theorem l_FN_letters : zmL i_FN_letters = 3 := rfl
theorem r_FN_letters : zmR i_FN_letters = some .int := rfl
theorem o_FN_letters : zmO i_FN_letters = 10 := rfl
theorem k_FN_heap_0 : zblk i_FN_heap 0 = [(.aload 0, 0, 0), (.getfield 0, 10, 0), (.iload 1, 0, 0), (.invokevirtual 0, 60, 0), (.ifCond .eq 0, 4, 0), (.goto_w 0, 1, 0)] := rfl
theorem k_FN_heap_1 : zblk i_FN_heap 1 = [(.aload 0, 0, 0), (.getfield 0, 10, 0), (.iload 2, 0, 0), (.invokevirtual 0, 59, 0), (.ifCond .eq 0, 4, 0), (.goto_w 0, 2, 0)] := rfl
theorem k_FN_heap_2 : zblk i_FN_heap 2 = [(.iload 3, 0, 0), (.ifCond .lt 0, 4, 0), (.goto_w 0, 3, 0)] := rfl
theorem k_FN_heap_3 : zblk i_FN_heap 3 = [(.iload 3, 0, 0), (.iconst (12), 0, 0), (.if_icmp .lt 0, 5, 0), (.goto_w 0, 4, 0)] := rfl
theorem k_FN_heap_4 : zblk i_FN_heap 4 = [(.iconst (-1), 0, 0), (.ireturn, 0, 0)] := rfl
theorem k_FN_heap_5 : zblk i_FN_heap 5 = [(.aload 0, 0, 0), (.getfield 0, 10, 0), (.getfield 0, 5, 8), (.iload 1, 0, 0), (.iconst (12), 0, 0), (.imul, 0, 0), (.iload 2, 0, 0), (.iadd, 0, 0), (.iload 3, 0, 0), (.invokestatic 0, 161, 0), (.ireturn, 0, 0)] := rfl
theorem a_FN_heap : zmA i_FN_heap = 3 := rfl
theorem l_FN_heap : zmL i_FN_heap = 4 := rfl
theorem r_FN_heap : zmR i_FN_heap = some .int := rfl
theorem o_FN_heap : zmO i_FN_heap = 10 := rfl
theorem k_FN_price_0 : zblk i_FN_price 0 = [(.aload 0, 0, 0), (.getfield 0, 10, 0), (.iload 1, 0, 0), (.iload 2, 0, 0), (.iload 3, 0, 0), (.invokevirtual 0, 63, 0), (.ifCond .eq 0, 3, 0), (.goto_w 0, 1, 0)] := rfl
theorem k_FN_price_1 : zblk i_FN_price 1 = [(.iload 4, 0, 0), (.ifCond .lt 0, 3, 0), (.goto_w 0, 2, 0)] := rfl
theorem k_FN_price_2 : zblk i_FN_price 2 = [(.iload 4, 0, 0), (.iconst (9), 0, 0), (.if_icmp .le 0, 4, 0), (.goto_w 0, 3, 0)] := rfl
theorem k_FN_price_3 : zblk i_FN_price 3 = [(.iconst (-1), 0, 0), (.ireturn, 0, 0)] := rfl
theorem k_FN_price_4 : zblk i_FN_price 4 = [(.aload 0, 0, 0), (.getfield 0, 10, 0), (.getfield 0, 5, 5), (.iload 1, 0, 0), (.iconst (4), 0, 0), (.imul, 0, 0), (.iload 2, 0, 0), (.iadd, 0, 0), (.iconst (3), 0, 0), (.imul, 0, 0), (.iload 3, 0, 0), (.iadd, 0, 0), (.iload 4, 0, 0), (.invokestatic 0, 161, 0), (.ireturn, 0, 0)] := rfl
theorem a_FN_price : zmA i_FN_price = 4 := rfl
theorem l_FN_price : zmL i_FN_price = 5 := rfl
theorem r_FN_price : zmR i_FN_price = some .int := rfl
theorem o_FN_price : zmO i_FN_price = 10 := rfl
theorem k_FN_steps_0 : zblk i_FN_steps 0 = [(.aload 0, 0, 0), (.getfield 0, 10, 0), (.iload 1, 0, 0), (.invokevirtual 0, 59, 0), (.ifCond .eq 0, 5, 0), (.goto_w 0, 1, 0)] := rfl
theorem k_FN_steps_1 : zblk i_FN_steps 1 = [(.aload 0, 0, 0), (.getfield 0, 10, 8), (.iload 2, 0, 0), (.iload 3, 0, 0), (.invokevirtual 0, 93, 0), (.ifCond .eq 0, 5, 0), (.goto_w 0, 2, 0)] := rfl
theorem k_FN_steps_2 : zblk i_FN_steps 2 = [(.iload 5, 0, 0), (.ifCond .lt 0, 5, 0), (.goto_w 0, 3, 0)] := rfl
theorem k_FN_steps_3 : zblk i_FN_steps 3 = [(.iload 5, 0, 0), (.iconst (81), 0, 0), (.if_icmp .gt 0, 5, 0), (.goto_w 0, 4, 0)] := rfl
theorem k_FN_steps_4 : zblk i_FN_steps 4 = [(.iload 5, 0, 0), (.aload 0, 0, 0), (.getfield 0, 10, 0), (.iload 1, 0, 0), (.aload 0, 0, 0), (.getfield 0, 10, 0), (.invokevirtual 0, 65, 0), (.invokevirtual 0, 74, 0), (.if_icmp .le 0, 6, 0), (.goto_w 0, 5, 0)] := rfl
theorem k_FN_steps_5 : zblk i_FN_steps 5 = [(.iconst (-1), 0, 0), (.ireturn, 0, 0)] := rfl
theorem k_FN_steps_6 : zblk i_FN_steps 6 = [(.aload 0, 0, 0), (.getfield 0, 10, 8), (.iload 2, 0, 0), (.iload 3, 0, 0), (.iload 4, 0, 0), (.iload 5, 0, 0), (.invokevirtual 0, 96, 0), (.istore 6, 0, 0), (.iload 6, 0, 0), (.ifCond .eq 0, 8, 0), (.goto_w 0, 7, 0)] := rfl
theorem k_FN_steps_7 : zblk i_FN_steps 7 = [(.iload 6, 0, 0), (.ireturn, 0, 0)] := rfl
theorem k_FN_steps_8 : zblk i_FN_steps 8 = [(.iconst (0), 0, 0), (.istore 7, 0, 0), (.goto_w 0, 9, 0)] := rfl
theorem k_FN_steps_9 : zblk i_FN_steps 9 = [(.iload 7, 0, 0), (.iload 5, 0, 0), (.if_icmp .ge 0, 13, 0), (.goto_w 0, 10, 0)] := rfl
theorem k_FN_steps_10 : zblk i_FN_steps 10 = [(.aload 0, 0, 0), (.getfield 0, 10, 0), (.aload 0, 0, 0), (.getfield 0, 10, 8), (.iload 2, 0, 0), (.iload 4, 0, 0), (.iload 7, 0, 0), (.iadd, 0, 0), (.invokevirtual 0, 99, 0), (.invokevirtual 0, 59, 0), (.ifCond .ne 0, 12, 0), (.goto_w 0, 11, 0)] := rfl
theorem k_FN_steps_11 : zblk i_FN_steps 11 = [(.iconst (-2), 0, 0), (.ireturn, 0, 0)] := rfl
theorem k_FN_steps_12 : zblk i_FN_steps 12 = [(.iinc 7 (1), 0, 0), (.goto 0, 9, 0)] := rfl
theorem k_FN_steps_13 : zblk i_FN_steps 13 = [(.iconst (0), 0, 0), (.istore 7, 0, 0), (.goto_w 0, 14, 0)] := rfl
theorem k_FN_steps_14 : zblk i_FN_steps 14 = [(.iload 7, 0, 0), (.iload 5, 0, 0), (.if_icmp .ge 0, 16, 0), (.goto_w 0, 15, 0)] := rfl
theorem k_FN_steps_15 : zblk i_FN_steps 15 = [(.aload 0, 0, 0), (.getfield 0, 10, 0), (.iload 1, 0, 0), (.iload 7, 0, 0), (.aload 0, 0, 0), (.getfield 0, 10, 8), (.iload 2, 0, 0), (.iload 4, 0, 0), (.iload 7, 0, 0), (.iadd, 0, 0), (.invokevirtual 0, 99, 0), (.invokevirtual 0, 71, 0), (.pop, 0, 0), (.iinc 7 (1), 0, 0), (.goto 0, 14, 0)] := rfl
theorem k_FN_steps_16 : zblk i_FN_steps 16 = [(.iload 5, 0, 0), (.ireturn, 0, 0)] := rfl
theorem a_FN_steps : zmA i_FN_steps = 5 := rfl
theorem l_FN_steps : zmL i_FN_steps = 8 := rfl
theorem r_FN_steps : zmR i_FN_steps = some .int := rfl
theorem o_FN_steps : zmO i_FN_steps = 10 := rfl
theorem k_FN_type_0 : zblk i_FN_type 0 = [(.iload 3, 0, 0), (.iconst (1), 0, 0), (.if_icmp .lt 0, 2, 0), (.goto_w 0, 1, 0)] := rfl
theorem k_FN_type_1 : zblk i_FN_type 1 = [(.iload 3, 0, 0), (.iconst (8), 0, 0), (.if_icmp .le 0, 3, 0), (.goto_w 0, 2, 0)] := rfl
theorem k_FN_type_2 : zblk i_FN_type 2 = [(.iconst (-1), 0, 0), (.ireturn, 0, 0)] := rfl
theorem k_FN_type_3 : zblk i_FN_type 3 = [(.aload 0, 0, 0), (.getfield 0, 10, 2), (.lload 1, 0, 0), (.iload 3, 0, 0), (.invokevirtual 0, 110, 0), (.ireturn, 0, 0)] := rfl
theorem a_FN_type : zmA i_FN_type = 2 := rfl
theorem l_FN_type : zmL i_FN_type = 4 := rfl
theorem r_FN_type : zmR i_FN_type = some .int := rfl
theorem o_FN_type : zmO i_FN_type = 10 := rfl
theorem k_FN_form_0 : zblk i_FN_form 0 = [(.aload 0, 0, 0), (.getfield 0, 10, 2), (.aload 0, 0, 0), (.getfield 0, 10, 0), (.getfield 0, 5, 1), (.invokevirtual 0, 112, 0), (.istore 1, 0, 0), (.iload 1, 0, 0), (.ifCond .eq 0, 2, 0), (.goto_w 0, 1, 0)] := rfl
theorem k_FN_form_1 : zblk i_FN_form 1 = [(.iload 1, 0, 0), (.ireturn, 0, 0)] := rfl
theorem k_FN_form_2 : zblk i_FN_form 2 = [(.aload 0, 0, 0), (.getfield 0, 10, 1), (.aload 0, 0, 0), (.getfield 0, 10, 2), (.getfield 0, 9, 1), (.invokevirtual 0, 17, 0), (.aload 0, 0, 0), (.getfield 0, 10, 1), (.getfield 0, 1, 0), (.ireturn, 0, 0)] := rfl
theorem a_FN_form : zmA i_FN_form = 0 := rfl
theorem l_FN_form : zmL i_FN_form = 2 := rfl
theorem r_FN_form : zmR i_FN_form = some .int := rfl
theorem o_FN_form : zmO i_FN_form = 10 := rfl
theorem k_FN_holds_0 : zblk i_FN_holds 0 = [(.aload 0, 0, 0), (.getfield 0, 10, 3), (.invokevirtual 0, 36, 0), (.aload 0, 0, 0), (.getfield 0, 10, 3), (.invokevirtual 0, 35, 0), (.ireturn, 0, 0)] := rfl
theorem a_FN_holds : zmA i_FN_holds = 0 := rfl
theorem l_FN_holds : zmL i_FN_holds = 1 := rfl
theorem r_FN_holds : zmR i_FN_holds = some .int := rfl
theorem o_FN_holds : zmO i_FN_holds = 10 := rfl
theorem k_FN_part_0 : zblk i_FN_part 0 = [(.iload 1, 0, 0), (.ifCond .lt 0, 2, 0), (.goto_w 0, 1, 0)] := rfl
theorem k_FN_part_1 : zblk i_FN_part 1 = [(.iload 1, 0, 0), (.aload 0, 0, 0), (.getfield 0, 10, 1), (.getfield 0, 1, 0), (.if_icmp .lt 0, 3, 0), (.goto_w 0, 2, 0)] := rfl
theorem k_FN_part_2 : zblk i_FN_part 2 = [(.iconst (-1), 0, 0), (.ireturn, 0, 0)] := rfl
theorem k_FN_part_3 : zblk i_FN_part 3 = [(.aload 0, 0, 0), (.getfield 0, 10, 3), (.invokevirtual 0, 36, 0), (.aload 0, 0, 0), (.getfield 0, 10, 3), (.getfield 0, 3, 3), (.iload 1, 0, 0), (.invokestatic 0, 159, 0), (.ireturn, 0, 0)] := rfl
theorem a_FN_part : zmA i_FN_part = 1 := rfl
theorem l_FN_part : zmL i_FN_part = 2 := rfl
theorem r_FN_part : zmR i_FN_part = some .int := rfl
theorem o_FN_part : zmO i_FN_part = 10 := rfl
theorem k_FN_force_0 : zblk i_FN_force 0 = [(.aload 0, 0, 0), (.getfield 0, 10, 0), (.iload 1, 0, 0), (.invokevirtual 0, 59, 0), (.ifCond .eq 0, 3, 0), (.goto_w 0, 1, 0)] := rfl
theorem k_FN_force_1 : zblk i_FN_force 1 = [(.aload 0, 0, 0), (.getfield 0, 10, 0), (.iload 2, 0, 0), (.invokevirtual 0, 61, 0), (.ifCond .eq 0, 3, 0), (.goto_w 0, 2, 0)] := rfl
theorem k_FN_force_2 : zblk i_FN_force 2 = [(.aload 0, 0, 0), (.getfield 0, 10, 0), (.iload 3, 0, 0), (.invokevirtual 0, 62, 0), (.ifCond .ne 0, 4, 0), (.goto_w 0, 3, 0)] := rfl
theorem k_FN_force_3 : zblk i_FN_force 3 = [(.iconst (-1), 0, 0), (.ireturn, 0, 0)] := rfl
theorem k_FN_force_4 : zblk i_FN_force 4 = [(.aload 0, 0, 0), (.getfield 0, 10, 0), (.iload 1, 0, 0), (.iload 2, 0, 0), (.iload 3, 0, 0), (.invokevirtual 0, 76, 0), (.ifCond .lt 0, 6, 0), (.goto_w 0, 5, 0)] := rfl
theorem k_FN_force_5 : zblk i_FN_force 5 = [(.iconst (1), 0, 0), (.goto 0, 7, 0)] := rfl
theorem k_FN_force_6 : zblk i_FN_force 6 = [(.iconst (0), 0, 0), (.goto_w 0, 7, 0)] := rfl
theorem k_FN_force_7 : zblk i_FN_force 7 = [(.ireturn, 0, 0)] := rfl
theorem a_FN_force : zmA i_FN_force = 3 := rfl
theorem l_FN_force : zmL i_FN_force = 4 := rfl
theorem r_FN_force : zmR i_FN_force = some .int := rfl
theorem o_FN_force : zmO i_FN_force = 10 := rfl
theorem k_FN_round_0 : zblk i_FN_round 0 = [(.aload 0, 0, 0), (.getfield 0, 10, 0), (.iload 1, 0, 0), (.invokevirtual 0, 59, 0), (.ifCond .ne 0, 2, 0), (.goto_w 0, 1, 0)] := rfl
theorem k_FN_round_1 : zblk i_FN_round 1 = [(.iconst (-1), 0, 0), (.ireturn, 0, 0)] := rfl
theorem k_FN_round_2 : zblk i_FN_round 2 = [(.aload 0, 0, 0), (.getfield 0, 10, 1), (.invokevirtual 0, 24, 0), (.ifCond .ne 0, 4, 0), (.goto_w 0, 3, 0)] := rfl
theorem k_FN_round_3 : zblk i_FN_round 3 = [(.iconst (-2), 0, 0), (.ireturn, 0, 0)] := rfl
theorem k_FN_round_4 : zblk i_FN_round 4 = [(.aload 0, 0, 0), (.getfield 0, 10, 3), (.invokevirtual 0, 36, 0), (.aload 0, 0, 0), (.getfield 0, 10, 3), (.invokevirtual 0, 35, 0), (.iload 1, 0, 0), (.invokestatic 0, 162, 0), (.ifCond .eq 0, 6, 0), (.goto_w 0, 5, 0)] := rfl
theorem k_FN_round_5 : zblk i_FN_round 5 = [(.aload 0, 0, 0), (.getfield 0, 10, 3), (.getfield 0, 3, 4), (.iload 1, 0, 0), (.invokestatic 0, 159, 0), (.goto 0, 7, 0)] := rfl
theorem k_FN_round_6 : zblk i_FN_round 6 = [(.iconst (-4), 0, 0), (.goto_w 0, 7, 0)] := rfl
theorem k_FN_round_7 : zblk i_FN_round 7 = [(.ireturn, 0, 0)] := rfl
theorem a_FN_round : zmA i_FN_round = 1 := rfl
theorem l_FN_round : zmL i_FN_round = 2 := rfl
theorem r_FN_round : zmR i_FN_round = some .int := rfl
theorem o_FN_round : zmO i_FN_round = 10 := rfl
theorem k_FN_plan_0 : zblk i_FN_plan 0 = [(.aload 0, 0, 0), (.getfield 0, 10, 0), (.iload 1, 0, 0), (.invokevirtual 0, 59, 0), (.ifCond .ne 0, 2, 0), (.goto_w 0, 1, 0)] := rfl
theorem k_FN_plan_1 : zblk i_FN_plan 1 = [(.iconst (-1), 0, 0), (.ireturn, 0, 0)] := rfl
theorem k_FN_plan_2 : zblk i_FN_plan 2 = [(.aload 0, 0, 0), (.getfield 0, 10, 1), (.invokevirtual 0, 23, 0), (.ifCond .ne 0, 4, 0), (.goto_w 0, 3, 0)] := rfl
theorem k_FN_plan_3 : zblk i_FN_plan 3 = [(.iconst (-2), 0, 0), (.ireturn, 0, 0)] := rfl
theorem k_FN_plan_4 : zblk i_FN_plan 4 = [(.aload 0, 0, 0), (.getfield 0, 10, 3), (.invokevirtual 0, 36, 0), (.aload 0, 0, 0), (.getfield 0, 10, 4), (.iload 1, 0, 0), (.invokevirtual 0, 82, 0), (.ireturn, 0, 0)] := rfl
theorem a_FN_plan : zmA i_FN_plan = 1 := rfl
theorem l_FN_plan : zmL i_FN_plan = 2 := rfl
theorem r_FN_plan : zmR i_FN_plan = some .int := rfl
theorem o_FN_plan : zmO i_FN_plan = 10 := rfl
theorem k_FN_answer_0 : zblk i_FN_answer 0 = [(.aload 0, 0, 0), (.getfield 0, 10, 0), (.iload 1, 0, 0), (.invokevirtual 0, 59, 0), (.ifCond .ne 0, 2, 0), (.goto_w 0, 1, 0)] := rfl
theorem k_FN_answer_1 : zblk i_FN_answer 1 = [(.iconst (-1), 0, 0), (.ireturn, 0, 0)] := rfl
theorem k_FN_answer_2 : zblk i_FN_answer 2 = [(.aload 0, 0, 0), (.getfield 0, 10, 1), (.invokevirtual 0, 23, 0), (.ifCond .ne 0, 4, 0), (.goto_w 0, 3, 0)] := rfl
theorem k_FN_answer_3 : zblk i_FN_answer 3 = [(.iconst (-2), 0, 0), (.ireturn, 0, 0)] := rfl
theorem k_FN_answer_4 : zblk i_FN_answer 4 = [(.iload 2, 0, 0), (.ifCond .lt 0, 6, 0), (.goto_w 0, 5, 0)] := rfl
theorem k_FN_answer_5 : zblk i_FN_answer 5 = [(.iload 2, 0, 0), (.aload 0, 0, 0), (.getfield 0, 10, 0), (.iload 1, 0, 0), (.aload 0, 0, 0), (.getfield 0, 10, 1), (.iconst (0), 0, 0), (.invokevirtual 0, 21, 0), (.invokevirtual 0, 74, 0), (.if_icmp .lt 0, 7, 0), (.goto_w 0, 6, 0)] := rfl
theorem k_FN_answer_6 : zblk i_FN_answer 6 = [(.iconst (-1), 0, 0), (.ireturn, 0, 0)] := rfl
theorem k_FN_answer_7 : zblk i_FN_answer 7 = [(.aload 0, 0, 0), (.getfield 0, 10, 3), (.invokevirtual 0, 36, 0), (.aload 0, 0, 0), (.getfield 0, 10, 4), (.iload 1, 0, 0), (.iload 2, 0, 0), (.invokevirtual 0, 84, 0), (.ireturn, 0, 0)] := rfl
theorem a_FN_answer : zmA i_FN_answer = 2 := rfl
theorem l_FN_answer : zmL i_FN_answer = 3 := rfl
theorem r_FN_answer : zmR i_FN_answer = some .int := rfl
theorem o_FN_answer : zmO i_FN_answer = 10 := rfl
theorem k_FN_toll_0 : zblk i_FN_toll 0 = [(.aload 0, 0, 0), (.getfield 0, 10, 0), (.iload 1, 0, 0), (.invokevirtual 0, 59, 0), (.ifCond .ne 0, 2, 0), (.goto_w 0, 1, 0)] := rfl
theorem k_FN_toll_1 : zblk i_FN_toll 1 = [(.iconst (-1), 0, 0), (.ireturn, 0, 0)] := rfl
theorem k_FN_toll_2 : zblk i_FN_toll 2 = [(.aload 0, 0, 0), (.getfield 0, 10, 1), (.invokevirtual 0, 25, 0), (.ifCond .ne 0, 4, 0), (.goto_w 0, 3, 0)] := rfl
theorem k_FN_toll_3 : zblk i_FN_toll 3 = [(.iconst (-2), 0, 0), (.ireturn, 0, 0)] := rfl
theorem k_FN_toll_4 : zblk i_FN_toll 4 = [(.aload 0, 0, 0), (.getfield 0, 10, 3), (.invokevirtual 0, 36, 0), (.aload 0, 0, 0), (.getfield 0, 10, 3), (.invokevirtual 0, 35, 0), (.iload 1, 0, 0), (.invokestatic 0, 162, 0), (.ifCond .eq 0, 6, 0), (.goto_w 0, 5, 0)] := rfl
theorem k_FN_toll_5 : zblk i_FN_toll 5 = [(.aload 0, 0, 0), (.getfield 0, 10, 4), (.iload 1, 0, 0), (.invokevirtual 0, 85, 0), (.goto 0, 7, 0)] := rfl
theorem k_FN_toll_6 : zblk i_FN_toll 6 = [(.iconst (-4), 0, 0), (.goto_w 0, 7, 0)] := rfl
theorem k_FN_toll_7 : zblk i_FN_toll 7 = [(.ireturn, 0, 0)] := rfl
theorem a_FN_toll : zmA i_FN_toll = 1 := rfl
theorem l_FN_toll : zmL i_FN_toll = 2 := rfl
theorem r_FN_toll : zmR i_FN_toll = some .int := rfl
theorem o_FN_toll : zmO i_FN_toll = 10 := rfl
theorem k_FN_walk_0 : zblk i_FN_walk 0 = [(.aload 0, 0, 0), (.getfield 0, 10, 0), (.iload 1, 0, 0), (.invokevirtual 0, 59, 0), (.ifCond .eq 0, 4, 0), (.goto_w 0, 1, 0)] := rfl
theorem k_FN_walk_1 : zblk i_FN_walk 1 = [(.aload 0, 0, 0), (.getfield 0, 10, 8), (.iload 2, 0, 0), (.iload 3, 0, 0), (.invokevirtual 0, 93, 0), (.ifCond .eq 0, 4, 0), (.goto_w 0, 2, 0)] := rfl
theorem k_FN_walk_2 : zblk i_FN_walk 2 = [(.iload 5, 0, 0), (.ifCond .lt 0, 4, 0), (.goto_w 0, 3, 0)] := rfl
theorem k_FN_walk_3 : zblk i_FN_walk 3 = [(.iload 5, 0, 0), (.iconst (40), 0, 0), (.if_icmp .le 0, 5, 0), (.goto_w 0, 4, 0)] := rfl
theorem k_FN_walk_4 : zblk i_FN_walk 4 = [(.iconst (-1), 0, 0), (.ireturn, 0, 0)] := rfl
theorem k_FN_walk_5 : zblk i_FN_walk 5 = [(.aload 0, 0, 0), (.getfield 0, 10, 8), (.iload 2, 0, 0), (.iload 3, 0, 0), (.iload 4, 0, 0), (.iload 5, 0, 0), (.invokevirtual 0, 96, 0), (.istore 6, 0, 0), (.iload 6, 0, 0), (.ifCond .eq 0, 7, 0), (.goto_w 0, 6, 0)] := rfl
theorem k_FN_walk_6 : zblk i_FN_walk 6 = [(.iload 6, 0, 0), (.ireturn, 0, 0)] := rfl
theorem k_FN_walk_7 : zblk i_FN_walk 7 = [(.aload 0, 0, 0), (.getfield 0, 10, 1), (.invokevirtual 0, 23, 0), (.ifCond .eq 0, 9, 0), (.goto_w 0, 8, 0)] := rfl
theorem k_FN_walk_8 : zblk i_FN_walk 8 = [(.aload 0, 0, 0), (.getfield 0, 10, 8), (.iload 2, 0, 0), (.iload 4, 0, 0), (.iload 5, 0, 0), (.invokevirtual 0, 101, 0), (.ifCond .eq 0, 10, 0), (.goto_w 0, 9, 0)] := rfl
theorem k_FN_walk_9 : zblk i_FN_walk 9 = [(.iconst (-2), 0, 0), (.ireturn, 0, 0)] := rfl
theorem k_FN_walk_10 : zblk i_FN_walk 10 = [(.aload 0, 0, 0), (.getfield 0, 10, 3), (.invokevirtual 0, 36, 0), (.aload 0, 0, 0), (.getfield 0, 10, 4), (.iload 1, 0, 0), (.invokevirtual 0, 89, 0), (.iconst (0), 0, 0), (.istore 7, 0, 0), (.goto_w 0, 11, 0)] := rfl
theorem k_FN_walk_11 : zblk i_FN_walk 11 = [(.iload 7, 0, 0), (.iload 5, 0, 0), (.if_icmp .ge 0, 13, 0), (.goto_w 0, 12, 0)] := rfl
theorem k_FN_walk_12 : zblk i_FN_walk 12 = [(.aload 0, 0, 0), (.getfield 0, 10, 4), (.aload 0, 0, 0), (.getfield 0, 10, 8), (.iload 2, 0, 0), (.iload 4, 0, 0), (.iload 7, 0, 0), (.iadd, 0, 0), (.invokevirtual 0, 99, 0), (.invokevirtual 0, 90, 0), (.iinc 7 (1), 0, 0), (.goto 0, 11, 0)] := rfl
theorem k_FN_walk_13 : zblk i_FN_walk 13 = [(.aload 0, 0, 0), (.getfield 0, 10, 4), (.iload 5, 0, 0), (.invokevirtual 0, 91, 0), (.ireturn, 0, 0)] := rfl
theorem a_FN_walk : zmA i_FN_walk = 5 := rfl
theorem l_FN_walk : zmL i_FN_walk = 8 := rfl
theorem r_FN_walk : zmR i_FN_walk = some .int := rfl
theorem o_FN_walk : zmO i_FN_walk = 10 := rfl
theorem k_FN_walked_0 : zblk i_FN_walked 0 = [(.aload 0, 0, 0), (.getfield 0, 10, 4), (.iload 1, 0, 0), (.invokevirtual 0, 91, 0), (.ireturn, 0, 0)] := rfl
theorem a_FN_walked : zmA i_FN_walked = 1 := rfl
theorem l_FN_walked : zmL i_FN_walked = 2 := rfl
theorem r_FN_walked : zmR i_FN_walked = some .int := rfl
theorem o_FN_walked : zmO i_FN_walked = 10 := rfl
theorem k_FN_blind_0 : zblk i_FN_blind 0 = [(.aload 0, 0, 0), (.getfield 0, 10, 0), (.iload 1, 0, 0), (.invokevirtual 0, 59, 0), (.ifCond .ne 0, 2, 0), (.goto_w 0, 1, 0)] := rfl
theorem k_FN_blind_1 : zblk i_FN_blind 1 = [(.iconst (-1), 0, 0), (.ireturn, 0, 0)] := rfl
theorem k_FN_blind_2 : zblk i_FN_blind 2 = [(.aload 0, 0, 0), (.getfield 0, 10, 1), (.invokevirtual 0, 23, 0), (.ifCond .ne 0, 4, 0), (.goto_w 0, 3, 0)] := rfl
theorem k_FN_blind_3 : zblk i_FN_blind 3 = [(.iconst (-2), 0, 0), (.ireturn, 0, 0)] := rfl
theorem k_FN_blind_4 : zblk i_FN_blind 4 = [(.aload 0, 0, 0), (.getfield 0, 10, 3), (.invokevirtual 0, 36, 0), (.aload 0, 0, 0), (.iload 1, 0, 0), (.invokevirtual 0, 145, 0), (.istore 2, 0, 0), (.iload 2, 0, 0), (.iconst (-4), 0, 0), (.if_icmp .ne 0, 6, 0), (.goto_w 0, 5, 0)] := rfl
theorem k_FN_blind_5 : zblk i_FN_blind 5 = [(.iconst (0), 0, 0), (.goto 0, 7, 0)] := rfl
theorem k_FN_blind_6 : zblk i_FN_blind 6 = [(.iload 2, 0, 0), (.goto_w 0, 7, 0)] := rfl
theorem k_FN_blind_7 : zblk i_FN_blind 7 = [(.ireturn, 0, 0)] := rfl
theorem a_FN_blind : zmA i_FN_blind = 1 := rfl
theorem l_FN_blind : zmL i_FN_blind = 3 := rfl
theorem r_FN_blind : zmR i_FN_blind = some .int := rfl
theorem o_FN_blind : zmO i_FN_blind = 10 := rfl
theorem k_FN_blindMove_0 : zblk i_FN_blindMove 0 = [(.aload 0, 0, 0), (.getfield 0, 10, 0), (.iload 1, 0, 0), (.invokevirtual 0, 59, 0), (.ifCond .eq 0, 4, 0), (.goto_w 0, 1, 0)] := rfl
theorem k_FN_blindMove_1 : zblk i_FN_blindMove 1 = [(.aload 0, 0, 0), (.getfield 0, 10, 0), (.iload 2, 0, 0), (.invokevirtual 0, 60, 0), (.ifCond .eq 0, 4, 0), (.goto_w 0, 2, 0)] := rfl
theorem k_FN_blindMove_2 : zblk i_FN_blindMove 2 = [(.iload 3, 0, 0), (.ifCond .lt 0, 4, 0), (.goto_w 0, 3, 0)] := rfl
theorem k_FN_blindMove_3 : zblk i_FN_blindMove 3 = [(.iload 3, 0, 0), (.iconst (12), 0, 0), (.if_icmp .lt 0, 5, 0), (.goto_w 0, 4, 0)] := rfl
theorem k_FN_blindMove_4 : zblk i_FN_blindMove 4 = [(.iconst (-1), 0, 0), (.ireturn, 0, 0)] := rfl
theorem k_FN_blindMove_5 : zblk i_FN_blindMove 5 = [(.aload 0, 0, 0), (.getfield 0, 10, 1), (.invokevirtual 0, 23, 0), (.ifCond .ne 0, 7, 0), (.goto_w 0, 6, 0)] := rfl
theorem k_FN_blindMove_6 : zblk i_FN_blindMove 6 = [(.iconst (-2), 0, 0), (.ireturn, 0, 0)] := rfl
theorem k_FN_blindMove_7 : zblk i_FN_blindMove 7 = [(.aload 0, 0, 0), (.getfield 0, 10, 1), (.iconst (0), 0, 0), (.invokevirtual 0, 21, 0), (.iload 2, 0, 0), (.invokestatic 0, 162, 0), (.ifCond .eq 0, 9, 0), (.goto_w 0, 8, 0)] := rfl
theorem k_FN_blindMove_8 : zblk i_FN_blindMove 8 = [(.aload 0, 0, 0), (.getfield 0, 10, 0), (.iload 2, 0, 0), (.iload 3, 0, 0), (.invokevirtual 0, 78, 0), (.ifCond .ne 0, 10, 0), (.goto_w 0, 9, 0)] := rfl
theorem k_FN_blindMove_9 : zblk i_FN_blindMove 9 = [(.iconst (-1), 0, 0), (.ireturn, 0, 0)] := rfl
theorem k_FN_blindMove_10 : zblk i_FN_blindMove 10 = [(.aload 0, 0, 0), (.getfield 0, 10, 3), (.invokevirtual 0, 36, 0), (.aload 0, 0, 0), (.iload 1, 0, 0), (.invokevirtual 0, 145, 0), (.istore 4, 0, 0), (.iload 4, 0, 0), (.iconst (1), 0, 0), (.if_icmp .ne 0, 12, 0), (.goto_w 0, 11, 0)] := rfl
theorem k_FN_blindMove_11 : zblk i_FN_blindMove 11 = [(.aload 0, 0, 0), (.getfield 0, 10, 5), (.getfield 0, 0, 2), (.iload 2, 0, 0), (.iconst (12), 0, 0), (.imul, 0, 0), (.iload 3, 0, 0), (.iadd, 0, 0), (.invokestatic 0, 159, 0), (.goto 0, 13, 0)] := rfl
theorem k_FN_blindMove_12 : zblk i_FN_blindMove 12 = [(.iload 4, 0, 0), (.goto_w 0, 13, 0)] := rfl
theorem k_FN_blindMove_13 : zblk i_FN_blindMove 13 = [(.ireturn, 0, 0)] := rfl
theorem a_FN_blindMove : zmA i_FN_blindMove = 3 := rfl
theorem l_FN_blindMove : zmL i_FN_blindMove = 5 := rfl
theorem r_FN_blindMove : zmR i_FN_blindMove = some .int := rfl
theorem o_FN_blindMove : zmO i_FN_blindMove = 10 := rfl
theorem k_FN_findRow_0 : zblk i_FN_findRow 0 = [(.aload 0, 0, 0), (.getfield 0, 10, 1), (.iconst (0), 0, 0), (.invokevirtual 0, 21, 0), (.istore 2, 0, 0), (.aload 0, 0, 0), (.getfield 0, 10, 5), (.iload 2, 0, 0), (.invokevirtual 0, 1, 0), (.iconst (5000), 0, 0), (.if_icmp .le 0, 2, 0), (.goto_w 0, 1, 0)] := rfl
theorem k_FN_findRow_1 : zblk i_FN_findRow 1 = [(.iconst (-5), 0, 0), (.ireturn, 0, 0)] := rfl
theorem k_FN_findRow_2 : zblk i_FN_findRow 2 = [(.aload 0, 0, 0), (.getfield 0, 10, 3), (.getfield 0, 3, 3), (.aload 0, 0, 0), (.getfield 0, 10, 1), (.iconst (0), 0, 0), (.invokevirtual 0, 19, 0), (.invokestatic 0, 159, 0), (.istore 3, 0, 0), (.aload 0, 0, 0), (.getfield 0, 10, 3), (.getfield 0, 3, 3), (.aload 0, 0, 0), (.getfield 0, 10, 1), (.iconst (0), 0, 0), (.invokevirtual 0, 20, 0), (.invokestatic 0, 159, 0), (.istore 4, 0, 0), (.aload 0, 0, 0), (.getfield 0, 10, 5), (.aload 0, 0, 0), (.getfield 0, 10, 1), (.iconst (0), 0, 0), (.invokevirtual 0, 18, 0), (.iload 3, 0, 0), (.iload 4, 0, 0), (.invokevirtual 0, 2, 0), (.aload 0, 0, 0), (.getfield 0, 10, 5), (.aload 0, 0, 0), (.getfield 0, 10, 5), (.iload 1, 0, 0), (.invokevirtual 0, 3, 0), (.invokevirtual 0, 4, 0), (.ifCond .eq 0, 4, 0), (.goto_w 0, 3, 0)] := rfl
theorem k_FN_findRow_3 : zblk i_FN_findRow 3 = [(.iconst (1), 0, 0), (.goto 0, 5, 0)] := rfl
theorem k_FN_findRow_4 : zblk i_FN_findRow 4 = [(.iconst (-4), 0, 0), (.goto_w 0, 5, 0)] := rfl
theorem k_FN_findRow_5 : zblk i_FN_findRow 5 = [(.ireturn, 0, 0)] := rfl
theorem a_FN_findRow : zmA i_FN_findRow = 1 := rfl
theorem l_FN_findRow : zmL i_FN_findRow = 5 := rfl
theorem r_FN_findRow : zmR i_FN_findRow = some .int := rfl
theorem o_FN_findRow : zmO i_FN_findRow = 10 := rfl
theorem k_FN_choose_0 : zblk i_FN_choose 0 = [(.aload 0, 0, 0), (.getfield 0, 10, 0), (.iload 2, 0, 0), (.iload 1, 0, 0), (.iload 3, 0, 0), (.invokevirtual 0, 63, 0), (.ifCond .ne 0, 2, 0), (.goto_w 0, 1, 0)] := rfl
theorem k_FN_choose_1 : zblk i_FN_choose 1 = [(.iconst (-1), 0, 0), (.ireturn, 0, 0)] := rfl
theorem k_FN_choose_2 : zblk i_FN_choose 2 = [(.aload 0, 0, 0), (.getfield 0, 10, 0), (.getfield 0, 5, 4), (.iload 2, 0, 0), (.iconst (4), 0, 0), (.imul, 0, 0), (.iload 1, 0, 0), (.iadd, 0, 0), (.iload 3, 0, 0), (.invokestatic 0, 161, 0), (.ireturn, 0, 0)] := rfl
theorem a_FN_choose : zmA i_FN_choose = 3 := rfl
theorem l_FN_choose : zmL i_FN_choose = 4 := rfl
theorem r_FN_choose : zmR i_FN_choose = some .int := rfl
theorem o_FN_choose : zmO i_FN_choose = 10 := rfl
theorem k_FN_lot_0 : zblk i_FN_lot 0 = [(.iload 1, 0, 0), (.iconst (-1), 0, 0), (.if_icmp .eq 0, 3, 0), (.goto_w 0, 1, 0)] := rfl
theorem k_FN_lot_1 : zblk i_FN_lot 1 = [(.aload 0, 0, 0), (.getfield 0, 10, 0), (.iload 1, 0, 0), (.invokevirtual 0, 60, 0), (.ifCond .ne 0, 3, 0), (.goto_w 0, 2, 0)] := rfl
theorem k_FN_lot_2 : zblk i_FN_lot 2 = [(.iconst (-11), 0, 0), (.ireturn, 0, 0)] := rfl
theorem k_FN_lot_3 : zblk i_FN_lot 3 = [(.aload 0, 0, 0), (.getfield 0, 10, 6), (.getfield 0, 4, 1), (.istore 2, 0, 0), (.aload 0, 0, 0), (.getfield 0, 10, 6), (.iload 1, 0, 0), (.putfield 0, 4, 1), (.iload 2, 0, 0), (.ireturn, 0, 0)] := rfl
theorem a_FN_lot : zmA i_FN_lot = 1 := rfl
theorem l_FN_lot : zmL i_FN_lot = 3 := rfl
theorem r_FN_lot : zmR i_FN_lot = some .int := rfl
theorem o_FN_lot : zmO i_FN_lot = 10 := rfl
theorem k_FN_chance_0 : zblk i_FN_chance 0 = [(.aload 0, 0, 0), (.getfield 0, 10, 0), (.iload 1, 0, 0), (.invokevirtual 0, 59, 0), (.ifCond .eq 0, 3, 0), (.goto_w 0, 1, 0)] := rfl
theorem k_FN_chance_1 : zblk i_FN_chance 1 = [(.iload 2, 0, 0), (.ifCond .lt 0, 3, 0), (.goto_w 0, 2, 0)] := rfl
theorem k_FN_chance_2 : zblk i_FN_chance 2 = [(.iload 2, 0, 0), (.iconst (1), 0, 0), (.if_icmp .le 0, 4, 0), (.goto_w 0, 3, 0)] := rfl
theorem k_FN_chance_3 : zblk i_FN_chance 3 = [(.sipush (-1), 0, 0), (.lreturn, 0, 0)] := rfl
theorem k_FN_chance_4 : zblk i_FN_chance 4 = [(.aload 0, 0, 0), (.getfield 0, 10, 3), (.invokevirtual 0, 36, 0), (.aload 0, 0, 0), (.getfield 0, 10, 6), (.iload 1, 0, 0), (.aload 0, 0, 0), (.getfield 0, 10, 3), (.invokevirtual 0, 35, 0), (.invokevirtual 0, 45, 0), (.iload 2, 0, 0), (.ifCond .ne 0, 6, 0), (.goto_w 0, 5, 0)] := rfl
theorem k_FN_chance_5 : zblk i_FN_chance 5 = [(.aload 0, 0, 0), (.getfield 0, 10, 6), (.getfield 0, 4, 2), (.goto 0, 7, 0)] := rfl
theorem k_FN_chance_6 : zblk i_FN_chance 6 = [(.aload 0, 0, 0), (.getfield 0, 10, 6), (.getfield 0, 4, 3), (.goto_w 0, 7, 0)] := rfl
theorem k_FN_chance_7 : zblk i_FN_chance 7 = [(.lreturn, 0, 0)] := rfl
theorem a_FN_chance : zmA i_FN_chance = 2 := rfl
theorem l_FN_chance : zmL i_FN_chance = 3 := rfl
theorem r_FN_chance : zmR i_FN_chance = some .long := rfl
theorem o_FN_chance : zmO i_FN_chance = 10 := rfl
theorem k_FN_goal_0 : zblk i_FN_goal 0 = [(.aload 0, 0, 0), (.getfield 0, 10, 0), (.iload 1, 0, 0), (.invokevirtual 0, 60, 0), (.ifCond .eq 0, 2, 0), (.goto_w 0, 1, 0)] := rfl
theorem k_FN_goal_1 : zblk i_FN_goal 1 = [(.aload 0, 0, 0), (.getfield 0, 10, 0), (.iload 2, 0, 0), (.invokevirtual 0, 62, 0), (.ifCond .ne 0, 3, 0), (.goto_w 0, 2, 0)] := rfl
theorem k_FN_goal_2 : zblk i_FN_goal 2 = [(.iconst (-1), 0, 0), (.ireturn, 0, 0)] := rfl
theorem k_FN_goal_3 : zblk i_FN_goal 3 = [(.aload 0, 0, 0), (.getfield 0, 10, 7), (.getfield 0, 2, 1), (.iload 1, 0, 0), (.iload 2, 0, 0), (.invokestatic 0, 161, 0), (.ireturn, 0, 0)] := rfl
theorem a_FN_goal : zmA i_FN_goal = 2 := rfl
theorem l_FN_goal : zmL i_FN_goal = 3 := rfl
theorem r_FN_goal : zmR i_FN_goal = some .int := rfl
theorem o_FN_goal : zmO i_FN_goal = 10 := rfl
theorem k_FN_content_0 : zblk i_FN_content 0 = [(.aload 0, 0, 0), (.getfield 0, 10, 0), (.iload 1, 0, 0), (.invokevirtual 0, 59, 0), (.ifCond .ne 0, 2, 0), (.goto_w 0, 1, 0)] := rfl
theorem k_FN_content_1 : zblk i_FN_content 1 = [(.iconst (-1), 0, 0), (.ireturn, 0, 0)] := rfl
theorem k_FN_content_2 : zblk i_FN_content 2 = [(.aload 0, 0, 0), (.getfield 0, 10, 7), (.aload 0, 0, 0), (.getfield 0, 10, 7), (.aload 0, 0, 0), (.getfield 0, 10, 0), (.getfield 0, 5, 4), (.iload 1, 0, 0), (.invokevirtual 0, 28, 0), (.invokevirtual 0, 29, 0), (.ireturn, 0, 0)] := rfl
theorem a_FN_content : zmA i_FN_content = 1 := rfl
theorem l_FN_content : zmL i_FN_content = 2 := rfl
theorem r_FN_content : zmR i_FN_content = some .int := rfl
theorem o_FN_content : zmO i_FN_content = 10 := rfl
theorem k_FN_stable_0 : zblk i_FN_stable 0 = [(.aload 0, 0, 0), (.getfield 0, 10, 0), (.iload 1, 0, 0), (.invokevirtual 0, 59, 0), (.ifCond .ne 0, 2, 0), (.goto_w 0, 1, 0)] := rfl
theorem k_FN_stable_1 : zblk i_FN_stable 1 = [(.iconst (-1), 0, 0), (.ireturn, 0, 0)] := rfl
theorem k_FN_stable_2 : zblk i_FN_stable 2 = [(.aload 0, 0, 0), (.getfield 0, 10, 7), (.aload 0, 0, 0), (.getfield 0, 10, 0), (.getfield 0, 5, 4), (.iload 1, 0, 0), (.invokevirtual 0, 30, 0), (.ifCond .eq 0, 4, 0), (.goto_w 0, 3, 0)] := rfl
theorem k_FN_stable_3 : zblk i_FN_stable 3 = [(.iconst (1), 0, 0), (.goto 0, 5, 0)] := rfl
theorem k_FN_stable_4 : zblk i_FN_stable 4 = [(.iconst (0), 0, 0), (.goto_w 0, 5, 0)] := rfl
theorem k_FN_stable_5 : zblk i_FN_stable 5 = [(.ireturn, 0, 0)] := rfl
theorem a_FN_stable : zmA i_FN_stable = 1 := rfl
theorem l_FN_stable : zmL i_FN_stable = 2 := rfl
theorem r_FN_stable : zmR i_FN_stable = some .int := rfl
theorem o_FN_stable : zmO i_FN_stable = 10 := rfl
theorem k_FN_settle_0 : zblk i_FN_settle 0 = [(.aload 0, 0, 0), (.getfield 0, 10, 0), (.iload 1, 0, 0), (.invokevirtual 0, 59, 0), (.ifCond .ne 0, 2, 0), (.goto_w 0, 1, 0)] := rfl
theorem k_FN_settle_1 : zblk i_FN_settle 1 = [(.iconst (-1), 0, 0), (.ireturn, 0, 0)] := rfl
theorem k_FN_settle_2 : zblk i_FN_settle 2 = [(.aload 0, 0, 0), (.getfield 0, 10, 0), (.invokevirtual 0, 80, 0), (.iconst (20000), 0, 0), (.if_icmp .le 0, 4, 0), (.goto_w 0, 3, 0)] := rfl
theorem k_FN_settle_3 : zblk i_FN_settle 3 = [(.iconst (-5), 0, 0), (.ireturn, 0, 0)] := rfl
theorem k_FN_settle_4 : zblk i_FN_settle 4 = [(.aload 0, 0, 0), (.getfield 0, 10, 7), (.iload 1, 0, 0), (.invokevirtual 0, 32, 0), (.ifCond .ne 0, 6, 0), (.goto_w 0, 5, 0)] := rfl
theorem k_FN_settle_5 : zblk i_FN_settle 5 = [(.iconst (-4), 0, 0), (.ireturn, 0, 0)] := rfl
theorem k_FN_settle_6 : zblk i_FN_settle 6 = [(.aload 0, 0, 0), (.getfield 0, 10, 7), (.getfield 0, 2, 2), (.iconst (0), 0, 0), (.aload 0, 0, 0), (.getfield 0, 10, 0), (.getfield 0, 5, 4), (.iconst (0), 0, 0), (.iconst (48), 0, 0), (.swap, 0, 0), (.aload 0, 0, 0), (.getfield 0, 10, 7), (.aload 0, 0, 0), (.getfield 0, 10, 7), (.aload 0, 0, 0), (.getfield 0, 10, 0), (.getfield 0, 5, 4), (.iload 1, 0, 0), (.invokevirtual 0, 28, 0), (.invokevirtual 0, 29, 0), (.ireturn, 0, 0)] := rfl
theorem a_FN_settle : zmA i_FN_settle = 1 := rfl
theorem l_FN_settle : zmL i_FN_settle = 2 := rfl
theorem r_FN_settle : zmR i_FN_settle = some .int := rfl
theorem o_FN_settle : zmO i_FN_settle = 10 := rfl
theorem k_FN_helpers_0 : zblk i_FN_helpers 0 = [(.aload 0, 0, 0), (.getfield 0, 10, 0), (.iload 1, 0, 0), (.invokevirtual 0, 59, 0), (.ifCond .ne 0, 2, 0), (.goto_w 0, 1, 0)] := rfl
theorem k_FN_helpers_1 : zblk i_FN_helpers 1 = [(.iconst (-1), 0, 0), (.ireturn, 0, 0)] := rfl
theorem k_FN_helpers_2 : zblk i_FN_helpers 2 = [(.aload 0, 0, 0), (.getfield 0, 10, 1), (.invokevirtual 0, 23, 0), (.ifCond .ne 0, 4, 0), (.goto_w 0, 3, 0)] := rfl
theorem k_FN_helpers_3 : zblk i_FN_helpers 3 = [(.iconst (-2), 0, 0), (.ireturn, 0, 0)] := rfl
theorem k_FN_helpers_4 : zblk i_FN_helpers 4 = [(.aload 0, 0, 0), (.getfield 0, 10, 3), (.invokevirtual 0, 36, 0), (.aload 0, 0, 0), (.getfield 0, 10, 3), (.iload 1, 0, 0), (.invokevirtual 0, 43, 0), (.ireturn, 0, 0)] := rfl
theorem a_FN_helpers : zmA i_FN_helpers = 1 := rfl
theorem l_FN_helpers : zmL i_FN_helpers = 2 := rfl
theorem r_FN_helpers : zmR i_FN_helpers = some .int := rfl
theorem o_FN_helpers : zmO i_FN_helpers = 10 := rfl
theorem k_FN_count_0 : zblk i_FN_count 0 = [(.iload 1, 0, 0), (.tableswitch 5 (0) (3) #[1, 2, 3, 4], 0, 0)] := rfl
theorem k_FN_count_1 : zblk i_FN_count 1 = [(.aload 0, 0, 0), (.getfield 0, 10, 0), (.getfield 0, 5, 0), (.ireturn, 0, 0)] := rfl
theorem k_FN_count_2 : zblk i_FN_count 2 = [(.aload 0, 0, 0), (.getfield 0, 10, 0), (.getfield 0, 5, 1), (.ireturn, 0, 0)] := rfl
theorem k_FN_count_3 : zblk i_FN_count 3 = [(.aload 0, 0, 0), (.getfield 0, 10, 1), (.getfield 0, 1, 0), (.ireturn, 0, 0)] := rfl
theorem k_FN_count_4 : zblk i_FN_count 4 = [(.aload 0, 0, 0), (.getfield 0, 10, 0), (.invokevirtual 0, 80, 0), (.ireturn, 0, 0)] := rfl
theorem k_FN_count_5 : zblk i_FN_count 5 = [(.iconst (-1), 0, 0), (.ireturn, 0, 0)] := rfl
theorem a_FN_count : zmA i_FN_count = 1 := rfl
theorem l_FN_count : zmL i_FN_count = 2 := rfl
theorem r_FN_count : zmR i_FN_count = some .int := rfl
theorem o_FN_count : zmO i_FN_count = 10 := rfl
theorem k_FN_sheet_0 : zblk i_FN_sheet 0 = [(.aload 0, 0, 0), (.getfield 0, 10, 8), (.iload 1, 0, 0), (.iload 2, 0, 0), (.invokevirtual 0, 93, 0), (.ifCond .eq 0, 2, 0), (.goto_w 0, 1, 0)] := rfl
theorem k_FN_sheet_1 : zblk i_FN_sheet 1 = [(.iload 3, 0, 0), (.iconst (81), 0, 0), (.if_icmp .le 0, 3, 0), (.goto_w 0, 2, 0)] := rfl
theorem k_FN_sheet_2 : zblk i_FN_sheet 2 = [(.iconst (-1), 0, 0), (.ireturn, 0, 0)] := rfl
theorem k_FN_sheet_3 : zblk i_FN_sheet 3 = [(.iload 3, 0, 0), (.ifCond .ge 0, 5, 0), (.goto_w 0, 4, 0)] := rfl
theorem k_FN_sheet_4 : zblk i_FN_sheet 4 = [(.iconst (-14), 0, 0), (.ireturn, 0, 0)] := rfl
theorem k_FN_sheet_5 : zblk i_FN_sheet 5 = [(.aload 0, 0, 0), (.getfield 0, 10, 8), (.iload 1, 0, 0), (.iload 2, 0, 0), (.iload 3, 0, 0), (.invokevirtual 0, 97, 0), (.iload 3, 0, 0), (.ireturn, 0, 0)] := rfl
theorem a_FN_sheet : zmA i_FN_sheet = 3 := rfl
theorem l_FN_sheet : zmL i_FN_sheet = 4 := rfl
theorem r_FN_sheet : zmR i_FN_sheet = some .int := rfl
theorem o_FN_sheet : zmO i_FN_sheet = 10 := rfl
theorem k_FN_drop_0 : zblk i_FN_drop 0 = [(.aload 0, 0, 0), (.getfield 0, 10, 8), (.iload 1, 0, 0), (.iconst (0), 0, 0), (.invokevirtual 0, 93, 0), (.ifCond .ne 0, 2, 0), (.goto_w 0, 1, 0)] := rfl
theorem k_FN_drop_1 : zblk i_FN_drop 1 = [(.iconst (-1), 0, 0), (.ireturn, 0, 0)] := rfl
theorem k_FN_drop_2 : zblk i_FN_drop 2 = [(.aload 0, 0, 0), (.getfield 0, 10, 8), (.iload 1, 0, 0), (.invokevirtual 0, 94, 0), (.ifCond .eq 0, 4, 0), (.goto_w 0, 3, 0)] := rfl
theorem k_FN_drop_3 : zblk i_FN_drop 3 = [(.iconst (-11), 0, 0), (.ireturn, 0, 0)] := rfl
theorem k_FN_drop_4 : zblk i_FN_drop 4 = [(.aload 0, 0, 0), (.getfield 0, 10, 8), (.iload 1, 0, 0), (.invokevirtual 0, 98, 0), (.ireturn, 0, 0)] := rfl
theorem a_FN_drop : zmA i_FN_drop = 1 := rfl
theorem l_FN_drop : zmL i_FN_drop = 2 := rfl
theorem r_FN_drop : zmR i_FN_drop = some .int := rfl
theorem o_FN_drop : zmO i_FN_drop = 10 := rfl
theorem k_FN_item_0 : zblk i_FN_item 0 = [(.aload 0, 0, 0), (.getfield 0, 10, 8), (.iload 1, 0, 0), (.iload 2, 0, 0), (.invokevirtual 0, 93, 0), (.ifCond .ne 0, 2, 0), (.goto_w 0, 1, 0)] := rfl
theorem k_FN_item_1 : zblk i_FN_item 1 = [(.iconst (-1), 0, 0), (.ireturn, 0, 0)] := rfl
theorem k_FN_item_2 : zblk i_FN_item 2 = [(.aload 0, 0, 0), (.getfield 0, 10, 8), (.iload 1, 0, 0), (.iload 2, 0, 0), (.iload 3, 0, 0), (.iconst (1), 0, 0), (.invokevirtual 0, 96, 0), (.istore 5, 0, 0), (.iload 5, 0, 0), (.ifCond .eq 0, 4, 0), (.goto_w 0, 3, 0)] := rfl
theorem k_FN_item_3 : zblk i_FN_item 3 = [(.iload 5, 0, 0), (.ireturn, 0, 0)] := rfl
theorem k_FN_item_4 : zblk i_FN_item 4 = [(.aload 0, 0, 0), (.getfield 0, 10, 8), (.iload 1, 0, 0), (.iload 3, 0, 0), (.iload 4, 0, 0), (.invokevirtual 0, 100, 0), (.iconst (1), 0, 0), (.ireturn, 0, 0)] := rfl
theorem a_FN_item : zmA i_FN_item = 4 := rfl
theorem l_FN_item : zmL i_FN_item = 6 := rfl
theorem r_FN_item : zmR i_FN_item = some .int := rfl
theorem o_FN_item : zmO i_FN_item = 10 := rfl
theorem k_FN_copy_0 : zblk i_FN_copy 0 = [(.aload 0, 0, 0), (.getfield 0, 10, 8), (.iload 1, 0, 0), (.iconst (0), 0, 0), (.invokevirtual 0, 93, 0), (.ifCond .eq 0, 2, 0), (.goto_w 0, 1, 0)] := rfl
theorem k_FN_copy_1 : zblk i_FN_copy 1 = [(.aload 0, 0, 0), (.getfield 0, 10, 8), (.iload 3, 0, 0), (.iconst (0), 0, 0), (.invokevirtual 0, 93, 0), (.ifCond .ne 0, 3, 0), (.goto_w 0, 2, 0)] := rfl
theorem k_FN_copy_2 : zblk i_FN_copy 2 = [(.iconst (-1), 0, 0), (.ireturn, 0, 0)] := rfl
theorem k_FN_copy_3 : zblk i_FN_copy 3 = [(.aload 0, 0, 0), (.getfield 0, 10, 8), (.iload 1, 0, 0), (.invokevirtual 0, 94, 0), (.ifCond .ne 0, 5, 0), (.goto_w 0, 4, 0)] := rfl
theorem k_FN_copy_4 : zblk i_FN_copy 4 = [(.aload 0, 0, 0), (.getfield 0, 10, 8), (.iload 3, 0, 0), (.invokevirtual 0, 94, 0), (.ifCond .eq 0, 6, 0), (.goto_w 0, 5, 0)] := rfl
theorem k_FN_copy_5 : zblk i_FN_copy 5 = [(.iconst (-11), 0, 0), (.ireturn, 0, 0)] := rfl
theorem k_FN_copy_6 : zblk i_FN_copy 6 = [(.aload 0, 0, 0), (.getfield 0, 10, 8), (.getfield 0, 7, 0), (.iload 1, 0, 0), (.invokestatic 0, 159, 0), (.aload 0, 0, 0), (.getfield 0, 10, 8), (.getfield 0, 7, 0), (.iload 3, 0, 0), (.invokestatic 0, 159, 0), (.if_icmp .eq 0, 8, 0), (.goto_w 0, 7, 0)] := rfl
theorem k_FN_copy_7 : zblk i_FN_copy 7 = [(.iconst (-12), 0, 0), (.ireturn, 0, 0)] := rfl
theorem k_FN_copy_8 : zblk i_FN_copy 8 = [(.aload 0, 0, 0), (.getfield 0, 10, 8), (.iload 1, 0, 0), (.iload 2, 0, 0), (.iload 5, 0, 0), (.invokevirtual 0, 95, 0), (.ifCond .eq 0, 10, 0), (.goto_w 0, 9, 0)] := rfl
theorem k_FN_copy_9 : zblk i_FN_copy 9 = [(.aload 0, 0, 0), (.getfield 0, 10, 8), (.iload 3, 0, 0), (.iload 4, 0, 0), (.iload 5, 0, 0), (.invokevirtual 0, 95, 0), (.ifCond .ne 0, 11, 0), (.goto_w 0, 10, 0)] := rfl
theorem k_FN_copy_10 : zblk i_FN_copy 10 = [(.iconst (-13), 0, 0), (.ireturn, 0, 0)] := rfl
theorem k_FN_copy_11 : zblk i_FN_copy 11 = [(.aload 0, 0, 0), (.getfield 0, 10, 8), (.getfield 0, 7, 2), (.iload 1, 0, 0), (.iconst (81), 0, 0), (.imul, 0, 0), (.iload 2, 0, 0), (.iadd, 0, 0), (.aload 0, 0, 0), (.getfield 0, 10, 8), (.getfield 0, 7, 2), (.iload 3, 0, 0), (.iconst (81), 0, 0), (.imul, 0, 0), (.iload 4, 0, 0), (.iadd, 0, 0), (.iload 5, 0, 0), (.swap, 0, 0), (.iload 5, 0, 0), (.ireturn, 0, 0)] := rfl
theorem a_FN_copy : zmA i_FN_copy = 5 := rfl
theorem l_FN_copy : zmL i_FN_copy = 6 := rfl
theorem r_FN_copy : zmR i_FN_copy = some .int := rfl
theorem o_FN_copy : zmO i_FN_copy = 10 := rfl
theorem k_FN_at_0 : zblk i_FN_at 0 = [(.iload 1, 0, 0), (.ifCond .lt 0, 3, 0), (.goto_w 0, 1, 0)] := rfl
theorem k_FN_at_1 : zblk i_FN_at 1 = [(.iload 1, 0, 0), (.aload 0, 0, 0), (.arraylength, 0, 0), (.if_icmp .ge 0, 3, 0), (.goto_w 0, 2, 0)] := rfl
theorem k_FN_at_2 : zblk i_FN_at 2 = [(.aload 0, 0, 0), (.iload 1, 0, 0), (.iaload, 0, 0), (.goto 0, 4, 0)] := rfl
theorem k_FN_at_3 : zblk i_FN_at 3 = [(.iconst (0), 0, 0), (.goto_w 0, 4, 0)] := rfl
theorem k_FN_at_4 : zblk i_FN_at 4 = [(.ireturn, 0, 0)] := rfl
theorem a_FN_at : zmA i_FN_at = 2 := rfl
theorem l_FN_at : zmL i_FN_at = 2 := rfl
theorem r_FN_at : zmR i_FN_at = some .int := rfl
theorem o_FN_at : zmO i_FN_at = 10 := rfl
theorem k_FN_put_0 : zblk i_FN_put 0 = [(.iload 1, 0, 0), (.ifCond .lt 0, 3, 0), (.goto_w 0, 1, 0)] := rfl
theorem k_FN_put_1 : zblk i_FN_put 1 = [(.iload 1, 0, 0), (.aload 0, 0, 0), (.arraylength, 0, 0), (.if_icmp .ge 0, 3, 0), (.goto_w 0, 2, 0)] := rfl
theorem k_FN_put_2 : zblk i_FN_put 2 = [(.aload 0, 0, 0), (.iload 1, 0, 0), (.iload 2, 0, 0), (.iastore, 0, 0), (.goto_w 0, 3, 0)] := rfl
theorem k_FN_put_3 : zblk i_FN_put 3 = [(.return_, 0, 0)] := rfl
theorem a_FN_put : zmA i_FN_put = 3 := rfl
theorem l_FN_put : zmL i_FN_put = 3 := rfl
theorem r_FN_put : zmR i_FN_put = none := rfl
theorem o_FN_put : zmO i_FN_put = 10 := rfl
theorem k_FN_swap_0 : zblk i_FN_swap 0 = [(.aload 0, 0, 0), (.iload 1, 0, 0), (.invokestatic 0, 159, 0), (.istore 3, 0, 0), (.aload 0, 0, 0), (.iload 1, 0, 0), (.iload 2, 0, 0), (.invokestatic 0, 160, 0), (.iload 3, 0, 0), (.ireturn, 0, 0)] := rfl
theorem a_FN_swap : zmA i_FN_swap = 3 := rfl
theorem l_FN_swap : zmL i_FN_swap = 4 := rfl
theorem r_FN_swap : zmR i_FN_swap = some .int := rfl
theorem o_FN_swap : zmO i_FN_swap = 10 := rfl
theorem k_FN_has_0 : zblk i_FN_has 0 = [(.iload 0, 0, 0), (.iload 1, 0, 0), (.ishr, 0, 0), (.iconst (1), 0, 0), (.iand, 0, 0), (.ifCond .eq 0, 2, 0), (.goto_w 0, 1, 0)] := rfl
theorem k_FN_has_1 : zblk i_FN_has 1 = [(.iconst (1), 0, 0), (.goto 0, 3, 0)] := rfl
theorem k_FN_has_2 : zblk i_FN_has 2 = [(.iconst (0), 0, 0), (.goto_w 0, 3, 0)] := rfl
theorem k_FN_has_3 : zblk i_FN_has 3 = [(.ireturn, 0, 0)] := rfl
theorem a_FN_has : zmA i_FN_has = 2 := rfl
theorem l_FN_has : zmL i_FN_has = 2 := rfl
theorem r_FN_has : zmR i_FN_has = some .boolean := rfl
theorem o_FN_has : zmO i_FN_has = 10 := rfl
theorem k_FN_lowest_0 : zblk i_FN_lowest 0 = [(.iload 0, 0, 0), (.iconst (1), 0, 0), (.isub, 0, 0), (.iload 0, 0, 0), (.iconst (-1), 0, 0), (.ixor, 0, 0), (.iand, 0, 0), (.invokestatic 0, 262, 0), (.ireturn, 0, 0)] := rfl
theorem a_FN_lowest : zmA i_FN_lowest = 1 := rfl
theorem l_FN_lowest : zmL i_FN_lowest = 1 := rfl
theorem r_FN_lowest : zmR i_FN_lowest = some .int := rfl
theorem o_FN_lowest : zmO i_FN_lowest = 10 := rfl
theorem k_FN_over_0 : zblk i_FN_over 0 = [(.iload 1, 0, 0), (.iconst (1), 0, 0), (.if_icmp .ge 0, 2, 0), (.goto_w 0, 1, 0)] := rfl
theorem k_FN_over_1 : zblk i_FN_over 1 = [(.iconst (0), 0, 0), (.goto 0, 3, 0)] := rfl
theorem k_FN_over_2 : zblk i_FN_over 2 = [(.iload 0, 0, 0), (.iload 1, 0, 0), (.idiv, 0, 0), (.goto_w 0, 3, 0)] := rfl
theorem k_FN_over_3 : zblk i_FN_over 3 = [(.ireturn, 0, 0)] := rfl
theorem a_FN_over : zmA i_FN_over = 2 := rfl
theorem l_FN_over : zmL i_FN_over = 2 := rfl
theorem r_FN_over : zmR i_FN_over = some .int := rfl
theorem o_FN_over : zmO i_FN_over = 10 := rfl
theorem k_FN_rest_0 : zblk i_FN_rest 0 = [(.iload 1, 0, 0), (.iconst (1), 0, 0), (.if_icmp .ge 0, 2, 0), (.goto_w 0, 1, 0)] := rfl
theorem k_FN_rest_1 : zblk i_FN_rest 1 = [(.iconst (0), 0, 0), (.goto 0, 3, 0)] := rfl
theorem k_FN_rest_2 : zblk i_FN_rest 2 = [(.iload 0, 0, 0), (.iload 1, 0, 0), (.irem, 0, 0), (.goto_w 0, 3, 0)] := rfl
theorem k_FN_rest_3 : zblk i_FN_rest 3 = [(.ireturn, 0, 0)] := rfl
theorem a_FN_rest : zmA i_FN_rest = 2 := rfl
theorem l_FN_rest : zmL i_FN_rest = 2 := rfl
theorem r_FN_rest : zmR i_FN_rest = some .int := rfl
theorem o_FN_rest : zmO i_FN_rest = 10 := rfl
theorem k_Md_in_0 : zblk i_Md_in 0 = [(.lload 0, 0, 0), (.lload 2, 0, 0), (.lcmp, 0, 0), (.ifCond .lt 0, 3, 0), (.goto_w 0, 1, 0)] := rfl
theorem k_Md_in_1 : zblk i_Md_in 1 = [(.lload 0, 0, 0), (.lload 4, 0, 0), (.lcmp, 0, 0), (.ifCond .gt 0, 3, 0), (.goto_w 0, 2, 0)] := rfl
theorem k_Md_in_2 : zblk i_Md_in 2 = [(.iconst (1), 0, 0), (.goto 0, 4, 0)] := rfl
theorem k_Md_in_3 : zblk i_Md_in 3 = [(.iconst (0), 0, 0), (.goto_w 0, 4, 0)] := rfl
theorem k_Md_in_4 : zblk i_Md_in 4 = [(.ireturn, 0, 0)] := rfl
theorem a_Md_in : zmA i_Md_in = 3 := rfl
theorem l_Md_in : zmL i_Md_in = 6 := rfl
theorem r_Md_in : zmR i_Md_in = some .boolean := rfl
theorem o_Md_in : zmO i_Md_in = 11 := rfl
theorem k_Md_init_0 : zblk i_Md_init 0 = [(.aload 0, 0, 0), (.nop, 0, 0), (.aload 0, 0, 0), (.iconst (48), 0, 0), (.newarray .int, 0, 0), (.putfield 0, 11, 2), (.aload 0, 0, 0), (.iconst (972), 0, 0), (.newarray .int, 0, 0), (.putfield 0, 11, 3), (.aload 0, 0, 0), (.iconst (144), 0, 0), (.newarray .int, 0, 0), (.putfield 0, 11, 4), (.aload 0, 0, 0), (.iconst (12), 0, 0), (.newarray .int, 0, 0), (.putfield 0, 11, 5), (.aload 0, 0, 0), (.iconst (48), 0, 0), (.newarray .int, 0, 0), (.putfield 0, 11, 6), (.aload 0, 0, 0), (.iconst (48), 0, 0), (.newarray .int, 0, 0), (.putfield 0, 11, 7), (.aload 0, 0, 0), (.iconst (4), 0, 0), (.newarray .int, 0, 0), (.putfield 0, 11, 8), (.aload 0, 0, 0), (.iconst (24), 0, 0), (.newarray .int, 0, 0), (.putfield 0, 11, 11), (.aload 0, 0, 0), (.iconst (24), 0, 0), (.newarray .int, 0, 0), (.putfield 0, 11, 12), (.aload 0, 0, 0), (.iconst (24), 0, 0), (.newarray .int, 0, 0), (.putfield 0, 11, 13), (.aload 0, 0, 0), (.iconst (24), 0, 0), (.newarray .int, 0, 0), (.putfield 0, 11, 14), (.aload 0, 0, 0), (.iconst (24), 0, 0), (.newarray .int, 0, 0), (.putfield 0, 11, 16), (.aload 0, 0, 0), (.iconst (24), 0, 0), (.newarray .int, 0, 0), (.putfield 0, 11, 17), (.aload 0, 0, 0), (.iconst (24), 0, 0), (.newarray .int, 0, 0), (.putfield 0, 11, 18), (.aload 0, 0, 0), (.iconst (24), 0, 0), (.newarray .int, 0, 0), (.putfield 0, 11, 19), (.aload 0, 0, 0), (.iconst (24), 0, 0), (.newarray .int, 0, 0), (.putfield 0, 11, 20), (.aload 0, 0, 0), (.iconst (24), 0, 0), (.newarray .boolean, 0, 0), (.putfield 0, 11, 21), (.aload 0, 0, 0), (.iconst (100), 0, 0), (.newarray .int, 0, 0), (.putfield 0, 11, 23), (.aload 0, 0, 0), (.iconst (24), 0, 0), (.newarray .int, 0, 0), (.putfield 0, 11, 27), (.aload 0, 0, 0), (.iconst (12), 0, 0), (.newarray .int, 0, 0), (.putfield 0, 11, 28), (.aload 0, 0, 0), (.iconst (12), 0, 0), (.newarray .int, 0, 0), (.putfield 0, 11, 29), (.aload 0, 0, 0), (.iconst (12), 0, 0), (.newarray .int, 0, 0), (.putfield 0, 11, 30), (.aload 0, 0, 0), (.iconst (41), 0, 0), (.newarray .int, 0, 0), (.putfield 0, 11, 32), (.aload 0, 0, 0), (.iconst (4), 0, 0), (.newarray .int, 0, 0), (.putfield 0, 11, 33), (.aload 0, 0, 0), (.iconst (4), 0, 0), (.newarray .int, 0, 0), (.putfield 0, 11, 34), (.aload 0, 0, 0), (.iconst (324), 0, 0), (.newarray .int, 0, 0), (.putfield 0, 11, 35), (.aload 0, 0, 0), (.iconst (81), 0, 0), (.newarray .int, 0, 0), (.putfield 0, 11, 36), (.aload 0, 0, 0), (.iconst (48), 0, 0), (.newarray .int, 0, 0), (.putfield 0, 11, 37), (.aload 0, 0, 0), (.iconst (48), 0, 0), (.newarray .int, 0, 0), (.putfield 0, 11, 38), (.aload 0, 0, 0), (.iconst (48), 0, 0), (.newarray .int, 0, 0), (.putfield 0, 11, 39), (.aload 0, 0, 0), (.iconst (48), 0, 0), (.newarray .int, 0, 0), (.putfield 0, 11, 40), (.aload 0, 0, 0), (.iconst (12), 0, 0), (.newarray .int, 0, 0), (.putfield 0, 11, 42), (.aload 0, 0, 0), (.iconst (156), 0, 0), (.newarray .long, 0, 0), (.putfield 0, 11, 43), (.aload 0, 0, 0), (.iconst (48), 0, 0), (.newarray .int, 0, 0), (.putfield 0, 11, 46), (.iconst (0), 0, 0), (.istore 1, 0, 0), (.goto_w 0, 1, 0)] := rfl
theorem k_Md_init_1 : zblk i_Md_init 1 = [(.iload 1, 0, 0), (.iconst (4), 0, 0), (.if_icmp .ge 0, 3, 0), (.goto_w 0, 2, 0)] := rfl
theorem k_Md_init_2 : zblk i_Md_init 2 = [(.aload 0, 0, 0), (.getfield 0, 11, 33), (.iload 1, 0, 0), (.iconst (-1), 0, 0), (.iastore, 0, 0), (.iinc 1 (1), 0, 0), (.goto 0, 1, 0)] := rfl
theorem k_Md_init_3 : zblk i_Md_init 3 = [(.aload 0, 0, 0), (.iconst (4), 0, 0), (.iconst (2), 0, 0), (.invokevirtual 0, 168, 0), (.return_, 0, 0)] := rfl
theorem a_Md_init : zmA i_Md_init = 0 := rfl
theorem l_Md_init : zmL i_Md_init = 2 := rfl
theorem r_Md_init : zmR i_Md_init = none := rfl
theorem o_Md_init : zmO i_Md_init = 11 := rfl
theorem k_Md_begins_0 : zblk i_Md_begins 0 = [(.aload 0, 0, 0), (.iload 1, 0, 0), (.putfield 0, 11, 0), (.aload 0, 0, 0), (.iload 2, 0, 0), (.putfield 0, 11, 1), (.aload 0, 0, 0), (.iconst (-1), 0, 0), (.putfield 0, 11, 9), (.iconst (0), 0, 0), (.istore 3, 0, 0), (.goto_w 0, 1, 0)] := rfl
theorem k_Md_begins_1 : zblk i_Md_begins 1 = [(.iload 3, 0, 0), (.iconst (48), 0, 0), (.if_icmp .ge 0, 3, 0), (.goto_w 0, 2, 0)] := rfl
theorem k_Md_begins_2 : zblk i_Md_begins 2 = [(.aload 0, 0, 0), (.getfield 0, 11, 2), (.iload 3, 0, 0), (.iconst (1), 0, 0), (.iastore, 0, 0), (.aload 0, 0, 0), (.getfield 0, 11, 6), (.iload 3, 0, 0), (.iload 3, 0, 0), (.iconst (4), 0, 0), (.idiv, 0, 0), (.iastore, 0, 0), (.aload 0, 0, 0), (.getfield 0, 11, 7), (.iload 3, 0, 0), (.iconst (0), 0, 0), (.iastore, 0, 0), (.iinc 3 (1), 0, 0), (.goto 0, 1, 0)] := rfl
theorem k_Md_begins_3 : zblk i_Md_begins 3 = [(.iconst (0), 0, 0), (.istore 3, 0, 0), (.goto_w 0, 4, 0)] := rfl
theorem k_Md_begins_4 : zblk i_Md_begins 4 = [(.iload 3, 0, 0), (.iconst (972), 0, 0), (.if_icmp .ge 0, 6, 0), (.goto_w 0, 5, 0)] := rfl
theorem k_Md_begins_5 : zblk i_Md_begins 5 = [(.aload 0, 0, 0), (.getfield 0, 11, 3), (.iload 3, 0, 0), (.iload 3, 0, 0), (.iconst (81), 0, 0), (.idiv, 0, 0), (.iastore, 0, 0), (.iinc 3 (1), 0, 0), (.goto 0, 4, 0)] := rfl
theorem k_Md_begins_6 : zblk i_Md_begins 6 = [(.iconst (0), 0, 0), (.istore 3, 0, 0), (.goto_w 0, 7, 0)] := rfl
theorem k_Md_begins_7 : zblk i_Md_begins 7 = [(.iload 3, 0, 0), (.iconst (144), 0, 0), (.if_icmp .ge 0, 9, 0), (.goto_w 0, 8, 0)] := rfl
theorem k_Md_begins_8 : zblk i_Md_begins 8 = [(.aload 0, 0, 0), (.getfield 0, 11, 4), (.iload 3, 0, 0), (.iconst (0), 0, 0), (.iastore, 0, 0), (.iinc 3 (1), 0, 0), (.goto 0, 7, 0)] := rfl
theorem k_Md_begins_9 : zblk i_Md_begins 9 = [(.iconst (0), 0, 0), (.istore 3, 0, 0), (.goto_w 0, 10, 0)] := rfl
theorem k_Md_begins_10 : zblk i_Md_begins 10 = [(.iload 3, 0, 0), (.iconst (12), 0, 0), (.if_icmp .ge 0, 12, 0), (.goto_w 0, 11, 0)] := rfl
theorem k_Md_begins_11 : zblk i_Md_begins 11 = [(.aload 0, 0, 0), (.getfield 0, 11, 5), (.iload 3, 0, 0), (.iconst (0), 0, 0), (.iastore, 0, 0), (.iinc 3 (1), 0, 0), (.goto 0, 10, 0)] := rfl
theorem k_Md_begins_12 : zblk i_Md_begins 12 = [(.iconst (0), 0, 0), (.istore 3, 0, 0), (.goto_w 0, 13, 0)] := rfl
theorem k_Md_begins_13 : zblk i_Md_begins 13 = [(.iload 3, 0, 0), (.iconst (4), 0, 0), (.if_icmp .ge 0, 15, 0), (.goto_w 0, 14, 0)] := rfl
theorem k_Md_begins_14 : zblk i_Md_begins 14 = [(.aload 0, 0, 0), (.getfield 0, 11, 8), (.iload 3, 0, 0), (.iconst (0), 0, 0), (.iastore, 0, 0), (.iinc 3 (1), 0, 0), (.goto 0, 13, 0)] := rfl
theorem k_Md_begins_15 : zblk i_Md_begins 15 = [(.aload 0, 0, 0), (.iconst (1), 0, 0), (.putfield 0, 11, 10), (.aload 0, 0, 0), (.getfield 0, 11, 11), (.iconst (0), 0, 0), (.iconst (0), 0, 0), (.iastore, 0, 0), (.aload 0, 0, 0), (.iconst (0), 0, 0), (.putfield 0, 11, 31), (.return_, 0, 0)] := rfl
theorem a_Md_begins : zmA i_Md_begins = 2 := rfl
theorem l_Md_begins : zmL i_Md_begins = 4 := rfl
theorem r_Md_begins : zmR i_Md_begins = none := rfl
theorem o_Md_begins : zmO i_Md_begins = 11 := rfl
theorem k_Md_net_0 : zblk i_Md_net 0 = [(.iload 1, 0, 0), (.i2l, 0, 0), (.sipush (2), 0, 0), (.sipush (12), 0, 0), (.invokestatic 0, 166, 0), (.ifCond .eq 0, 2, 0), (.goto_w 0, 1, 0)] := rfl
theorem k_Md_net_1 : zblk i_Md_net 1 = [(.iload 2, 0, 0), (.i2l, 0, 0), (.sipush (1), 0, 0), (.sipush (4), 0, 0), (.invokestatic 0, 166, 0), (.ifCond .ne 0, 3, 0), (.goto_w 0, 2, 0)] := rfl
theorem k_Md_net_2 : zblk i_Md_net 2 = [(.iconst (-1), 0, 0), (.ireturn, 0, 0)] := rfl
theorem k_Md_net_3 : zblk i_Md_net 3 = [(.aload 0, 0, 0), (.iload 1, 0, 0), (.iload 2, 0, 0), (.invokevirtual 0, 168, 0), (.iconst (1), 0, 0), (.ireturn, 0, 0)] := rfl
theorem a_Md_net : zmA i_Md_net = 2 := rfl
theorem l_Md_net : zmL i_Md_net = 3 := rfl
theorem r_Md_net : zmR i_Md_net = some .int := rfl
theorem o_Md_net : zmO i_Md_net = 11 := rfl
theorem k_Md_isState_0 : zblk i_Md_isState 0 = [(.iload 1, 0, 0), (.i2l, 0, 0), (.sipush (0), 0, 0), (.aload 0, 0, 0), (.getfield 0, 11, 0), (.iconst (1), 0, 0), (.isub, 0, 0), (.i2l, 0, 0), (.invokestatic 0, 166, 0), (.ireturn, 0, 0)] := rfl
theorem a_Md_isState : zmA i_Md_isState = 1 := rfl
theorem l_Md_isState : zmL i_Md_isState = 2 := rfl
theorem r_Md_isState : zmR i_Md_isState = some .boolean := rfl
theorem o_Md_isState : zmO i_Md_isState = 11 := rfl
theorem k_Md_isPlayer_0 : zblk i_Md_isPlayer 0 = [(.iload 1, 0, 0), (.i2l, 0, 0), (.sipush (0), 0, 0), (.aload 0, 0, 0), (.getfield 0, 11, 1), (.iconst (1), 0, 0), (.isub, 0, 0), (.i2l, 0, 0), (.invokestatic 0, 166, 0), (.ireturn, 0, 0)] := rfl
theorem a_Md_isPlayer : zmA i_Md_isPlayer = 1 := rfl
theorem l_Md_isPlayer : zmL i_Md_isPlayer = 2 := rfl
theorem r_Md_isPlayer : zmR i_Md_isPlayer = some .boolean := rfl
theorem o_Md_isPlayer : zmO i_Md_isPlayer = 11 := rfl
theorem k_Md_isSet_0 : zblk i_Md_isSet 0 = [(.iload 1, 0, 0), (.i2l, 0, 0), (.sipush (0), 0, 0), (.iconst (1), 0, 0), (.aload 0, 0, 0), (.getfield 0, 11, 0), (.ishl, 0, 0), (.iconst (1), 0, 0), (.isub, 0, 0), (.i2l, 0, 0), (.invokestatic 0, 166, 0), (.ireturn, 0, 0)] := rfl
theorem a_Md_isSet : zmA i_Md_isSet = 1 := rfl
theorem l_Md_isSet : zmL i_Md_isSet = 2 := rfl
theorem r_Md_isSet : zmR i_Md_isSet = some .boolean := rfl
theorem o_Md_isSet : zmO i_Md_isSet = 11 := rfl
theorem k_Md_isGroup_0 : zblk i_Md_isGroup 0 = [(.iload 1, 0, 0), (.i2l, 0, 0), (.sipush (0), 0, 0), (.iconst (1), 0, 0), (.aload 0, 0, 0), (.getfield 0, 11, 1), (.ishl, 0, 0), (.iconst (1), 0, 0), (.isub, 0, 0), (.i2l, 0, 0), (.invokestatic 0, 166, 0), (.ireturn, 0, 0)] := rfl
theorem a_Md_isGroup : zmA i_Md_isGroup = 1 := rfl
theorem l_Md_isGroup : zmL i_Md_isGroup = 2 := rfl
theorem r_Md_isGroup : zmR i_Md_isGroup = some .boolean := rfl
theorem o_Md_isGroup : zmO i_Md_isGroup = 11 := rfl
theorem k_Md_moves_0 : zblk i_Md_moves 0 = [(.aload 0, 0, 0), (.iload 1, 0, 0), (.invokevirtual 0, 170, 0), (.ifCond .eq 0, 3, 0), (.goto_w 0, 1, 0)] := rfl
theorem k_Md_moves_1 : zblk i_Md_moves 1 = [(.aload 0, 0, 0), (.iload 2, 0, 0), (.invokevirtual 0, 171, 0), (.ifCond .eq 0, 3, 0), (.goto_w 0, 2, 0)] := rfl
theorem k_Md_moves_2 : zblk i_Md_moves 2 = [(.iload 3, 0, 0), (.i2l, 0, 0), (.sipush (1), 0, 0), (.sipush (3), 0, 0), (.invokestatic 0, 166, 0), (.ifCond .ne 0, 4, 0), (.goto_w 0, 3, 0)] := rfl
theorem k_Md_moves_3 : zblk i_Md_moves 3 = [(.iconst (-1), 0, 0), (.ireturn, 0, 0)] := rfl
theorem k_Md_moves_4 : zblk i_Md_moves 4 = [(.aload 0, 0, 0), (.getfield 0, 11, 2), (.iconst (4), 0, 0), (.iload 1, 0, 0), (.imul, 0, 0), (.iload 2, 0, 0), (.iadd, 0, 0), (.iaload, 0, 0), (.istore 4, 0, 0), (.aload 0, 0, 0), (.getfield 0, 11, 2), (.iconst (4), 0, 0), (.iload 1, 0, 0), (.imul, 0, 0), (.iload 2, 0, 0), (.iadd, 0, 0), (.iload 3, 0, 0), (.iastore, 0, 0), (.iconst (0), 0, 0), (.istore 5, 0, 0), (.goto_w 0, 5, 0)] := rfl
theorem k_Md_moves_5 : zblk i_Md_moves 5 = [(.iload 5, 0, 0), (.iconst (81), 0, 0), (.if_icmp .ge 0, 7, 0), (.goto_w 0, 6, 0)] := rfl
theorem k_Md_moves_6 : zblk i_Md_moves 6 = [(.aload 0, 0, 0), (.getfield 0, 11, 3), (.iconst (81), 0, 0), (.iload 1, 0, 0), (.imul, 0, 0), (.iload 5, 0, 0), (.iadd, 0, 0), (.iload 1, 0, 0), (.iastore, 0, 0), (.iinc 5 (1), 0, 0), (.goto 0, 5, 0)] := rfl
theorem k_Md_moves_7 : zblk i_Md_moves 7 = [(.iconst (0), 0, 0), (.istore 5, 0, 0), (.goto_w 0, 8, 0)] := rfl
theorem k_Md_moves_8 : zblk i_Md_moves 8 = [(.iload 5, 0, 0), (.iconst (12), 0, 0), (.if_icmp .ge 0, 10, 0), (.goto_w 0, 9, 0)] := rfl
theorem k_Md_moves_9 : zblk i_Md_moves 9 = [(.aload 0, 0, 0), (.getfield 0, 11, 4), (.iconst (12), 0, 0), (.iload 1, 0, 0), (.imul, 0, 0), (.iload 5, 0, 0), (.iadd, 0, 0), (.iconst (0), 0, 0), (.iastore, 0, 0), (.iinc 5 (1), 0, 0), (.goto 0, 8, 0)] := rfl
theorem k_Md_moves_10 : zblk i_Md_moves 10 = [(.iconst (0), 0, 0), (.istore 5, 0, 0), (.goto_w 0, 11, 0)] := rfl
theorem k_Md_moves_11 : zblk i_Md_moves 11 = [(.iload 5, 0, 0), (.iconst (4), 0, 0), (.if_icmp .ge 0, 13, 0), (.goto_w 0, 12, 0)] := rfl
theorem k_Md_moves_12 : zblk i_Md_moves 12 = [(.aload 0, 0, 0), (.getfield 0, 11, 7), (.iconst (4), 0, 0), (.iload 1, 0, 0), (.imul, 0, 0), (.iload 5, 0, 0), (.iadd, 0, 0), (.iconst (0), 0, 0), (.iastore, 0, 0), (.iinc 5 (1), 0, 0), (.goto 0, 11, 0)] := rfl
theorem k_Md_moves_13 : zblk i_Md_moves 13 = [(.iload 4, 0, 0), (.ireturn, 0, 0)] := rfl
theorem a_Md_moves : zmA i_Md_moves = 3 := rfl
theorem l_Md_moves : zmL i_Md_moves = 6 := rfl
theorem r_Md_moves : zmR i_Md_moves = some .int := rfl
theorem o_Md_moves : zmO i_Md_moves = 11 := rfl
theorem k_Md_jointOf_0 : zblk i_Md_jointOf 0 = [(.iconst (1), 0, 0), (.istore 3, 0, 0), (.iconst (0), 0, 0), (.istore 4, 0, 0), (.goto_w 0, 1, 0)] := rfl
theorem k_Md_jointOf_1 : zblk i_Md_jointOf 1 = [(.iload 4, 0, 0), (.aload 0, 0, 0), (.getfield 0, 11, 1), (.if_icmp .ge 0, 6, 0), (.goto_w 0, 2, 0)] := rfl
theorem k_Md_jointOf_2 : zblk i_Md_jointOf 2 = [(.iload 3, 0, 0), (.iload 2, 0, 0), (.iload 4, 0, 0), (.ishr, 0, 0), (.iconst (1), 0, 0), (.iand, 0, 0), (.iconst (1), 0, 0), (.if_icmp .ne 0, 4, 0), (.goto_w 0, 3, 0)] := rfl
theorem k_Md_jointOf_3 : zblk i_Md_jointOf 3 = [(.aload 0, 0, 0), (.getfield 0, 11, 2), (.iconst (4), 0, 0), (.iload 1, 0, 0), (.imul, 0, 0), (.iload 4, 0, 0), (.iadd, 0, 0), (.iaload, 0, 0), (.goto 0, 5, 0)] := rfl
theorem k_Md_jointOf_4 : zblk i_Md_jointOf 4 = [(.iconst (1), 0, 0), (.goto_w 0, 5, 0)] := rfl
theorem k_Md_jointOf_5 : zblk i_Md_jointOf 5 = [(.imul, 0, 0), (.istore 3, 0, 0), (.iinc 4 (1), 0, 0), (.goto 0, 1, 0)] := rfl
theorem k_Md_jointOf_6 : zblk i_Md_jointOf 6 = [(.iload 3, 0, 0), (.ireturn, 0, 0)] := rfl
theorem a_Md_jointOf : zmA i_Md_jointOf = 2 := rfl
theorem l_Md_jointOf : zmL i_Md_jointOf = 5 := rfl
theorem r_Md_jointOf : zmR i_Md_jointOf = some .int := rfl
theorem o_Md_jointOf : zmO i_Md_jointOf = 11 := rfl
theorem k_Md_everybody_0 : zblk i_Md_everybody 0 = [(.iconst (1), 0, 0), (.aload 0, 0, 0), (.getfield 0, 11, 1), (.ishl, 0, 0), (.iconst (1), 0, 0), (.isub, 0, 0), (.ireturn, 0, 0)] := rfl
theorem a_Md_everybody : zmA i_Md_everybody = 0 := rfl
theorem l_Md_everybody : zmL i_Md_everybody = 1 := rfl
theorem r_Md_everybody : zmR i_Md_everybody = some .int := rfl
theorem o_Md_everybody : zmO i_Md_everybody = 11 := rfl
theorem k_Md_joint_0 : zblk i_Md_joint 0 = [(.aload 0, 0, 0), (.iload 1, 0, 0), (.invokevirtual 0, 170, 0), (.ifCond .eq 0, 3, 0), (.goto_w 0, 1, 0)] := rfl
theorem k_Md_joint_1 : zblk i_Md_joint 1 = [(.aload 0, 0, 0), (.iload 2, 0, 0), (.invokevirtual 0, 173, 0), (.ifCond .eq 0, 3, 0), (.goto_w 0, 2, 0)] := rfl
theorem k_Md_joint_2 : zblk i_Md_joint 2 = [(.aload 0, 0, 0), (.iload 1, 0, 0), (.iload 2, 0, 0), (.invokevirtual 0, 175, 0), (.goto 0, 4, 0)] := rfl
theorem k_Md_joint_3 : zblk i_Md_joint 3 = [(.iconst (-1), 0, 0), (.goto_w 0, 4, 0)] := rfl
theorem k_Md_joint_4 : zblk i_Md_joint 4 = [(.ireturn, 0, 0)] := rfl
theorem a_Md_joint : zmA i_Md_joint = 2 := rfl
theorem l_Md_joint : zmL i_Md_joint = 3 := rfl
theorem r_Md_joint : zmR i_Md_joint = some .int := rfl
theorem o_Md_joint : zmO i_Md_joint = 11 := rfl
theorem k_Md_isMove_0 : zblk i_Md_isMove 0 = [(.aload 0, 0, 0), (.iload 1, 0, 0), (.invokevirtual 0, 170, 0), (.ifCond .eq 0, 3, 0), (.goto_w 0, 1, 0)] := rfl
theorem k_Md_isMove_1 : zblk i_Md_isMove 1 = [(.iload 2, 0, 0), (.i2l, 0, 0), (.sipush (0), 0, 0), (.aload 0, 0, 0), (.iload 1, 0, 0), (.aload 0, 0, 0), (.invokevirtual 0, 176, 0), (.invokevirtual 0, 175, 0), (.iconst (1), 0, 0), (.isub, 0, 0), (.i2l, 0, 0), (.invokestatic 0, 166, 0), (.ifCond .eq 0, 3, 0), (.goto_w 0, 2, 0)] := rfl
theorem k_Md_isMove_2 : zblk i_Md_isMove 2 = [(.iconst (1), 0, 0), (.goto 0, 4, 0)] := rfl
theorem k_Md_isMove_3 : zblk i_Md_isMove 3 = [(.iconst (0), 0, 0), (.goto_w 0, 4, 0)] := rfl
theorem k_Md_isMove_4 : zblk i_Md_isMove 4 = [(.ireturn, 0, 0)] := rfl
theorem a_Md_isMove : zmA i_Md_isMove = 2 := rfl
theorem l_Md_isMove : zmL i_Md_isMove = 3 := rfl
theorem r_Md_isMove : zmR i_Md_isMove = some .boolean := rfl
theorem o_Md_isMove : zmO i_Md_isMove = 11 := rfl
theorem k_Md_step_0 : zblk i_Md_step 0 = [(.aload 0, 0, 0), (.iload 1, 0, 0), (.iload 2, 0, 0), (.invokevirtual 0, 178, 0), (.ifCond .eq 0, 2, 0), (.goto_w 0, 1, 0)] := rfl
theorem k_Md_step_1 : zblk i_Md_step 1 = [(.aload 0, 0, 0), (.iload 3, 0, 0), (.invokevirtual 0, 170, 0), (.ifCond .ne 0, 3, 0), (.goto_w 0, 2, 0)] := rfl
theorem k_Md_step_2 : zblk i_Md_step 2 = [(.iconst (-1), 0, 0), (.ireturn, 0, 0)] := rfl
theorem k_Md_step_3 : zblk i_Md_step 3 = [(.aload 0, 0, 0), (.getfield 0, 11, 3), (.iconst (81), 0, 0), (.iload 1, 0, 0), (.imul, 0, 0), (.iload 2, 0, 0), (.iadd, 0, 0), (.iaload, 0, 0), (.istore 4, 0, 0), (.aload 0, 0, 0), (.getfield 0, 11, 3), (.iconst (81), 0, 0), (.iload 1, 0, 0), (.imul, 0, 0), (.iload 2, 0, 0), (.iadd, 0, 0), (.iload 3, 0, 0), (.iastore, 0, 0), (.iload 4, 0, 0), (.ireturn, 0, 0)] := rfl
theorem a_Md_step : zmA i_Md_step = 3 := rfl
theorem l_Md_step : zmL i_Md_step = 5 := rfl
theorem r_Md_step : zmR i_Md_step = some .int := rfl
theorem o_Md_step : zmO i_Md_step = 11 := rfl
theorem k_Md_leads_0 : zblk i_Md_leads 0 = [(.aload 0, 0, 0), (.iload 1, 0, 0), (.iload 2, 0, 0), (.invokevirtual 0, 178, 0), (.ifCond .eq 0, 2, 0), (.goto_w 0, 1, 0)] := rfl
theorem k_Md_leads_1 : zblk i_Md_leads 1 = [(.aload 0, 0, 0), (.getfield 0, 11, 3), (.iconst (81), 0, 0), (.iload 1, 0, 0), (.imul, 0, 0), (.iload 2, 0, 0), (.iadd, 0, 0), (.iaload, 0, 0), (.goto 0, 3, 0)] := rfl
theorem k_Md_leads_2 : zblk i_Md_leads 2 = [(.iconst (-1), 0, 0), (.goto_w 0, 3, 0)] := rfl
theorem k_Md_leads_3 : zblk i_Md_leads 3 = [(.ireturn, 0, 0)] := rfl
theorem a_Md_leads : zmA i_Md_leads = 2 := rfl
theorem l_Md_leads : zmL i_Md_leads = 3 := rfl
theorem r_Md_leads : zmR i_Md_leads = some .int := rfl
theorem o_Md_leads : zmO i_Md_leads = 11 := rfl
theorem k_Md_letters_0 : zblk i_Md_letters 0 = [(.aload 0, 0, 0), (.iload 1, 0, 0), (.invokevirtual 0, 170, 0), (.ifCond .eq 0, 2, 0), (.goto_w 0, 1, 0)] := rfl
theorem k_Md_letters_1 : zblk i_Md_letters 1 = [(.iload 2, 0, 0), (.i2l, 0, 0), (.sipush (0), 0, 0), (.sipush (255), 0, 0), (.invokestatic 0, 166, 0), (.ifCond .ne 0, 3, 0), (.goto_w 0, 2, 0)] := rfl
theorem k_Md_letters_2 : zblk i_Md_letters 2 = [(.iconst (-1), 0, 0), (.ireturn, 0, 0)] := rfl
theorem k_Md_letters_3 : zblk i_Md_letters 3 = [(.aload 0, 0, 0), (.getfield 0, 11, 5), (.iload 1, 0, 0), (.iaload, 0, 0), (.istore 3, 0, 0), (.aload 0, 0, 0), (.getfield 0, 11, 5), (.iload 1, 0, 0), (.iload 2, 0, 0), (.iastore, 0, 0), (.iload 3, 0, 0), (.ireturn, 0, 0)] := rfl
theorem a_Md_letters : zmA i_Md_letters = 2 := rfl
theorem l_Md_letters : zmL i_Md_letters = 4 := rfl
theorem r_Md_letters : zmR i_Md_letters = some .int := rfl
theorem o_Md_letters : zmO i_Md_letters = 11 := rfl
theorem k_Md_heap_0 : zblk i_Md_heap 0 = [(.aload 0, 0, 0), (.iload 1, 0, 0), (.invokevirtual 0, 171, 0), (.ifCond .eq 0, 3, 0), (.goto_w 0, 1, 0)] := rfl
theorem k_Md_heap_1 : zblk i_Md_heap 1 = [(.aload 0, 0, 0), (.iload 2, 0, 0), (.invokevirtual 0, 170, 0), (.ifCond .eq 0, 3, 0), (.goto_w 0, 2, 0)] := rfl
theorem k_Md_heap_2 : zblk i_Md_heap 2 = [(.iload 3, 0, 0), (.i2l, 0, 0), (.sipush (0), 0, 0), (.sipush (11), 0, 0), (.invokestatic 0, 166, 0), (.ifCond .ne 0, 4, 0), (.goto_w 0, 3, 0)] := rfl
theorem k_Md_heap_3 : zblk i_Md_heap 3 = [(.iconst (-1), 0, 0), (.ireturn, 0, 0)] := rfl
theorem k_Md_heap_4 : zblk i_Md_heap 4 = [(.aload 0, 0, 0), (.getfield 0, 11, 6), (.iconst (4), 0, 0), (.iload 2, 0, 0), (.imul, 0, 0), (.iload 1, 0, 0), (.iadd, 0, 0), (.iaload, 0, 0), (.istore 4, 0, 0), (.aload 0, 0, 0), (.getfield 0, 11, 6), (.iconst (4), 0, 0), (.iload 2, 0, 0), (.imul, 0, 0), (.iload 1, 0, 0), (.iadd, 0, 0), (.iload 3, 0, 0), (.iastore, 0, 0), (.iload 4, 0, 0), (.ireturn, 0, 0)] := rfl
theorem a_Md_heap : zmA i_Md_heap = 3 := rfl
theorem l_Md_heap : zmL i_Md_heap = 5 := rfl
theorem r_Md_heap : zmR i_Md_heap = some .int := rfl
theorem o_Md_heap : zmO i_Md_heap = 11 := rfl
theorem k_Md_price_0 : zblk i_Md_price 0 = [(.aload 0, 0, 0), (.iload 1, 0, 0), (.invokevirtual 0, 170, 0), (.ifCond .eq 0, 4, 0), (.goto_w 0, 1, 0)] := rfl
theorem k_Md_price_1 : zblk i_Md_price 1 = [(.aload 0, 0, 0), (.iload 2, 0, 0), (.invokevirtual 0, 171, 0), (.ifCond .eq 0, 4, 0), (.goto_w 0, 2, 0)] := rfl
theorem k_Md_price_2 : zblk i_Md_price 2 = [(.iload 3, 0, 0), (.i2l, 0, 0), (.sipush (0), 0, 0), (.aload 0, 0, 0), (.getfield 0, 11, 2), (.iconst (4), 0, 0), (.iload 1, 0, 0), (.imul, 0, 0), (.iload 2, 0, 0), (.iadd, 0, 0), (.iaload, 0, 0), (.iconst (1), 0, 0), (.isub, 0, 0), (.i2l, 0, 0), (.invokestatic 0, 166, 0), (.ifCond .eq 0, 4, 0), (.goto_w 0, 3, 0)] := rfl
theorem k_Md_price_3 : zblk i_Md_price 3 = [(.iload 4, 0, 0), (.i2l, 0, 0), (.sipush (0), 0, 0), (.sipush (9), 0, 0), (.invokestatic 0, 166, 0), (.ifCond .ne 0, 5, 0), (.goto_w 0, 4, 0)] := rfl
theorem k_Md_price_4 : zblk i_Md_price 4 = [(.iconst (-1), 0, 0), (.ireturn, 0, 0)] := rfl
theorem k_Md_price_5 : zblk i_Md_price 5 = [(.iconst (12), 0, 0), (.iload 1, 0, 0), (.imul, 0, 0), (.iconst (3), 0, 0), (.iload 2, 0, 0), (.imul, 0, 0), (.iadd, 0, 0), (.iload 3, 0, 0), (.iadd, 0, 0), (.istore 5, 0, 0), (.aload 0, 0, 0), (.getfield 0, 11, 4), (.iload 5, 0, 0), (.iaload, 0, 0), (.istore 6, 0, 0), (.aload 0, 0, 0), (.getfield 0, 11, 4), (.iload 5, 0, 0), (.iload 4, 0, 0), (.iastore, 0, 0), (.iload 6, 0, 0), (.ireturn, 0, 0)] := rfl
theorem a_Md_price : zmA i_Md_price = 4 := rfl
theorem l_Md_price : zmL i_Md_price = 7 := rfl
theorem r_Md_price : zmR i_Md_price = some .int := rfl
theorem o_Md_price : zmO i_Md_price = 11 := rfl
theorem k_Md_leadsBy_0 : zblk i_Md_leadsBy 0 = [(.iload 3, 0, 0), (.istore 5, 0, 0), (.iload 4, 0, 0), (.istore 6, 0, 0), (.iconst (0), 0, 0), (.istore 7, 0, 0), (.iconst (1), 0, 0), (.istore 8, 0, 0), (.aload 0, 0, 0), (.getfield 0, 11, 1), (.iconst (1), 0, 0), (.isub, 0, 0), (.istore 9, 0, 0), (.goto_w 0, 1, 0)] := rfl
theorem k_Md_leadsBy_1 : zblk i_Md_leadsBy 1 = [(.iload 9, 0, 0), (.ifCond .lt 0, 15, 0), (.goto_w 0, 2, 0)] := rfl
theorem k_Md_leadsBy_2 : zblk i_Md_leadsBy 2 = [(.aload 0, 0, 0), (.getfield 0, 11, 2), (.iconst (4), 0, 0), (.iload 1, 0, 0), (.imul, 0, 0), (.iload 9, 0, 0), (.iadd, 0, 0), (.iaload, 0, 0), (.istore 10, 0, 0), (.iload 2, 0, 0), (.iload 9, 0, 0), (.ishr, 0, 0), (.iconst (1), 0, 0), (.iand, 0, 0), (.iconst (1), 0, 0), (.if_icmp .ne 0, 4, 0), (.goto_w 0, 3, 0)] := rfl
theorem k_Md_leadsBy_3 : zblk i_Md_leadsBy 3 = [(.iconst (1), 0, 0), (.goto 0, 5, 0)] := rfl
theorem k_Md_leadsBy_4 : zblk i_Md_leadsBy 4 = [(.iconst (0), 0, 0), (.goto_w 0, 5, 0)] := rfl
theorem k_Md_leadsBy_5 : zblk i_Md_leadsBy 5 = [(.istore 11, 0, 0), (.iload 7, 0, 0), (.iload 8, 0, 0), (.iload 11, 0, 0), (.ifCond .eq 0, 7, 0), (.goto_w 0, 6, 0)] := rfl
theorem k_Md_leadsBy_6 : zblk i_Md_leadsBy 6 = [(.iload 5, 0, 0), (.goto 0, 8, 0)] := rfl
theorem k_Md_leadsBy_7 : zblk i_Md_leadsBy 7 = [(.iload 6, 0, 0), (.goto_w 0, 8, 0)] := rfl
theorem k_Md_leadsBy_8 : zblk i_Md_leadsBy 8 = [(.iload 10, 0, 0), (.irem, 0, 0), (.imul, 0, 0), (.iadd, 0, 0), (.istore 7, 0, 0), (.iload 11, 0, 0), (.ifCond .eq 0, 10, 0), (.goto_w 0, 9, 0)] := rfl
theorem k_Md_leadsBy_9 : zblk i_Md_leadsBy 9 = [(.iload 5, 0, 0), (.iload 10, 0, 0), (.idiv, 0, 0), (.goto 0, 11, 0)] := rfl
theorem k_Md_leadsBy_10 : zblk i_Md_leadsBy 10 = [(.iload 5, 0, 0), (.goto_w 0, 11, 0)] := rfl
theorem k_Md_leadsBy_11 : zblk i_Md_leadsBy 11 = [(.istore 5, 0, 0), (.iload 11, 0, 0), (.ifCond .eq 0, 13, 0), (.goto_w 0, 12, 0)] := rfl
theorem k_Md_leadsBy_12 : zblk i_Md_leadsBy 12 = [(.iload 6, 0, 0), (.goto 0, 14, 0)] := rfl
theorem k_Md_leadsBy_13 : zblk i_Md_leadsBy 13 = [(.iload 6, 0, 0), (.iload 10, 0, 0), (.idiv, 0, 0), (.goto_w 0, 14, 0)] := rfl
theorem k_Md_leadsBy_14 : zblk i_Md_leadsBy 14 = [(.istore 6, 0, 0), (.iload 8, 0, 0), (.iload 10, 0, 0), (.imul, 0, 0), (.istore 8, 0, 0), (.iinc 9 (-1), 0, 0), (.goto 0, 1, 0)] := rfl
theorem k_Md_leadsBy_15 : zblk i_Md_leadsBy 15 = [(.aload 0, 0, 0), (.getfield 0, 11, 3), (.iconst (81), 0, 0), (.iload 1, 0, 0), (.imul, 0, 0), (.iload 7, 0, 0), (.iadd, 0, 0), (.iaload, 0, 0), (.ireturn, 0, 0)] := rfl
theorem a_Md_leadsBy : zmA i_Md_leadsBy = 4 := rfl
theorem l_Md_leadsBy : zmL i_Md_leadsBy = 12 := rfl
theorem r_Md_leadsBy : zmR i_Md_leadsBy = some .int := rfl
theorem o_Md_leadsBy : zmO i_Md_leadsBy = 11 := rfl
theorem k_Md_others_0 : zblk i_Md_others 0 = [(.aload 0, 0, 0), (.invokevirtual 0, 176, 0), (.iload 1, 0, 0), (.iconst (-1), 0, 0), (.ixor, 0, 0), (.iand, 0, 0), (.ireturn, 0, 0)] := rfl
theorem a_Md_others : zmA i_Md_others = 1 := rfl
theorem l_Md_others : zmL i_Md_others = 2 := rfl
theorem r_Md_others : zmR i_Md_others = some .int := rfl
theorem o_Md_others : zmO i_Md_others = 11 := rfl
theorem k_Md_forces_0 : zblk i_Md_forces 0 = [(.aload 0, 0, 0), (.iload 1, 0, 0), (.iload 2, 0, 0), (.invokevirtual 0, 175, 0), (.istore 4, 0, 0), (.aload 0, 0, 0), (.iload 1, 0, 0), (.aload 0, 0, 0), (.iload 2, 0, 0), (.invokevirtual 0, 185, 0), (.invokevirtual 0, 175, 0), (.istore 5, 0, 0), (.iconst (0), 0, 0), (.istore 6, 0, 0), (.goto_w 0, 1, 0)] := rfl
theorem k_Md_forces_1 : zblk i_Md_forces 1 = [(.iload 6, 0, 0), (.iload 4, 0, 0), (.if_icmp .ge 0, 12, 0), (.goto_w 0, 2, 0)] := rfl
theorem k_Md_forces_2 : zblk i_Md_forces 2 = [(.iconst (1), 0, 0), (.istore 7, 0, 0), (.iconst (0), 0, 0), (.istore 8, 0, 0), (.goto_w 0, 3, 0)] := rfl
theorem k_Md_forces_3 : zblk i_Md_forces 3 = [(.iload 8, 0, 0), (.iload 5, 0, 0), (.if_icmp .ge 0, 9, 0), (.goto_w 0, 4, 0)] := rfl
theorem k_Md_forces_4 : zblk i_Md_forces 4 = [(.iload 7, 0, 0), (.ifCond .eq 0, 9, 0), (.goto_w 0, 5, 0)] := rfl
theorem k_Md_forces_5 : zblk i_Md_forces 5 = [(.iload 3, 0, 0), (.aload 0, 0, 0), (.iload 1, 0, 0), (.iload 2, 0, 0), (.iload 6, 0, 0), (.iload 8, 0, 0), (.invokevirtual 0, 184, 0), (.ishr, 0, 0), (.iconst (1), 0, 0), (.iand, 0, 0), (.iconst (1), 0, 0), (.if_icmp .ne 0, 7, 0), (.goto_w 0, 6, 0)] := rfl
theorem k_Md_forces_6 : zblk i_Md_forces 6 = [(.iconst (1), 0, 0), (.goto 0, 8, 0)] := rfl
theorem k_Md_forces_7 : zblk i_Md_forces 7 = [(.iconst (0), 0, 0), (.goto_w 0, 8, 0)] := rfl
theorem k_Md_forces_8 : zblk i_Md_forces 8 = [(.istore 7, 0, 0), (.iinc 8 (1), 0, 0), (.goto 0, 3, 0)] := rfl
theorem k_Md_forces_9 : zblk i_Md_forces 9 = [(.iload 7, 0, 0), (.ifCond .eq 0, 11, 0), (.goto_w 0, 10, 0)] := rfl
theorem k_Md_forces_10 : zblk i_Md_forces 10 = [(.iload 6, 0, 0), (.ireturn, 0, 0)] := rfl
theorem k_Md_forces_11 : zblk i_Md_forces 11 = [(.iinc 6 (1), 0, 0), (.goto 0, 1, 0)] := rfl
theorem k_Md_forces_12 : zblk i_Md_forces 12 = [(.iconst (-4), 0, 0), (.ireturn, 0, 0)] := rfl
theorem a_Md_forces : zmA i_Md_forces = 3 := rfl
theorem l_Md_forces : zmL i_Md_forces = 9 := rfl
theorem r_Md_forces : zmR i_Md_forces = some .int := rfl
theorem o_Md_forces : zmO i_Md_forces = 11 := rfl
theorem k_Md_force_0 : zblk i_Md_force 0 = [(.aload 0, 0, 0), (.iload 1, 0, 0), (.invokevirtual 0, 170, 0), (.ifCond .eq 0, 6, 0), (.goto_w 0, 1, 0)] := rfl
theorem k_Md_force_1 : zblk i_Md_force 1 = [(.aload 0, 0, 0), (.iload 2, 0, 0), (.invokevirtual 0, 173, 0), (.ifCond .eq 0, 6, 0), (.goto_w 0, 2, 0)] := rfl
theorem k_Md_force_2 : zblk i_Md_force 2 = [(.aload 0, 0, 0), (.iload 3, 0, 0), (.invokevirtual 0, 172, 0), (.ifCond .eq 0, 6, 0), (.goto_w 0, 3, 0)] := rfl
theorem k_Md_force_3 : zblk i_Md_force 3 = [(.aload 0, 0, 0), (.iload 1, 0, 0), (.iload 2, 0, 0), (.iload 3, 0, 0), (.invokevirtual 0, 186, 0), (.ifCond .lt 0, 5, 0), (.goto_w 0, 4, 0)] := rfl
theorem k_Md_force_4 : zblk i_Md_force 4 = [(.iconst (1), 0, 0), (.goto 0, 7, 0)] := rfl
theorem k_Md_force_5 : zblk i_Md_force 5 = [(.iconst (0), 0, 0), (.goto 0, 7, 0)] := rfl
theorem k_Md_force_6 : zblk i_Md_force 6 = [(.iconst (-1), 0, 0), (.goto_w 0, 7, 0)] := rfl
theorem k_Md_force_7 : zblk i_Md_force 7 = [(.ireturn, 0, 0)] := rfl
theorem a_Md_force : zmA i_Md_force = 3 := rfl
theorem l_Md_force : zmL i_Md_force = 4 := rfl
theorem r_Md_force : zmR i_Md_force = some .int := rfl
theorem o_Md_force : zmO i_Md_force = 11 := rfl
theorem k_Md_type_0 : zblk i_Md_type 0 = [(.iload 3, 0, 0), (.i2l, 0, 0), (.sipush (1), 0, 0), (.sipush (8), 0, 0), (.invokestatic 0, 166, 0), (.ifCond .ne 0, 2, 0), (.goto_w 0, 1, 0)] := rfl
theorem k_Md_type_1 : zblk i_Md_type 1 = [(.iconst (-1), 0, 0), (.ireturn, 0, 0)] := rfl
theorem k_Md_type_2 : zblk i_Md_type 2 = [(.iconst (0), 0, 0), (.istore 4, 0, 0), (.goto_w 0, 3, 0)] := rfl
theorem k_Md_type_3 : zblk i_Md_type 3 = [(.iload 4, 0, 0), (.iload 3, 0, 0), (.if_icmp .ge 0, 7, 0), (.goto_w 0, 4, 0)] := rfl
theorem k_Md_type_4 : zblk i_Md_type 4 = [(.lload 1, 0, 0), (.iconst (8), 0, 0), (.iload 4, 0, 0), (.imul, 0, 0), (.lshr, 0, 0), (.sipush (255), 0, 0), (.land, 0, 0), (.sipush (32), 0, 0), (.sipush (126), 0, 0), (.invokestatic 0, 166, 0), (.ifCond .ne 0, 6, 0), (.goto_w 0, 5, 0)] := rfl
theorem k_Md_type_5 : zblk i_Md_type 5 = [(.iconst (-1), 0, 0), (.ireturn, 0, 0)] := rfl
theorem k_Md_type_6 : zblk i_Md_type 6 = [(.iinc 4 (1), 0, 0), (.goto 0, 3, 0)] := rfl
theorem k_Md_type_7 : zblk i_Md_type 7 = [(.aload 0, 0, 0), (.getfield 0, 11, 24), (.iload 3, 0, 0), (.iadd, 0, 0), (.iconst (100), 0, 0), (.if_icmp .le 0, 9, 0), (.goto_w 0, 8, 0)] := rfl
theorem k_Md_type_8 : zblk i_Md_type 8 = [(.iconst (-3), 0, 0), (.ireturn, 0, 0)] := rfl
theorem k_Md_type_9 : zblk i_Md_type 9 = [(.iload 3, 0, 0), (.iconst (1), 0, 0), (.isub, 0, 0), (.istore 4, 0, 0), (.goto_w 0, 10, 0)] := rfl
theorem k_Md_type_10 : zblk i_Md_type 10 = [(.iload 4, 0, 0), (.ifCond .lt 0, 12, 0), (.goto_w 0, 11, 0)] := rfl
theorem k_Md_type_11 : zblk i_Md_type 11 = [(.aload 0, 0, 0), (.getfield 0, 11, 23), (.aload 0, 0, 0), (.getfield 0, 11, 24), (.lload 1, 0, 0), (.iconst (8), 0, 0), (.iload 4, 0, 0), (.imul, 0, 0), (.lshr, 0, 0), (.sipush (255), 0, 0), (.land, 0, 0), (.l2i, 0, 0), (.iastore, 0, 0), (.aload 0, 0, 0), (.dup, 0, 0), (.getfield 0, 11, 24), (.iconst (1), 0, 0), (.iadd, 0, 0), (.putfield 0, 11, 24), (.iinc 4 (-1), 0, 0), (.goto 0, 10, 0)] := rfl
theorem k_Md_type_12 : zblk i_Md_type 12 = [(.aload 0, 0, 0), (.getfield 0, 11, 24), (.ireturn, 0, 0)] := rfl
theorem a_Md_type : zmA i_Md_type = 2 := rfl
theorem l_Md_type : zmL i_Md_type = 5 := rfl
theorem r_Md_type : zmR i_Md_type = some .int := rfl
theorem o_Md_type : zmO i_Md_type = 11 := rfl
theorem k_Md_next_0 : zblk i_Md_next 0 = [(.aload 0, 0, 0), (.getfield 0, 11, 25), (.aload 0, 0, 0), (.getfield 0, 11, 24), (.if_icmp .ge 0, 3, 0), (.goto_w 0, 1, 0)] := rfl
theorem k_Md_next_1 : zblk i_Md_next 1 = [(.aload 0, 0, 0), (.getfield 0, 11, 23), (.aload 0, 0, 0), (.getfield 0, 11, 25), (.iaload, 0, 0), (.iconst (32), 0, 0), (.if_icmp .ne 0, 3, 0), (.goto_w 0, 2, 0)] := rfl
theorem k_Md_next_2 : zblk i_Md_next 2 = [(.aload 0, 0, 0), (.dup, 0, 0), (.getfield 0, 11, 25), (.iconst (1), 0, 0), (.iadd, 0, 0), (.putfield 0, 11, 25), (.goto 0, 0, 0)] := rfl
theorem k_Md_next_3 : zblk i_Md_next 3 = [(.aload 0, 0, 0), (.getfield 0, 11, 25), (.aload 0, 0, 0), (.getfield 0, 11, 24), (.if_icmp .ge 0, 5, 0), (.goto_w 0, 4, 0)] := rfl
theorem k_Md_next_4 : zblk i_Md_next 4 = [(.aload 0, 0, 0), (.getfield 0, 11, 23), (.aload 0, 0, 0), (.getfield 0, 11, 25), (.iaload, 0, 0), (.goto 0, 6, 0)] := rfl
theorem k_Md_next_5 : zblk i_Md_next 5 = [(.iconst (0), 0, 0), (.goto_w 0, 6, 0)] := rfl
theorem k_Md_next_6 : zblk i_Md_next 6 = [(.ireturn, 0, 0)] := rfl
theorem a_Md_next : zmA i_Md_next = 0 := rfl
theorem l_Md_next : zmL i_Md_next = 1 := rfl
theorem r_Md_next : zmR i_Md_next = some .int := rfl
theorem o_Md_next : zmO i_Md_next = 11 := rfl
theorem k_Md_needs_0 : zblk i_Md_needs 0 = [(.aload 0, 0, 0), (.aload 0, 0, 0), (.getfield 0, 11, 26), (.ifCond .ne 0, 2, 0), (.goto_w 0, 1, 0)] := rfl
theorem k_Md_needs_1 : zblk i_Md_needs 1 = [(.aload 0, 0, 0), (.invokevirtual 0, 189, 0), (.iload 1, 0, 0), (.if_icmp .eq 0, 3, 0), (.goto_w 0, 2, 0)] := rfl
theorem k_Md_needs_2 : zblk i_Md_needs 2 = [(.iconst (1), 0, 0), (.goto 0, 4, 0)] := rfl
theorem k_Md_needs_3 : zblk i_Md_needs 3 = [(.iconst (0), 0, 0), (.goto_w 0, 4, 0)] := rfl
theorem k_Md_needs_4 : zblk i_Md_needs 4 = [(.putfield 0, 11, 26), (.aload 0, 0, 0), (.dup, 0, 0), (.getfield 0, 11, 25), (.aload 0, 0, 0), (.getfield 0, 11, 26), (.ifCond .eq 0, 6, 0), (.goto_w 0, 5, 0)] := rfl
theorem k_Md_needs_5 : zblk i_Md_needs 5 = [(.iconst (0), 0, 0), (.goto 0, 7, 0)] := rfl
theorem k_Md_needs_6 : zblk i_Md_needs 6 = [(.iconst (1), 0, 0), (.goto_w 0, 7, 0)] := rfl
theorem k_Md_needs_7 : zblk i_Md_needs 7 = [(.iadd, 0, 0), (.putfield 0, 11, 25), (.return_, 0, 0)] := rfl
theorem a_Md_needs : zmA i_Md_needs = 1 := rfl
theorem l_Md_needs : zmL i_Md_needs = 2 := rfl
theorem r_Md_needs : zmR i_Md_needs = none := rfl
theorem o_Md_needs : zmO i_Md_needs = 11 := rfl
theorem k_Md_opens_0 : zblk i_Md_opens 0 = [(.aload 0, 0, 0), (.getfield 0, 11, 16), (.iload 1, 0, 0), (.iload 2, 0, 0), (.iastore, 0, 0), (.aload 0, 0, 0), (.getfield 0, 11, 20), (.aload 0, 0, 0), (.getfield 0, 11, 22), (.iload 1, 0, 0), (.iastore, 0, 0), (.aload 0, 0, 0), (.getfield 0, 11, 21), (.aload 0, 0, 0), (.getfield 0, 11, 22), (.iconst (0), 0, 0), (.bastore, 0, 0), (.aload 0, 0, 0), (.dup, 0, 0), (.getfield 0, 11, 22), (.iconst (1), 0, 0), (.iadd, 0, 0), (.putfield 0, 11, 22), (.return_, 0, 0)] := rfl
theorem a_Md_opens : zmA i_Md_opens = 2 := rfl
theorem l_Md_opens : zmL i_Md_opens = 3 := rfl
theorem r_Md_opens : zmR i_Md_opens = none := rfl
theorem o_Md_opens : zmO i_Md_opens = 11 := rfl
theorem k_Md_group_0 : zblk i_Md_group 0 = [(.iconst (0), 0, 0), (.istore 2, 0, 0), (.aload 0, 0, 0), (.iconst (60), 0, 0), (.invokevirtual 0, 190, 0), (.goto_w 0, 1, 0)] := rfl
theorem k_Md_group_1 : zblk i_Md_group 1 = [(.aload 0, 0, 0), (.invokevirtual 0, 189, 0), (.i2l, 0, 0), (.sipush (48), 0, 0), (.iconst (47), 0, 0), (.aload 0, 0, 0), (.getfield 0, 11, 1), (.iadd, 0, 0), (.i2l, 0, 0), (.invokestatic 0, 166, 0), (.ifCond .eq 0, 4, 0), (.goto_w 0, 2, 0)] := rfl
theorem k_Md_group_2 : zblk i_Md_group 2 = [(.iload 2, 0, 0), (.aload 0, 0, 0), (.invokevirtual 0, 189, 0), (.iconst (48), 0, 0), (.isub, 0, 0), (.ishr, 0, 0), (.ifCond .ne 0, 4, 0), (.goto_w 0, 3, 0)] := rfl
theorem k_Md_group_3 : zblk i_Md_group 3 = [(.iload 2, 0, 0), (.iconst (1), 0, 0), (.aload 0, 0, 0), (.invokevirtual 0, 189, 0), (.iconst (48), 0, 0), (.isub, 0, 0), (.ishl, 0, 0), (.ior, 0, 0), (.istore 2, 0, 0), (.aload 0, 0, 0), (.dup, 0, 0), (.getfield 0, 11, 25), (.iconst (1), 0, 0), (.iadd, 0, 0), (.putfield 0, 11, 25), (.goto 0, 1, 0)] := rfl
theorem k_Md_group_4 : zblk i_Md_group 4 = [(.aload 0, 0, 0), (.iconst (62), 0, 0), (.invokevirtual 0, 190, 0), (.aload 0, 0, 0), (.getfield 0, 11, 26), (.ifCond .eq 0, 6, 0), (.goto_w 0, 5, 0)] := rfl
theorem k_Md_group_5 : zblk i_Md_group 5 = [(.iconst (0), 0, 0), (.goto 0, 7, 0)] := rfl
theorem k_Md_group_6 : zblk i_Md_group 6 = [(.aload 0, 0, 0), (.invokevirtual 0, 189, 0), (.goto_w 0, 7, 0)] := rfl
theorem k_Md_group_7 : zblk i_Md_group 7 = [(.istore 3, 0, 0), (.iload 3, 0, 0), (.iconst (88), 0, 0), (.if_icmp .ne 0, 9, 0), (.goto_w 0, 8, 0)] := rfl
theorem k_Md_group_8 : zblk i_Md_group 8 = [(.iconst (5), 0, 0), (.goto 0, 18, 0)] := rfl
theorem k_Md_group_9 : zblk i_Md_group 9 = [(.iload 3, 0, 0), (.iconst (71), 0, 0), (.if_icmp .ne 0, 11, 0), (.goto_w 0, 10, 0)] := rfl
theorem k_Md_group_10 : zblk i_Md_group 10 = [(.iconst (6), 0, 0), (.goto 0, 18, 0)] := rfl
theorem k_Md_group_11 : zblk i_Md_group 11 = [(.iload 3, 0, 0), (.iconst (70), 0, 0), (.if_icmp .ne 0, 13, 0), (.goto_w 0, 12, 0)] := rfl
theorem k_Md_group_12 : zblk i_Md_group 12 = [(.iconst (7), 0, 0), (.goto 0, 18, 0)] := rfl
theorem k_Md_group_13 : zblk i_Md_group 13 = [(.iload 3, 0, 0), (.iconst (73), 0, 0), (.if_icmp .ne 0, 15, 0), (.goto_w 0, 14, 0)] := rfl
theorem k_Md_group_14 : zblk i_Md_group 14 = [(.iconst (8), 0, 0), (.goto 0, 18, 0)] := rfl
theorem k_Md_group_15 : zblk i_Md_group 15 = [(.iload 3, 0, 0), (.iconst (40), 0, 0), (.if_icmp .ne 0, 17, 0), (.goto_w 0, 16, 0)] := rfl
theorem k_Md_group_16 : zblk i_Md_group 16 = [(.iconst (9), 0, 0), (.goto 0, 18, 0)] := rfl
theorem k_Md_group_17 : zblk i_Md_group 17 = [(.iconst (10), 0, 0), (.goto_w 0, 18, 0)] := rfl
theorem k_Md_group_18 : zblk i_Md_group 18 = [(.istore 4, 0, 0), (.aload 0, 0, 0), (.aload 0, 0, 0), (.getfield 0, 11, 26), (.ifCond .ne 0, 20, 0), (.goto_w 0, 19, 0)] := rfl
theorem k_Md_group_19 : zblk i_Md_group 19 = [(.iload 4, 0, 0), (.iconst (10), 0, 0), (.if_icmp .ne 0, 21, 0), (.goto_w 0, 20, 0)] := rfl
theorem k_Md_group_20 : zblk i_Md_group 20 = [(.iconst (1), 0, 0), (.goto 0, 22, 0)] := rfl
theorem k_Md_group_21 : zblk i_Md_group 21 = [(.iconst (0), 0, 0), (.goto_w 0, 22, 0)] := rfl
theorem k_Md_group_22 : zblk i_Md_group 22 = [(.putfield 0, 11, 26), (.aload 0, 0, 0), (.dup, 0, 0), (.getfield 0, 11, 25), (.aload 0, 0, 0), (.getfield 0, 11, 26), (.ifCond .eq 0, 24, 0), (.goto_w 0, 23, 0)] := rfl
theorem k_Md_group_23 : zblk i_Md_group 23 = [(.iconst (0), 0, 0), (.goto 0, 25, 0)] := rfl
theorem k_Md_group_24 : zblk i_Md_group 24 = [(.iconst (1), 0, 0), (.goto_w 0, 25, 0)] := rfl
theorem k_Md_group_25 : zblk i_Md_group 25 = [(.iadd, 0, 0), (.putfield 0, 11, 25), (.aload 0, 0, 0), (.getfield 0, 11, 19), (.iload 1, 0, 0), (.iload 2, 0, 0), (.iastore, 0, 0), (.aload 0, 0, 0), (.iload 1, 0, 0), (.iload 4, 0, 0), (.invokevirtual 0, 191, 0), (.return_, 0, 0)] := rfl
theorem a_Md_group : zmA i_Md_group = 1 := rfl
theorem l_Md_group : zmL i_Md_group = 5 := rfl
theorem r_Md_group : zmR i_Md_group = none := rfl
theorem o_Md_group : zmO i_Md_group = 11 := rfl
theorem k_Md_isWhole_0 : zblk i_Md_isWhole 0 = [(.aload 0, 0, 0), (.invokevirtual 0, 189, 0), (.istore 1, 0, 0), (.iload 1, 0, 0), (.iconst (84), 0, 0), (.if_icmp .eq 0, 5, 0), (.goto_w 0, 1, 0)] := rfl
theorem k_Md_isWhole_1 : zblk i_Md_isWhole 1 = [(.iload 1, 0, 0), (.i2l, 0, 0), (.sipush (97), 0, 0), (.sipush (104), 0, 0), (.invokestatic 0, 166, 0), (.ifCond .ne 0, 5, 0), (.goto_w 0, 2, 0)] := rfl
theorem k_Md_isWhole_2 : zblk i_Md_isWhole 2 = [(.iload 1, 0, 0), (.iconst (33), 0, 0), (.if_icmp .eq 0, 5, 0), (.goto_w 0, 3, 0)] := rfl
theorem k_Md_isWhole_3 : zblk i_Md_isWhole 3 = [(.iload 1, 0, 0), (.iconst (40), 0, 0), (.if_icmp .eq 0, 5, 0), (.goto_w 0, 4, 0)] := rfl
theorem k_Md_isWhole_4 : zblk i_Md_isWhole 4 = [(.iload 1, 0, 0), (.iconst (60), 0, 0), (.if_icmp .ne 0, 6, 0), (.goto_w 0, 5, 0)] := rfl
theorem k_Md_isWhole_5 : zblk i_Md_isWhole 5 = [(.iconst (1), 0, 0), (.goto 0, 7, 0)] := rfl
theorem k_Md_isWhole_6 : zblk i_Md_isWhole 6 = [(.iconst (0), 0, 0), (.goto_w 0, 7, 0)] := rfl
theorem k_Md_isWhole_7 : zblk i_Md_isWhole 7 = [(.istore 2, 0, 0), (.aload 0, 0, 0), (.aload 0, 0, 0), (.getfield 0, 11, 26), (.ifCond .ne 0, 10, 0), (.goto_w 0, 8, 0)] := rfl
theorem k_Md_isWhole_8 : zblk i_Md_isWhole 8 = [(.iload 2, 0, 0), (.ifCond .eq 0, 10, 0), (.goto_w 0, 9, 0)] := rfl
theorem k_Md_isWhole_9 : zblk i_Md_isWhole 9 = [(.aload 0, 0, 0), (.getfield 0, 11, 15), (.iconst (24), 0, 0), (.if_icmp .ne 0, 11, 0), (.goto_w 0, 10, 0)] := rfl
theorem k_Md_isWhole_10 : zblk i_Md_isWhole 10 = [(.iconst (1), 0, 0), (.goto 0, 12, 0)] := rfl
theorem k_Md_isWhole_11 : zblk i_Md_isWhole 11 = [(.iconst (0), 0, 0), (.goto_w 0, 12, 0)] := rfl
theorem k_Md_isWhole_12 : zblk i_Md_isWhole 12 = [(.putfield 0, 11, 26), (.aload 0, 0, 0), (.getfield 0, 11, 26), (.ifCond .eq 0, 14, 0), (.goto_w 0, 13, 0)] := rfl
theorem k_Md_isWhole_13 : zblk i_Md_isWhole 13 = [(.iconst (1), 0, 0), (.ireturn, 0, 0)] := rfl
theorem k_Md_isWhole_14 : zblk i_Md_isWhole 14 = [(.aload 0, 0, 0), (.getfield 0, 11, 15), (.istore 3, 0, 0), (.aload 0, 0, 0), (.dup, 0, 0), (.getfield 0, 11, 15), (.iconst (1), 0, 0), (.iadd, 0, 0), (.putfield 0, 11, 15), (.iload 1, 0, 0), (.iconst (60), 0, 0), (.if_icmp .ne 0, 16, 0), (.goto_w 0, 15, 0)] := rfl
theorem k_Md_isWhole_15 : zblk i_Md_isWhole 15 = [(.aload 0, 0, 0), (.iload 3, 0, 0), (.invokevirtual 0, 192, 0), (.iconst (0), 0, 0), (.ireturn, 0, 0)] := rfl
theorem k_Md_isWhole_16 : zblk i_Md_isWhole 16 = [(.aload 0, 0, 0), (.dup, 0, 0), (.getfield 0, 11, 25), (.iconst (1), 0, 0), (.iadd, 0, 0), (.putfield 0, 11, 25), (.iload 1, 0, 0), (.iconst (33), 0, 0), (.if_icmp .eq 0, 18, 0), (.goto_w 0, 17, 0)] := rfl
theorem k_Md_isWhole_17 : zblk i_Md_isWhole 17 = [(.iload 1, 0, 0), (.iconst (40), 0, 0), (.if_icmp .ne 0, 22, 0), (.goto_w 0, 18, 0)] := rfl
theorem k_Md_isWhole_18 : zblk i_Md_isWhole 18 = [(.aload 0, 0, 0), (.iload 3, 0, 0), (.iload 1, 0, 0), (.iconst (33), 0, 0), (.if_icmp .ne 0, 20, 0), (.goto_w 0, 19, 0)] := rfl
theorem k_Md_isWhole_19 : zblk i_Md_isWhole 19 = [(.iconst (2), 0, 0), (.goto 0, 21, 0)] := rfl
theorem k_Md_isWhole_20 : zblk i_Md_isWhole 20 = [(.iconst (10), 0, 0), (.goto_w 0, 21, 0)] := rfl
theorem k_Md_isWhole_21 : zblk i_Md_isWhole 21 = [(.invokevirtual 0, 191, 0), (.iconst (0), 0, 0), (.ireturn, 0, 0)] := rfl
theorem k_Md_isWhole_22 : zblk i_Md_isWhole 22 = [(.aload 0, 0, 0), (.getfield 0, 11, 16), (.iload 3, 0, 0), (.iload 1, 0, 0), (.iconst (84), 0, 0), (.if_icmp .ne 0, 24, 0), (.goto_w 0, 23, 0)] := rfl
theorem k_Md_isWhole_23 : zblk i_Md_isWhole 23 = [(.iconst (0), 0, 0), (.goto 0, 25, 0)] := rfl
theorem k_Md_isWhole_24 : zblk i_Md_isWhole 24 = [(.iconst (1), 0, 0), (.goto_w 0, 25, 0)] := rfl
theorem k_Md_isWhole_25 : zblk i_Md_isWhole 25 = [(.iastore, 0, 0), (.aload 0, 0, 0), (.getfield 0, 11, 17), (.iload 3, 0, 0), (.iload 1, 0, 0), (.iconst (84), 0, 0), (.if_icmp .ne 0, 27, 0), (.goto_w 0, 26, 0)] := rfl
theorem k_Md_isWhole_26 : zblk i_Md_isWhole 26 = [(.iconst (0), 0, 0), (.goto 0, 28, 0)] := rfl
theorem k_Md_isWhole_27 : zblk i_Md_isWhole 27 = [(.iload 1, 0, 0), (.iconst (97), 0, 0), (.isub, 0, 0), (.goto_w 0, 28, 0)] := rfl
theorem k_Md_isWhole_28 : zblk i_Md_isWhole 28 = [(.iastore, 0, 0), (.iconst (1), 0, 0), (.ireturn, 0, 0)] := rfl
theorem a_Md_isWhole : zmA i_Md_isWhole = 0 := rfl
theorem l_Md_isWhole : zmL i_Md_isWhole = 4 := rfl
theorem r_Md_isWhole : zmR i_Md_isWhole = some .boolean := rfl
theorem o_Md_isWhole : zmO i_Md_isWhole = 11 := rfl
theorem k_Md_closes_0 : zblk i_Md_closes 0 = [(.iload 1, 0, 0), (.istore 2, 0, 0), (.goto_w 0, 1, 0)] := rfl
theorem k_Md_closes_1 : zblk i_Md_closes 1 = [(.aload 0, 0, 0), (.getfield 0, 11, 22), (.ifCond .le 0, 30, 0), (.goto_w 0, 2, 0)] := rfl
theorem k_Md_closes_2 : zblk i_Md_closes 2 = [(.iload 2, 0, 0), (.ifCond .lt 0, 30, 0), (.goto_w 0, 3, 0)] := rfl
theorem k_Md_closes_3 : zblk i_Md_closes 3 = [(.aload 0, 0, 0), (.getfield 0, 11, 26), (.ifCond .ne 0, 30, 0), (.goto_w 0, 4, 0)] := rfl
theorem k_Md_closes_4 : zblk i_Md_closes 4 = [(.aload 0, 0, 0), (.getfield 0, 11, 20), (.aload 0, 0, 0), (.getfield 0, 11, 22), (.iconst (1), 0, 0), (.isub, 0, 0), (.iaload, 0, 0), (.istore 3, 0, 0), (.aload 0, 0, 0), (.getfield 0, 11, 16), (.iload 3, 0, 0), (.iaload, 0, 0), (.istore 4, 0, 0), (.iload 4, 0, 0), (.iconst (10), 0, 0), (.if_icmp .eq 0, 8, 0), (.goto_w 0, 5, 0)] := rfl
theorem k_Md_closes_5 : zblk i_Md_closes 5 = [(.iload 4, 0, 0), (.iconst (3), 0, 0), (.if_icmp .eq 0, 8, 0), (.goto_w 0, 6, 0)] := rfl
theorem k_Md_closes_6 : zblk i_Md_closes 6 = [(.iload 4, 0, 0), (.iconst (4), 0, 0), (.if_icmp .eq 0, 8, 0), (.goto_w 0, 7, 0)] := rfl
theorem k_Md_closes_7 : zblk i_Md_closes 7 = [(.iload 4, 0, 0), (.iconst (9), 0, 0), (.if_icmp .ne 0, 9, 0), (.goto_w 0, 8, 0)] := rfl
theorem k_Md_closes_8 : zblk i_Md_closes 8 = [(.iconst (1), 0, 0), (.goto 0, 10, 0)] := rfl
theorem k_Md_closes_9 : zblk i_Md_closes 9 = [(.iconst (0), 0, 0), (.goto_w 0, 10, 0)] := rfl
theorem k_Md_closes_10 : zblk i_Md_closes 10 = [(.istore 5, 0, 0), (.iload 5, 0, 0), (.ifCond .ne 0, 12, 0), (.goto_w 0, 11, 0)] := rfl
theorem k_Md_closes_11 : zblk i_Md_closes 11 = [(.aload 0, 0, 0), (.getfield 0, 11, 17), (.iload 3, 0, 0), (.iload 2, 0, 0), (.iastore, 0, 0), (.aload 0, 0, 0), (.dup, 0, 0), (.getfield 0, 11, 22), (.iconst (1), 0, 0), (.isub, 0, 0), (.putfield 0, 11, 22), (.iload 3, 0, 0), (.istore 2, 0, 0), (.goto 0, 29, 0)] := rfl
theorem k_Md_closes_12 : zblk i_Md_closes 12 = [(.aload 0, 0, 0), (.getfield 0, 11, 21), (.aload 0, 0, 0), (.getfield 0, 11, 22), (.iconst (1), 0, 0), (.isub, 0, 0), (.baload, 0, 0), (.ifCond .eq 0, 14, 0), (.goto_w 0, 13, 0)] := rfl
theorem k_Md_closes_13 : zblk i_Md_closes 13 = [(.aload 0, 0, 0), (.getfield 0, 11, 18), (.iload 3, 0, 0), (.iload 2, 0, 0), (.iastore, 0, 0), (.aload 0, 0, 0), (.iconst (41), 0, 0), (.invokevirtual 0, 190, 0), (.aload 0, 0, 0), (.dup, 0, 0), (.getfield 0, 11, 22), (.iconst (1), 0, 0), (.isub, 0, 0), (.putfield 0, 11, 22), (.iload 3, 0, 0), (.istore 2, 0, 0), (.goto 0, 29, 0)] := rfl
theorem k_Md_closes_14 : zblk i_Md_closes 14 = [(.aload 0, 0, 0), (.getfield 0, 11, 17), (.iload 3, 0, 0), (.iload 2, 0, 0), (.iastore, 0, 0), (.aload 0, 0, 0), (.getfield 0, 11, 21), (.aload 0, 0, 0), (.getfield 0, 11, 22), (.iconst (1), 0, 0), (.isub, 0, 0), (.iconst (1), 0, 0), (.bastore, 0, 0), (.iload 4, 0, 0), (.iconst (10), 0, 0), (.if_icmp .ne 0, 27, 0), (.goto_w 0, 15, 0)] := rfl
theorem k_Md_closes_15 : zblk i_Md_closes 15 = [(.aload 0, 0, 0), (.invokevirtual 0, 189, 0), (.istore 6, 0, 0), (.aload 0, 0, 0), (.getfield 0, 11, 16), (.iload 3, 0, 0), (.iload 6, 0, 0), (.iconst (38), 0, 0), (.if_icmp .ne 0, 17, 0), (.goto_w 0, 16, 0)] := rfl
theorem k_Md_closes_16 : zblk i_Md_closes 16 = [(.iconst (3), 0, 0), (.goto 0, 18, 0)] := rfl
theorem k_Md_closes_17 : zblk i_Md_closes 17 = [(.iconst (4), 0, 0), (.goto_w 0, 18, 0)] := rfl
theorem k_Md_closes_18 : zblk i_Md_closes 18 = [(.iastore, 0, 0), (.aload 0, 0, 0), (.aload 0, 0, 0), (.getfield 0, 11, 26), (.ifCond .ne 0, 21, 0), (.goto_w 0, 19, 0)] := rfl
theorem k_Md_closes_19 : zblk i_Md_closes 19 = [(.iload 6, 0, 0), (.iconst (38), 0, 0), (.if_icmp .eq 0, 22, 0), (.goto_w 0, 20, 0)] := rfl
theorem k_Md_closes_20 : zblk i_Md_closes 20 = [(.iload 6, 0, 0), (.iconst (124), 0, 0), (.if_icmp .eq 0, 22, 0), (.goto_w 0, 21, 0)] := rfl
theorem k_Md_closes_21 : zblk i_Md_closes 21 = [(.iconst (1), 0, 0), (.goto 0, 23, 0)] := rfl
theorem k_Md_closes_22 : zblk i_Md_closes 22 = [(.iconst (0), 0, 0), (.goto_w 0, 23, 0)] := rfl
theorem k_Md_closes_23 : zblk i_Md_closes 23 = [(.putfield 0, 11, 26), (.aload 0, 0, 0), (.dup, 0, 0), (.getfield 0, 11, 25), (.aload 0, 0, 0), (.getfield 0, 11, 26), (.ifCond .eq 0, 25, 0), (.goto_w 0, 24, 0)] := rfl
theorem k_Md_closes_24 : zblk i_Md_closes 24 = [(.iconst (0), 0, 0), (.goto 0, 26, 0)] := rfl
theorem k_Md_closes_25 : zblk i_Md_closes 25 = [(.iconst (1), 0, 0), (.goto_w 0, 26, 0)] := rfl
theorem k_Md_closes_26 : zblk i_Md_closes 26 = [(.iadd, 0, 0), (.putfield 0, 11, 25), (.goto 0, 28, 0)] := rfl
theorem k_Md_closes_27 : zblk i_Md_closes 27 = [(.aload 0, 0, 0), (.iconst (85), 0, 0), (.invokevirtual 0, 190, 0), (.goto_w 0, 28, 0)] := rfl
theorem k_Md_closes_28 : zblk i_Md_closes 28 = [(.iconst (-1), 0, 0), (.istore 2, 0, 0), (.goto_w 0, 29, 0)] := rfl
theorem k_Md_closes_29 : zblk i_Md_closes 29 = [(.goto 0, 1, 0)] := rfl
theorem k_Md_closes_30 : zblk i_Md_closes 30 = [(.return_, 0, 0)] := rfl
theorem a_Md_closes : zmA i_Md_closes = 1 := rfl
theorem l_Md_closes : zmL i_Md_closes = 7 := rfl
theorem r_Md_closes : zmR i_Md_closes = none := rfl
theorem o_Md_closes : zmO i_Md_closes = 11 := rfl
theorem k_Md_form_0 : zblk i_Md_form 0 = [(.aload 0, 0, 0), (.iconst (0), 0, 0), (.putfield 0, 11, 25), (.aload 0, 0, 0), (.iconst (0), 0, 0), (.putfield 0, 11, 26), (.aload 0, 0, 0), (.iconst (0), 0, 0), (.putfield 0, 11, 15), (.aload 0, 0, 0), (.iconst (0), 0, 0), (.putfield 0, 11, 22), (.iconst (1), 0, 0), (.istore 1, 0, 0), (.goto_w 0, 1, 0)] := rfl
theorem k_Md_form_1 : zblk i_Md_form 1 = [(.iload 1, 0, 0), (.ifCond .eq 0, 10, 0), (.goto_w 0, 2, 0)] := rfl
theorem k_Md_form_2 : zblk i_Md_form 2 = [(.aload 0, 0, 0), (.getfield 0, 11, 26), (.ifCond .ne 0, 10, 0), (.goto_w 0, 3, 0)] := rfl
theorem k_Md_form_3 : zblk i_Md_form 3 = [(.aload 0, 0, 0), (.getfield 0, 11, 15), (.istore 2, 0, 0), (.aload 0, 0, 0), (.invokevirtual 0, 193, 0), (.ifCond .eq 0, 9, 0), (.goto_w 0, 4, 0)] := rfl
theorem k_Md_form_4 : zblk i_Md_form 4 = [(.aload 0, 0, 0), (.getfield 0, 11, 26), (.ifCond .ne 0, 9, 0), (.goto_w 0, 5, 0)] := rfl
theorem k_Md_form_5 : zblk i_Md_form 5 = [(.aload 0, 0, 0), (.iload 2, 0, 0), (.invokevirtual 0, 194, 0), (.aload 0, 0, 0), (.getfield 0, 11, 22), (.ifCond .le 0, 7, 0), (.goto_w 0, 6, 0)] := rfl
theorem k_Md_form_6 : zblk i_Md_form 6 = [(.iconst (1), 0, 0), (.goto 0, 8, 0)] := rfl
theorem k_Md_form_7 : zblk i_Md_form 7 = [(.iconst (0), 0, 0), (.goto_w 0, 8, 0)] := rfl
theorem k_Md_form_8 : zblk i_Md_form 8 = [(.istore 1, 0, 0), (.goto_w 0, 9, 0)] := rfl
theorem k_Md_form_9 : zblk i_Md_form 9 = [(.goto 0, 1, 0)] := rfl
theorem k_Md_form_10 : zblk i_Md_form 10 = [(.aload 0, 0, 0), (.aload 0, 0, 0), (.getfield 0, 11, 26), (.ifCond .ne 0, 12, 0), (.goto_w 0, 11, 0)] := rfl
theorem k_Md_form_11 : zblk i_Md_form 11 = [(.aload 0, 0, 0), (.invokevirtual 0, 189, 0), (.ifCond .eq 0, 13, 0), (.goto_w 0, 12, 0)] := rfl
theorem k_Md_form_12 : zblk i_Md_form 12 = [(.iconst (1), 0, 0), (.goto 0, 14, 0)] := rfl
theorem k_Md_form_13 : zblk i_Md_form 13 = [(.iconst (0), 0, 0), (.goto_w 0, 14, 0)] := rfl
theorem k_Md_form_14 : zblk i_Md_form 14 = [(.putfield 0, 11, 26), (.aload 0, 0, 0), (.iconst (0), 0, 0), (.putfield 0, 11, 24), (.aload 0, 0, 0), (.getfield 0, 11, 26), (.ifCond .eq 0, 16, 0), (.goto_w 0, 15, 0)] := rfl
theorem k_Md_form_15 : zblk i_Md_form 15 = [(.iconst (-20), 0, 0), (.aload 0, 0, 0), (.getfield 0, 11, 25), (.isub, 0, 0), (.ireturn, 0, 0)] := rfl
theorem k_Md_form_16 : zblk i_Md_form 16 = [(.aload 0, 0, 0), (.aload 0, 0, 0), (.getfield 0, 11, 15), (.putfield 0, 11, 10), (.iconst (0), 0, 0), (.istore 2, 0, 0), (.goto_w 0, 17, 0)] := rfl
theorem k_Md_form_17 : zblk i_Md_form 17 = [(.iload 2, 0, 0), (.aload 0, 0, 0), (.getfield 0, 11, 10), (.if_icmp .ge 0, 19, 0), (.goto_w 0, 18, 0)] := rfl
theorem k_Md_form_18 : zblk i_Md_form 18 = [(.aload 0, 0, 0), (.getfield 0, 11, 11), (.iload 2, 0, 0), (.aload 0, 0, 0), (.getfield 0, 11, 16), (.iload 2, 0, 0), (.iaload, 0, 0), (.iastore, 0, 0), (.aload 0, 0, 0), (.getfield 0, 11, 12), (.iload 2, 0, 0), (.aload 0, 0, 0), (.getfield 0, 11, 17), (.iload 2, 0, 0), (.iaload, 0, 0), (.iastore, 0, 0), (.aload 0, 0, 0), (.getfield 0, 11, 13), (.iload 2, 0, 0), (.aload 0, 0, 0), (.getfield 0, 11, 18), (.iload 2, 0, 0), (.iaload, 0, 0), (.iastore, 0, 0), (.aload 0, 0, 0), (.getfield 0, 11, 14), (.iload 2, 0, 0), (.aload 0, 0, 0), (.getfield 0, 11, 19), (.iload 2, 0, 0), (.iaload, 0, 0), (.iastore, 0, 0), (.iinc 2 (1), 0, 0), (.goto 0, 17, 0)] := rfl
theorem k_Md_form_19 : zblk i_Md_form 19 = [(.aload 0, 0, 0), (.getfield 0, 11, 10), (.ireturn, 0, 0)] := rfl
theorem a_Md_form : zmA i_Md_form = 0 := rfl
theorem l_Md_form : zmL i_Md_form = 3 := rfl
theorem r_Md_form : zmR i_Md_form = some .int := rfl
theorem o_Md_form : zmO i_Md_form = 11 := rfl
theorem k_Md_whole_0 : zblk i_Md_whole 0 = [(.iconst (1), 0, 0), (.aload 0, 0, 0), (.getfield 0, 11, 0), (.ishl, 0, 0), (.iconst (1), 0, 0), (.isub, 0, 0), (.ireturn, 0, 0)] := rfl
theorem a_Md_whole : zmA i_Md_whole = 0 := rfl
theorem l_Md_whole : zmL i_Md_whole = 1 := rfl
theorem r_Md_whole : zmR i_Md_whole = some .int := rfl
theorem o_Md_whole : zmO i_Md_whole = 11 := rfl
theorem k_Md_forcing_0 : zblk i_Md_forcing 0 = [(.iconst (0), 0, 0), (.istore 3, 0, 0), (.iconst (0), 0, 0), (.istore 4, 0, 0), (.goto_w 0, 1, 0)] := rfl
theorem k_Md_forcing_1 : zblk i_Md_forcing 1 = [(.iload 4, 0, 0), (.aload 0, 0, 0), (.getfield 0, 11, 0), (.if_icmp .ge 0, 6, 0), (.goto_w 0, 2, 0)] := rfl
theorem k_Md_forcing_2 : zblk i_Md_forcing 2 = [(.iload 3, 0, 0), (.aload 0, 0, 0), (.iload 4, 0, 0), (.iload 1, 0, 0), (.iload 2, 0, 0), (.invokevirtual 0, 186, 0), (.ifCond .lt 0, 4, 0), (.goto_w 0, 3, 0)] := rfl
theorem k_Md_forcing_3 : zblk i_Md_forcing 3 = [(.iconst (1), 0, 0), (.iload 4, 0, 0), (.ishl, 0, 0), (.goto 0, 5, 0)] := rfl
theorem k_Md_forcing_4 : zblk i_Md_forcing 4 = [(.iconst (0), 0, 0), (.goto_w 0, 5, 0)] := rfl
theorem k_Md_forcing_5 : zblk i_Md_forcing 5 = [(.ior, 0, 0), (.istore 3, 0, 0), (.iinc 4 (1), 0, 0), (.goto 0, 1, 0)] := rfl
theorem k_Md_forcing_6 : zblk i_Md_forcing 6 = [(.iload 3, 0, 0), (.ireturn, 0, 0)] := rfl
theorem a_Md_forcing : zmA i_Md_forcing = 2 := rfl
theorem l_Md_forcing : zmL i_Md_forcing = 5 := rfl
theorem r_Md_forcing : zmR i_Md_forcing = some .int := rfl
theorem o_Md_forcing : zmO i_Md_forcing = 11 := rfl
theorem k_Md_until_0 : zblk i_Md_until 0 = [(.iload 3, 0, 0), (.istore 4, 0, 0), (.iconst (0), 0, 0), (.istore 5, 0, 0), (.goto_w 0, 1, 0)] := rfl
theorem k_Md_until_1 : zblk i_Md_until 1 = [(.iload 5, 0, 0), (.aload 0, 0, 0), (.getfield 0, 11, 0), (.if_icmp .ge 0, 6, 0), (.goto_w 0, 2, 0)] := rfl
theorem k_Md_until_2 : zblk i_Md_until 2 = [(.aload 0, 0, 0), (.getfield 0, 11, 28), (.iload 5, 0, 0), (.iload 3, 0, 0), (.iload 5, 0, 0), (.ishr, 0, 0), (.iconst (1), 0, 0), (.iand, 0, 0), (.iconst (1), 0, 0), (.if_icmp .ne 0, 4, 0), (.goto_w 0, 3, 0)] := rfl
theorem k_Md_until_3 : zblk i_Md_until 3 = [(.iconst (0), 0, 0), (.goto 0, 5, 0)] := rfl
theorem k_Md_until_4 : zblk i_Md_until 4 = [(.iconst (-4), 0, 0), (.goto_w 0, 5, 0)] := rfl
theorem k_Md_until_5 : zblk i_Md_until 5 = [(.iastore, 0, 0), (.iinc 5 (1), 0, 0), (.goto 0, 1, 0)] := rfl
theorem k_Md_until_6 : zblk i_Md_until 6 = [(.iconst (0), 0, 0), (.istore 5, 0, 0), (.iconst (1), 0, 0), (.istore 6, 0, 0), (.goto_w 0, 7, 0)] := rfl
theorem k_Md_until_7 : zblk i_Md_until 7 = [(.iload 6, 0, 0), (.ifCond .eq 0, 18, 0), (.goto_w 0, 8, 0)] := rfl
theorem k_Md_until_8 : zblk i_Md_until 8 = [(.iinc 5 (1), 0, 0), (.iload 2, 0, 0), (.iload 4, 0, 0), (.iconst (-1), 0, 0), (.ixor, 0, 0), (.iand, 0, 0), (.aload 0, 0, 0), (.iload 1, 0, 0), (.iload 4, 0, 0), (.invokevirtual 0, 197, 0), (.iand, 0, 0), (.istore 7, 0, 0), (.iconst (0), 0, 0), (.istore 8, 0, 0), (.goto_w 0, 9, 0)] := rfl
theorem k_Md_until_9 : zblk i_Md_until 9 = [(.iload 8, 0, 0), (.aload 0, 0, 0), (.getfield 0, 11, 0), (.if_icmp .ge 0, 14, 0), (.goto_w 0, 10, 0)] := rfl
theorem k_Md_until_10 : zblk i_Md_until 10 = [(.aload 0, 0, 0), (.getfield 0, 11, 28), (.iload 8, 0, 0), (.iload 7, 0, 0), (.iload 8, 0, 0), (.ishr, 0, 0), (.iconst (1), 0, 0), (.iand, 0, 0), (.iconst (1), 0, 0), (.if_icmp .ne 0, 12, 0), (.goto_w 0, 11, 0)] := rfl
theorem k_Md_until_11 : zblk i_Md_until 11 = [(.iload 5, 0, 0), (.goto 0, 13, 0)] := rfl
theorem k_Md_until_12 : zblk i_Md_until 12 = [(.aload 0, 0, 0), (.getfield 0, 11, 28), (.iload 8, 0, 0), (.iaload, 0, 0), (.goto_w 0, 13, 0)] := rfl
theorem k_Md_until_13 : zblk i_Md_until 13 = [(.iastore, 0, 0), (.iinc 8 (1), 0, 0), (.goto 0, 9, 0)] := rfl
theorem k_Md_until_14 : zblk i_Md_until 14 = [(.iload 4, 0, 0), (.iload 7, 0, 0), (.ior, 0, 0), (.istore 4, 0, 0), (.iload 7, 0, 0), (.ifCond .eq 0, 16, 0), (.goto_w 0, 15, 0)] := rfl
theorem k_Md_until_15 : zblk i_Md_until 15 = [(.iconst (1), 0, 0), (.goto 0, 17, 0)] := rfl
theorem k_Md_until_16 : zblk i_Md_until 16 = [(.iconst (0), 0, 0), (.goto_w 0, 17, 0)] := rfl
theorem k_Md_until_17 : zblk i_Md_until 17 = [(.istore 6, 0, 0), (.goto 0, 7, 0)] := rfl
theorem k_Md_until_18 : zblk i_Md_until 18 = [(.iload 4, 0, 0), (.ireturn, 0, 0)] := rfl
theorem a_Md_until : zmA i_Md_until = 3 := rfl
theorem l_Md_until : zmL i_Md_until = 9 := rfl
theorem r_Md_until : zmR i_Md_until = some .int := rfl
theorem o_Md_until : zmO i_Md_until = 11 := rfl
theorem k_Md_always_0 : zblk i_Md_always 0 = [(.iload 2, 0, 0), (.istore 3, 0, 0), (.iload 2, 0, 0), (.iconst (-1), 0, 0), (.ixor, 0, 0), (.istore 4, 0, 0), (.goto_w 0, 1, 0)] := rfl
theorem k_Md_always_1 : zblk i_Md_always 1 = [(.iload 3, 0, 0), (.iload 4, 0, 0), (.if_icmp .eq 0, 3, 0), (.goto_w 0, 2, 0)] := rfl
theorem k_Md_always_2 : zblk i_Md_always 2 = [(.iload 3, 0, 0), (.istore 4, 0, 0), (.iload 2, 0, 0), (.iload 3, 0, 0), (.iand, 0, 0), (.aload 0, 0, 0), (.iload 1, 0, 0), (.iload 3, 0, 0), (.invokevirtual 0, 197, 0), (.iand, 0, 0), (.istore 3, 0, 0), (.goto 0, 1, 0)] := rfl
theorem k_Md_always_3 : zblk i_Md_always 3 = [(.iload 3, 0, 0), (.ireturn, 0, 0)] := rfl
theorem a_Md_always : zmA i_Md_always = 2 := rfl
theorem l_Md_always : zmL i_Md_always = 5 := rfl
theorem r_Md_always : zmR i_Md_always = some .int := rfl
theorem o_Md_always : zmO i_Md_always = 11 := rfl
theorem k_Md_again_0 : zblk i_Md_again 0 = [(.aload 0, 0, 0), (.invokevirtual 0, 196, 0), (.istore 3, 0, 0), (.iconst (0), 0, 0), (.istore 4, 0, 0), (.goto_w 0, 1, 0)] := rfl
theorem k_Md_again_1 : zblk i_Md_again 1 = [(.iload 3, 0, 0), (.iload 4, 0, 0), (.if_icmp .eq 0, 3, 0), (.goto_w 0, 2, 0)] := rfl
theorem k_Md_again_2 : zblk i_Md_again 2 = [(.iload 3, 0, 0), (.istore 4, 0, 0), (.aload 0, 0, 0), (.iload 1, 0, 0), (.aload 0, 0, 0), (.invokevirtual 0, 196, 0), (.iload 2, 0, 0), (.aload 0, 0, 0), (.iload 1, 0, 0), (.iload 3, 0, 0), (.invokevirtual 0, 197, 0), (.iand, 0, 0), (.invokevirtual 0, 198, 0), (.istore 3, 0, 0), (.goto 0, 1, 0)] := rfl
theorem k_Md_again_3 : zblk i_Md_again 3 = [(.iload 3, 0, 0), (.ireturn, 0, 0)] := rfl
theorem a_Md_again : zmA i_Md_again = 2 := rfl
theorem l_Md_again : zmL i_Md_again = 5 := rfl
theorem r_Md_again : zmR i_Md_again = some .int := rfl
theorem o_Md_again : zmO i_Md_again = 11 := rfl
theorem k_Md_heldOf_0 : zblk i_Md_heldOf 0 = [(.aload 0, 0, 0), (.getfield 0, 11, 27), (.aload 0, 0, 0), (.getfield 0, 11, 12), (.iload 1, 0, 0), (.iaload, 0, 0), (.iconst (24), 0, 0), (.irem, 0, 0), (.iaload, 0, 0), (.istore 3, 0, 0), (.aload 0, 0, 0), (.getfield 0, 11, 27), (.aload 0, 0, 0), (.getfield 0, 11, 13), (.iload 1, 0, 0), (.iaload, 0, 0), (.iconst (24), 0, 0), (.irem, 0, 0), (.iaload, 0, 0), (.istore 4, 0, 0), (.aload 0, 0, 0), (.getfield 0, 11, 11), (.iload 1, 0, 0), (.iaload, 0, 0), (.tableswitch 13 (0) (8) #[1, 2, 6, 7, 8, 9, 10, 11, 12], 0, 0)] := rfl
theorem k_Md_heldOf_1 : zblk i_Md_heldOf 1 = [(.aload 0, 0, 0), (.invokevirtual 0, 196, 0), (.ireturn, 0, 0)] := rfl
theorem k_Md_heldOf_2 : zblk i_Md_heldOf 2 = [(.iconst (0), 0, 0), (.istore 5, 0, 0), (.iconst (0), 0, 0), (.istore 6, 0, 0), (.goto_w 0, 3, 0)] := rfl
theorem k_Md_heldOf_3 : zblk i_Md_heldOf 3 = [(.iload 6, 0, 0), (.aload 0, 0, 0), (.getfield 0, 11, 0), (.if_icmp .ge 0, 5, 0), (.goto_w 0, 4, 0)] := rfl
theorem k_Md_heldOf_4 : zblk i_Md_heldOf 4 = [(.iload 5, 0, 0), (.aload 0, 0, 0), (.getfield 0, 11, 5), (.iload 6, 0, 0), (.iaload, 0, 0), (.aload 0, 0, 0), (.getfield 0, 11, 12), (.iload 1, 0, 0), (.iaload, 0, 0), (.ishr, 0, 0), (.iconst (1), 0, 0), (.iand, 0, 0), (.iload 6, 0, 0), (.ishl, 0, 0), (.ior, 0, 0), (.istore 5, 0, 0), (.iinc 6 (1), 0, 0), (.goto 0, 3, 0)] := rfl
theorem k_Md_heldOf_5 : zblk i_Md_heldOf 5 = [(.iload 5, 0, 0), (.ireturn, 0, 0)] := rfl
theorem k_Md_heldOf_6 : zblk i_Md_heldOf 6 = [(.aload 0, 0, 0), (.invokevirtual 0, 196, 0), (.iload 3, 0, 0), (.iconst (-1), 0, 0), (.ixor, 0, 0), (.iand, 0, 0), (.ireturn, 0, 0)] := rfl
theorem k_Md_heldOf_7 : zblk i_Md_heldOf 7 = [(.iload 3, 0, 0), (.iload 4, 0, 0), (.iand, 0, 0), (.ireturn, 0, 0)] := rfl
theorem k_Md_heldOf_8 : zblk i_Md_heldOf 8 = [(.iload 3, 0, 0), (.iload 4, 0, 0), (.ior, 0, 0), (.ireturn, 0, 0)] := rfl
theorem k_Md_heldOf_9 : zblk i_Md_heldOf 9 = [(.aload 0, 0, 0), (.iload 2, 0, 0), (.iload 3, 0, 0), (.invokevirtual 0, 197, 0), (.ireturn, 0, 0)] := rfl
theorem k_Md_heldOf_10 : zblk i_Md_heldOf 10 = [(.aload 0, 0, 0), (.iload 2, 0, 0), (.iload 3, 0, 0), (.invokevirtual 0, 199, 0), (.ireturn, 0, 0)] := rfl
theorem k_Md_heldOf_11 : zblk i_Md_heldOf 11 = [(.aload 0, 0, 0), (.iload 2, 0, 0), (.aload 0, 0, 0), (.invokevirtual 0, 196, 0), (.iload 3, 0, 0), (.invokevirtual 0, 198, 0), (.ireturn, 0, 0)] := rfl
theorem k_Md_heldOf_12 : zblk i_Md_heldOf 12 = [(.aload 0, 0, 0), (.iload 2, 0, 0), (.iload 3, 0, 0), (.invokevirtual 0, 200, 0), (.ireturn, 0, 0)] := rfl
theorem k_Md_heldOf_13 : zblk i_Md_heldOf 13 = [(.aload 0, 0, 0), (.iload 2, 0, 0), (.iload 3, 0, 0), (.iload 4, 0, 0), (.invokevirtual 0, 198, 0), (.ireturn, 0, 0)] := rfl
theorem a_Md_heldOf : zmA i_Md_heldOf = 2 := rfl
theorem l_Md_heldOf : zmL i_Md_heldOf = 7 := rfl
theorem r_Md_heldOf : zmR i_Md_heldOf = some .int := rfl
theorem o_Md_heldOf : zmO i_Md_heldOf = 11 := rfl
theorem k_Md_tell_0 : zblk i_Md_tell 0 = [(.aload 0, 0, 0), (.getfield 0, 11, 10), (.iconst (1), 0, 0), (.isub, 0, 0), (.istore 1, 0, 0), (.goto_w 0, 1, 0)] := rfl
theorem k_Md_tell_1 : zblk i_Md_tell 1 = [(.iload 1, 0, 0), (.ifCond .lt 0, 3, 0), (.goto_w 0, 2, 0)] := rfl
theorem k_Md_tell_2 : zblk i_Md_tell 2 = [(.aload 0, 0, 0), (.getfield 0, 11, 27), (.iload 1, 0, 0), (.aload 0, 0, 0), (.iload 1, 0, 0), (.aload 0, 0, 0), (.getfield 0, 11, 14), (.iload 1, 0, 0), (.iaload, 0, 0), (.invokevirtual 0, 201, 0), (.iastore, 0, 0), (.iinc 1 (-1), 0, 0), (.goto 0, 1, 0)] := rfl
theorem k_Md_tell_3 : zblk i_Md_tell 3 = [(.aload 0, 0, 0), (.getfield 0, 11, 27), (.iconst (0), 0, 0), (.iaload, 0, 0), (.ireturn, 0, 0)] := rfl
theorem a_Md_tell : zmA i_Md_tell = 0 := rfl
theorem l_Md_tell : zmL i_Md_tell = 2 := rfl
theorem r_Md_tell : zmR i_Md_tell = some .int := rfl
theorem o_Md_tell : zmO i_Md_tell = 11 := rfl
theorem k_Md_holds_0 : zblk i_Md_holds 0 = [(.aload 0, 0, 0), (.invokevirtual 0, 202, 0), (.ireturn, 0, 0)] := rfl
theorem a_Md_holds : zmA i_Md_holds = 0 := rfl
theorem l_Md_holds : zmL i_Md_holds = 1 := rfl
theorem r_Md_holds : zmR i_Md_holds = some .int := rfl
theorem o_Md_holds : zmO i_Md_holds = 11 := rfl
theorem k_Md_part_0 : zblk i_Md_part 0 = [(.iload 1, 0, 0), (.i2l, 0, 0), (.sipush (0), 0, 0), (.aload 0, 0, 0), (.getfield 0, 11, 10), (.iconst (1), 0, 0), (.isub, 0, 0), (.i2l, 0, 0), (.invokestatic 0, 166, 0), (.ifCond .ne 0, 2, 0), (.goto_w 0, 1, 0)] := rfl
theorem k_Md_part_1 : zblk i_Md_part 1 = [(.iconst (-1), 0, 0), (.ireturn, 0, 0)] := rfl
theorem k_Md_part_2 : zblk i_Md_part 2 = [(.aload 0, 0, 0), (.invokevirtual 0, 202, 0), (.istore 2, 0, 0), (.iload 1, 0, 0), (.ifCond .ne 0, 4, 0), (.goto_w 0, 3, 0)] := rfl
theorem k_Md_part_3 : zblk i_Md_part 3 = [(.iload 2, 0, 0), (.goto 0, 5, 0)] := rfl
theorem k_Md_part_4 : zblk i_Md_part 4 = [(.aload 0, 0, 0), (.getfield 0, 11, 27), (.iload 1, 0, 0), (.iaload, 0, 0), (.goto_w 0, 5, 0)] := rfl
theorem k_Md_part_5 : zblk i_Md_part 5 = [(.ireturn, 0, 0)] := rfl
theorem a_Md_part : zmA i_Md_part = 1 := rfl
theorem l_Md_part : zmL i_Md_part = 3 := rfl
theorem r_Md_part : zmR i_Md_part = some .int := rfl
theorem o_Md_part : zmO i_Md_part = 11 := rfl
theorem k_Md_isOfGroup_0 : zblk i_Md_isOfGroup 0 = [(.aload 0, 0, 0), (.getfield 0, 11, 11), (.iconst (0), 0, 0), (.iaload, 0, 0), (.iconst (5), 0, 0), (.if_icmp .lt 0, 2, 0), (.goto_w 0, 1, 0)] := rfl
theorem k_Md_isOfGroup_1 : zblk i_Md_isOfGroup 1 = [(.iconst (1), 0, 0), (.goto 0, 3, 0)] := rfl
theorem k_Md_isOfGroup_2 : zblk i_Md_isOfGroup 2 = [(.iconst (0), 0, 0), (.goto_w 0, 3, 0)] := rfl
theorem k_Md_isOfGroup_3 : zblk i_Md_isOfGroup 3 = [(.ireturn, 0, 0)] := rfl
theorem a_Md_isOfGroup : zmA i_Md_isOfGroup = 0 := rfl
theorem l_Md_isOfGroup : zmL i_Md_isOfGroup = 1 := rfl
theorem r_Md_isOfGroup : zmR i_Md_isOfGroup = some .boolean := rfl
theorem o_Md_isOfGroup : zmO i_Md_isOfGroup = 11 := rfl
theorem k_Md_hasRounds_0 : zblk i_Md_hasRounds 0 = [(.aload 0, 0, 0), (.getfield 0, 11, 11), (.iconst (0), 0, 0), (.iaload, 0, 0), (.iconst (7), 0, 0), (.if_icmp .eq 0, 3, 0), (.goto_w 0, 1, 0)] := rfl
theorem k_Md_hasRounds_1 : zblk i_Md_hasRounds 1 = [(.aload 0, 0, 0), (.getfield 0, 11, 11), (.iconst (0), 0, 0), (.iaload, 0, 0), (.iconst (8), 0, 0), (.if_icmp .eq 0, 3, 0), (.goto_w 0, 2, 0)] := rfl
theorem k_Md_hasRounds_2 : zblk i_Md_hasRounds 2 = [(.aload 0, 0, 0), (.getfield 0, 11, 11), (.iconst (0), 0, 0), (.iaload, 0, 0), (.iconst (9), 0, 0), (.if_icmp .ne 0, 4, 0), (.goto_w 0, 3, 0)] := rfl
theorem k_Md_hasRounds_3 : zblk i_Md_hasRounds 3 = [(.iconst (1), 0, 0), (.goto 0, 5, 0)] := rfl
theorem k_Md_hasRounds_4 : zblk i_Md_hasRounds 4 = [(.iconst (0), 0, 0), (.goto_w 0, 5, 0)] := rfl
theorem k_Md_hasRounds_5 : zblk i_Md_hasRounds 5 = [(.ireturn, 0, 0)] := rfl
theorem a_Md_hasRounds : zmA i_Md_hasRounds = 0 := rfl
theorem l_Md_hasRounds : zmL i_Md_hasRounds = 1 := rfl
theorem r_Md_hasRounds : zmR i_Md_hasRounds = some .boolean := rfl
theorem o_Md_hasRounds : zmO i_Md_hasRounds = 11 := rfl
theorem k_Md_round_0 : zblk i_Md_round 0 = [(.aload 0, 0, 0), (.iload 1, 0, 0), (.invokevirtual 0, 170, 0), (.ifCond .ne 0, 2, 0), (.goto_w 0, 1, 0)] := rfl
theorem k_Md_round_1 : zblk i_Md_round 1 = [(.iconst (-1), 0, 0), (.ireturn, 0, 0)] := rfl
theorem k_Md_round_2 : zblk i_Md_round 2 = [(.aload 0, 0, 0), (.invokevirtual 0, 206, 0), (.ifCond .ne 0, 4, 0), (.goto_w 0, 3, 0)] := rfl
theorem k_Md_round_3 : zblk i_Md_round 3 = [(.iconst (-2), 0, 0), (.ireturn, 0, 0)] := rfl
theorem k_Md_round_4 : zblk i_Md_round 4 = [(.aload 0, 0, 0), (.invokevirtual 0, 202, 0), (.iload 1, 0, 0), (.ishr, 0, 0), (.iconst (1), 0, 0), (.iand, 0, 0), (.iconst (1), 0, 0), (.if_icmp .ne 0, 6, 0), (.goto_w 0, 5, 0)] := rfl
theorem k_Md_round_5 : zblk i_Md_round 5 = [(.aload 0, 0, 0), (.getfield 0, 11, 28), (.iload 1, 0, 0), (.iaload, 0, 0), (.goto 0, 7, 0)] := rfl
theorem k_Md_round_6 : zblk i_Md_round 6 = [(.iconst (-4), 0, 0), (.goto_w 0, 7, 0)] := rfl
theorem k_Md_round_7 : zblk i_Md_round 7 = [(.ireturn, 0, 0)] := rfl
theorem a_Md_round : zmA i_Md_round = 1 := rfl
theorem l_Md_round : zmL i_Md_round = 2 := rfl
theorem r_Md_round : zmR i_Md_round = some .int := rfl
theorem o_Md_round : zmO i_Md_round = 11 := rfl
theorem k_Md_aim_0 : zblk i_Md_aim 0 = [(.aload 0, 0, 0), (.invokevirtual 0, 202, 0), (.istore 2, 0, 0), (.iload 2, 0, 0), (.iload 1, 0, 0), (.ishr, 0, 0), (.iconst (1), 0, 0), (.iand, 0, 0), (.ifCond .ne 0, 2, 0), (.goto_w 0, 1, 0)] := rfl
theorem k_Md_aim_1 : zblk i_Md_aim 1 = [(.iconst (-1), 0, 0), (.ireturn, 0, 0)] := rfl
theorem k_Md_aim_2 : zblk i_Md_aim 2 = [(.aload 0, 0, 0), (.getfield 0, 11, 11), (.iconst (0), 0, 0), (.iaload, 0, 0), (.iconst (5), 0, 0), (.if_icmp .ne 0, 4, 0), (.goto_w 0, 3, 0)] := rfl
theorem k_Md_aim_3 : zblk i_Md_aim 3 = [(.aload 0, 0, 0), (.getfield 0, 11, 27), (.aload 0, 0, 0), (.getfield 0, 11, 12), (.iconst (0), 0, 0), (.iaload, 0, 0), (.iaload, 0, 0), (.ireturn, 0, 0)] := rfl
theorem k_Md_aim_4 : zblk i_Md_aim 4 = [(.aload 0, 0, 0), (.getfield 0, 11, 11), (.iconst (0), 0, 0), (.iaload, 0, 0), (.iconst (6), 0, 0), (.if_icmp .eq 0, 7, 0), (.goto_w 0, 5, 0)] := rfl
theorem k_Md_aim_5 : zblk i_Md_aim 5 = [(.aload 0, 0, 0), (.getfield 0, 11, 11), (.iconst (0), 0, 0), (.iaload, 0, 0), (.iconst (8), 0, 0), (.if_icmp .ne 0, 8, 0), (.goto_w 0, 6, 0)] := rfl
theorem k_Md_aim_6 : zblk i_Md_aim 6 = [(.aload 0, 0, 0), (.getfield 0, 11, 28), (.iload 1, 0, 0), (.iaload, 0, 0), (.ifCond .ne 0, 8, 0), (.goto_w 0, 7, 0)] := rfl
theorem k_Md_aim_7 : zblk i_Md_aim 7 = [(.iload 2, 0, 0), (.ireturn, 0, 0)] := rfl
theorem k_Md_aim_8 : zblk i_Md_aim 8 = [(.iconst (0), 0, 0), (.istore 3, 0, 0), (.iconst (0), 0, 0), (.istore 4, 0, 0), (.goto_w 0, 9, 0)] := rfl
theorem k_Md_aim_9 : zblk i_Md_aim 9 = [(.iload 4, 0, 0), (.aload 0, 0, 0), (.getfield 0, 11, 0), (.if_icmp .ge 0, 15, 0), (.goto_w 0, 10, 0)] := rfl
theorem k_Md_aim_10 : zblk i_Md_aim 10 = [(.iload 3, 0, 0), (.aload 0, 0, 0), (.getfield 0, 11, 28), (.iload 4, 0, 0), (.iaload, 0, 0), (.ifCond .lt 0, 13, 0), (.goto_w 0, 11, 0)] := rfl
theorem k_Md_aim_11 : zblk i_Md_aim 11 = [(.aload 0, 0, 0), (.getfield 0, 11, 28), (.iload 4, 0, 0), (.iaload, 0, 0), (.aload 0, 0, 0), (.getfield 0, 11, 28), (.iload 1, 0, 0), (.iaload, 0, 0), (.if_icmp .ge 0, 13, 0), (.goto_w 0, 12, 0)] := rfl
theorem k_Md_aim_12 : zblk i_Md_aim 12 = [(.iconst (1), 0, 0), (.iload 4, 0, 0), (.ishl, 0, 0), (.goto 0, 14, 0)] := rfl
theorem k_Md_aim_13 : zblk i_Md_aim 13 = [(.iconst (0), 0, 0), (.goto_w 0, 14, 0)] := rfl
theorem k_Md_aim_14 : zblk i_Md_aim 14 = [(.ior, 0, 0), (.istore 3, 0, 0), (.iinc 4 (1), 0, 0), (.goto 0, 9, 0)] := rfl
theorem k_Md_aim_15 : zblk i_Md_aim 15 = [(.aload 0, 0, 0), (.getfield 0, 11, 28), (.iload 1, 0, 0), (.iaload, 0, 0), (.ifCond .ne 0, 17, 0), (.goto_w 0, 16, 0)] := rfl
theorem k_Md_aim_16 : zblk i_Md_aim 16 = [(.iconst (-1), 0, 0), (.goto 0, 18, 0)] := rfl
theorem k_Md_aim_17 : zblk i_Md_aim 17 = [(.iload 3, 0, 0), (.goto_w 0, 18, 0)] := rfl
theorem k_Md_aim_18 : zblk i_Md_aim 18 = [(.ireturn, 0, 0)] := rfl
theorem a_Md_aim : zmA i_Md_aim = 1 := rfl
theorem l_Md_aim : zmL i_Md_aim = 5 := rfl
theorem r_Md_aim : zmR i_Md_aim = some .int := rfl
theorem o_Md_aim : zmO i_Md_aim = 11 := rfl
theorem k_Md_planOf_0 : zblk i_Md_planOf 0 = [(.aload 0, 0, 0), (.iload 1, 0, 0), (.invokevirtual 0, 208, 0), (.istore 2, 0, 0), (.iload 2, 0, 0), (.ifCond .ge 0, 2, 0), (.goto_w 0, 1, 0)] := rfl
theorem k_Md_planOf_1 : zblk i_Md_planOf 1 = [(.iconst (-4), 0, 0), (.goto 0, 3, 0)] := rfl
theorem k_Md_planOf_2 : zblk i_Md_planOf 2 = [(.aload 0, 0, 0), (.iload 1, 0, 0), (.aload 0, 0, 0), (.getfield 0, 11, 14), (.iconst (0), 0, 0), (.iaload, 0, 0), (.iload 2, 0, 0), (.invokevirtual 0, 186, 0), (.goto_w 0, 3, 0)] := rfl
theorem k_Md_planOf_3 : zblk i_Md_planOf 3 = [(.ireturn, 0, 0)] := rfl
theorem a_Md_planOf : zmA i_Md_planOf = 1 := rfl
theorem l_Md_planOf : zmL i_Md_planOf = 3 := rfl
theorem r_Md_planOf : zmR i_Md_planOf = some .int := rfl
theorem o_Md_planOf : zmO i_Md_planOf = 11 := rfl
theorem k_Md_plan_0 : zblk i_Md_plan 0 = [(.aload 0, 0, 0), (.iload 1, 0, 0), (.invokevirtual 0, 170, 0), (.ifCond .ne 0, 2, 0), (.goto_w 0, 1, 0)] := rfl
theorem k_Md_plan_1 : zblk i_Md_plan 1 = [(.iconst (-1), 0, 0), (.ireturn, 0, 0)] := rfl
theorem k_Md_plan_2 : zblk i_Md_plan 2 = [(.aload 0, 0, 0), (.invokevirtual 0, 205, 0), (.ifCond .eq 0, 4, 0), (.goto_w 0, 3, 0)] := rfl
theorem k_Md_plan_3 : zblk i_Md_plan 3 = [(.aload 0, 0, 0), (.iload 1, 0, 0), (.invokevirtual 0, 209, 0), (.goto 0, 5, 0)] := rfl
theorem k_Md_plan_4 : zblk i_Md_plan 4 = [(.iconst (-2), 0, 0), (.goto_w 0, 5, 0)] := rfl
theorem k_Md_plan_5 : zblk i_Md_plan 5 = [(.ireturn, 0, 0)] := rfl
theorem a_Md_plan : zmA i_Md_plan = 1 := rfl
theorem l_Md_plan : zmL i_Md_plan = 2 := rfl
theorem r_Md_plan : zmR i_Md_plan = some .int := rfl
theorem o_Md_plan : zmO i_Md_plan = 11 := rfl
theorem k_Md_answer_0 : zblk i_Md_answer 0 = [(.aload 0, 0, 0), (.iload 1, 0, 0), (.invokevirtual 0, 170, 0), (.ifCond .ne 0, 2, 0), (.goto_w 0, 1, 0)] := rfl
theorem k_Md_answer_1 : zblk i_Md_answer 1 = [(.iconst (-1), 0, 0), (.ireturn, 0, 0)] := rfl
theorem k_Md_answer_2 : zblk i_Md_answer 2 = [(.aload 0, 0, 0), (.invokevirtual 0, 205, 0), (.ifCond .ne 0, 4, 0), (.goto_w 0, 3, 0)] := rfl
theorem k_Md_answer_3 : zblk i_Md_answer 3 = [(.iconst (-2), 0, 0), (.ireturn, 0, 0)] := rfl
theorem k_Md_answer_4 : zblk i_Md_answer 4 = [(.iload 2, 0, 0), (.i2l, 0, 0), (.sipush (0), 0, 0), (.aload 0, 0, 0), (.iload 1, 0, 0), (.aload 0, 0, 0), (.getfield 0, 11, 14), (.iconst (0), 0, 0), (.iaload, 0, 0), (.invokevirtual 0, 175, 0), (.iconst (1), 0, 0), (.isub, 0, 0), (.i2l, 0, 0), (.invokestatic 0, 166, 0), (.ifCond .ne 0, 6, 0), (.goto_w 0, 5, 0)] := rfl
theorem k_Md_answer_5 : zblk i_Md_answer 5 = [(.iconst (-1), 0, 0), (.ireturn, 0, 0)] := rfl
theorem k_Md_answer_6 : zblk i_Md_answer 6 = [(.aload 0, 0, 0), (.invokevirtual 0, 202, 0), (.istore 3, 0, 0), (.aload 0, 0, 0), (.getfield 0, 11, 11), (.iconst (0), 0, 0), (.iaload, 0, 0), (.iconst (5), 0, 0), (.if_icmp .ne 0, 8, 0), (.goto_w 0, 7, 0)] := rfl
theorem k_Md_answer_7 : zblk i_Md_answer 7 = [(.aload 0, 0, 0), (.getfield 0, 11, 27), (.aload 0, 0, 0), (.getfield 0, 11, 12), (.iconst (0), 0, 0), (.iaload, 0, 0), (.iaload, 0, 0), (.goto 0, 9, 0)] := rfl
theorem k_Md_answer_8 : zblk i_Md_answer 8 = [(.iload 3, 0, 0), (.goto_w 0, 9, 0)] := rfl
theorem k_Md_answer_9 : zblk i_Md_answer 9 = [(.istore 4, 0, 0), (.aload 0, 0, 0), (.iload 1, 0, 0), (.aload 0, 0, 0), (.aload 0, 0, 0), (.getfield 0, 11, 14), (.iconst (0), 0, 0), (.iaload, 0, 0), (.invokevirtual 0, 185, 0), (.invokevirtual 0, 175, 0), (.istore 5, 0, 0), (.iconst (0), 0, 0), (.istore 6, 0, 0), (.goto_w 0, 10, 0)] := rfl
theorem k_Md_answer_10 : zblk i_Md_answer 10 = [(.iload 6, 0, 0), (.iload 5, 0, 0), (.if_icmp .ge 0, 14, 0), (.goto_w 0, 11, 0)] := rfl
theorem k_Md_answer_11 : zblk i_Md_answer 11 = [(.iload 4, 0, 0), (.aload 0, 0, 0), (.iload 1, 0, 0), (.aload 0, 0, 0), (.getfield 0, 11, 14), (.iconst (0), 0, 0), (.iaload, 0, 0), (.iload 2, 0, 0), (.iload 6, 0, 0), (.invokevirtual 0, 184, 0), (.ishr, 0, 0), (.iconst (1), 0, 0), (.iand, 0, 0), (.ifCond .ne 0, 13, 0), (.goto_w 0, 12, 0)] := rfl
theorem k_Md_answer_12 : zblk i_Md_answer 12 = [(.iload 6, 0, 0), (.ireturn, 0, 0)] := rfl
theorem k_Md_answer_13 : zblk i_Md_answer 13 = [(.iinc 6 (1), 0, 0), (.goto 0, 10, 0)] := rfl
theorem k_Md_answer_14 : zblk i_Md_answer 14 = [(.iconst (-4), 0, 0), (.ireturn, 0, 0)] := rfl
theorem a_Md_answer : zmA i_Md_answer = 2 := rfl
theorem l_Md_answer : zmL i_Md_answer = 7 := rfl
theorem r_Md_answer : zmR i_Md_answer = some .int := rfl
theorem o_Md_answer : zmO i_Md_answer = 11 := rfl
theorem k_Md_sumOf_0 : zblk i_Md_sumOf 0 = [(.iconst (0), 0, 0), (.istore 4, 0, 0), (.iload 3, 0, 0), (.istore 5, 0, 0), (.aload 0, 0, 0), (.getfield 0, 11, 1), (.iconst (1), 0, 0), (.isub, 0, 0), (.istore 6, 0, 0), (.goto_w 0, 1, 0)] := rfl
theorem k_Md_sumOf_1 : zblk i_Md_sumOf 1 = [(.iload 6, 0, 0), (.ifCond .lt 0, 5, 0), (.goto_w 0, 2, 0)] := rfl
theorem k_Md_sumOf_2 : zblk i_Md_sumOf 2 = [(.iload 2, 0, 0), (.iload 6, 0, 0), (.ishr, 0, 0), (.iconst (1), 0, 0), (.iand, 0, 0), (.iconst (1), 0, 0), (.if_icmp .ne 0, 4, 0), (.goto_w 0, 3, 0)] := rfl
theorem k_Md_sumOf_3 : zblk i_Md_sumOf 3 = [(.aload 0, 0, 0), (.getfield 0, 11, 2), (.iconst (4), 0, 0), (.iload 1, 0, 0), (.imul, 0, 0), (.iload 6, 0, 0), (.iadd, 0, 0), (.iaload, 0, 0), (.istore 7, 0, 0), (.iload 4, 0, 0), (.aload 0, 0, 0), (.getfield 0, 11, 4), (.iconst (12), 0, 0), (.iload 1, 0, 0), (.imul, 0, 0), (.iconst (3), 0, 0), (.iload 6, 0, 0), (.imul, 0, 0), (.iadd, 0, 0), (.iload 5, 0, 0), (.iload 7, 0, 0), (.irem, 0, 0), (.iadd, 0, 0), (.iaload, 0, 0), (.iadd, 0, 0), (.istore 4, 0, 0), (.iload 5, 0, 0), (.iload 7, 0, 0), (.idiv, 0, 0), (.istore 5, 0, 0), (.goto_w 0, 4, 0)] := rfl
theorem k_Md_sumOf_4 : zblk i_Md_sumOf 4 = [(.iinc 6 (-1), 0, 0), (.goto 0, 1, 0)] := rfl
theorem k_Md_sumOf_5 : zblk i_Md_sumOf 5 = [(.iload 4, 0, 0), (.ireturn, 0, 0)] := rfl
theorem a_Md_sumOf : zmA i_Md_sumOf = 3 := rfl
theorem l_Md_sumOf : zmL i_Md_sumOf = 8 := rfl
theorem r_Md_sumOf : zmR i_Md_sumOf = some .int := rfl
theorem o_Md_sumOf : zmO i_Md_sumOf = 11 := rfl
theorem k_Md_tollBy_0 : zblk i_Md_tollBy 0 = [(.aload 0, 0, 0), (.getfield 0, 11, 14), (.iconst (0), 0, 0), (.iaload, 0, 0), (.istore 3, 0, 0), (.aload 0, 0, 0), (.iload 1, 0, 0), (.aload 0, 0, 0), (.iload 3, 0, 0), (.invokevirtual 0, 185, 0), (.invokevirtual 0, 175, 0), (.istore 4, 0, 0), (.iconst (0), 0, 0), (.istore 5, 0, 0), (.iconst (0), 0, 0), (.istore 6, 0, 0), (.goto_w 0, 1, 0)] := rfl
theorem k_Md_tollBy_1 : zblk i_Md_tollBy 1 = [(.iload 6, 0, 0), (.iload 4, 0, 0), (.if_icmp .ge 0, 9, 0), (.goto_w 0, 2, 0)] := rfl
theorem k_Md_tollBy_2 : zblk i_Md_tollBy 2 = [(.iload 5, 0, 0), (.ifCond .lt 0, 9, 0), (.goto_w 0, 3, 0)] := rfl
theorem k_Md_tollBy_3 : zblk i_Md_tollBy 3 = [(.aload 0, 0, 0), (.getfield 0, 11, 29), (.aload 0, 0, 0), (.iload 1, 0, 0), (.iload 3, 0, 0), (.iload 2, 0, 0), (.iload 6, 0, 0), (.invokevirtual 0, 184, 0), (.iaload, 0, 0), (.istore 7, 0, 0), (.iload 7, 0, 0), (.ifCond .ge 0, 5, 0), (.goto_w 0, 4, 0)] := rfl
theorem k_Md_tollBy_4 : zblk i_Md_tollBy 4 = [(.iconst (-1), 0, 0), (.goto 0, 8, 0)] := rfl
theorem k_Md_tollBy_5 : zblk i_Md_tollBy 5 = [(.iload 7, 0, 0), (.iload 5, 0, 0), (.if_icmp .le 0, 7, 0), (.goto_w 0, 6, 0)] := rfl
theorem k_Md_tollBy_6 : zblk i_Md_tollBy 6 = [(.iload 7, 0, 0), (.goto 0, 8, 0)] := rfl
theorem k_Md_tollBy_7 : zblk i_Md_tollBy 7 = [(.iload 5, 0, 0), (.goto_w 0, 8, 0)] := rfl
theorem k_Md_tollBy_8 : zblk i_Md_tollBy 8 = [(.istore 5, 0, 0), (.iinc 6 (1), 0, 0), (.goto 0, 1, 0)] := rfl
theorem k_Md_tollBy_9 : zblk i_Md_tollBy 9 = [(.iload 5, 0, 0), (.ifCond .ge 0, 11, 0), (.goto_w 0, 10, 0)] := rfl
theorem k_Md_tollBy_10 : zblk i_Md_tollBy 10 = [(.iconst (-1), 0, 0), (.goto 0, 12, 0)] := rfl
theorem k_Md_tollBy_11 : zblk i_Md_tollBy 11 = [(.iload 5, 0, 0), (.aload 0, 0, 0), (.iload 1, 0, 0), (.iload 3, 0, 0), (.iload 2, 0, 0), (.invokevirtual 0, 212, 0), (.iadd, 0, 0), (.goto_w 0, 12, 0)] := rfl
theorem k_Md_tollBy_12 : zblk i_Md_tollBy 12 = [(.ireturn, 0, 0)] := rfl
theorem a_Md_tollBy : zmA i_Md_tollBy = 2 := rfl
theorem l_Md_tollBy : zmL i_Md_tollBy = 8 := rfl
theorem r_Md_tollBy : zmR i_Md_tollBy = some .int := rfl
theorem o_Md_tollBy : zmO i_Md_tollBy = 11 := rfl
theorem k_Md_toll_0 : zblk i_Md_toll 0 = [(.aload 0, 0, 0), (.iload 1, 0, 0), (.invokevirtual 0, 170, 0), (.ifCond .ne 0, 2, 0), (.goto_w 0, 1, 0)] := rfl
theorem k_Md_toll_1 : zblk i_Md_toll 1 = [(.iconst (-1), 0, 0), (.ireturn, 0, 0)] := rfl
theorem k_Md_toll_2 : zblk i_Md_toll 2 = [(.aload 0, 0, 0), (.getfield 0, 11, 11), (.iconst (0), 0, 0), (.iaload, 0, 0), (.iconst (7), 0, 0), (.if_icmp .eq 0, 5, 0), (.goto_w 0, 3, 0)] := rfl
theorem k_Md_toll_3 : zblk i_Md_toll 3 = [(.aload 0, 0, 0), (.getfield 0, 11, 11), (.iconst (0), 0, 0), (.iaload, 0, 0), (.iconst (9), 0, 0), (.if_icmp .eq 0, 5, 0), (.goto_w 0, 4, 0)] := rfl
theorem k_Md_toll_4 : zblk i_Md_toll 4 = [(.iconst (-2), 0, 0), (.ireturn, 0, 0)] := rfl
theorem k_Md_toll_5 : zblk i_Md_toll 5 = [(.aload 0, 0, 0), (.invokevirtual 0, 202, 0), (.istore 2, 0, 0), (.aload 0, 0, 0), (.getfield 0, 11, 11), (.iconst (0), 0, 0), (.iaload, 0, 0), (.iconst (7), 0, 0), (.if_icmp .ne 0, 7, 0), (.goto_w 0, 6, 0)] := rfl
theorem k_Md_toll_6 : zblk i_Md_toll 6 = [(.aload 0, 0, 0), (.invokevirtual 0, 196, 0), (.goto 0, 8, 0)] := rfl
theorem k_Md_toll_7 : zblk i_Md_toll 7 = [(.aload 0, 0, 0), (.getfield 0, 11, 27), (.aload 0, 0, 0), (.getfield 0, 11, 12), (.iconst (0), 0, 0), (.iaload, 0, 0), (.iaload, 0, 0), (.goto_w 0, 8, 0)] := rfl
theorem k_Md_toll_8 : zblk i_Md_toll 8 = [(.istore 3, 0, 0), (.iconst (0), 0, 0), (.istore 4, 0, 0), (.goto_w 0, 9, 0)] := rfl
theorem k_Md_toll_9 : zblk i_Md_toll 9 = [(.iload 4, 0, 0), (.aload 0, 0, 0), (.getfield 0, 11, 0), (.if_icmp .ge 0, 14, 0), (.goto_w 0, 10, 0)] := rfl
theorem k_Md_toll_10 : zblk i_Md_toll 10 = [(.aload 0, 0, 0), (.getfield 0, 11, 29), (.iload 4, 0, 0), (.aload 0, 0, 0), (.getfield 0, 11, 28), (.iload 4, 0, 0), (.iaload, 0, 0), (.ifCond .ne 0, 12, 0), (.goto_w 0, 11, 0)] := rfl
theorem k_Md_toll_11 : zblk i_Md_toll 11 = [(.iconst (0), 0, 0), (.goto 0, 13, 0)] := rfl
theorem k_Md_toll_12 : zblk i_Md_toll 12 = [(.iconst (-1), 0, 0), (.goto_w 0, 13, 0)] := rfl
theorem k_Md_toll_13 : zblk i_Md_toll 13 = [(.iastore, 0, 0), (.iinc 4 (1), 0, 0), (.goto 0, 9, 0)] := rfl
theorem k_Md_toll_14 : zblk i_Md_toll 14 = [(.iconst (1), 0, 0), (.istore 4, 0, 0), (.goto_w 0, 15, 0)] := rfl
theorem k_Md_toll_15 : zblk i_Md_toll 15 = [(.iload 4, 0, 0), (.ifCond .eq 0, 42, 0), (.goto_w 0, 16, 0)] := rfl
theorem k_Md_toll_16 : zblk i_Md_toll 16 = [(.iconst (0), 0, 0), (.istore 4, 0, 0), (.iconst (0), 0, 0), (.istore 5, 0, 0), (.goto_w 0, 17, 0)] := rfl
theorem k_Md_toll_17 : zblk i_Md_toll 17 = [(.iload 5, 0, 0), (.aload 0, 0, 0), (.getfield 0, 11, 0), (.if_icmp .ge 0, 38, 0), (.goto_w 0, 18, 0)] := rfl
theorem k_Md_toll_18 : zblk i_Md_toll 18 = [(.aload 0, 0, 0), (.getfield 0, 11, 30), (.iload 5, 0, 0), (.aload 0, 0, 0), (.getfield 0, 11, 29), (.iload 5, 0, 0), (.iaload, 0, 0), (.iastore, 0, 0), (.aload 0, 0, 0), (.getfield 0, 11, 28), (.iload 5, 0, 0), (.iaload, 0, 0), (.ifCond .eq 0, 21, 0), (.goto_w 0, 19, 0)] := rfl
theorem k_Md_toll_19 : zblk i_Md_toll 19 = [(.iload 3, 0, 0), (.iload 5, 0, 0), (.ishr, 0, 0), (.iconst (1), 0, 0), (.iand, 0, 0), (.iconst (1), 0, 0), (.if_icmp .ne 0, 21, 0), (.goto_w 0, 20, 0)] := rfl
theorem k_Md_toll_20 : zblk i_Md_toll 20 = [(.aload 0, 0, 0), (.iload 5, 0, 0), (.aload 0, 0, 0), (.getfield 0, 11, 14), (.iconst (0), 0, 0), (.iaload, 0, 0), (.invokevirtual 0, 175, 0), (.goto 0, 22, 0)] := rfl
theorem k_Md_toll_21 : zblk i_Md_toll 21 = [(.iconst (0), 0, 0), (.goto_w 0, 22, 0)] := rfl
theorem k_Md_toll_22 : zblk i_Md_toll 22 = [(.istore 6, 0, 0), (.iconst (0), 0, 0), (.istore 7, 0, 0), (.goto_w 0, 23, 0)] := rfl
theorem k_Md_toll_23 : zblk i_Md_toll 23 = [(.iload 7, 0, 0), (.iload 6, 0, 0), (.if_icmp .ge 0, 37, 0), (.goto_w 0, 24, 0)] := rfl
theorem k_Md_toll_24 : zblk i_Md_toll 24 = [(.aload 0, 0, 0), (.iload 5, 0, 0), (.iload 7, 0, 0), (.invokevirtual 0, 213, 0), (.istore 8, 0, 0), (.iload 8, 0, 0), (.ifCond .lt 0, 28, 0), (.goto_w 0, 25, 0)] := rfl
theorem k_Md_toll_25 : zblk i_Md_toll 25 = [(.aload 0, 0, 0), (.getfield 0, 11, 30), (.iload 5, 0, 0), (.iaload, 0, 0), (.ifCond .lt 0, 27, 0), (.goto_w 0, 26, 0)] := rfl
theorem k_Md_toll_26 : zblk i_Md_toll 26 = [(.iload 8, 0, 0), (.aload 0, 0, 0), (.getfield 0, 11, 30), (.iload 5, 0, 0), (.iaload, 0, 0), (.if_icmp .ge 0, 28, 0), (.goto_w 0, 27, 0)] := rfl
theorem k_Md_toll_27 : zblk i_Md_toll 27 = [(.iconst (1), 0, 0), (.goto 0, 29, 0)] := rfl
theorem k_Md_toll_28 : zblk i_Md_toll 28 = [(.iconst (0), 0, 0), (.goto_w 0, 29, 0)] := rfl
theorem k_Md_toll_29 : zblk i_Md_toll 29 = [(.istore 9, 0, 0), (.aload 0, 0, 0), (.getfield 0, 11, 30), (.iload 5, 0, 0), (.iload 9, 0, 0), (.ifCond .eq 0, 31, 0), (.goto_w 0, 30, 0)] := rfl
theorem k_Md_toll_30 : zblk i_Md_toll 30 = [(.iload 8, 0, 0), (.goto 0, 32, 0)] := rfl
theorem k_Md_toll_31 : zblk i_Md_toll 31 = [(.aload 0, 0, 0), (.getfield 0, 11, 30), (.iload 5, 0, 0), (.iaload, 0, 0), (.goto_w 0, 32, 0)] := rfl
theorem k_Md_toll_32 : zblk i_Md_toll 32 = [(.iastore, 0, 0), (.iload 4, 0, 0), (.ifCond .ne 0, 34, 0), (.goto_w 0, 33, 0)] := rfl
theorem k_Md_toll_33 : zblk i_Md_toll 33 = [(.iload 9, 0, 0), (.ifCond .eq 0, 35, 0), (.goto_w 0, 34, 0)] := rfl
theorem k_Md_toll_34 : zblk i_Md_toll 34 = [(.iconst (1), 0, 0), (.goto 0, 36, 0)] := rfl
theorem k_Md_toll_35 : zblk i_Md_toll 35 = [(.iconst (0), 0, 0), (.goto_w 0, 36, 0)] := rfl
theorem k_Md_toll_36 : zblk i_Md_toll 36 = [(.istore 4, 0, 0), (.iinc 7 (1), 0, 0), (.goto 0, 23, 0)] := rfl
theorem k_Md_toll_37 : zblk i_Md_toll 37 = [(.iinc 5 (1), 0, 0), (.goto 0, 17, 0)] := rfl
theorem k_Md_toll_38 : zblk i_Md_toll 38 = [(.iconst (0), 0, 0), (.istore 5, 0, 0), (.goto_w 0, 39, 0)] := rfl
theorem k_Md_toll_39 : zblk i_Md_toll 39 = [(.iload 5, 0, 0), (.aload 0, 0, 0), (.getfield 0, 11, 0), (.if_icmp .ge 0, 41, 0), (.goto_w 0, 40, 0)] := rfl
theorem k_Md_toll_40 : zblk i_Md_toll 40 = [(.aload 0, 0, 0), (.getfield 0, 11, 29), (.iload 5, 0, 0), (.aload 0, 0, 0), (.getfield 0, 11, 30), (.iload 5, 0, 0), (.iaload, 0, 0), (.iastore, 0, 0), (.iinc 5 (1), 0, 0), (.goto 0, 39, 0)] := rfl
theorem k_Md_toll_41 : zblk i_Md_toll 41 = [(.goto 0, 15, 0)] := rfl
theorem k_Md_toll_42 : zblk i_Md_toll 42 = [(.iload 2, 0, 0), (.iload 1, 0, 0), (.ishr, 0, 0), (.iconst (1), 0, 0), (.iand, 0, 0), (.iconst (1), 0, 0), (.if_icmp .ne 0, 44, 0), (.goto_w 0, 43, 0)] := rfl
theorem k_Md_toll_43 : zblk i_Md_toll 43 = [(.aload 0, 0, 0), (.getfield 0, 11, 29), (.iload 1, 0, 0), (.iaload, 0, 0), (.goto 0, 45, 0)] := rfl
theorem k_Md_toll_44 : zblk i_Md_toll 44 = [(.iconst (-4), 0, 0), (.goto_w 0, 45, 0)] := rfl
theorem k_Md_toll_45 : zblk i_Md_toll 45 = [(.ireturn, 0, 0)] := rfl
theorem a_Md_toll : zmA i_Md_toll = 1 := rfl
theorem l_Md_toll : zmL i_Md_toll = 10 := rfl
theorem r_Md_toll : zmR i_Md_toll = some .int := rfl
theorem o_Md_toll : zmO i_Md_toll = 11 := rfl
theorem k_Md_isSheet_0 : zblk i_Md_isSheet 0 = [(.iload 0, 0, 0), (.i2l, 0, 0), (.sipush (0), 0, 0), (.sipush (3), 0, 0), (.invokestatic 0, 166, 0), (.ireturn, 0, 0)] := rfl
theorem a_Md_isSheet : zmA i_Md_isSheet = 1 := rfl
theorem l_Md_isSheet : zmL i_Md_isSheet = 1 := rfl
theorem r_Md_isSheet : zmR i_Md_isSheet = some .boolean := rfl
theorem o_Md_isSheet : zmO i_Md_isSheet = 11 := rfl
theorem k_Md_isLane_0 : zblk i_Md_isLane 0 = [(.iload 0, 0, 0), (.i2l, 0, 0), (.sipush (0), 0, 0), (.sipush (2), 0, 0), (.invokestatic 0, 166, 0), (.ireturn, 0, 0)] := rfl
theorem a_Md_isLane : zmA i_Md_isLane = 1 := rfl
theorem l_Md_isLane : zmL i_Md_isLane = 1 := rfl
theorem r_Md_isLane : zmR i_Md_isLane = some .boolean := rfl
theorem o_Md_isLane : zmO i_Md_isLane = 11 := rfl
theorem k_Md_finds_0 : zblk i_Md_finds 0 = [(.aload 0, 0, 0), (.getfield 0, 11, 33), (.iload 1, 0, 0), (.iaload, 0, 0), (.ifCond .ge 0, 2, 0), (.goto_w 0, 1, 0)] := rfl
theorem k_Md_finds_1 : zblk i_Md_finds 1 = [(.iconst (-11), 0, 0), (.ireturn, 0, 0)] := rfl
theorem k_Md_finds_2 : zblk i_Md_finds 2 = [(.aload 0, 0, 0), (.getfield 0, 11, 33), (.iload 1, 0, 0), (.iaload, 0, 0), (.iload 2, 0, 0), (.if_icmp .eq 0, 4, 0), (.goto_w 0, 3, 0)] := rfl
theorem k_Md_finds_3 : zblk i_Md_finds 3 = [(.iconst (-12), 0, 0), (.ireturn, 0, 0)] := rfl
theorem k_Md_finds_4 : zblk i_Md_finds 4 = [(.iload 3, 0, 0), (.ifCond .lt 0, 6, 0), (.goto_w 0, 5, 0)] := rfl
theorem k_Md_finds_5 : zblk i_Md_finds 5 = [(.iload 3, 0, 0), (.i2l, 0, 0), (.iload 4, 0, 0), (.i2l, 0, 0), (.ladd, 0, 0), (.aload 0, 0, 0), (.getfield 0, 11, 34), (.iload 1, 0, 0), (.iaload, 0, 0), (.i2l, 0, 0), (.lcmp, 0, 0), (.ifCond .le 0, 7, 0), (.goto_w 0, 6, 0)] := rfl
theorem k_Md_finds_6 : zblk i_Md_finds 6 = [(.iconst (-13), 0, 0), (.goto 0, 8, 0)] := rfl
theorem k_Md_finds_7 : zblk i_Md_finds 7 = [(.iconst (0), 0, 0), (.goto_w 0, 8, 0)] := rfl
theorem k_Md_finds_8 : zblk i_Md_finds 8 = [(.ireturn, 0, 0)] := rfl
theorem a_Md_finds : zmA i_Md_finds = 4 := rfl
theorem l_Md_finds : zmL i_Md_finds = 5 := rfl
theorem r_Md_finds : zmR i_Md_finds = some .int := rfl
theorem o_Md_finds : zmO i_Md_finds = 11 := rfl
theorem k_Md_walk_0 : zblk i_Md_walk 0 = [(.aload 0, 0, 0), (.iload 1, 0, 0), (.invokevirtual 0, 170, 0), (.ifCond .eq 0, 4, 0), (.goto_w 0, 1, 0)] := rfl
theorem k_Md_walk_1 : zblk i_Md_walk 1 = [(.iload 2, 0, 0), (.invokestatic 0, 215, 0), (.ifCond .eq 0, 4, 0), (.goto_w 0, 2, 0)] := rfl
theorem k_Md_walk_2 : zblk i_Md_walk 2 = [(.iload 3, 0, 0), (.invokestatic 0, 216, 0), (.ifCond .eq 0, 4, 0), (.goto_w 0, 3, 0)] := rfl
theorem k_Md_walk_3 : zblk i_Md_walk 3 = [(.iload 5, 0, 0), (.i2l, 0, 0), (.sipush (0), 0, 0), (.sipush (40), 0, 0), (.invokestatic 0, 166, 0), (.ifCond .ne 0, 5, 0), (.goto_w 0, 4, 0)] := rfl
theorem k_Md_walk_4 : zblk i_Md_walk 4 = [(.iconst (-1), 0, 0), (.ireturn, 0, 0)] := rfl
theorem k_Md_walk_5 : zblk i_Md_walk 5 = [(.aload 0, 0, 0), (.iload 2, 0, 0), (.iload 3, 0, 0), (.iload 4, 0, 0), (.iload 5, 0, 0), (.invokevirtual 0, 217, 0), (.istore 6, 0, 0), (.iload 6, 0, 0), (.ifCond .ge 0, 7, 0), (.goto_w 0, 6, 0)] := rfl
theorem k_Md_walk_6 : zblk i_Md_walk 6 = [(.iload 6, 0, 0), (.ireturn, 0, 0)] := rfl
theorem k_Md_walk_7 : zblk i_Md_walk 7 = [(.aload 0, 0, 0), (.invokevirtual 0, 205, 0), (.istore 7, 0, 0), (.iconst (0), 0, 0), (.istore 8, 0, 0), (.goto_w 0, 8, 0)] := rfl
theorem k_Md_walk_8 : zblk i_Md_walk 8 = [(.iload 8, 0, 0), (.iload 5, 0, 0), (.if_icmp .ge 0, 14, 0), (.goto_w 0, 9, 0)] := rfl
theorem k_Md_walk_9 : zblk i_Md_walk 9 = [(.iload 7, 0, 0), (.ifCond .eq 0, 12, 0), (.goto_w 0, 10, 0)] := rfl
theorem k_Md_walk_10 : zblk i_Md_walk 10 = [(.aload 0, 0, 0), (.getfield 0, 11, 35), (.iconst (81), 0, 0), (.iload 2, 0, 0), (.imul, 0, 0), (.iload 4, 0, 0), (.iadd, 0, 0), (.iload 8, 0, 0), (.iadd, 0, 0), (.iaload, 0, 0), (.ifCond .lt 0, 12, 0), (.goto_w 0, 11, 0)] := rfl
theorem k_Md_walk_11 : zblk i_Md_walk 11 = [(.iconst (1), 0, 0), (.goto 0, 13, 0)] := rfl
theorem k_Md_walk_12 : zblk i_Md_walk 12 = [(.iconst (0), 0, 0), (.goto_w 0, 13, 0)] := rfl
theorem k_Md_walk_13 : zblk i_Md_walk 13 = [(.istore 7, 0, 0), (.iinc 8 (1), 0, 0), (.goto 0, 8, 0)] := rfl
theorem k_Md_walk_14 : zblk i_Md_walk 14 = [(.iload 7, 0, 0), (.ifCond .ne 0, 16, 0), (.goto_w 0, 15, 0)] := rfl
theorem k_Md_walk_15 : zblk i_Md_walk 15 = [(.iconst (-2), 0, 0), (.ireturn, 0, 0)] := rfl
theorem k_Md_walk_16 : zblk i_Md_walk 16 = [(.aload 0, 0, 0), (.getfield 0, 11, 32), (.iconst (0), 0, 0), (.iload 1, 0, 0), (.iastore, 0, 0), (.iconst (0), 0, 0), (.istore 8, 0, 0), (.goto_w 0, 17, 0)] := rfl
theorem k_Md_walk_17 : zblk i_Md_walk 17 = [(.iload 8, 0, 0), (.iload 5, 0, 0), (.if_icmp .ge 0, 22, 0), (.goto_w 0, 18, 0)] := rfl
theorem k_Md_walk_18 : zblk i_Md_walk 18 = [(.aload 0, 0, 0), (.getfield 0, 11, 32), (.iload 8, 0, 0), (.iaload, 0, 0), (.istore 9, 0, 0), (.aload 0, 0, 0), (.iload 9, 0, 0), (.invokevirtual 0, 209, 0), (.istore 10, 0, 0), (.aload 0, 0, 0), (.getfield 0, 11, 35), (.iconst (81), 0, 0), (.iload 2, 0, 0), (.imul, 0, 0), (.iload 4, 0, 0), (.iadd, 0, 0), (.iload 8, 0, 0), (.iadd, 0, 0), (.iaload, 0, 0), (.aload 0, 0, 0), (.iload 9, 0, 0), (.aload 0, 0, 0), (.aload 0, 0, 0), (.getfield 0, 11, 14), (.iconst (0), 0, 0), (.iaload, 0, 0), (.invokevirtual 0, 185, 0), (.invokevirtual 0, 175, 0), (.irem, 0, 0), (.istore 11, 0, 0), (.aload 0, 0, 0), (.getfield 0, 11, 32), (.iload 8, 0, 0), (.iconst (1), 0, 0), (.iadd, 0, 0), (.aload 0, 0, 0), (.iload 9, 0, 0), (.aload 0, 0, 0), (.getfield 0, 11, 14), (.iconst (0), 0, 0), (.iaload, 0, 0), (.iload 10, 0, 0), (.ifCond .ge 0, 20, 0), (.goto_w 0, 19, 0)] := rfl
theorem k_Md_walk_19 : zblk i_Md_walk 19 = [(.iconst (0), 0, 0), (.goto 0, 21, 0)] := rfl
theorem k_Md_walk_20 : zblk i_Md_walk 20 = [(.iload 10, 0, 0), (.goto_w 0, 21, 0)] := rfl
theorem k_Md_walk_21 : zblk i_Md_walk 21 = [(.iload 11, 0, 0), (.invokevirtual 0, 184, 0), (.iastore, 0, 0), (.iinc 8 (1), 0, 0), (.goto 0, 17, 0)] := rfl
theorem k_Md_walk_22 : zblk i_Md_walk 22 = [(.aload 0, 0, 0), (.iload 5, 0, 0), (.iconst (1), 0, 0), (.iadd, 0, 0), (.putfield 0, 11, 31), (.aload 0, 0, 0), (.getfield 0, 11, 32), (.iload 5, 0, 0), (.iaload, 0, 0), (.ireturn, 0, 0)] := rfl
theorem a_Md_walk : zmA i_Md_walk = 5 := rfl
theorem l_Md_walk : zmL i_Md_walk = 12 := rfl
theorem r_Md_walk : zmR i_Md_walk = some .int := rfl
theorem o_Md_walk : zmO i_Md_walk = 11 := rfl
theorem k_Md_walked_0 : zblk i_Md_walked 0 = [(.iload 1, 0, 0), (.i2l, 0, 0), (.sipush (0), 0, 0), (.aload 0, 0, 0), (.getfield 0, 11, 31), (.iconst (1), 0, 0), (.isub, 0, 0), (.i2l, 0, 0), (.invokestatic 0, 166, 0), (.ifCond .eq 0, 2, 0), (.goto_w 0, 1, 0)] := rfl
theorem k_Md_walked_1 : zblk i_Md_walked 1 = [(.aload 0, 0, 0), (.getfield 0, 11, 32), (.iload 1, 0, 0), (.iaload, 0, 0), (.goto 0, 3, 0)] := rfl
theorem k_Md_walked_2 : zblk i_Md_walked 2 = [(.iconst (-1), 0, 0), (.goto_w 0, 3, 0)] := rfl
theorem k_Md_walked_3 : zblk i_Md_walked 3 = [(.ireturn, 0, 0)] := rfl
theorem a_Md_walked : zmA i_Md_walked = 1 := rfl
theorem l_Md_walked : zmL i_Md_walked = 2 := rfl
theorem r_Md_walked : zmR i_Md_walked = some .int := rfl
theorem o_Md_walked : zmO i_Md_walked = 11 := rfl
theorem k_Md_steps_0 : zblk i_Md_steps 0 = [(.aload 0, 0, 0), (.iload 1, 0, 0), (.invokevirtual 0, 170, 0), (.ifCond .eq 0, 4, 0), (.goto_w 0, 1, 0)] := rfl
theorem k_Md_steps_1 : zblk i_Md_steps 1 = [(.iload 2, 0, 0), (.invokestatic 0, 215, 0), (.ifCond .eq 0, 4, 0), (.goto_w 0, 2, 0)] := rfl
theorem k_Md_steps_2 : zblk i_Md_steps 2 = [(.iload 3, 0, 0), (.invokestatic 0, 216, 0), (.ifCond .eq 0, 4, 0), (.goto_w 0, 3, 0)] := rfl
theorem k_Md_steps_3 : zblk i_Md_steps 3 = [(.iload 5, 0, 0), (.i2l, 0, 0), (.sipush (0), 0, 0), (.aload 0, 0, 0), (.iload 1, 0, 0), (.aload 0, 0, 0), (.invokevirtual 0, 176, 0), (.invokevirtual 0, 175, 0), (.i2l, 0, 0), (.invokestatic 0, 166, 0), (.ifCond .ne 0, 5, 0), (.goto_w 0, 4, 0)] := rfl
theorem k_Md_steps_4 : zblk i_Md_steps 4 = [(.iconst (-1), 0, 0), (.ireturn, 0, 0)] := rfl
theorem k_Md_steps_5 : zblk i_Md_steps 5 = [(.aload 0, 0, 0), (.iload 2, 0, 0), (.iload 3, 0, 0), (.iload 4, 0, 0), (.iload 5, 0, 0), (.invokevirtual 0, 217, 0), (.istore 6, 0, 0), (.iload 6, 0, 0), (.ifCond .ge 0, 7, 0), (.goto_w 0, 6, 0)] := rfl
theorem k_Md_steps_6 : zblk i_Md_steps 6 = [(.iload 6, 0, 0), (.ireturn, 0, 0)] := rfl
theorem k_Md_steps_7 : zblk i_Md_steps 7 = [(.iconst (0), 0, 0), (.istore 7, 0, 0), (.goto_w 0, 8, 0)] := rfl
theorem k_Md_steps_8 : zblk i_Md_steps 8 = [(.iload 7, 0, 0), (.iload 5, 0, 0), (.if_icmp .ge 0, 12, 0), (.goto_w 0, 9, 0)] := rfl
theorem k_Md_steps_9 : zblk i_Md_steps 9 = [(.aload 0, 0, 0), (.aload 0, 0, 0), (.getfield 0, 11, 35), (.iconst (81), 0, 0), (.iload 2, 0, 0), (.imul, 0, 0), (.iload 4, 0, 0), (.iadd, 0, 0), (.iload 7, 0, 0), (.iadd, 0, 0), (.iaload, 0, 0), (.invokevirtual 0, 170, 0), (.ifCond .ne 0, 11, 0), (.goto_w 0, 10, 0)] := rfl
theorem k_Md_steps_10 : zblk i_Md_steps 10 = [(.iconst (-2), 0, 0), (.ireturn, 0, 0)] := rfl
theorem k_Md_steps_11 : zblk i_Md_steps 11 = [(.iinc 7 (1), 0, 0), (.goto 0, 8, 0)] := rfl
theorem k_Md_steps_12 : zblk i_Md_steps 12 = [(.iconst (0), 0, 0), (.istore 7, 0, 0), (.goto_w 0, 13, 0)] := rfl
theorem k_Md_steps_13 : zblk i_Md_steps 13 = [(.iload 7, 0, 0), (.iload 5, 0, 0), (.if_icmp .ge 0, 15, 0), (.goto_w 0, 14, 0)] := rfl
theorem k_Md_steps_14 : zblk i_Md_steps 14 = [(.aload 0, 0, 0), (.getfield 0, 11, 3), (.iconst (81), 0, 0), (.iload 1, 0, 0), (.imul, 0, 0), (.iload 7, 0, 0), (.iadd, 0, 0), (.aload 0, 0, 0), (.getfield 0, 11, 35), (.iconst (81), 0, 0), (.iload 2, 0, 0), (.imul, 0, 0), (.iload 4, 0, 0), (.iadd, 0, 0), (.iload 7, 0, 0), (.iadd, 0, 0), (.iaload, 0, 0), (.iastore, 0, 0), (.iinc 7 (1), 0, 0), (.goto 0, 13, 0)] := rfl
theorem k_Md_steps_15 : zblk i_Md_steps 15 = [(.iload 5, 0, 0), (.ireturn, 0, 0)] := rfl
theorem a_Md_steps : zmA i_Md_steps = 5 := rfl
theorem l_Md_steps : zmL i_Md_steps = 8 := rfl
theorem r_Md_steps : zmR i_Md_steps = some .int := rfl
theorem o_Md_steps : zmO i_Md_steps = 11 := rfl
theorem k_Md_mostOf_0 : zblk i_Md_mostOf 0 = [(.iconst (0), 0, 0), (.istore 3, 0, 0), (.iconst (0), 0, 0), (.istore 4, 0, 0), (.goto_w 0, 1, 0)] := rfl
theorem k_Md_mostOf_1 : zblk i_Md_mostOf 1 = [(.iload 4, 0, 0), (.aload 0, 0, 0), (.getfield 0, 11, 0), (.if_icmp .ge 0, 8, 0), (.goto_w 0, 2, 0)] := rfl
theorem k_Md_mostOf_2 : zblk i_Md_mostOf 2 = [(.aload 0, 0, 0), (.getfield 0, 11, 2), (.iconst (4), 0, 0), (.iload 4, 0, 0), (.imul, 0, 0), (.iload 1, 0, 0), (.iadd, 0, 0), (.iaload, 0, 0), (.istore 5, 0, 0), (.aload 0, 0, 0), (.getfield 0, 11, 6), (.iconst (4), 0, 0), (.iload 4, 0, 0), (.imul, 0, 0), (.iload 1, 0, 0), (.iadd, 0, 0), (.iaload, 0, 0), (.iload 2, 0, 0), (.if_icmp .ne 0, 6, 0), (.goto_w 0, 3, 0)] := rfl
theorem k_Md_mostOf_3 : zblk i_Md_mostOf 3 = [(.iload 3, 0, 0), (.ifCond .eq 0, 5, 0), (.goto_w 0, 4, 0)] := rfl
theorem k_Md_mostOf_4 : zblk i_Md_mostOf 4 = [(.iload 5, 0, 0), (.iload 3, 0, 0), (.if_icmp .ge 0, 6, 0), (.goto_w 0, 5, 0)] := rfl
theorem k_Md_mostOf_5 : zblk i_Md_mostOf 5 = [(.iload 5, 0, 0), (.goto 0, 7, 0)] := rfl
theorem k_Md_mostOf_6 : zblk i_Md_mostOf 6 = [(.iload 3, 0, 0), (.goto_w 0, 7, 0)] := rfl
theorem k_Md_mostOf_7 : zblk i_Md_mostOf 7 = [(.istore 3, 0, 0), (.iinc 4 (1), 0, 0), (.goto 0, 1, 0)] := rfl
theorem k_Md_mostOf_8 : zblk i_Md_mostOf 8 = [(.iload 3, 0, 0), (.ireturn, 0, 0)] := rfl
theorem a_Md_mostOf : zmA i_Md_mostOf = 2 := rfl
theorem l_Md_mostOf : zmL i_Md_mostOf = 6 := rfl
theorem r_Md_mostOf : zmR i_Md_mostOf = some .int := rfl
theorem o_Md_mostOf : zmO i_Md_mostOf = 11 := rfl
theorem k_Md_lays_0 : zblk i_Md_lays 0 = [(.aload 0, 0, 0), (.iconst (0), 0, 0), (.putfield 0, 11, 41), (.iconst (1), 0, 0), (.istore 1, 0, 0), (.iconst (0), 0, 0), (.istore 2, 0, 0), (.goto_w 0, 1, 0)] := rfl
theorem k_Md_lays_1 : zblk i_Md_lays 1 = [(.iload 2, 0, 0), (.aload 0, 0, 0), (.getfield 0, 11, 1), (.if_icmp .ge 0, 12, 0), (.goto_w 0, 2, 0)] := rfl
theorem k_Md_lays_2 : zblk i_Md_lays 2 = [(.iconst (0), 0, 0), (.istore 3, 0, 0), (.goto_w 0, 3, 0)] := rfl
theorem k_Md_lays_3 : zblk i_Md_lays 3 = [(.iload 3, 0, 0), (.iconst (12), 0, 0), (.if_icmp .ge 0, 11, 0), (.goto_w 0, 4, 0)] := rfl
theorem k_Md_lays_4 : zblk i_Md_lays 4 = [(.aload 0, 0, 0), (.getfield 0, 11, 14), (.iconst (0), 0, 0), (.iaload, 0, 0), (.iload 2, 0, 0), (.ishr, 0, 0), (.iconst (1), 0, 0), (.iand, 0, 0), (.iconst (1), 0, 0), (.if_icmp .ne 0, 11, 0), (.goto_w 0, 5, 0)] := rfl
theorem k_Md_lays_5 : zblk i_Md_lays 5 = [(.aload 0, 0, 0), (.iload 2, 0, 0), (.iload 3, 0, 0), (.invokevirtual 0, 221, 0), (.istore 4, 0, 0), (.iload 4, 0, 0), (.ifCond .le 0, 10, 0), (.goto_w 0, 6, 0)] := rfl
theorem k_Md_lays_6 : zblk i_Md_lays 6 = [(.aload 0, 0, 0), (.getfield 0, 11, 37), (.aload 0, 0, 0), (.getfield 0, 11, 41), (.iload 2, 0, 0), (.iastore, 0, 0), (.aload 0, 0, 0), (.getfield 0, 11, 38), (.aload 0, 0, 0), (.getfield 0, 11, 41), (.iload 3, 0, 0), (.iastore, 0, 0), (.aload 0, 0, 0), (.getfield 0, 11, 39), (.aload 0, 0, 0), (.getfield 0, 11, 41), (.iload 4, 0, 0), (.iastore, 0, 0), (.aload 0, 0, 0), (.getfield 0, 11, 40), (.aload 0, 0, 0), (.getfield 0, 11, 41), (.iconst (0), 0, 0), (.iastore, 0, 0), (.aload 0, 0, 0), (.dup, 0, 0), (.getfield 0, 11, 41), (.iconst (1), 0, 0), (.iadd, 0, 0), (.putfield 0, 11, 41), (.iload 1, 0, 0), (.iload 4, 0, 0), (.imul, 0, 0), (.iconst (5001), 0, 0), (.if_icmp .le 0, 8, 0), (.goto_w 0, 7, 0)] := rfl
theorem k_Md_lays_7 : zblk i_Md_lays 7 = [(.iconst (5001), 0, 0), (.goto 0, 9, 0)] := rfl
theorem k_Md_lays_8 : zblk i_Md_lays 8 = [(.iload 1, 0, 0), (.iload 4, 0, 0), (.imul, 0, 0), (.goto_w 0, 9, 0)] := rfl
theorem k_Md_lays_9 : zblk i_Md_lays 9 = [(.istore 1, 0, 0), (.goto_w 0, 10, 0)] := rfl
theorem k_Md_lays_10 : zblk i_Md_lays 10 = [(.iinc 3 (1), 0, 0), (.goto 0, 3, 0)] := rfl
theorem k_Md_lays_11 : zblk i_Md_lays 11 = [(.iinc 2 (1), 0, 0), (.goto 0, 1, 0)] := rfl
theorem k_Md_lays_12 : zblk i_Md_lays 12 = [(.iload 1, 0, 0), (.ireturn, 0, 0)] := rfl
theorem a_Md_lays : zmA i_Md_lays = 0 := rfl
theorem l_Md_lays : zmL i_Md_lays = 5 := rfl
theorem r_Md_lays : zmR i_Md_lays = some .int := rfl
theorem o_Md_lays : zmO i_Md_lays = 11 := rfl
theorem k_Md_digitOf_0 : zblk i_Md_digitOf 0 = [(.iconst (0), 0, 0), (.istore 3, 0, 0), (.goto_w 0, 1, 0)] := rfl
theorem k_Md_digitOf_1 : zblk i_Md_digitOf 1 = [(.iload 3, 0, 0), (.aload 0, 0, 0), (.getfield 0, 11, 41), (.if_icmp .ge 0, 6, 0), (.goto_w 0, 2, 0)] := rfl
theorem k_Md_digitOf_2 : zblk i_Md_digitOf 2 = [(.aload 0, 0, 0), (.getfield 0, 11, 37), (.iload 3, 0, 0), (.iaload, 0, 0), (.iload 1, 0, 0), (.if_icmp .ne 0, 5, 0), (.goto_w 0, 3, 0)] := rfl
theorem k_Md_digitOf_3 : zblk i_Md_digitOf 3 = [(.aload 0, 0, 0), (.getfield 0, 11, 38), (.iload 3, 0, 0), (.iaload, 0, 0), (.iload 2, 0, 0), (.if_icmp .ne 0, 5, 0), (.goto_w 0, 4, 0)] := rfl
theorem k_Md_digitOf_4 : zblk i_Md_digitOf 4 = [(.iload 3, 0, 0), (.ireturn, 0, 0)] := rfl
theorem k_Md_digitOf_5 : zblk i_Md_digitOf 5 = [(.iinc 3 (1), 0, 0), (.goto 0, 1, 0)] := rfl
theorem k_Md_digitOf_6 : zblk i_Md_digitOf 6 = [(.iconst (-1), 0, 0), (.ireturn, 0, 0)] := rfl
theorem a_Md_digitOf : zmA i_Md_digitOf = 2 := rfl
theorem l_Md_digitOf : zmL i_Md_digitOf = 4 := rfl
theorem r_Md_digitOf : zmR i_Md_digitOf = some .int := rfl
theorem o_Md_digitOf : zmO i_Md_digitOf = 11 := rfl
theorem k_Md_countsUp_0 : zblk i_Md_countsUp 0 = [(.aload 0, 0, 0), (.getfield 0, 11, 41), (.iconst (1), 0, 0), (.isub, 0, 0), (.istore 1, 0, 0), (.goto_w 0, 1, 0)] := rfl
theorem k_Md_countsUp_1 : zblk i_Md_countsUp 1 = [(.iload 1, 0, 0), (.ifCond .lt 0, 4, 0), (.goto_w 0, 2, 0)] := rfl
theorem k_Md_countsUp_2 : zblk i_Md_countsUp 2 = [(.aload 0, 0, 0), (.getfield 0, 11, 40), (.iload 1, 0, 0), (.iaload, 0, 0), (.aload 0, 0, 0), (.getfield 0, 11, 39), (.iload 1, 0, 0), (.iaload, 0, 0), (.iconst (1), 0, 0), (.isub, 0, 0), (.if_icmp .ne 0, 4, 0), (.goto_w 0, 3, 0)] := rfl
theorem k_Md_countsUp_3 : zblk i_Md_countsUp 3 = [(.aload 0, 0, 0), (.getfield 0, 11, 40), (.iload 1, 0, 0), (.iconst (0), 0, 0), (.iastore, 0, 0), (.iinc 1 (-1), 0, 0), (.goto 0, 1, 0)] := rfl
theorem k_Md_countsUp_4 : zblk i_Md_countsUp 4 = [(.iload 1, 0, 0), (.ifCond .lt 0, 6, 0), (.goto_w 0, 5, 0)] := rfl
theorem k_Md_countsUp_5 : zblk i_Md_countsUp 5 = [(.aload 0, 0, 0), (.getfield 0, 11, 40), (.iload 1, 0, 0), (.dup2, 0, 0), (.iaload, 0, 0), (.iconst (1), 0, 0), (.iadd, 0, 0), (.iastore, 0, 0), (.goto_w 0, 6, 0)] := rfl
theorem k_Md_countsUp_6 : zblk i_Md_countsUp 6 = [(.iload 1, 0, 0), (.ifCond .lt 0, 8, 0), (.goto_w 0, 7, 0)] := rfl
theorem k_Md_countsUp_7 : zblk i_Md_countsUp 7 = [(.iconst (1), 0, 0), (.goto 0, 9, 0)] := rfl
theorem k_Md_countsUp_8 : zblk i_Md_countsUp 8 = [(.iconst (0), 0, 0), (.goto_w 0, 9, 0)] := rfl
theorem k_Md_countsUp_9 : zblk i_Md_countsUp 9 = [(.ireturn, 0, 0)] := rfl
theorem a_Md_countsUp : zmA i_Md_countsUp = 0 := rfl
theorem l_Md_countsUp : zmL i_Md_countsUp = 2 := rfl
theorem r_Md_countsUp : zmR i_Md_countsUp = some .boolean := rfl
theorem o_Md_countsUp : zmO i_Md_countsUp = 11 := rfl
theorem k_Md_links_0 : zblk i_Md_links 0 = [(.iconst (0), 0, 0), (.istore 1, 0, 0), (.goto_w 0, 1, 0)] := rfl
theorem k_Md_links_1 : zblk i_Md_links 1 = [(.iload 1, 0, 0), (.aload 0, 0, 0), (.getfield 0, 11, 0), (.if_icmp .ge 0, 11, 0), (.goto_w 0, 2, 0)] := rfl
theorem k_Md_links_2 : zblk i_Md_links 2 = [(.iconst (0), 0, 0), (.istore 2, 0, 0), (.iconst (0), 0, 0), (.istore 3, 0, 0), (.goto_w 0, 3, 0)] := rfl
theorem k_Md_links_3 : zblk i_Md_links 3 = [(.iload 3, 0, 0), (.aload 0, 0, 0), (.getfield 0, 11, 1), (.if_icmp .ge 0, 7, 0), (.goto_w 0, 4, 0)] := rfl
theorem k_Md_links_4 : zblk i_Md_links 4 = [(.aload 0, 0, 0), (.getfield 0, 11, 14), (.iconst (0), 0, 0), (.iaload, 0, 0), (.iload 3, 0, 0), (.ishr, 0, 0), (.iconst (1), 0, 0), (.iand, 0, 0), (.iconst (1), 0, 0), (.if_icmp .ne 0, 6, 0), (.goto_w 0, 5, 0)] := rfl
theorem k_Md_links_5 : zblk i_Md_links 5 = [(.iload 2, 0, 0), (.aload 0, 0, 0), (.getfield 0, 11, 2), (.iconst (4), 0, 0), (.iload 1, 0, 0), (.imul, 0, 0), (.iload 3, 0, 0), (.iadd, 0, 0), (.iaload, 0, 0), (.imul, 0, 0), (.aload 0, 0, 0), (.getfield 0, 11, 40), (.aload 0, 0, 0), (.iload 3, 0, 0), (.aload 0, 0, 0), (.getfield 0, 11, 6), (.iconst (4), 0, 0), (.iload 1, 0, 0), (.imul, 0, 0), (.iload 3, 0, 0), (.iadd, 0, 0), (.iaload, 0, 0), (.invokevirtual 0, 223, 0), (.iaload, 0, 0), (.iadd, 0, 0), (.istore 2, 0, 0), (.goto_w 0, 6, 0)] := rfl
theorem k_Md_links_6 : zblk i_Md_links 6 = [(.iinc 3 (1), 0, 0), (.goto 0, 3, 0)] := rfl
theorem k_Md_links_7 : zblk i_Md_links 7 = [(.aload 0, 0, 0), (.getfield 0, 11, 42), (.iload 1, 0, 0), (.iconst (0), 0, 0), (.iastore, 0, 0), (.aload 0, 0, 0), (.iload 1, 0, 0), (.aload 0, 0, 0), (.aload 0, 0, 0), (.getfield 0, 11, 14), (.iconst (0), 0, 0), (.iaload, 0, 0), (.invokevirtual 0, 185, 0), (.invokevirtual 0, 175, 0), (.istore 3, 0, 0), (.iconst (0), 0, 0), (.istore 4, 0, 0), (.goto_w 0, 8, 0)] := rfl
theorem k_Md_links_8 : zblk i_Md_links 8 = [(.iload 4, 0, 0), (.iload 3, 0, 0), (.if_icmp .ge 0, 10, 0), (.goto_w 0, 9, 0)] := rfl
theorem k_Md_links_9 : zblk i_Md_links 9 = [(.aload 0, 0, 0), (.getfield 0, 11, 42), (.iload 1, 0, 0), (.dup2, 0, 0), (.iaload, 0, 0), (.iconst (1), 0, 0), (.aload 0, 0, 0), (.iload 1, 0, 0), (.aload 0, 0, 0), (.getfield 0, 11, 14), (.iconst (0), 0, 0), (.iaload, 0, 0), (.iload 2, 0, 0), (.iload 4, 0, 0), (.invokevirtual 0, 184, 0), (.ishl, 0, 0), (.ior, 0, 0), (.iastore, 0, 0), (.iinc 4 (1), 0, 0), (.goto 0, 8, 0)] := rfl
theorem k_Md_links_10 : zblk i_Md_links 10 = [(.iinc 1 (1), 0, 0), (.goto 0, 1, 0)] := rfl
theorem k_Md_links_11 : zblk i_Md_links 11 = [(.return_, 0, 0)] := rfl
theorem a_Md_links : zmA i_Md_links = 0 := rfl
theorem l_Md_links : zmL i_Md_links = 5 := rfl
theorem r_Md_links : zmR i_Md_links = none := rfl
theorem o_Md_links : zmO i_Md_links = 11 := rfl
theorem k_Md_surely_0 : zblk i_Md_surely 0 = [(.iload 2, 0, 0), (.istore 3, 0, 0), (.iconst (-1), 0, 0), (.istore 4, 0, 0), (.goto_w 0, 1, 0)] := rfl
theorem k_Md_surely_1 : zblk i_Md_surely 1 = [(.iload 3, 0, 0), (.iload 4, 0, 0), (.if_icmp .eq 0, 10, 0), (.goto_w 0, 2, 0)] := rfl
theorem k_Md_surely_2 : zblk i_Md_surely 2 = [(.iload 3, 0, 0), (.istore 4, 0, 0), (.iconst (0), 0, 0), (.istore 5, 0, 0), (.goto_w 0, 3, 0)] := rfl
theorem k_Md_surely_3 : zblk i_Md_surely 3 = [(.iload 5, 0, 0), (.aload 0, 0, 0), (.getfield 0, 11, 0), (.if_icmp .ge 0, 9, 0), (.goto_w 0, 4, 0)] := rfl
theorem k_Md_surely_4 : zblk i_Md_surely 4 = [(.iload 3, 0, 0), (.iload 1, 0, 0), (.iload 5, 0, 0), (.ishr, 0, 0), (.iconst (1), 0, 0), (.iand, 0, 0), (.iconst (1), 0, 0), (.if_icmp .ne 0, 7, 0), (.goto_w 0, 5, 0)] := rfl
theorem k_Md_surely_5 : zblk i_Md_surely 5 = [(.aload 0, 0, 0), (.getfield 0, 11, 42), (.iload 5, 0, 0), (.iaload, 0, 0), (.iload 4, 0, 0), (.iconst (-1), 0, 0), (.ixor, 0, 0), (.iand, 0, 0), (.ifCond .ne 0, 7, 0), (.goto_w 0, 6, 0)] := rfl
theorem k_Md_surely_6 : zblk i_Md_surely 6 = [(.iconst (1), 0, 0), (.iload 5, 0, 0), (.ishl, 0, 0), (.goto 0, 8, 0)] := rfl
theorem k_Md_surely_7 : zblk i_Md_surely 7 = [(.iconst (0), 0, 0), (.goto_w 0, 8, 0)] := rfl
theorem k_Md_surely_8 : zblk i_Md_surely 8 = [(.ior, 0, 0), (.istore 3, 0, 0), (.iinc 5 (1), 0, 0), (.goto 0, 3, 0)] := rfl
theorem k_Md_surely_9 : zblk i_Md_surely 9 = [(.goto 0, 1, 0)] := rfl
theorem k_Md_surely_10 : zblk i_Md_surely 10 = [(.iload 3, 0, 0), (.ireturn, 0, 0)] := rfl
theorem a_Md_surely : zmA i_Md_surely = 2 := rfl
theorem l_Md_surely : zmL i_Md_surely = 6 := rfl
theorem r_Md_surely : zmR i_Md_surely = some .int := rfl
theorem o_Md_surely : zmO i_Md_surely = 11 := rfl
theorem k_Md_stays_0 : zblk i_Md_stays 0 = [(.iload 1, 0, 0), (.istore 2, 0, 0), (.iconst (-1), 0, 0), (.istore 3, 0, 0), (.goto_w 0, 1, 0)] := rfl
theorem k_Md_stays_1 : zblk i_Md_stays 1 = [(.iload 2, 0, 0), (.iload 3, 0, 0), (.if_icmp .eq 0, 9, 0), (.goto_w 0, 2, 0)] := rfl
theorem k_Md_stays_2 : zblk i_Md_stays 2 = [(.iload 2, 0, 0), (.istore 3, 0, 0), (.iconst (0), 0, 0), (.istore 4, 0, 0), (.goto_w 0, 3, 0)] := rfl
theorem k_Md_stays_3 : zblk i_Md_stays 3 = [(.iload 4, 0, 0), (.aload 0, 0, 0), (.getfield 0, 11, 0), (.if_icmp .ge 0, 8, 0), (.goto_w 0, 4, 0)] := rfl
theorem k_Md_stays_4 : zblk i_Md_stays 4 = [(.iload 2, 0, 0), (.aload 0, 0, 0), (.getfield 0, 11, 42), (.iload 4, 0, 0), (.iaload, 0, 0), (.iload 3, 0, 0), (.iconst (-1), 0, 0), (.ixor, 0, 0), (.iand, 0, 0), (.ifCond .ne 0, 6, 0), (.goto_w 0, 5, 0)] := rfl
theorem k_Md_stays_5 : zblk i_Md_stays 5 = [(.iconst (-1), 0, 0), (.goto 0, 7, 0)] := rfl
theorem k_Md_stays_6 : zblk i_Md_stays 6 = [(.iconst (1), 0, 0), (.iload 4, 0, 0), (.ishl, 0, 0), (.iconst (-1), 0, 0), (.ixor, 0, 0), (.goto_w 0, 7, 0)] := rfl
theorem k_Md_stays_7 : zblk i_Md_stays 7 = [(.iand, 0, 0), (.istore 2, 0, 0), (.iinc 4 (1), 0, 0), (.goto 0, 3, 0)] := rfl
theorem k_Md_stays_8 : zblk i_Md_stays 8 = [(.goto 0, 1, 0)] := rfl
theorem k_Md_stays_9 : zblk i_Md_stays 9 = [(.iload 2, 0, 0), (.ireturn, 0, 0)] := rfl
theorem a_Md_stays : zmA i_Md_stays = 1 := rfl
theorem l_Md_stays : zmL i_Md_stays = 5 := rfl
theorem r_Md_stays : zmR i_Md_stays = some .int := rfl
theorem o_Md_stays : zmO i_Md_stays = 11 := rfl
theorem k_Md_does_0 : zblk i_Md_does 0 = [(.aload 0, 0, 0), (.getfield 0, 11, 27), (.aload 0, 0, 0), (.getfield 0, 11, 12), (.iconst (0), 0, 0), (.iaload, 0, 0), (.iaload, 0, 0), (.istore 1, 0, 0), (.aload 0, 0, 0), (.getfield 0, 11, 11), (.iconst (0), 0, 0), (.iaload, 0, 0), (.iconst (5), 0, 0), (.if_icmp .ne 0, 8, 0), (.goto_w 0, 1, 0)] := rfl
theorem k_Md_does_1 : zblk i_Md_does 1 = [(.iconst (0), 0, 0), (.istore 2, 0, 0), (.iconst (0), 0, 0), (.istore 3, 0, 0), (.goto_w 0, 2, 0)] := rfl
theorem k_Md_does_2 : zblk i_Md_does 2 = [(.iload 3, 0, 0), (.aload 0, 0, 0), (.getfield 0, 11, 0), (.if_icmp .ge 0, 7, 0), (.goto_w 0, 3, 0)] := rfl
theorem k_Md_does_3 : zblk i_Md_does 3 = [(.iload 2, 0, 0), (.aload 0, 0, 0), (.getfield 0, 11, 42), (.iload 3, 0, 0), (.iaload, 0, 0), (.iload 1, 0, 0), (.iconst (-1), 0, 0), (.ixor, 0, 0), (.iand, 0, 0), (.ifCond .ne 0, 5, 0), (.goto_w 0, 4, 0)] := rfl
theorem k_Md_does_4 : zblk i_Md_does 4 = [(.iconst (1), 0, 0), (.iload 3, 0, 0), (.ishl, 0, 0), (.goto 0, 6, 0)] := rfl
theorem k_Md_does_5 : zblk i_Md_does 5 = [(.iconst (0), 0, 0), (.goto_w 0, 6, 0)] := rfl
theorem k_Md_does_6 : zblk i_Md_does 6 = [(.ior, 0, 0), (.istore 2, 0, 0), (.iinc 3 (1), 0, 0), (.goto 0, 2, 0)] := rfl
theorem k_Md_does_7 : zblk i_Md_does 7 = [(.iload 2, 0, 0), (.ireturn, 0, 0)] := rfl
theorem k_Md_does_8 : zblk i_Md_does 8 = [(.aload 0, 0, 0), (.getfield 0, 11, 11), (.iconst (0), 0, 0), (.iaload, 0, 0), (.iconst (6), 0, 0), (.if_icmp .ne 0, 10, 0), (.goto_w 0, 9, 0)] := rfl
theorem k_Md_does_9 : zblk i_Md_does 9 = [(.aload 0, 0, 0), (.iload 1, 0, 0), (.invokevirtual 0, 227, 0), (.ireturn, 0, 0)] := rfl
theorem k_Md_does_10 : zblk i_Md_does 10 = [(.aload 0, 0, 0), (.getfield 0, 11, 11), (.iconst (0), 0, 0), (.iaload, 0, 0), (.iconst (8), 0, 0), (.if_icmp .ne 0, 12, 0), (.goto_w 0, 11, 0)] := rfl
theorem k_Md_does_11 : zblk i_Md_does 11 = [(.aload 0, 0, 0), (.aload 0, 0, 0), (.aload 0, 0, 0), (.invokevirtual 0, 196, 0), (.iload 1, 0, 0), (.invokevirtual 0, 226, 0), (.invokevirtual 0, 227, 0), (.ireturn, 0, 0)] := rfl
theorem k_Md_does_12 : zblk i_Md_does 12 = [(.aload 0, 0, 0), (.getfield 0, 11, 11), (.iconst (0), 0, 0), (.iaload, 0, 0), (.iconst (7), 0, 0), (.if_icmp .ne 0, 14, 0), (.goto_w 0, 13, 0)] := rfl
theorem k_Md_does_13 : zblk i_Md_does 13 = [(.aload 0, 0, 0), (.aload 0, 0, 0), (.invokevirtual 0, 196, 0), (.iload 1, 0, 0), (.invokevirtual 0, 226, 0), (.goto 0, 15, 0)] := rfl
theorem k_Md_does_14 : zblk i_Md_does 14 = [(.aload 0, 0, 0), (.iload 1, 0, 0), (.aload 0, 0, 0), (.getfield 0, 11, 27), (.aload 0, 0, 0), (.getfield 0, 11, 13), (.iconst (0), 0, 0), (.iaload, 0, 0), (.iaload, 0, 0), (.invokevirtual 0, 226, 0), (.goto_w 0, 15, 0)] := rfl
theorem k_Md_does_15 : zblk i_Md_does 15 = [(.ireturn, 0, 0)] := rfl
theorem a_Md_does : zmA i_Md_does = 0 := rfl
theorem l_Md_does : zmL i_Md_does = 4 := rfl
theorem r_Md_does : zmR i_Md_does = some .int := rfl
theorem o_Md_does : zmO i_Md_does = 11 := rfl
theorem k_Md_fits_0 : zblk i_Md_fits 0 = [(.iconst (1), 0, 0), (.iload 1, 0, 0), (.ishl, 0, 0), (.istore 2, 0, 0), (.iconst (0), 0, 0), (.istore 3, 0, 0), (.goto_w 0, 1, 0)] := rfl
theorem k_Md_fits_1 : zblk i_Md_fits 1 = [(.iload 3, 0, 0), (.aload 0, 0, 0), (.getfield 0, 11, 1), (.if_icmp .ge 0, 10, 0), (.goto_w 0, 2, 0)] := rfl
theorem k_Md_fits_2 : zblk i_Md_fits 2 = [(.iconst (0), 0, 0), (.istore 4, 0, 0), (.goto_w 0, 3, 0)] := rfl
theorem k_Md_fits_3 : zblk i_Md_fits 3 = [(.iload 4, 0, 0), (.aload 0, 0, 0), (.getfield 0, 11, 0), (.if_icmp .ge 0, 9, 0), (.goto_w 0, 4, 0)] := rfl
theorem k_Md_fits_4 : zblk i_Md_fits 4 = [(.aload 0, 0, 0), (.getfield 0, 11, 14), (.iconst (0), 0, 0), (.iaload, 0, 0), (.iload 3, 0, 0), (.ishr, 0, 0), (.iconst (1), 0, 0), (.iand, 0, 0), (.iconst (1), 0, 0), (.if_icmp .ne 0, 9, 0), (.goto_w 0, 5, 0)] := rfl
theorem k_Md_fits_5 : zblk i_Md_fits 5 = [(.iload 2, 0, 0), (.aload 0, 0, 0), (.getfield 0, 11, 6), (.iconst (4), 0, 0), (.iload 4, 0, 0), (.imul, 0, 0), (.iload 3, 0, 0), (.iadd, 0, 0), (.iaload, 0, 0), (.aload 0, 0, 0), (.getfield 0, 11, 6), (.iconst (4), 0, 0), (.iload 1, 0, 0), (.imul, 0, 0), (.iload 3, 0, 0), (.iadd, 0, 0), (.iaload, 0, 0), (.if_icmp .ne 0, 7, 0), (.goto_w 0, 6, 0)] := rfl
theorem k_Md_fits_6 : zblk i_Md_fits 6 = [(.iconst (1), 0, 0), (.iload 4, 0, 0), (.ishl, 0, 0), (.goto 0, 8, 0)] := rfl
theorem k_Md_fits_7 : zblk i_Md_fits 7 = [(.iconst (0), 0, 0), (.goto_w 0, 8, 0)] := rfl
theorem k_Md_fits_8 : zblk i_Md_fits 8 = [(.ior, 0, 0), (.istore 2, 0, 0), (.iinc 4 (1), 0, 0), (.goto 0, 3, 0)] := rfl
theorem k_Md_fits_9 : zblk i_Md_fits 9 = [(.iinc 3 (1), 0, 0), (.goto 0, 1, 0)] := rfl
theorem k_Md_fits_10 : zblk i_Md_fits 10 = [(.iload 2, 0, 0), (.ireturn, 0, 0)] := rfl
theorem a_Md_fits : zmA i_Md_fits = 1 := rfl
theorem l_Md_fits : zmL i_Md_fits = 5 := rfl
theorem r_Md_fits : zmR i_Md_fits = some .int := rfl
theorem o_Md_fits : zmO i_Md_fits = 11 := rfl
theorem k_Md_seeks_0 : zblk i_Md_seeks 0 = [(.aload 0, 0, 0), (.invokevirtual 0, 222, 0), (.iconst (5000), 0, 0), (.if_icmp .le 0, 2, 0), (.goto_w 0, 1, 0)] := rfl
theorem k_Md_seeks_1 : zblk i_Md_seeks 1 = [(.iconst (-5), 0, 0), (.ireturn, 0, 0)] := rfl
theorem k_Md_seeks_2 : zblk i_Md_seeks 2 = [(.aload 0, 0, 0), (.invokevirtual 0, 202, 0), (.istore 2, 0, 0), (.aload 0, 0, 0), (.iload 1, 0, 0), (.invokevirtual 0, 229, 0), (.istore 3, 0, 0), (.iconst (1), 0, 0), (.istore 4, 0, 0), (.goto_w 0, 3, 0)] := rfl
theorem k_Md_seeks_3 : zblk i_Md_seeks 3 = [(.iload 4, 0, 0), (.ifCond .eq 0, 7, 0), (.goto_w 0, 4, 0)] := rfl
theorem k_Md_seeks_4 : zblk i_Md_seeks 4 = [(.aload 0, 0, 0), (.invokevirtual 0, 225, 0), (.iload 3, 0, 0), (.aload 0, 0, 0), (.invokevirtual 0, 228, 0), (.iconst (-1), 0, 0), (.ixor, 0, 0), (.iand, 0, 0), (.ifCond .ne 0, 6, 0), (.goto_w 0, 5, 0)] := rfl
theorem k_Md_seeks_5 : zblk i_Md_seeks 5 = [(.iconst (1), 0, 0), (.ireturn, 0, 0)] := rfl
theorem k_Md_seeks_6 : zblk i_Md_seeks 6 = [(.aload 0, 0, 0), (.invokevirtual 0, 224, 0), (.istore 4, 0, 0), (.goto 0, 3, 0)] := rfl
theorem k_Md_seeks_7 : zblk i_Md_seeks 7 = [(.iload 2, 0, 0), (.ifCond .ge 0, 9, 0), (.goto_w 0, 8, 0)] := rfl
theorem k_Md_seeks_8 : zblk i_Md_seeks 8 = [(.iconst (-1), 0, 0), (.goto 0, 10, 0)] := rfl
theorem k_Md_seeks_9 : zblk i_Md_seeks 9 = [(.iconst (0), 0, 0), (.goto_w 0, 10, 0)] := rfl
theorem k_Md_seeks_10 : zblk i_Md_seeks 10 = [(.ireturn, 0, 0)] := rfl
theorem a_Md_seeks : zmA i_Md_seeks = 1 := rfl
theorem l_Md_seeks : zmL i_Md_seeks = 5 := rfl
theorem r_Md_seeks : zmR i_Md_seeks = some .int := rfl
theorem o_Md_seeks : zmO i_Md_seeks = 11 := rfl
theorem k_Md_blind_0 : zblk i_Md_blind 0 = [(.aload 0, 0, 0), (.iload 1, 0, 0), (.invokevirtual 0, 170, 0), (.ifCond .ne 0, 2, 0), (.goto_w 0, 1, 0)] := rfl
theorem k_Md_blind_1 : zblk i_Md_blind 1 = [(.iconst (-1), 0, 0), (.ireturn, 0, 0)] := rfl
theorem k_Md_blind_2 : zblk i_Md_blind 2 = [(.aload 0, 0, 0), (.invokevirtual 0, 205, 0), (.ifCond .eq 0, 4, 0), (.goto_w 0, 3, 0)] := rfl
theorem k_Md_blind_3 : zblk i_Md_blind 3 = [(.aload 0, 0, 0), (.iload 1, 0, 0), (.invokevirtual 0, 230, 0), (.goto 0, 5, 0)] := rfl
theorem k_Md_blind_4 : zblk i_Md_blind 4 = [(.iconst (-2), 0, 0), (.goto_w 0, 5, 0)] := rfl
theorem k_Md_blind_5 : zblk i_Md_blind 5 = [(.ireturn, 0, 0)] := rfl
theorem a_Md_blind : zmA i_Md_blind = 1 := rfl
theorem l_Md_blind : zmL i_Md_blind = 2 := rfl
theorem r_Md_blind : zmR i_Md_blind = some .int := rfl
theorem o_Md_blind : zmO i_Md_blind = 11 := rfl
theorem k_Md_blindMove_0 : zblk i_Md_blindMove 0 = [(.aload 0, 0, 0), (.iload 1, 0, 0), (.invokevirtual 0, 170, 0), (.ifCond .eq 0, 3, 0), (.goto_w 0, 1, 0)] := rfl
theorem k_Md_blindMove_1 : zblk i_Md_blindMove 1 = [(.aload 0, 0, 0), (.iload 2, 0, 0), (.invokevirtual 0, 171, 0), (.ifCond .eq 0, 3, 0), (.goto_w 0, 2, 0)] := rfl
theorem k_Md_blindMove_2 : zblk i_Md_blindMove 2 = [(.iload 3, 0, 0), (.i2l, 0, 0), (.sipush (0), 0, 0), (.sipush (11), 0, 0), (.invokestatic 0, 166, 0), (.ifCond .ne 0, 4, 0), (.goto_w 0, 3, 0)] := rfl
theorem k_Md_blindMove_3 : zblk i_Md_blindMove 3 = [(.iconst (-1), 0, 0), (.ireturn, 0, 0)] := rfl
theorem k_Md_blindMove_4 : zblk i_Md_blindMove 4 = [(.aload 0, 0, 0), (.invokevirtual 0, 205, 0), (.ifCond .ne 0, 6, 0), (.goto_w 0, 5, 0)] := rfl
theorem k_Md_blindMove_5 : zblk i_Md_blindMove 5 = [(.iconst (-2), 0, 0), (.ireturn, 0, 0)] := rfl
theorem k_Md_blindMove_6 : zblk i_Md_blindMove 6 = [(.aload 0, 0, 0), (.getfield 0, 11, 14), (.iconst (0), 0, 0), (.iaload, 0, 0), (.iload 2, 0, 0), (.ishr, 0, 0), (.iconst (1), 0, 0), (.iand, 0, 0), (.ifCond .eq 0, 8, 0), (.goto_w 0, 7, 0)] := rfl
theorem k_Md_blindMove_7 : zblk i_Md_blindMove 7 = [(.aload 0, 0, 0), (.iload 2, 0, 0), (.iload 3, 0, 0), (.invokevirtual 0, 221, 0), (.ifCond .ne 0, 9, 0), (.goto_w 0, 8, 0)] := rfl
theorem k_Md_blindMove_8 : zblk i_Md_blindMove 8 = [(.iconst (-1), 0, 0), (.ireturn, 0, 0)] := rfl
theorem k_Md_blindMove_9 : zblk i_Md_blindMove 9 = [(.aload 0, 0, 0), (.iload 1, 0, 0), (.invokevirtual 0, 230, 0), (.istore 4, 0, 0), (.iload 4, 0, 0), (.ifCond .ge 0, 11, 0), (.goto_w 0, 10, 0)] := rfl
theorem k_Md_blindMove_10 : zblk i_Md_blindMove 10 = [(.iload 4, 0, 0), (.goto 0, 14, 0)] := rfl
theorem k_Md_blindMove_11 : zblk i_Md_blindMove 11 = [(.iload 4, 0, 0), (.ifCond .ne 0, 13, 0), (.goto_w 0, 12, 0)] := rfl
theorem k_Md_blindMove_12 : zblk i_Md_blindMove 12 = [(.iconst (-4), 0, 0), (.goto 0, 14, 0)] := rfl
theorem k_Md_blindMove_13 : zblk i_Md_blindMove 13 = [(.aload 0, 0, 0), (.getfield 0, 11, 40), (.aload 0, 0, 0), (.iload 2, 0, 0), (.iload 3, 0, 0), (.invokevirtual 0, 223, 0), (.iaload, 0, 0), (.goto_w 0, 14, 0)] := rfl
theorem k_Md_blindMove_14 : zblk i_Md_blindMove 14 = [(.ireturn, 0, 0)] := rfl
theorem a_Md_blindMove : zmA i_Md_blindMove = 3 := rfl
theorem l_Md_blindMove : zmL i_Md_blindMove = 5 := rfl
theorem r_Md_blindMove : zmR i_Md_blindMove = some .int := rfl
theorem o_Md_blindMove : zmO i_Md_blindMove = 11 := rfl
theorem k_Md_choose_0 : zblk i_Md_choose 0 = [(.aload 0, 0, 0), (.iload 1, 0, 0), (.invokevirtual 0, 171, 0), (.ifCond .eq 0, 3, 0), (.goto_w 0, 1, 0)] := rfl
theorem k_Md_choose_1 : zblk i_Md_choose 1 = [(.aload 0, 0, 0), (.iload 2, 0, 0), (.invokevirtual 0, 170, 0), (.ifCond .eq 0, 3, 0), (.goto_w 0, 2, 0)] := rfl
theorem k_Md_choose_2 : zblk i_Md_choose 2 = [(.iload 3, 0, 0), (.i2l, 0, 0), (.sipush (0), 0, 0), (.aload 0, 0, 0), (.getfield 0, 11, 2), (.iconst (4), 0, 0), (.iload 2, 0, 0), (.imul, 0, 0), (.iload 1, 0, 0), (.iadd, 0, 0), (.iaload, 0, 0), (.iconst (1), 0, 0), (.isub, 0, 0), (.i2l, 0, 0), (.invokestatic 0, 166, 0), (.ifCond .ne 0, 4, 0), (.goto_w 0, 3, 0)] := rfl
theorem k_Md_choose_3 : zblk i_Md_choose 3 = [(.iconst (-1), 0, 0), (.ireturn, 0, 0)] := rfl
theorem k_Md_choose_4 : zblk i_Md_choose 4 = [(.aload 0, 0, 0), (.getfield 0, 11, 7), (.iconst (4), 0, 0), (.iload 2, 0, 0), (.imul, 0, 0), (.iload 1, 0, 0), (.iadd, 0, 0), (.iaload, 0, 0), (.istore 4, 0, 0), (.aload 0, 0, 0), (.getfield 0, 11, 7), (.iconst (4), 0, 0), (.iload 2, 0, 0), (.imul, 0, 0), (.iload 1, 0, 0), (.iadd, 0, 0), (.iload 3, 0, 0), (.iastore, 0, 0), (.iload 4, 0, 0), (.ireturn, 0, 0)] := rfl
theorem a_Md_choose : zmA i_Md_choose = 3 := rfl
theorem l_Md_choose : zmL i_Md_choose = 5 := rfl
theorem r_Md_choose : zmR i_Md_choose = some .int := rfl
theorem o_Md_choose : zmO i_Md_choose = 11 := rfl
theorem k_Md_lot_0 : zblk i_Md_lot 0 = [(.iload 1, 0, 0), (.i2l, 0, 0), (.sipush (-1), 0, 0), (.aload 0, 0, 0), (.getfield 0, 11, 1), (.iconst (1), 0, 0), (.isub, 0, 0), (.i2l, 0, 0), (.invokestatic 0, 166, 0), (.ifCond .ne 0, 2, 0), (.goto_w 0, 1, 0)] := rfl
theorem k_Md_lot_1 : zblk i_Md_lot 1 = [(.iconst (-11), 0, 0), (.ireturn, 0, 0)] := rfl
theorem k_Md_lot_2 : zblk i_Md_lot 2 = [(.aload 0, 0, 0), (.getfield 0, 11, 9), (.istore 2, 0, 0), (.aload 0, 0, 0), (.iload 1, 0, 0), (.putfield 0, 11, 9), (.iload 2, 0, 0), (.ireturn, 0, 0)] := rfl
theorem a_Md_lot : zmA i_Md_lot = 1 := rfl
theorem l_Md_lot : zmL i_Md_lot = 3 := rfl
theorem r_Md_lot : zmR i_Md_lot = some .int := rfl
theorem o_Md_lot : zmO i_Md_lot = 11 := rfl
theorem k_Md_leadsWith_0 : zblk i_Md_leadsWith 0 = [(.iconst (0), 0, 0), (.istore 4, 0, 0), (.iconst (0), 0, 0), (.istore 5, 0, 0), (.goto_w 0, 1, 0)] := rfl
theorem k_Md_leadsWith_1 : zblk i_Md_leadsWith 1 = [(.iload 5, 0, 0), (.aload 0, 0, 0), (.getfield 0, 11, 1), (.if_icmp .ge 0, 6, 0), (.goto_w 0, 2, 0)] := rfl
theorem k_Md_leadsWith_2 : zblk i_Md_leadsWith 2 = [(.iload 4, 0, 0), (.aload 0, 0, 0), (.getfield 0, 11, 2), (.iconst (4), 0, 0), (.iload 1, 0, 0), (.imul, 0, 0), (.iload 5, 0, 0), (.iadd, 0, 0), (.iaload, 0, 0), (.imul, 0, 0), (.iload 5, 0, 0), (.iload 2, 0, 0), (.if_icmp .ne 0, 4, 0), (.goto_w 0, 3, 0)] := rfl
theorem k_Md_leadsWith_3 : zblk i_Md_leadsWith 3 = [(.iload 3, 0, 0), (.goto 0, 5, 0)] := rfl
theorem k_Md_leadsWith_4 : zblk i_Md_leadsWith 4 = [(.aload 0, 0, 0), (.getfield 0, 11, 7), (.iconst (4), 0, 0), (.iload 1, 0, 0), (.imul, 0, 0), (.iload 5, 0, 0), (.iadd, 0, 0), (.iaload, 0, 0), (.goto_w 0, 5, 0)] := rfl
theorem k_Md_leadsWith_5 : zblk i_Md_leadsWith 5 = [(.iadd, 0, 0), (.istore 4, 0, 0), (.iinc 5 (1), 0, 0), (.goto 0, 1, 0)] := rfl
theorem k_Md_leadsWith_6 : zblk i_Md_leadsWith 6 = [(.aload 0, 0, 0), (.getfield 0, 11, 3), (.iconst (81), 0, 0), (.iload 1, 0, 0), (.imul, 0, 0), (.iload 4, 0, 0), (.iadd, 0, 0), (.iaload, 0, 0), (.ireturn, 0, 0)] := rfl
theorem a_Md_leadsWith : zmA i_Md_leadsWith = 3 := rfl
theorem l_Md_leadsWith : zmL i_Md_leadsWith = 6 := rfl
theorem r_Md_leadsWith : zmR i_Md_leadsWith = some .int := rfl
theorem o_Md_leadsWith : zmO i_Md_leadsWith = 11 := rfl
theorem k_Md_lotMany_0 : zblk i_Md_lotMany 0 = [(.aload 0, 0, 0), (.getfield 0, 11, 9), (.ifCond .ge 0, 2, 0), (.goto_w 0, 1, 0)] := rfl
theorem k_Md_lotMany_1 : zblk i_Md_lotMany 1 = [(.iconst (1), 0, 0), (.goto 0, 3, 0)] := rfl
theorem k_Md_lotMany_2 : zblk i_Md_lotMany 2 = [(.aload 0, 0, 0), (.getfield 0, 11, 2), (.iconst (4), 0, 0), (.iload 1, 0, 0), (.imul, 0, 0), (.aload 0, 0, 0), (.getfield 0, 11, 9), (.iadd, 0, 0), (.iaload, 0, 0), (.goto_w 0, 3, 0)] := rfl
theorem k_Md_lotMany_3 : zblk i_Md_lotMany 3 = [(.ireturn, 0, 0)] := rfl
theorem a_Md_lotMany : zmA i_Md_lotMany = 1 := rfl
theorem l_Md_lotMany : zmL i_Md_lotMany = 2 := rfl
theorem r_Md_lotMany : zmR i_Md_lotMany = some .int := rfl
theorem o_Md_lotMany : zmO i_Md_lotMany = 11 := rfl
theorem k_Md_common_0 : zblk i_Md_common 0 = [(.lload 0, 0, 0), (.sipush (0), 0, 0), (.lcmp, 0, 0), (.ifCond .ge 0, 2, 0), (.goto_w 0, 1, 0)] := rfl
theorem k_Md_common_1 : zblk i_Md_common 1 = [(.sipush (0), 0, 0), (.lload 0, 0, 0), (.lsub, 0, 0), (.goto 0, 3, 0)] := rfl
theorem k_Md_common_2 : zblk i_Md_common 2 = [(.lload 0, 0, 0), (.goto_w 0, 3, 0)] := rfl
theorem k_Md_common_3 : zblk i_Md_common 3 = [(.lstore 4, 0, 0), (.lload 2, 0, 0), (.sipush (0), 0, 0), (.lcmp, 0, 0), (.ifCond .ge 0, 5, 0), (.goto_w 0, 4, 0)] := rfl
theorem k_Md_common_4 : zblk i_Md_common 4 = [(.sipush (0), 0, 0), (.lload 2, 0, 0), (.lsub, 0, 0), (.goto 0, 6, 0)] := rfl
theorem k_Md_common_5 : zblk i_Md_common 5 = [(.lload 2, 0, 0), (.goto_w 0, 6, 0)] := rfl
theorem k_Md_common_6 : zblk i_Md_common 6 = [(.lstore 6, 0, 0), (.goto_w 0, 7, 0)] := rfl
theorem k_Md_common_7 : zblk i_Md_common 7 = [(.lload 6, 0, 0), (.sipush (0), 0, 0), (.lcmp, 0, 0), (.ifCond .eq 0, 9, 0), (.goto_w 0, 8, 0)] := rfl
theorem k_Md_common_8 : zblk i_Md_common 8 = [(.lload 4, 0, 0), (.lload 6, 0, 0), (.lrem, 0, 0), (.lstore 8, 0, 0), (.lload 6, 0, 0), (.lstore 4, 0, 0), (.lload 8, 0, 0), (.lstore 6, 0, 0), (.goto 0, 7, 0)] := rfl
theorem k_Md_common_9 : zblk i_Md_common 9 = [(.lload 4, 0, 0), (.lreturn, 0, 0)] := rfl
theorem a_Md_common : zmA i_Md_common = 2 := rfl
theorem l_Md_common : zmL i_Md_common = 10 := rfl
theorem r_Md_common : zmR i_Md_common = some .long := rfl
theorem o_Md_common : zmO i_Md_common = 11 := rfl
theorem k_Md_coming_0 : zblk i_Md_coming 0 = [(.iload 1, 0, 0), (.istore 2, 0, 0), (.iconst (-1), 0, 0), (.istore 3, 0, 0), (.goto_w 0, 1, 0)] := rfl
theorem k_Md_coming_1 : zblk i_Md_coming 1 = [(.iload 2, 0, 0), (.iload 3, 0, 0), (.if_icmp .eq 0, 9, 0), (.goto_w 0, 2, 0)] := rfl
theorem k_Md_coming_2 : zblk i_Md_coming 2 = [(.iload 2, 0, 0), (.istore 3, 0, 0), (.iconst (0), 0, 0), (.istore 4, 0, 0), (.goto_w 0, 3, 0)] := rfl
theorem k_Md_coming_3 : zblk i_Md_coming 3 = [(.iload 4, 0, 0), (.aload 0, 0, 0), (.getfield 0, 11, 0), (.if_icmp .ge 0, 8, 0), (.goto_w 0, 4, 0)] := rfl
theorem k_Md_coming_4 : zblk i_Md_coming 4 = [(.iconst (0), 0, 0), (.istore 5, 0, 0), (.goto_w 0, 5, 0)] := rfl
theorem k_Md_coming_5 : zblk i_Md_coming 5 = [(.iload 5, 0, 0), (.aload 0, 0, 0), (.iload 4, 0, 0), (.invokevirtual 0, 236, 0), (.if_icmp .ge 0, 7, 0), (.goto_w 0, 6, 0)] := rfl
theorem k_Md_coming_6 : zblk i_Md_coming 6 = [(.iload 2, 0, 0), (.iload 3, 0, 0), (.aload 0, 0, 0), (.iload 4, 0, 0), (.aload 0, 0, 0), (.getfield 0, 11, 9), (.iload 5, 0, 0), (.invokevirtual 0, 235, 0), (.ishr, 0, 0), (.iconst (1), 0, 0), (.iand, 0, 0), (.iload 4, 0, 0), (.ishl, 0, 0), (.ior, 0, 0), (.istore 2, 0, 0), (.iinc 5 (1), 0, 0), (.goto 0, 5, 0)] := rfl
theorem k_Md_coming_7 : zblk i_Md_coming 7 = [(.iinc 4 (1), 0, 0), (.goto 0, 3, 0)] := rfl
theorem k_Md_coming_8 : zblk i_Md_coming 8 = [(.goto 0, 1, 0)] := rfl
theorem k_Md_coming_9 : zblk i_Md_coming 9 = [(.iload 2, 0, 0), (.ireturn, 0, 0)] := rfl
theorem a_Md_coming : zmA i_Md_coming = 1 := rfl
theorem l_Md_coming : zmL i_Md_coming = 6 := rfl
theorem r_Md_coming : zmR i_Md_coming = some .int := rfl
theorem o_Md_coming : zmO i_Md_coming = 11 := rfl
theorem k_Md_equations_0 : zblk i_Md_equations 0 = [(.iconst (0), 0, 0), (.istore 3, 0, 0), (.goto_w 0, 1, 0)] := rfl
theorem k_Md_equations_1 : zblk i_Md_equations 1 = [(.iload 3, 0, 0), (.iconst (156), 0, 0), (.if_icmp .ge 0, 3, 0), (.goto_w 0, 2, 0)] := rfl
theorem k_Md_equations_2 : zblk i_Md_equations 2 = [(.aload 0, 0, 0), (.getfield 0, 11, 43), (.iload 3, 0, 0), (.sipush (0), 0, 0), (.lastore, 0, 0), (.iinc 3 (1), 0, 0), (.goto 0, 1, 0)] := rfl
theorem k_Md_equations_3 : zblk i_Md_equations 3 = [(.iconst (0), 0, 0), (.istore 3, 0, 0), (.goto_w 0, 4, 0)] := rfl
theorem k_Md_equations_4 : zblk i_Md_equations 4 = [(.iload 3, 0, 0), (.aload 0, 0, 0), (.getfield 0, 11, 0), (.if_icmp .ge 0, 24, 0), (.goto_w 0, 5, 0)] := rfl
theorem k_Md_equations_5 : zblk i_Md_equations 5 = [(.iload 1, 0, 0), (.iload 3, 0, 0), (.ishr, 0, 0), (.iconst (1), 0, 0), (.iand, 0, 0), (.iconst (1), 0, 0), (.if_icmp .ne 0, 7, 0), (.goto_w 0, 6, 0)] := rfl
theorem k_Md_equations_6 : zblk i_Md_equations 6 = [(.iconst (1), 0, 0), (.goto 0, 8, 0)] := rfl
theorem k_Md_equations_7 : zblk i_Md_equations 7 = [(.iconst (0), 0, 0), (.goto_w 0, 8, 0)] := rfl
theorem k_Md_equations_8 : zblk i_Md_equations 8 = [(.istore 4, 0, 0), (.iload 2, 0, 0), (.iload 3, 0, 0), (.ishr, 0, 0), (.iconst (1), 0, 0), (.iand, 0, 0), (.iconst (1), 0, 0), (.if_icmp .ne 0, 10, 0), (.goto_w 0, 9, 0)] := rfl
theorem k_Md_equations_9 : zblk i_Md_equations 9 = [(.iconst (1), 0, 0), (.goto 0, 11, 0)] := rfl
theorem k_Md_equations_10 : zblk i_Md_equations 10 = [(.iconst (0), 0, 0), (.goto_w 0, 11, 0)] := rfl
theorem k_Md_equations_11 : zblk i_Md_equations 11 = [(.istore 5, 0, 0), (.aload 0, 0, 0), (.getfield 0, 11, 43), (.iconst (13), 0, 0), (.iload 3, 0, 0), (.imul, 0, 0), (.iload 3, 0, 0), (.iadd, 0, 0), (.iload 4, 0, 0), (.ifCond .ne 0, 13, 0), (.goto_w 0, 12, 0)] := rfl
theorem k_Md_equations_12 : zblk i_Md_equations 12 = [(.iload 5, 0, 0), (.ifCond .ne 0, 14, 0), (.goto_w 0, 13, 0)] := rfl
theorem k_Md_equations_13 : zblk i_Md_equations 13 = [(.sipush (1), 0, 0), (.goto 0, 15, 0)] := rfl
theorem k_Md_equations_14 : zblk i_Md_equations 14 = [(.aload 0, 0, 0), (.iload 3, 0, 0), (.invokevirtual 0, 236, 0), (.i2l, 0, 0), (.goto_w 0, 15, 0)] := rfl
theorem k_Md_equations_15 : zblk i_Md_equations 15 = [(.lastore, 0, 0), (.aload 0, 0, 0), (.getfield 0, 11, 43), (.iconst (13), 0, 0), (.iload 3, 0, 0), (.imul, 0, 0), (.iconst (12), 0, 0), (.iadd, 0, 0), (.iload 4, 0, 0), (.ifCond .eq 0, 17, 0), (.goto_w 0, 16, 0)] := rfl
theorem k_Md_equations_16 : zblk i_Md_equations 16 = [(.sipush (1), 0, 0), (.goto 0, 18, 0)] := rfl
theorem k_Md_equations_17 : zblk i_Md_equations 17 = [(.sipush (0), 0, 0), (.goto_w 0, 18, 0)] := rfl
theorem k_Md_equations_18 : zblk i_Md_equations 18 = [(.lastore, 0, 0), (.iconst (0), 0, 0), (.istore 6, 0, 0), (.goto_w 0, 19, 0)] := rfl
theorem k_Md_equations_19 : zblk i_Md_equations 19 = [(.iload 6, 0, 0), (.aload 0, 0, 0), (.iload 3, 0, 0), (.invokevirtual 0, 236, 0), (.if_icmp .ge 0, 23, 0), (.goto_w 0, 20, 0)] := rfl
theorem k_Md_equations_20 : zblk i_Md_equations 20 = [(.iload 5, 0, 0), (.ifCond .eq 0, 23, 0), (.goto_w 0, 21, 0)] := rfl
theorem k_Md_equations_21 : zblk i_Md_equations 21 = [(.iload 4, 0, 0), (.ifCond .ne 0, 23, 0), (.goto_w 0, 22, 0)] := rfl
theorem k_Md_equations_22 : zblk i_Md_equations 22 = [(.aload 0, 0, 0), (.getfield 0, 11, 43), (.iconst (13), 0, 0), (.iload 3, 0, 0), (.imul, 0, 0), (.aload 0, 0, 0), (.iload 3, 0, 0), (.aload 0, 0, 0), (.getfield 0, 11, 9), (.iload 6, 0, 0), (.invokevirtual 0, 235, 0), (.iadd, 0, 0), (.dup2, 0, 0), (.laload, 0, 0), (.sipush (1), 0, 0), (.lsub, 0, 0), (.lastore, 0, 0), (.iinc 6 (1), 0, 0), (.goto 0, 19, 0)] := rfl
theorem k_Md_equations_23 : zblk i_Md_equations 23 = [(.iinc 3 (1), 0, 0), (.goto 0, 4, 0)] := rfl
theorem k_Md_equations_24 : zblk i_Md_equations 24 = [(.return_, 0, 0)] := rfl
theorem a_Md_equations : zmA i_Md_equations = 2 := rfl
theorem l_Md_equations : zmL i_Md_equations = 7 := rfl
theorem r_Md_equations : zmR i_Md_equations = none := rfl
theorem o_Md_equations : zmO i_Md_equations = 11 := rfl
theorem k_Md_shorten_0 : zblk i_Md_shorten 0 = [(.sipush (0), 0, 0), (.lstore 2, 0, 0), (.iconst (0), 0, 0), (.istore 4, 0, 0), (.goto_w 0, 1, 0)] := rfl
theorem k_Md_shorten_1 : zblk i_Md_shorten 1 = [(.iload 4, 0, 0), (.iconst (13), 0, 0), (.if_icmp .ge 0, 3, 0), (.goto_w 0, 2, 0)] := rfl
theorem k_Md_shorten_2 : zblk i_Md_shorten 2 = [(.lload 2, 0, 0), (.aload 0, 0, 0), (.getfield 0, 11, 43), (.iconst (13), 0, 0), (.iload 1, 0, 0), (.imul, 0, 0), (.iload 4, 0, 0), (.iadd, 0, 0), (.laload, 0, 0), (.invokestatic 0, 237, 0), (.lstore 2, 0, 0), (.iinc 4 (1), 0, 0), (.goto 0, 1, 0)] := rfl
theorem k_Md_shorten_3 : zblk i_Md_shorten 3 = [(.iconst (0), 0, 0), (.istore 4, 0, 0), (.goto_w 0, 4, 0)] := rfl
theorem k_Md_shorten_4 : zblk i_Md_shorten 4 = [(.iload 4, 0, 0), (.iconst (13), 0, 0), (.if_icmp .ge 0, 7, 0), (.goto_w 0, 5, 0)] := rfl
theorem k_Md_shorten_5 : zblk i_Md_shorten 5 = [(.lload 2, 0, 0), (.sipush (1), 0, 0), (.lcmp, 0, 0), (.ifCond .le 0, 7, 0), (.goto_w 0, 6, 0)] := rfl
theorem k_Md_shorten_6 : zblk i_Md_shorten 6 = [(.aload 0, 0, 0), (.getfield 0, 11, 43), (.iconst (13), 0, 0), (.iload 1, 0, 0), (.imul, 0, 0), (.iload 4, 0, 0), (.iadd, 0, 0), (.dup2, 0, 0), (.laload, 0, 0), (.lload 2, 0, 0), (.ldiv, 0, 0), (.lastore, 0, 0), (.iinc 4 (1), 0, 0), (.goto 0, 4, 0)] := rfl
theorem k_Md_shorten_7 : zblk i_Md_shorten 7 = [(.return_, 0, 0)] := rfl
theorem a_Md_shorten : zmA i_Md_shorten = 1 := rfl
theorem l_Md_shorten : zmL i_Md_shorten = 5 := rfl
theorem r_Md_shorten : zmR i_Md_shorten = none := rfl
theorem o_Md_shorten : zmO i_Md_shorten = 11 := rfl
theorem k_Md_swap_0 : zblk i_Md_swap 0 = [(.iconst (0), 0, 0), (.istore 3, 0, 0), (.goto_w 0, 1, 0)] := rfl
theorem k_Md_swap_1 : zblk i_Md_swap 1 = [(.iload 3, 0, 0), (.iconst (13), 0, 0), (.if_icmp .ge 0, 3, 0), (.goto_w 0, 2, 0)] := rfl
theorem k_Md_swap_2 : zblk i_Md_swap 2 = [(.aload 0, 0, 0), (.getfield 0, 11, 43), (.iconst (13), 0, 0), (.iload 1, 0, 0), (.imul, 0, 0), (.iload 3, 0, 0), (.iadd, 0, 0), (.laload, 0, 0), (.lstore 4, 0, 0), (.aload 0, 0, 0), (.getfield 0, 11, 43), (.iconst (13), 0, 0), (.iload 1, 0, 0), (.imul, 0, 0), (.iload 3, 0, 0), (.iadd, 0, 0), (.aload 0, 0, 0), (.getfield 0, 11, 43), (.iconst (13), 0, 0), (.iload 2, 0, 0), (.imul, 0, 0), (.iload 3, 0, 0), (.iadd, 0, 0), (.laload, 0, 0), (.lastore, 0, 0), (.aload 0, 0, 0), (.getfield 0, 11, 43), (.iconst (13), 0, 0), (.iload 2, 0, 0), (.imul, 0, 0), (.iload 3, 0, 0), (.iadd, 0, 0), (.lload 4, 0, 0), (.lastore, 0, 0), (.iinc 3 (1), 0, 0), (.goto 0, 1, 0)] := rfl
theorem k_Md_swap_3 : zblk i_Md_swap 3 = [(.return_, 0, 0)] := rfl
theorem a_Md_swap : zmA i_Md_swap = 2 := rfl
theorem l_Md_swap : zmL i_Md_swap = 6 := rfl
theorem r_Md_swap : zmR i_Md_swap = none := rfl
theorem o_Md_swap : zmO i_Md_swap = 11 := rfl
theorem k_Md_solve_0 : zblk i_Md_solve 0 = [(.iconst (0), 0, 0), (.istore 1, 0, 0), (.goto_w 0, 1, 0)] := rfl
theorem k_Md_solve_1 : zblk i_Md_solve 1 = [(.iload 1, 0, 0), (.aload 0, 0, 0), (.getfield 0, 11, 0), (.if_icmp .ge 0, 15, 0), (.goto_w 0, 2, 0)] := rfl
theorem k_Md_solve_2 : zblk i_Md_solve 2 = [(.iload 1, 0, 0), (.istore 2, 0, 0), (.goto_w 0, 3, 0)] := rfl
theorem k_Md_solve_3 : zblk i_Md_solve 3 = [(.aload 0, 0, 0), (.getfield 0, 11, 43), (.iconst (13), 0, 0), (.iload 2, 0, 0), (.imul, 0, 0), (.iload 1, 0, 0), (.iadd, 0, 0), (.laload, 0, 0), (.sipush (0), 0, 0), (.lcmp, 0, 0), (.ifCond .ne 0, 5, 0), (.goto_w 0, 4, 0)] := rfl
theorem k_Md_solve_4 : zblk i_Md_solve 4 = [(.iinc 2 (1), 0, 0), (.goto 0, 3, 0)] := rfl
theorem k_Md_solve_5 : zblk i_Md_solve 5 = [(.aload 0, 0, 0), (.iload 1, 0, 0), (.iload 2, 0, 0), (.invokevirtual 0, 241, 0), (.iconst (0), 0, 0), (.istore 3, 0, 0), (.goto_w 0, 6, 0)] := rfl
theorem k_Md_solve_6 : zblk i_Md_solve 6 = [(.iload 3, 0, 0), (.aload 0, 0, 0), (.getfield 0, 11, 0), (.if_icmp .ge 0, 14, 0), (.goto_w 0, 7, 0)] := rfl
theorem k_Md_solve_7 : zblk i_Md_solve 7 = [(.iload 3, 0, 0), (.iload 1, 0, 0), (.if_icmp .eq 0, 13, 0), (.goto_w 0, 8, 0)] := rfl
theorem k_Md_solve_8 : zblk i_Md_solve 8 = [(.aload 0, 0, 0), (.getfield 0, 11, 43), (.iconst (13), 0, 0), (.iload 3, 0, 0), (.imul, 0, 0), (.iload 1, 0, 0), (.iadd, 0, 0), (.laload, 0, 0), (.sipush (0), 0, 0), (.lcmp, 0, 0), (.ifCond .eq 0, 13, 0), (.goto_w 0, 9, 0)] := rfl
theorem k_Md_solve_9 : zblk i_Md_solve 9 = [(.aload 0, 0, 0), (.getfield 0, 11, 43), (.iconst (13), 0, 0), (.iload 3, 0, 0), (.imul, 0, 0), (.iload 1, 0, 0), (.iadd, 0, 0), (.laload, 0, 0), (.aload 0, 0, 0), (.getfield 0, 11, 43), (.iconst (13), 0, 0), (.iload 1, 0, 0), (.imul, 0, 0), (.iload 1, 0, 0), (.iadd, 0, 0), (.laload, 0, 0), (.invokestatic 0, 237, 0), (.lstore 4, 0, 0), (.aload 0, 0, 0), (.getfield 0, 11, 43), (.iconst (13), 0, 0), (.iload 1, 0, 0), (.imul, 0, 0), (.iload 1, 0, 0), (.iadd, 0, 0), (.laload, 0, 0), (.lload 4, 0, 0), (.ldiv, 0, 0), (.lstore 6, 0, 0), (.aload 0, 0, 0), (.getfield 0, 11, 43), (.iconst (13), 0, 0), (.iload 3, 0, 0), (.imul, 0, 0), (.iload 1, 0, 0), (.iadd, 0, 0), (.laload, 0, 0), (.lload 4, 0, 0), (.ldiv, 0, 0), (.lstore 8, 0, 0), (.iconst (0), 0, 0), (.istore 10, 0, 0), (.goto_w 0, 10, 0)] := rfl
theorem k_Md_solve_10 : zblk i_Md_solve 10 = [(.iload 10, 0, 0), (.iconst (13), 0, 0), (.if_icmp .ge 0, 12, 0), (.goto_w 0, 11, 0)] := rfl
theorem k_Md_solve_11 : zblk i_Md_solve 11 = [(.aload 0, 0, 0), (.getfield 0, 11, 43), (.iconst (13), 0, 0), (.iload 3, 0, 0), (.imul, 0, 0), (.iload 10, 0, 0), (.iadd, 0, 0), (.aload 0, 0, 0), (.getfield 0, 11, 43), (.iconst (13), 0, 0), (.iload 3, 0, 0), (.imul, 0, 0), (.iload 10, 0, 0), (.iadd, 0, 0), (.laload, 0, 0), (.lload 6, 0, 0), (.lmul, 0, 0), (.aload 0, 0, 0), (.getfield 0, 11, 43), (.iconst (13), 0, 0), (.iload 1, 0, 0), (.imul, 0, 0), (.iload 10, 0, 0), (.iadd, 0, 0), (.laload, 0, 0), (.lload 8, 0, 0), (.lmul, 0, 0), (.lsub, 0, 0), (.lastore, 0, 0), (.iinc 10 (1), 0, 0), (.goto 0, 10, 0)] := rfl
theorem k_Md_solve_12 : zblk i_Md_solve 12 = [(.aload 0, 0, 0), (.iload 3, 0, 0), (.invokevirtual 0, 240, 0), (.goto_w 0, 13, 0)] := rfl
theorem k_Md_solve_13 : zblk i_Md_solve 13 = [(.iinc 3 (1), 0, 0), (.goto 0, 6, 0)] := rfl
theorem k_Md_solve_14 : zblk i_Md_solve 14 = [(.iinc 1 (1), 0, 0), (.goto 0, 1, 0)] := rfl
theorem k_Md_solve_15 : zblk i_Md_solve 15 = [(.return_, 0, 0)] := rfl
theorem a_Md_solve : zmA i_Md_solve = 0 := rfl
theorem l_Md_solve : zmL i_Md_solve = 11 := rfl
theorem r_Md_solve : zmR i_Md_solve = none := rfl
theorem o_Md_solve : zmO i_Md_solve = 11 := rfl
theorem k_Md_chance_0 : zblk i_Md_chance 0 = [(.aload 0, 0, 0), (.iload 1, 0, 0), (.invokevirtual 0, 170, 0), (.ifCond .eq 0, 2, 0), (.goto_w 0, 1, 0)] := rfl
theorem k_Md_chance_1 : zblk i_Md_chance 1 = [(.iload 2, 0, 0), (.i2l, 0, 0), (.sipush (0), 0, 0), (.sipush (1), 0, 0), (.invokestatic 0, 166, 0), (.ifCond .ne 0, 3, 0), (.goto_w 0, 2, 0)] := rfl
theorem k_Md_chance_2 : zblk i_Md_chance 2 = [(.sipush (-1), 0, 0), (.lreturn, 0, 0)] := rfl
theorem k_Md_chance_3 : zblk i_Md_chance 3 = [(.aload 0, 0, 0), (.invokevirtual 0, 202, 0), (.istore 3, 0, 0), (.aload 0, 0, 0), (.iload 3, 0, 0), (.aload 0, 0, 0), (.iload 3, 0, 0), (.invokevirtual 0, 238, 0), (.invokevirtual 0, 239, 0), (.aload 0, 0, 0), (.invokevirtual 0, 242, 0), (.aload 0, 0, 0), (.aload 0, 0, 0), (.getfield 0, 11, 43), (.iconst (13), 0, 0), (.iload 1, 0, 0), (.imul, 0, 0), (.iconst (12), 0, 0), (.iadd, 0, 0), (.laload, 0, 0), (.putfield 0, 11, 44), (.aload 0, 0, 0), (.aload 0, 0, 0), (.getfield 0, 11, 43), (.iconst (13), 0, 0), (.iload 1, 0, 0), (.imul, 0, 0), (.iload 1, 0, 0), (.iadd, 0, 0), (.laload, 0, 0), (.putfield 0, 11, 45), (.aload 0, 0, 0), (.getfield 0, 11, 44), (.aload 0, 0, 0), (.getfield 0, 11, 45), (.invokestatic 0, 237, 0), (.lstore 4, 0, 0), (.aload 0, 0, 0), (.getfield 0, 11, 45), (.sipush (0), 0, 0), (.lcmp, 0, 0), (.ifCond .ge 0, 5, 0), (.goto_w 0, 4, 0)] := rfl
theorem k_Md_chance_4 : zblk i_Md_chance 4 = [(.sipush (0), 0, 0), (.lload 4, 0, 0), (.lsub, 0, 0), (.goto 0, 6, 0)] := rfl
theorem k_Md_chance_5 : zblk i_Md_chance 5 = [(.lload 4, 0, 0), (.goto_w 0, 6, 0)] := rfl
theorem k_Md_chance_6 : zblk i_Md_chance 6 = [(.lstore 4, 0, 0), (.iload 2, 0, 0), (.ifCond .ne 0, 8, 0), (.goto_w 0, 7, 0)] := rfl
theorem k_Md_chance_7 : zblk i_Md_chance 7 = [(.aload 0, 0, 0), (.getfield 0, 11, 44), (.goto 0, 9, 0)] := rfl
theorem k_Md_chance_8 : zblk i_Md_chance 8 = [(.aload 0, 0, 0), (.getfield 0, 11, 45), (.goto_w 0, 9, 0)] := rfl
theorem k_Md_chance_9 : zblk i_Md_chance 9 = [(.lload 4, 0, 0), (.ldiv, 0, 0), (.lreturn, 0, 0)] := rfl
theorem a_Md_chance : zmA i_Md_chance = 2 := rfl
theorem l_Md_chance : zmL i_Md_chance = 6 := rfl
theorem r_Md_chance : zmR i_Md_chance = some .long := rfl
theorem o_Md_chance : zmO i_Md_chance = 11 := rfl
theorem k_Md_goal_0 : zblk i_Md_goal 0 = [(.aload 0, 0, 0), (.iload 1, 0, 0), (.invokevirtual 0, 171, 0), (.ifCond .eq 0, 2, 0), (.goto_w 0, 1, 0)] := rfl
theorem k_Md_goal_1 : zblk i_Md_goal 1 = [(.aload 0, 0, 0), (.iload 2, 0, 0), (.invokevirtual 0, 172, 0), (.ifCond .ne 0, 3, 0), (.goto_w 0, 2, 0)] := rfl
theorem k_Md_goal_2 : zblk i_Md_goal 2 = [(.iconst (-1), 0, 0), (.ireturn, 0, 0)] := rfl
theorem k_Md_goal_3 : zblk i_Md_goal 3 = [(.aload 0, 0, 0), (.getfield 0, 11, 8), (.iload 1, 0, 0), (.iaload, 0, 0), (.istore 3, 0, 0), (.aload 0, 0, 0), (.getfield 0, 11, 8), (.iload 1, 0, 0), (.iload 2, 0, 0), (.iastore, 0, 0), (.iload 3, 0, 0), (.ireturn, 0, 0)] := rfl
theorem a_Md_goal : zmA i_Md_goal = 2 := rfl
theorem l_Md_goal : zmL i_Md_goal = 4 := rfl
theorem r_Md_goal : zmR i_Md_goal = some .int := rfl
theorem o_Md_goal : zmO i_Md_goal = 11 := rfl
theorem k_Md_way_0 : zblk i_Md_way 0 = [(.iconst (0), 0, 0), (.istore 2, 0, 0), (.iload 1, 0, 0), (.istore 3, 0, 0), (.goto_w 0, 1, 0)] := rfl
theorem k_Md_way_1 : zblk i_Md_way 1 = [(.iload 2, 0, 0), (.iload 3, 0, 0), (.ishr, 0, 0), (.iconst (1), 0, 0), (.iand, 0, 0), (.ifCond .ne 0, 3, 0), (.goto_w 0, 2, 0)] := rfl
theorem k_Md_way_2 : zblk i_Md_way 2 = [(.iload 2, 0, 0), (.iconst (1), 0, 0), (.iload 3, 0, 0), (.ishl, 0, 0), (.ior, 0, 0), (.istore 2, 0, 0), (.aload 0, 0, 0), (.iload 3, 0, 0), (.iconst (-1), 0, 0), (.iconst (0), 0, 0), (.invokevirtual 0, 235, 0), (.istore 3, 0, 0), (.goto 0, 1, 0)] := rfl
theorem k_Md_way_3 : zblk i_Md_way 3 = [(.iload 2, 0, 0), (.ireturn, 0, 0)] := rfl
theorem a_Md_way : zmA i_Md_way = 1 := rfl
theorem l_Md_way : zmL i_Md_way = 4 := rfl
theorem r_Md_way : zmR i_Md_way = some .int := rfl
theorem o_Md_way : zmO i_Md_way = 11 := rfl
theorem k_Md_contentOf_0 : zblk i_Md_contentOf 0 = [(.aload 0, 0, 0), (.iload 1, 0, 0), (.invokevirtual 0, 245, 0), (.istore 2, 0, 0), (.iconst (0), 0, 0), (.istore 3, 0, 0), (.iconst (0), 0, 0), (.istore 4, 0, 0), (.goto_w 0, 1, 0)] := rfl
theorem k_Md_contentOf_1 : zblk i_Md_contentOf 1 = [(.iload 4, 0, 0), (.aload 0, 0, 0), (.getfield 0, 11, 1), (.if_icmp .ge 0, 6, 0), (.goto_w 0, 2, 0)] := rfl
theorem k_Md_contentOf_2 : zblk i_Md_contentOf 2 = [(.iload 3, 0, 0), (.iload 2, 0, 0), (.aload 0, 0, 0), (.getfield 0, 11, 8), (.iload 4, 0, 0), (.iaload, 0, 0), (.iand, 0, 0), (.ifCond .eq 0, 4, 0), (.goto_w 0, 3, 0)] := rfl
theorem k_Md_contentOf_3 : zblk i_Md_contentOf 3 = [(.iconst (1), 0, 0), (.iload 4, 0, 0), (.ishl, 0, 0), (.goto 0, 5, 0)] := rfl
theorem k_Md_contentOf_4 : zblk i_Md_contentOf 4 = [(.iconst (0), 0, 0), (.goto_w 0, 5, 0)] := rfl
theorem k_Md_contentOf_5 : zblk i_Md_contentOf 5 = [(.ior, 0, 0), (.istore 3, 0, 0), (.iinc 4 (1), 0, 0), (.goto 0, 1, 0)] := rfl
theorem k_Md_contentOf_6 : zblk i_Md_contentOf 6 = [(.iload 3, 0, 0), (.ireturn, 0, 0)] := rfl
theorem a_Md_contentOf : zmA i_Md_contentOf = 1 := rfl
theorem l_Md_contentOf : zmL i_Md_contentOf = 5 := rfl
theorem r_Md_contentOf : zmR i_Md_contentOf = some .int := rfl
theorem o_Md_contentOf : zmO i_Md_contentOf = 11 := rfl
theorem k_Md_content_0 : zblk i_Md_content 0 = [(.aload 0, 0, 0), (.iload 1, 0, 0), (.invokevirtual 0, 170, 0), (.ifCond .eq 0, 2, 0), (.goto_w 0, 1, 0)] := rfl
theorem k_Md_content_1 : zblk i_Md_content 1 = [(.aload 0, 0, 0), (.iload 1, 0, 0), (.invokevirtual 0, 246, 0), (.goto 0, 3, 0)] := rfl
theorem k_Md_content_2 : zblk i_Md_content 2 = [(.iconst (-1), 0, 0), (.goto_w 0, 3, 0)] := rfl
theorem k_Md_content_3 : zblk i_Md_content 3 = [(.ireturn, 0, 0)] := rfl
theorem a_Md_content : zmA i_Md_content = 1 := rfl
theorem l_Md_content : zmL i_Md_content = 2 := rfl
theorem r_Md_content : zmR i_Md_content = some .int := rfl
theorem o_Md_content : zmO i_Md_content = 11 := rfl
theorem k_Md_alone_0 : zblk i_Md_alone 0 = [(.iconst (1), 0, 0), (.iload 1, 0, 0), (.ishl, 0, 0), (.istore 3, 0, 0), (.iconst (0), 0, 0), (.istore 4, 0, 0), (.goto_w 0, 1, 0)] := rfl
theorem k_Md_alone_1 : zblk i_Md_alone 1 = [(.iload 3, 0, 0), (.iload 4, 0, 0), (.if_icmp .eq 0, 10, 0), (.goto_w 0, 2, 0)] := rfl
theorem k_Md_alone_2 : zblk i_Md_alone 2 = [(.iload 3, 0, 0), (.istore 4, 0, 0), (.iconst (0), 0, 0), (.istore 5, 0, 0), (.goto_w 0, 3, 0)] := rfl
theorem k_Md_alone_3 : zblk i_Md_alone 3 = [(.iload 5, 0, 0), (.aload 0, 0, 0), (.getfield 0, 11, 0), (.if_icmp .ge 0, 9, 0), (.goto_w 0, 4, 0)] := rfl
theorem k_Md_alone_4 : zblk i_Md_alone 4 = [(.iconst (0), 0, 0), (.istore 6, 0, 0), (.goto_w 0, 5, 0)] := rfl
theorem k_Md_alone_5 : zblk i_Md_alone 5 = [(.iload 6, 0, 0), (.aload 0, 0, 0), (.getfield 0, 11, 2), (.iconst (4), 0, 0), (.iload 5, 0, 0), (.imul, 0, 0), (.iload 2, 0, 0), (.iadd, 0, 0), (.iaload, 0, 0), (.if_icmp .ge 0, 8, 0), (.goto_w 0, 6, 0)] := rfl
theorem k_Md_alone_6 : zblk i_Md_alone 6 = [(.iload 4, 0, 0), (.iload 5, 0, 0), (.ishr, 0, 0), (.iconst (1), 0, 0), (.iand, 0, 0), (.iconst (1), 0, 0), (.if_icmp .ne 0, 8, 0), (.goto_w 0, 7, 0)] := rfl
theorem k_Md_alone_7 : zblk i_Md_alone 7 = [(.iload 3, 0, 0), (.iconst (1), 0, 0), (.aload 0, 0, 0), (.iload 5, 0, 0), (.iload 2, 0, 0), (.iload 6, 0, 0), (.invokevirtual 0, 235, 0), (.ishl, 0, 0), (.ior, 0, 0), (.istore 3, 0, 0), (.iinc 6 (1), 0, 0), (.goto 0, 5, 0)] := rfl
theorem k_Md_alone_8 : zblk i_Md_alone 8 = [(.iinc 5 (1), 0, 0), (.goto 0, 3, 0)] := rfl
theorem k_Md_alone_9 : zblk i_Md_alone 9 = [(.goto 0, 1, 0)] := rfl
theorem k_Md_alone_10 : zblk i_Md_alone 10 = [(.iload 3, 0, 0), (.ireturn, 0, 0)] := rfl
theorem a_Md_alone : zmA i_Md_alone = 2 := rfl
theorem l_Md_alone : zmL i_Md_alone = 7 := rfl
theorem r_Md_alone : zmR i_Md_alone = some .int := rfl
theorem o_Md_alone : zmO i_Md_alone = 11 := rfl
theorem k_Md_isStable_0 : zblk i_Md_isStable 0 = [(.aload 0, 0, 0), (.iload 1, 0, 0), (.invokevirtual 0, 246, 0), (.istore 2, 0, 0), (.iconst (0), 0, 0), (.istore 3, 0, 0), (.goto_w 0, 1, 0)] := rfl
theorem k_Md_isStable_1 : zblk i_Md_isStable 1 = [(.iload 3, 0, 0), (.aload 0, 0, 0), (.getfield 0, 11, 1), (.if_icmp .ge 0, 6, 0), (.goto_w 0, 2, 0)] := rfl
theorem k_Md_isStable_2 : zblk i_Md_isStable 2 = [(.iload 2, 0, 0), (.iload 3, 0, 0), (.ishr, 0, 0), (.iconst (1), 0, 0), (.iand, 0, 0), (.ifCond .ne 0, 5, 0), (.goto_w 0, 3, 0)] := rfl
theorem k_Md_isStable_3 : zblk i_Md_isStable 3 = [(.aload 0, 0, 0), (.iload 1, 0, 0), (.iload 3, 0, 0), (.invokevirtual 0, 248, 0), (.aload 0, 0, 0), (.getfield 0, 11, 8), (.iload 3, 0, 0), (.iaload, 0, 0), (.iand, 0, 0), (.ifCond .eq 0, 5, 0), (.goto_w 0, 4, 0)] := rfl
theorem k_Md_isStable_4 : zblk i_Md_isStable 4 = [(.iconst (0), 0, 0), (.ireturn, 0, 0)] := rfl
theorem k_Md_isStable_5 : zblk i_Md_isStable 5 = [(.iinc 3 (1), 0, 0), (.goto 0, 1, 0)] := rfl
theorem k_Md_isStable_6 : zblk i_Md_isStable 6 = [(.iconst (1), 0, 0), (.ireturn, 0, 0)] := rfl
theorem a_Md_isStable : zmA i_Md_isStable = 1 := rfl
theorem l_Md_isStable : zmL i_Md_isStable = 4 := rfl
theorem r_Md_isStable : zmR i_Md_isStable = some .boolean := rfl
theorem o_Md_isStable : zmO i_Md_isStable = 11 := rfl
theorem k_Md_stable_0 : zblk i_Md_stable 0 = [(.aload 0, 0, 0), (.iload 1, 0, 0), (.invokevirtual 0, 170, 0), (.ifCond .eq 0, 4, 0), (.goto_w 0, 1, 0)] := rfl
theorem k_Md_stable_1 : zblk i_Md_stable 1 = [(.aload 0, 0, 0), (.iload 1, 0, 0), (.invokevirtual 0, 249, 0), (.ifCond .eq 0, 3, 0), (.goto_w 0, 2, 0)] := rfl
theorem k_Md_stable_2 : zblk i_Md_stable 2 = [(.iconst (1), 0, 0), (.goto 0, 5, 0)] := rfl
theorem k_Md_stable_3 : zblk i_Md_stable 3 = [(.iconst (0), 0, 0), (.goto 0, 5, 0)] := rfl
theorem k_Md_stable_4 : zblk i_Md_stable 4 = [(.iconst (-1), 0, 0), (.goto_w 0, 5, 0)] := rfl
theorem k_Md_stable_5 : zblk i_Md_stable 5 = [(.ireturn, 0, 0)] := rfl
theorem a_Md_stable : zmA i_Md_stable = 1 := rfl
theorem l_Md_stable : zmL i_Md_stable = 2 := rfl
theorem r_Md_stable : zmR i_Md_stable = some .int := rfl
theorem o_Md_stable : zmO i_Md_stable = 11 := rfl
theorem k_Md_plansOfAll_0 : zblk i_Md_plansOfAll 0 = [(.sipush (1), 0, 0), (.lstore 1, 0, 0), (.iconst (0), 0, 0), (.istore 3, 0, 0), (.goto_w 0, 1, 0)] := rfl
theorem k_Md_plansOfAll_1 : zblk i_Md_plansOfAll 1 = [(.iload 3, 0, 0), (.aload 0, 0, 0), (.getfield 0, 11, 0), (.if_icmp .ge 0, 9, 0), (.goto_w 0, 2, 0)] := rfl
theorem k_Md_plansOfAll_2 : zblk i_Md_plansOfAll 2 = [(.iconst (0), 0, 0), (.istore 4, 0, 0), (.goto_w 0, 3, 0)] := rfl
theorem k_Md_plansOfAll_3 : zblk i_Md_plansOfAll 3 = [(.iload 4, 0, 0), (.aload 0, 0, 0), (.getfield 0, 11, 1), (.if_icmp .ge 0, 8, 0), (.goto_w 0, 4, 0)] := rfl
theorem k_Md_plansOfAll_4 : zblk i_Md_plansOfAll 4 = [(.lload 1, 0, 0), (.aload 0, 0, 0), (.getfield 0, 11, 2), (.iconst (4), 0, 0), (.iload 3, 0, 0), (.imul, 0, 0), (.iload 4, 0, 0), (.iadd, 0, 0), (.iaload, 0, 0), (.i2l, 0, 0), (.lmul, 0, 0), (.sipush (2000000000), 0, 0), (.lcmp, 0, 0), (.ifCond .le 0, 6, 0), (.goto_w 0, 5, 0)] := rfl
theorem k_Md_plansOfAll_5 : zblk i_Md_plansOfAll 5 = [(.sipush (2000000000), 0, 0), (.goto 0, 7, 0)] := rfl
theorem k_Md_plansOfAll_6 : zblk i_Md_plansOfAll 6 = [(.lload 1, 0, 0), (.aload 0, 0, 0), (.getfield 0, 11, 2), (.iconst (4), 0, 0), (.iload 3, 0, 0), (.imul, 0, 0), (.iload 4, 0, 0), (.iadd, 0, 0), (.iaload, 0, 0), (.i2l, 0, 0), (.lmul, 0, 0), (.goto_w 0, 7, 0)] := rfl
theorem k_Md_plansOfAll_7 : zblk i_Md_plansOfAll 7 = [(.lstore 1, 0, 0), (.iinc 4 (1), 0, 0), (.goto 0, 3, 0)] := rfl
theorem k_Md_plansOfAll_8 : zblk i_Md_plansOfAll 8 = [(.iinc 3 (1), 0, 0), (.goto 0, 1, 0)] := rfl
theorem k_Md_plansOfAll_9 : zblk i_Md_plansOfAll 9 = [(.lload 1, 0, 0), (.l2i, 0, 0), (.ireturn, 0, 0)] := rfl
theorem a_Md_plansOfAll : zmA i_Md_plansOfAll = 0 := rfl
theorem l_Md_plansOfAll : zmL i_Md_plansOfAll = 5 := rfl
theorem r_Md_plansOfAll : zmR i_Md_plansOfAll = some .int := rfl
theorem o_Md_plansOfAll : zmO i_Md_plansOfAll = 11 := rfl
theorem k_Md_plansUp_0 : zblk i_Md_plansUp 0 = [(.aload 0, 0, 0), (.getfield 0, 11, 1), (.iconst (1), 0, 0), (.isub, 0, 0), (.istore 1, 0, 0), (.goto_w 0, 1, 0)] := rfl
theorem k_Md_plansUp_1 : zblk i_Md_plansUp 1 = [(.iload 1, 0, 0), (.ifCond .lt 0, 8, 0), (.goto_w 0, 2, 0)] := rfl
theorem k_Md_plansUp_2 : zblk i_Md_plansUp 2 = [(.aload 0, 0, 0), (.getfield 0, 11, 0), (.iconst (1), 0, 0), (.isub, 0, 0), (.istore 2, 0, 0), (.goto_w 0, 3, 0)] := rfl
theorem k_Md_plansUp_3 : zblk i_Md_plansUp 3 = [(.iload 2, 0, 0), (.ifCond .lt 0, 7, 0), (.goto_w 0, 4, 0)] := rfl
theorem k_Md_plansUp_4 : zblk i_Md_plansUp 4 = [(.iconst (4), 0, 0), (.iload 2, 0, 0), (.imul, 0, 0), (.iload 1, 0, 0), (.iadd, 0, 0), (.istore 3, 0, 0), (.aload 0, 0, 0), (.getfield 0, 11, 7), (.iload 3, 0, 0), (.iaload, 0, 0), (.aload 0, 0, 0), (.getfield 0, 11, 2), (.iload 3, 0, 0), (.iaload, 0, 0), (.iconst (1), 0, 0), (.isub, 0, 0), (.if_icmp .ge 0, 6, 0), (.goto_w 0, 5, 0)] := rfl
theorem k_Md_plansUp_5 : zblk i_Md_plansUp 5 = [(.aload 0, 0, 0), (.getfield 0, 11, 7), (.iload 3, 0, 0), (.dup2, 0, 0), (.iaload, 0, 0), (.iconst (1), 0, 0), (.iadd, 0, 0), (.iastore, 0, 0), (.iconst (1), 0, 0), (.ireturn, 0, 0)] := rfl
theorem k_Md_plansUp_6 : zblk i_Md_plansUp 6 = [(.aload 0, 0, 0), (.getfield 0, 11, 7), (.iload 3, 0, 0), (.iconst (0), 0, 0), (.iastore, 0, 0), (.iinc 2 (-1), 0, 0), (.goto 0, 3, 0)] := rfl
theorem k_Md_plansUp_7 : zblk i_Md_plansUp 7 = [(.iinc 1 (-1), 0, 0), (.goto 0, 1, 0)] := rfl
theorem k_Md_plansUp_8 : zblk i_Md_plansUp 8 = [(.iconst (0), 0, 0), (.ireturn, 0, 0)] := rfl
theorem a_Md_plansUp : zmA i_Md_plansUp = 0 := rfl
theorem l_Md_plansUp : zmL i_Md_plansUp = 4 := rfl
theorem r_Md_plansUp : zmR i_Md_plansUp = some .boolean := rfl
theorem o_Md_plansUp : zmO i_Md_plansUp = 11 := rfl
theorem k_Md_settle_0 : zblk i_Md_settle 0 = [(.aload 0, 0, 0), (.iload 1, 0, 0), (.invokevirtual 0, 170, 0), (.ifCond .ne 0, 2, 0), (.goto_w 0, 1, 0)] := rfl
theorem k_Md_settle_1 : zblk i_Md_settle 1 = [(.iconst (-1), 0, 0), (.ireturn, 0, 0)] := rfl
theorem k_Md_settle_2 : zblk i_Md_settle 2 = [(.aload 0, 0, 0), (.invokevirtual 0, 251, 0), (.iconst (20000), 0, 0), (.if_icmp .le 0, 4, 0), (.goto_w 0, 3, 0)] := rfl
theorem k_Md_settle_3 : zblk i_Md_settle 3 = [(.iconst (-5), 0, 0), (.ireturn, 0, 0)] := rfl
theorem k_Md_settle_4 : zblk i_Md_settle 4 = [(.iconst (0), 0, 0), (.istore 2, 0, 0), (.goto_w 0, 5, 0)] := rfl
theorem k_Md_settle_5 : zblk i_Md_settle 5 = [(.iload 2, 0, 0), (.iconst (48), 0, 0), (.if_icmp .ge 0, 7, 0), (.goto_w 0, 6, 0)] := rfl
theorem k_Md_settle_6 : zblk i_Md_settle 6 = [(.aload 0, 0, 0), (.getfield 0, 11, 46), (.iload 2, 0, 0), (.aload 0, 0, 0), (.getfield 0, 11, 7), (.iload 2, 0, 0), (.iaload, 0, 0), (.iastore, 0, 0), (.aload 0, 0, 0), (.getfield 0, 11, 7), (.iload 2, 0, 0), (.iconst (0), 0, 0), (.iastore, 0, 0), (.iinc 2 (1), 0, 0), (.goto 0, 5, 0)] := rfl
theorem k_Md_settle_7 : zblk i_Md_settle 7 = [(.iconst (1), 0, 0), (.istore 2, 0, 0), (.goto_w 0, 8, 0)] := rfl
theorem k_Md_settle_8 : zblk i_Md_settle 8 = [(.iload 2, 0, 0), (.ifCond .eq 0, 12, 0), (.goto_w 0, 9, 0)] := rfl
theorem k_Md_settle_9 : zblk i_Md_settle 9 = [(.aload 0, 0, 0), (.iload 1, 0, 0), (.invokevirtual 0, 249, 0), (.ifCond .eq 0, 11, 0), (.goto_w 0, 10, 0)] := rfl
theorem k_Md_settle_10 : zblk i_Md_settle 10 = [(.aload 0, 0, 0), (.iload 1, 0, 0), (.invokevirtual 0, 246, 0), (.ireturn, 0, 0)] := rfl
theorem k_Md_settle_11 : zblk i_Md_settle 11 = [(.aload 0, 0, 0), (.invokevirtual 0, 252, 0), (.istore 2, 0, 0), (.goto 0, 8, 0)] := rfl
theorem k_Md_settle_12 : zblk i_Md_settle 12 = [(.iconst (0), 0, 0), (.istore 3, 0, 0), (.goto_w 0, 13, 0)] := rfl
theorem k_Md_settle_13 : zblk i_Md_settle 13 = [(.iload 3, 0, 0), (.iconst (48), 0, 0), (.if_icmp .ge 0, 15, 0), (.goto_w 0, 14, 0)] := rfl
theorem k_Md_settle_14 : zblk i_Md_settle 14 = [(.aload 0, 0, 0), (.getfield 0, 11, 7), (.iload 3, 0, 0), (.aload 0, 0, 0), (.getfield 0, 11, 46), (.iload 3, 0, 0), (.iaload, 0, 0), (.iastore, 0, 0), (.iinc 3 (1), 0, 0), (.goto 0, 13, 0)] := rfl
theorem k_Md_settle_15 : zblk i_Md_settle 15 = [(.iconst (-4), 0, 0), (.ireturn, 0, 0)] := rfl
theorem a_Md_settle : zmA i_Md_settle = 1 := rfl
theorem l_Md_settle : zmL i_Md_settle = 4 := rfl
theorem r_Md_settle : zmR i_Md_settle = some .int := rfl
theorem o_Md_settle : zmO i_Md_settle = 11 := rfl
theorem k_Md_many_0 : zblk i_Md_many 0 = [(.iconst (0), 0, 0), (.istore 1, 0, 0), (.iconst (0), 0, 0), (.istore 2, 0, 0), (.goto_w 0, 1, 0)] := rfl
theorem k_Md_many_1 : zblk i_Md_many 1 = [(.iload 2, 0, 0), (.iconst (4), 0, 0), (.if_icmp .ge 0, 3, 0), (.goto_w 0, 2, 0)] := rfl
theorem k_Md_many_2 : zblk i_Md_many 2 = [(.iload 1, 0, 0), (.iload 0, 0, 0), (.iload 2, 0, 0), (.ishr, 0, 0), (.iconst (1), 0, 0), (.iand, 0, 0), (.iadd, 0, 0), (.istore 1, 0, 0), (.iinc 2 (1), 0, 0), (.goto 0, 1, 0)] := rfl
theorem k_Md_many_3 : zblk i_Md_many 3 = [(.iload 1, 0, 0), (.ireturn, 0, 0)] := rfl
theorem a_Md_many : zmA i_Md_many = 1 := rfl
theorem l_Md_many : zmL i_Md_many = 3 := rfl
theorem r_Md_many : zmR i_Md_many = some .int := rfl
theorem o_Md_many : zmO i_Md_many = 11 := rfl
theorem k_Md_isAhead_0 : zblk i_Md_isAhead 0 = [(.iconst (0), 0, 0), (.istore 2, 0, 0), (.goto_w 0, 1, 0)] := rfl
theorem k_Md_isAhead_1 : zblk i_Md_isAhead 1 = [(.iload 2, 0, 0), (.iconst (4), 0, 0), (.if_icmp .ge 0, 4, 0), (.goto_w 0, 2, 0)] := rfl
theorem k_Md_isAhead_2 : zblk i_Md_isAhead 2 = [(.iload 0, 0, 0), (.iload 2, 0, 0), (.ishr, 0, 0), (.iconst (1), 0, 0), (.iand, 0, 0), (.iload 1, 0, 0), (.iload 2, 0, 0), (.ishr, 0, 0), (.iconst (1), 0, 0), (.iand, 0, 0), (.if_icmp .ne 0, 4, 0), (.goto_w 0, 3, 0)] := rfl
theorem k_Md_isAhead_3 : zblk i_Md_isAhead 3 = [(.iinc 2 (1), 0, 0), (.goto 0, 1, 0)] := rfl
theorem k_Md_isAhead_4 : zblk i_Md_isAhead 4 = [(.iload 2, 0, 0), (.iconst (4), 0, 0), (.if_icmp .ge 0, 7, 0), (.goto_w 0, 5, 0)] := rfl
theorem k_Md_isAhead_5 : zblk i_Md_isAhead 5 = [(.iload 0, 0, 0), (.iload 2, 0, 0), (.ishr, 0, 0), (.iconst (1), 0, 0), (.iand, 0, 0), (.iconst (1), 0, 0), (.if_icmp .ne 0, 7, 0), (.goto_w 0, 6, 0)] := rfl
theorem k_Md_isAhead_6 : zblk i_Md_isAhead 6 = [(.iconst (1), 0, 0), (.goto 0, 8, 0)] := rfl
theorem k_Md_isAhead_7 : zblk i_Md_isAhead 7 = [(.iconst (0), 0, 0), (.goto_w 0, 8, 0)] := rfl
theorem k_Md_isAhead_8 : zblk i_Md_isAhead 8 = [(.ireturn, 0, 0)] := rfl
theorem a_Md_isAhead : zmA i_Md_isAhead = 2 := rfl
theorem l_Md_isAhead : zmL i_Md_isAhead = 3 := rfl
theorem r_Md_isAhead : zmR i_Md_isAhead = some .boolean := rfl
theorem o_Md_isAhead : zmO i_Md_isAhead = 11 := rfl
theorem k_Md_helpers_0 : zblk i_Md_helpers 0 = [(.aload 0, 0, 0), (.iload 1, 0, 0), (.invokevirtual 0, 170, 0), (.ifCond .ne 0, 2, 0), (.goto_w 0, 1, 0)] := rfl
theorem k_Md_helpers_1 : zblk i_Md_helpers 1 = [(.iconst (-1), 0, 0), (.ireturn, 0, 0)] := rfl
theorem k_Md_helpers_2 : zblk i_Md_helpers 2 = [(.aload 0, 0, 0), (.invokevirtual 0, 205, 0), (.ifCond .ne 0, 4, 0), (.goto_w 0, 3, 0)] := rfl
theorem k_Md_helpers_3 : zblk i_Md_helpers 3 = [(.iconst (-2), 0, 0), (.ireturn, 0, 0)] := rfl
theorem k_Md_helpers_4 : zblk i_Md_helpers 4 = [(.iconst (-4), 0, 0), (.istore 2, 0, 0), (.aload 0, 0, 0), (.invokevirtual 0, 202, 0), (.istore 3, 0, 0), (.iconst (0), 0, 0), (.istore 4, 0, 0), (.goto_w 0, 5, 0)] := rfl
theorem k_Md_helpers_5 : zblk i_Md_helpers 5 = [(.iload 4, 0, 0), (.aload 0, 0, 0), (.invokevirtual 0, 176, 0), (.if_icmp .gt 0, 23, 0), (.goto_w 0, 6, 0)] := rfl
theorem k_Md_helpers_6 : zblk i_Md_helpers 6 = [(.iload 4, 0, 0), (.aload 0, 0, 0), (.getfield 0, 11, 14), (.iconst (0), 0, 0), (.iaload, 0, 0), (.iand, 0, 0), (.ifCond .ne 0, 9, 0), (.goto_w 0, 7, 0)] := rfl
theorem k_Md_helpers_7 : zblk i_Md_helpers 7 = [(.iload 3, 0, 0), (.ifCond .lt 0, 9, 0), (.goto_w 0, 8, 0)] := rfl
theorem k_Md_helpers_8 : zblk i_Md_helpers 8 = [(.iconst (1), 0, 0), (.goto 0, 10, 0)] := rfl
theorem k_Md_helpers_9 : zblk i_Md_helpers 9 = [(.iconst (0), 0, 0), (.goto_w 0, 10, 0)] := rfl
theorem k_Md_helpers_10 : zblk i_Md_helpers 10 = [(.istore 5, 0, 0), (.iload 5, 0, 0), (.ifCond .eq 0, 22, 0), (.goto_w 0, 11, 0)] := rfl
theorem k_Md_helpers_11 : zblk i_Md_helpers 11 = [(.aload 0, 0, 0), (.iconst (0), 0, 0), (.aload 0, 0, 0), (.getfield 0, 11, 14), (.iconst (0), 0, 0), (.iaload, 0, 0), (.iload 4, 0, 0), (.ior, 0, 0), (.invokevirtual 0, 201, 0), (.iload 1, 0, 0), (.ishr, 0, 0), (.iconst (1), 0, 0), (.iand, 0, 0), (.iconst (1), 0, 0), (.if_icmp .ne 0, 22, 0), (.goto_w 0, 12, 0)] := rfl
theorem k_Md_helpers_12 : zblk i_Md_helpers 12 = [(.iload 2, 0, 0), (.ifCond .lt 0, 16, 0), (.goto_w 0, 13, 0)] := rfl
theorem k_Md_helpers_13 : zblk i_Md_helpers 13 = [(.iload 4, 0, 0), (.invokestatic 0, 254, 0), (.iload 2, 0, 0), (.invokestatic 0, 254, 0), (.if_icmp .lt 0, 16, 0), (.goto_w 0, 14, 0)] := rfl
theorem k_Md_helpers_14 : zblk i_Md_helpers 14 = [(.iload 4, 0, 0), (.invokestatic 0, 254, 0), (.iload 2, 0, 0), (.invokestatic 0, 254, 0), (.if_icmp .ne 0, 17, 0), (.goto_w 0, 15, 0)] := rfl
theorem k_Md_helpers_15 : zblk i_Md_helpers 15 = [(.iload 4, 0, 0), (.iload 2, 0, 0), (.invokestatic 0, 255, 0), (.ifCond .eq 0, 17, 0), (.goto_w 0, 16, 0)] := rfl
theorem k_Md_helpers_16 : zblk i_Md_helpers 16 = [(.iconst (1), 0, 0), (.goto 0, 18, 0)] := rfl
theorem k_Md_helpers_17 : zblk i_Md_helpers 17 = [(.iconst (0), 0, 0), (.goto_w 0, 18, 0)] := rfl
theorem k_Md_helpers_18 : zblk i_Md_helpers 18 = [(.istore 6, 0, 0), (.iload 6, 0, 0), (.ifCond .eq 0, 20, 0), (.goto_w 0, 19, 0)] := rfl
theorem k_Md_helpers_19 : zblk i_Md_helpers 19 = [(.iload 4, 0, 0), (.goto 0, 21, 0)] := rfl
theorem k_Md_helpers_20 : zblk i_Md_helpers 20 = [(.iload 2, 0, 0), (.goto_w 0, 21, 0)] := rfl
theorem k_Md_helpers_21 : zblk i_Md_helpers 21 = [(.istore 2, 0, 0), (.goto_w 0, 22, 0)] := rfl
theorem k_Md_helpers_22 : zblk i_Md_helpers 22 = [(.iinc 4 (1), 0, 0), (.goto 0, 5, 0)] := rfl
theorem k_Md_helpers_23 : zblk i_Md_helpers 23 = [(.iload 2, 0, 0), (.ireturn, 0, 0)] := rfl
theorem a_Md_helpers : zmA i_Md_helpers = 1 := rfl
theorem l_Md_helpers : zmL i_Md_helpers = 7 := rfl
theorem r_Md_helpers : zmR i_Md_helpers = some .int := rfl
theorem o_Md_helpers : zmO i_Md_helpers = 11 := rfl
theorem k_Md_count_0 : zblk i_Md_count 0 = [(.iload 1, 0, 0), (.tableswitch 5 (0) (3) #[1, 2, 3, 4], 0, 0)] := rfl
theorem k_Md_count_1 : zblk i_Md_count 1 = [(.aload 0, 0, 0), (.getfield 0, 11, 0), (.ireturn, 0, 0)] := rfl
theorem k_Md_count_2 : zblk i_Md_count 2 = [(.aload 0, 0, 0), (.getfield 0, 11, 1), (.ireturn, 0, 0)] := rfl
theorem k_Md_count_3 : zblk i_Md_count 3 = [(.aload 0, 0, 0), (.getfield 0, 11, 10), (.ireturn, 0, 0)] := rfl
theorem k_Md_count_4 : zblk i_Md_count 4 = [(.aload 0, 0, 0), (.invokevirtual 0, 251, 0), (.ireturn, 0, 0)] := rfl
theorem k_Md_count_5 : zblk i_Md_count 5 = [(.iconst (-1), 0, 0), (.ireturn, 0, 0)] := rfl
theorem a_Md_count : zmA i_Md_count = 1 := rfl
theorem l_Md_count : zmL i_Md_count = 2 := rfl
theorem r_Md_count : zmR i_Md_count = some .int := rfl
theorem o_Md_count : zmO i_Md_count = 11 := rfl
theorem k_Md_sheet_0 : zblk i_Md_sheet 0 = [(.iload 1, 0, 0), (.invokestatic 0, 215, 0), (.ifCond .eq 0, 3, 0), (.goto_w 0, 1, 0)] := rfl
theorem k_Md_sheet_1 : zblk i_Md_sheet 1 = [(.iload 2, 0, 0), (.invokestatic 0, 216, 0), (.ifCond .eq 0, 3, 0), (.goto_w 0, 2, 0)] := rfl
theorem k_Md_sheet_2 : zblk i_Md_sheet 2 = [(.iload 3, 0, 0), (.iconst (81), 0, 0), (.if_icmp .le 0, 4, 0), (.goto_w 0, 3, 0)] := rfl
theorem k_Md_sheet_3 : zblk i_Md_sheet 3 = [(.iconst (-1), 0, 0), (.ireturn, 0, 0)] := rfl
theorem k_Md_sheet_4 : zblk i_Md_sheet 4 = [(.iload 3, 0, 0), (.ifCond .ge 0, 6, 0), (.goto_w 0, 5, 0)] := rfl
theorem k_Md_sheet_5 : zblk i_Md_sheet 5 = [(.iconst (-14), 0, 0), (.ireturn, 0, 0)] := rfl
theorem k_Md_sheet_6 : zblk i_Md_sheet 6 = [(.aload 0, 0, 0), (.getfield 0, 11, 33), (.iload 1, 0, 0), (.iload 2, 0, 0), (.iastore, 0, 0), (.aload 0, 0, 0), (.getfield 0, 11, 34), (.iload 1, 0, 0), (.iload 3, 0, 0), (.iastore, 0, 0), (.iconst (0), 0, 0), (.istore 4, 0, 0), (.goto_w 0, 7, 0)] := rfl
theorem k_Md_sheet_7 : zblk i_Md_sheet 7 = [(.iload 4, 0, 0), (.iconst (81), 0, 0), (.if_icmp .ge 0, 9, 0), (.goto_w 0, 8, 0)] := rfl
theorem k_Md_sheet_8 : zblk i_Md_sheet 8 = [(.aload 0, 0, 0), (.getfield 0, 11, 35), (.iconst (81), 0, 0), (.iload 1, 0, 0), (.imul, 0, 0), (.iload 4, 0, 0), (.iadd, 0, 0), (.iconst (0), 0, 0), (.iastore, 0, 0), (.iinc 4 (1), 0, 0), (.goto 0, 7, 0)] := rfl
theorem k_Md_sheet_9 : zblk i_Md_sheet 9 = [(.iload 3, 0, 0), (.ireturn, 0, 0)] := rfl
theorem a_Md_sheet : zmA i_Md_sheet = 3 := rfl
theorem l_Md_sheet : zmL i_Md_sheet = 5 := rfl
theorem r_Md_sheet : zmR i_Md_sheet = some .int := rfl
theorem o_Md_sheet : zmO i_Md_sheet = 11 := rfl
theorem k_Md_drop_0 : zblk i_Md_drop 0 = [(.iload 1, 0, 0), (.invokestatic 0, 215, 0), (.ifCond .ne 0, 2, 0), (.goto_w 0, 1, 0)] := rfl
theorem k_Md_drop_1 : zblk i_Md_drop 1 = [(.iconst (-1), 0, 0), (.ireturn, 0, 0)] := rfl
theorem k_Md_drop_2 : zblk i_Md_drop 2 = [(.aload 0, 0, 0), (.getfield 0, 11, 33), (.iload 1, 0, 0), (.iaload, 0, 0), (.ifCond .ge 0, 4, 0), (.goto_w 0, 3, 0)] := rfl
theorem k_Md_drop_3 : zblk i_Md_drop 3 = [(.iconst (-11), 0, 0), (.ireturn, 0, 0)] := rfl
theorem k_Md_drop_4 : zblk i_Md_drop 4 = [(.aload 0, 0, 0), (.getfield 0, 11, 33), (.iload 1, 0, 0), (.iconst (-1), 0, 0), (.iastore, 0, 0), (.aload 0, 0, 0), (.getfield 0, 11, 34), (.iload 1, 0, 0), (.iaload, 0, 0), (.ireturn, 0, 0)] := rfl
theorem a_Md_drop : zmA i_Md_drop = 1 := rfl
theorem l_Md_drop : zmL i_Md_drop = 2 := rfl
theorem r_Md_drop : zmR i_Md_drop = some .int := rfl
theorem o_Md_drop : zmO i_Md_drop = 11 := rfl
theorem k_Md_item_0 : zblk i_Md_item 0 = [(.iload 1, 0, 0), (.invokestatic 0, 215, 0), (.ifCond .eq 0, 2, 0), (.goto_w 0, 1, 0)] := rfl
theorem k_Md_item_1 : zblk i_Md_item 1 = [(.iload 2, 0, 0), (.invokestatic 0, 216, 0), (.ifCond .ne 0, 3, 0), (.goto_w 0, 2, 0)] := rfl
theorem k_Md_item_2 : zblk i_Md_item 2 = [(.iconst (-1), 0, 0), (.ireturn, 0, 0)] := rfl
theorem k_Md_item_3 : zblk i_Md_item 3 = [(.aload 0, 0, 0), (.iload 1, 0, 0), (.iload 2, 0, 0), (.iload 3, 0, 0), (.iconst (1), 0, 0), (.invokevirtual 0, 217, 0), (.istore 5, 0, 0), (.iload 5, 0, 0), (.ifCond .ge 0, 5, 0), (.goto_w 0, 4, 0)] := rfl
theorem k_Md_item_4 : zblk i_Md_item 4 = [(.iload 5, 0, 0), (.ireturn, 0, 0)] := rfl
theorem k_Md_item_5 : zblk i_Md_item 5 = [(.aload 0, 0, 0), (.getfield 0, 11, 35), (.iconst (81), 0, 0), (.iload 1, 0, 0), (.imul, 0, 0), (.iload 3, 0, 0), (.iadd, 0, 0), (.iload 2, 0, 0), (.ifCond .ne 0, 7, 0), (.goto_w 0, 6, 0)] := rfl
theorem k_Md_item_6 : zblk i_Md_item 6 = [(.iload 4, 0, 0), (.i2b, 0, 0), (.goto 0, 8, 0)] := rfl
theorem k_Md_item_7 : zblk i_Md_item 7 = [(.iload 4, 0, 0), (.goto_w 0, 8, 0)] := rfl
theorem k_Md_item_8 : zblk i_Md_item 8 = [(.iastore, 0, 0), (.iconst (1), 0, 0), (.ireturn, 0, 0)] := rfl
theorem a_Md_item : zmA i_Md_item = 4 := rfl
theorem l_Md_item : zmL i_Md_item = 6 := rfl
theorem r_Md_item : zmR i_Md_item = some .int := rfl
theorem o_Md_item : zmO i_Md_item = 11 := rfl
theorem k_Md_copy_0 : zblk i_Md_copy 0 = [(.iload 1, 0, 0), (.invokestatic 0, 215, 0), (.ifCond .eq 0, 2, 0), (.goto_w 0, 1, 0)] := rfl
theorem k_Md_copy_1 : zblk i_Md_copy 1 = [(.iload 3, 0, 0), (.invokestatic 0, 215, 0), (.ifCond .ne 0, 3, 0), (.goto_w 0, 2, 0)] := rfl
theorem k_Md_copy_2 : zblk i_Md_copy 2 = [(.iconst (-1), 0, 0), (.ireturn, 0, 0)] := rfl
theorem k_Md_copy_3 : zblk i_Md_copy 3 = [(.aload 0, 0, 0), (.getfield 0, 11, 33), (.iload 1, 0, 0), (.iaload, 0, 0), (.ifCond .lt 0, 5, 0), (.goto_w 0, 4, 0)] := rfl
theorem k_Md_copy_4 : zblk i_Md_copy 4 = [(.aload 0, 0, 0), (.getfield 0, 11, 33), (.iload 3, 0, 0), (.iaload, 0, 0), (.ifCond .ge 0, 6, 0), (.goto_w 0, 5, 0)] := rfl
theorem k_Md_copy_5 : zblk i_Md_copy 5 = [(.iconst (-11), 0, 0), (.ireturn, 0, 0)] := rfl
theorem k_Md_copy_6 : zblk i_Md_copy 6 = [(.aload 0, 0, 0), (.getfield 0, 11, 33), (.iload 1, 0, 0), (.iaload, 0, 0), (.aload 0, 0, 0), (.getfield 0, 11, 33), (.iload 3, 0, 0), (.iaload, 0, 0), (.if_icmp .eq 0, 8, 0), (.goto_w 0, 7, 0)] := rfl
theorem k_Md_copy_7 : zblk i_Md_copy 7 = [(.iconst (-12), 0, 0), (.ireturn, 0, 0)] := rfl
theorem k_Md_copy_8 : zblk i_Md_copy 8 = [(.iload 5, 0, 0), (.ifCond .lt 0, 11, 0), (.goto_w 0, 9, 0)] := rfl
theorem k_Md_copy_9 : zblk i_Md_copy 9 = [(.aload 0, 0, 0), (.iload 1, 0, 0), (.aload 0, 0, 0), (.getfield 0, 11, 33), (.iload 1, 0, 0), (.iaload, 0, 0), (.iload 2, 0, 0), (.iload 5, 0, 0), (.invokevirtual 0, 217, 0), (.ifCond .lt 0, 11, 0), (.goto_w 0, 10, 0)] := rfl
theorem k_Md_copy_10 : zblk i_Md_copy 10 = [(.aload 0, 0, 0), (.iload 3, 0, 0), (.aload 0, 0, 0), (.getfield 0, 11, 33), (.iload 3, 0, 0), (.iaload, 0, 0), (.iload 4, 0, 0), (.iload 5, 0, 0), (.invokevirtual 0, 217, 0), (.ifCond .ge 0, 12, 0), (.goto_w 0, 11, 0)] := rfl
theorem k_Md_copy_11 : zblk i_Md_copy 11 = [(.iconst (-13), 0, 0), (.ireturn, 0, 0)] := rfl
theorem k_Md_copy_12 : zblk i_Md_copy 12 = [(.iconst (0), 0, 0), (.istore 6, 0, 0), (.goto_w 0, 13, 0)] := rfl
theorem k_Md_copy_13 : zblk i_Md_copy 13 = [(.iload 6, 0, 0), (.iload 5, 0, 0), (.if_icmp .ge 0, 15, 0), (.goto_w 0, 14, 0)] := rfl
theorem k_Md_copy_14 : zblk i_Md_copy 14 = [(.aload 0, 0, 0), (.getfield 0, 11, 36), (.iload 6, 0, 0), (.aload 0, 0, 0), (.getfield 0, 11, 35), (.iconst (81), 0, 0), (.iload 1, 0, 0), (.imul, 0, 0), (.iload 2, 0, 0), (.iadd, 0, 0), (.iload 6, 0, 0), (.iadd, 0, 0), (.iaload, 0, 0), (.iastore, 0, 0), (.iinc 6 (1), 0, 0), (.goto 0, 13, 0)] := rfl
theorem k_Md_copy_15 : zblk i_Md_copy 15 = [(.iconst (0), 0, 0), (.istore 6, 0, 0), (.goto_w 0, 16, 0)] := rfl
theorem k_Md_copy_16 : zblk i_Md_copy 16 = [(.iload 6, 0, 0), (.iload 5, 0, 0), (.if_icmp .ge 0, 18, 0), (.goto_w 0, 17, 0)] := rfl
theorem k_Md_copy_17 : zblk i_Md_copy 17 = [(.aload 0, 0, 0), (.getfield 0, 11, 35), (.iconst (81), 0, 0), (.iload 3, 0, 0), (.imul, 0, 0), (.iload 4, 0, 0), (.iadd, 0, 0), (.iload 6, 0, 0), (.iadd, 0, 0), (.aload 0, 0, 0), (.getfield 0, 11, 36), (.iload 6, 0, 0), (.iaload, 0, 0), (.iastore, 0, 0), (.iinc 6 (1), 0, 0), (.goto 0, 16, 0)] := rfl
theorem k_Md_copy_18 : zblk i_Md_copy 18 = [(.iload 5, 0, 0), (.ireturn, 0, 0)] := rfl
theorem a_Md_copy : zmA i_Md_copy = 5 := rfl
theorem l_Md_copy : zmL i_Md_copy = 7 := rfl
theorem r_Md_copy : zmR i_Md_copy = some .int := rfl
theorem o_Md_copy : zmO i_Md_copy = 11 := rfl
theorem k_JI_bitCount_0 : zblk i_JI_bitCount 0 = [(.iload 0, 0, 0), (.iload 0, 0, 0), (.iconst (1), 0, 0), (.iushr, 0, 0), (.iconst (1431655765), 0, 0), (.iand, 0, 0), (.isub, 0, 0), (.istore 0, 0, 0), (.iload 0, 0, 0), (.iconst (858993459), 0, 0), (.iand, 0, 0), (.iload 0, 0, 0), (.iconst (2), 0, 0), (.iushr, 0, 0), (.iconst (858993459), 0, 0), (.iand, 0, 0), (.iadd, 0, 0), (.istore 0, 0, 0), (.iload 0, 0, 0), (.iload 0, 0, 0), (.iconst (4), 0, 0), (.iushr, 0, 0), (.iadd, 0, 0), (.iconst (252645135), 0, 0), (.iand, 0, 0), (.istore 0, 0, 0), (.iload 0, 0, 0), (.iload 0, 0, 0), (.iconst (8), 0, 0), (.iushr, 0, 0), (.iadd, 0, 0), (.istore 0, 0, 0), (.iload 0, 0, 0), (.iload 0, 0, 0), (.iconst (16), 0, 0), (.iushr, 0, 0), (.iadd, 0, 0), (.istore 0, 0, 0), (.iload 0, 0, 0), (.iconst (63), 0, 0), (.iand, 0, 0), (.ireturn, 0, 0)] := rfl
theorem a_JI_bitCount : zmA i_JI_bitCount = 1 := rfl
theorem l_JI_bitCount : zmL i_JI_bitCount = 1 := rfl
theorem r_JI_bitCount : zmR i_JI_bitCount = some .int := rfl
theorem o_JI_bitCount : zmO i_JI_bitCount = 12 := rfl
theorem k_JA_fill_0 : zblk i_JA_fill 0 = [(.iconst (0), 0, 0), (.istore 2, 0, 0), (.aload 0, 0, 0), (.arraylength, 0, 0), (.istore 3, 0, 0), (.goto_w 0, 1, 0)] := rfl
theorem k_JA_fill_1 : zblk i_JA_fill 1 = [(.iload 2, 0, 0), (.iload 3, 0, 0), (.if_icmp .ge 0, 3, 0), (.goto_w 0, 2, 0)] := rfl
theorem k_JA_fill_2 : zblk i_JA_fill 2 = [(.aload 0, 0, 0), (.iload 2, 0, 0), (.iload 1, 0, 0), (.iastore, 0, 0), (.iinc 2 (1), 0, 0), (.goto 0, 1, 0)] := rfl
theorem k_JA_fill_3 : zblk i_JA_fill 3 = [(.return_, 0, 0)] := rfl
theorem a_JA_fill : zmA i_JA_fill = 2 := rfl
theorem l_JA_fill : zmL i_JA_fill = 4 := rfl
theorem r_JA_fill : zmR i_JA_fill = none := rfl
theorem o_JA_fill : zmO i_JA_fill = 14 := rfl
theorem k_LW_law_0 : zblk i_LW_law 0 = [(.new 0, 10, 0), (.dup, 0, 0), (.invokevirtual 0, 122, 0), (.astore 1, 0, 0), (.new 0, 11, 0), (.dup, 0, 0), (.invokevirtual 0, 167, 0), (.astore 2, 0, 0), (.iconst (0), 0, 0), (.istore 3, 0, 0), (.goto_w 0, 1, 0)] := rfl
theorem k_LW_law_1 : zblk i_LW_law 1 = [(.iload 3, 0, 0), (.aload 0, 0, 0), (.arraylength, 0, 0), (.iconst (6), 0, 0), (.isub, 0, 0), (.if_icmp .gt 0, 74, 0), (.goto_w 0, 2, 0)] := rfl
theorem k_LW_law_2 : zblk i_LW_law 2 = [(.aload 0, 0, 0), (.iload 3, 0, 0), (.iaload, 0, 0), (.iconst (63), 0, 0), (.iand, 0, 0), (.tableswitch 73 (0) (34) #[3, 5, 7, 9, 11, 13, 15, 17, 19, 21, 23, 25, 27, 29, 31, 33, 35, 37, 39, 41, 43, 45, 47, 49, 51, 53, 55, 57, 59, 61, 63, 65, 67, 69, 71], 0, 0)] := rfl
theorem k_LW_law_3 : zblk i_LW_law 3 = [(.aload 1, 0, 0), (.aload 0, 0, 0), (.iload 3, 0, 0), (.iconst (1), 0, 0), (.iadd, 0, 0), (.iaload, 0, 0), (.aload 0, 0, 0), (.iload 3, 0, 0), (.iconst (2), 0, 0), (.iadd, 0, 0), (.iaload, 0, 0), (.invokevirtual 0, 123, 0), (.aload 2, 0, 0), (.aload 0, 0, 0), (.iload 3, 0, 0), (.iconst (1), 0, 0), (.iadd, 0, 0), (.iaload, 0, 0), (.aload 0, 0, 0), (.iload 3, 0, 0), (.iconst (2), 0, 0), (.iadd, 0, 0), (.iaload, 0, 0), (.invokevirtual 0, 169, 0), (.if_icmp .eq 0, 73, 0), (.goto_w 0, 4, 0)] := rfl
theorem k_LW_law_4 : zblk i_LW_law 4 = [(.iconst (0), 0, 0), (.ireturn, 0, 0)] := rfl
theorem k_LW_law_5 : zblk i_LW_law 5 = [(.aload 1, 0, 0), (.aload 0, 0, 0), (.iload 3, 0, 0), (.iconst (1), 0, 0), (.iadd, 0, 0), (.iaload, 0, 0), (.aload 0, 0, 0), (.iload 3, 0, 0), (.iconst (2), 0, 0), (.iadd, 0, 0), (.iaload, 0, 0), (.aload 0, 0, 0), (.iload 3, 0, 0), (.iconst (3), 0, 0), (.iadd, 0, 0), (.iaload, 0, 0), (.invokevirtual 0, 124, 0), (.aload 2, 0, 0), (.aload 0, 0, 0), (.iload 3, 0, 0), (.iconst (1), 0, 0), (.iadd, 0, 0), (.iaload, 0, 0), (.aload 0, 0, 0), (.iload 3, 0, 0), (.iconst (2), 0, 0), (.iadd, 0, 0), (.iaload, 0, 0), (.aload 0, 0, 0), (.iload 3, 0, 0), (.iconst (3), 0, 0), (.iadd, 0, 0), (.iaload, 0, 0), (.invokevirtual 0, 174, 0), (.if_icmp .eq 0, 73, 0), (.goto_w 0, 6, 0)] := rfl
theorem k_LW_law_6 : zblk i_LW_law 6 = [(.iconst (0), 0, 0), (.ireturn, 0, 0)] := rfl
theorem k_LW_law_7 : zblk i_LW_law 7 = [(.aload 1, 0, 0), (.aload 0, 0, 0), (.iload 3, 0, 0), (.iconst (1), 0, 0), (.iadd, 0, 0), (.iaload, 0, 0), (.aload 0, 0, 0), (.iload 3, 0, 0), (.iconst (2), 0, 0), (.iadd, 0, 0), (.iaload, 0, 0), (.invokevirtual 0, 125, 0), (.aload 2, 0, 0), (.aload 0, 0, 0), (.iload 3, 0, 0), (.iconst (1), 0, 0), (.iadd, 0, 0), (.iaload, 0, 0), (.aload 0, 0, 0), (.iload 3, 0, 0), (.iconst (2), 0, 0), (.iadd, 0, 0), (.iaload, 0, 0), (.invokevirtual 0, 177, 0), (.if_icmp .eq 0, 73, 0), (.goto_w 0, 8, 0)] := rfl
theorem k_LW_law_8 : zblk i_LW_law 8 = [(.iconst (0), 0, 0), (.ireturn, 0, 0)] := rfl
theorem k_LW_law_9 : zblk i_LW_law 9 = [(.aload 1, 0, 0), (.aload 0, 0, 0), (.iload 3, 0, 0), (.iconst (1), 0, 0), (.iadd, 0, 0), (.iaload, 0, 0), (.aload 0, 0, 0), (.iload 3, 0, 0), (.iconst (2), 0, 0), (.iadd, 0, 0), (.iaload, 0, 0), (.aload 0, 0, 0), (.iload 3, 0, 0), (.iconst (3), 0, 0), (.iadd, 0, 0), (.iaload, 0, 0), (.invokevirtual 0, 126, 0), (.aload 2, 0, 0), (.aload 0, 0, 0), (.iload 3, 0, 0), (.iconst (1), 0, 0), (.iadd, 0, 0), (.iaload, 0, 0), (.aload 0, 0, 0), (.iload 3, 0, 0), (.iconst (2), 0, 0), (.iadd, 0, 0), (.iaload, 0, 0), (.aload 0, 0, 0), (.iload 3, 0, 0), (.iconst (3), 0, 0), (.iadd, 0, 0), (.iaload, 0, 0), (.invokevirtual 0, 179, 0), (.if_icmp .eq 0, 73, 0), (.goto_w 0, 10, 0)] := rfl
theorem k_LW_law_10 : zblk i_LW_law 10 = [(.iconst (0), 0, 0), (.ireturn, 0, 0)] := rfl
theorem k_LW_law_11 : zblk i_LW_law 11 = [(.aload 1, 0, 0), (.aload 0, 0, 0), (.iload 3, 0, 0), (.iconst (1), 0, 0), (.iadd, 0, 0), (.iaload, 0, 0), (.aload 0, 0, 0), (.iload 3, 0, 0), (.iconst (2), 0, 0), (.iadd, 0, 0), (.iaload, 0, 0), (.invokevirtual 0, 127, 0), (.aload 2, 0, 0), (.aload 0, 0, 0), (.iload 3, 0, 0), (.iconst (1), 0, 0), (.iadd, 0, 0), (.iaload, 0, 0), (.aload 0, 0, 0), (.iload 3, 0, 0), (.iconst (2), 0, 0), (.iadd, 0, 0), (.iaload, 0, 0), (.invokevirtual 0, 180, 0), (.if_icmp .eq 0, 73, 0), (.goto_w 0, 12, 0)] := rfl
theorem k_LW_law_12 : zblk i_LW_law 12 = [(.iconst (0), 0, 0), (.ireturn, 0, 0)] := rfl
theorem k_LW_law_13 : zblk i_LW_law 13 = [(.aload 1, 0, 0), (.aload 0, 0, 0), (.iload 3, 0, 0), (.iconst (1), 0, 0), (.iadd, 0, 0), (.iaload, 0, 0), (.aload 0, 0, 0), (.iload 3, 0, 0), (.iconst (2), 0, 0), (.iadd, 0, 0), (.iaload, 0, 0), (.invokevirtual 0, 128, 0), (.aload 2, 0, 0), (.aload 0, 0, 0), (.iload 3, 0, 0), (.iconst (1), 0, 0), (.iadd, 0, 0), (.iaload, 0, 0), (.aload 0, 0, 0), (.iload 3, 0, 0), (.iconst (2), 0, 0), (.iadd, 0, 0), (.iaload, 0, 0), (.invokevirtual 0, 181, 0), (.if_icmp .eq 0, 73, 0), (.goto_w 0, 14, 0)] := rfl
theorem k_LW_law_14 : zblk i_LW_law 14 = [(.iconst (0), 0, 0), (.ireturn, 0, 0)] := rfl
theorem k_LW_law_15 : zblk i_LW_law 15 = [(.aload 1, 0, 0), (.aload 0, 0, 0), (.iload 3, 0, 0), (.iconst (1), 0, 0), (.iadd, 0, 0), (.iaload, 0, 0), (.aload 0, 0, 0), (.iload 3, 0, 0), (.iconst (2), 0, 0), (.iadd, 0, 0), (.iaload, 0, 0), (.aload 0, 0, 0), (.iload 3, 0, 0), (.iconst (3), 0, 0), (.iadd, 0, 0), (.iaload, 0, 0), (.invokevirtual 0, 129, 0), (.aload 2, 0, 0), (.aload 0, 0, 0), (.iload 3, 0, 0), (.iconst (1), 0, 0), (.iadd, 0, 0), (.iaload, 0, 0), (.aload 0, 0, 0), (.iload 3, 0, 0), (.iconst (2), 0, 0), (.iadd, 0, 0), (.iaload, 0, 0), (.aload 0, 0, 0), (.iload 3, 0, 0), (.iconst (3), 0, 0), (.iadd, 0, 0), (.iaload, 0, 0), (.invokevirtual 0, 182, 0), (.if_icmp .eq 0, 73, 0), (.goto_w 0, 16, 0)] := rfl
theorem k_LW_law_16 : zblk i_LW_law 16 = [(.iconst (0), 0, 0), (.ireturn, 0, 0)] := rfl
theorem k_LW_law_17 : zblk i_LW_law 17 = [(.aload 1, 0, 0), (.aload 0, 0, 0), (.iload 3, 0, 0), (.iconst (1), 0, 0), (.iadd, 0, 0), (.iaload, 0, 0), (.aload 0, 0, 0), (.iload 3, 0, 0), (.iconst (2), 0, 0), (.iadd, 0, 0), (.iaload, 0, 0), (.aload 0, 0, 0), (.iload 3, 0, 0), (.iconst (3), 0, 0), (.iadd, 0, 0), (.iaload, 0, 0), (.aload 0, 0, 0), (.iload 3, 0, 0), (.iconst (4), 0, 0), (.iadd, 0, 0), (.iaload, 0, 0), (.invokevirtual 0, 130, 0), (.aload 2, 0, 0), (.aload 0, 0, 0), (.iload 3, 0, 0), (.iconst (1), 0, 0), (.iadd, 0, 0), (.iaload, 0, 0), (.aload 0, 0, 0), (.iload 3, 0, 0), (.iconst (2), 0, 0), (.iadd, 0, 0), (.iaload, 0, 0), (.aload 0, 0, 0), (.iload 3, 0, 0), (.iconst (3), 0, 0), (.iadd, 0, 0), (.iaload, 0, 0), (.aload 0, 0, 0), (.iload 3, 0, 0), (.iconst (4), 0, 0), (.iadd, 0, 0), (.iaload, 0, 0), (.invokevirtual 0, 183, 0), (.if_icmp .eq 0, 73, 0), (.goto_w 0, 18, 0)] := rfl
theorem k_LW_law_18 : zblk i_LW_law 18 = [(.iconst (0), 0, 0), (.ireturn, 0, 0)] := rfl
theorem k_LW_law_19 : zblk i_LW_law 19 = [(.aload 1, 0, 0), (.aload 0, 0, 0), (.iload 3, 0, 0), (.iconst (1), 0, 0), (.iadd, 0, 0), (.iaload, 0, 0), (.aload 0, 0, 0), (.iload 3, 0, 0), (.iconst (2), 0, 0), (.iadd, 0, 0), (.iaload, 0, 0), (.aload 0, 0, 0), (.iload 3, 0, 0), (.iconst (3), 0, 0), (.iadd, 0, 0), (.iaload, 0, 0), (.aload 0, 0, 0), (.iload 3, 0, 0), (.iconst (4), 0, 0), (.iadd, 0, 0), (.iaload, 0, 0), (.aload 0, 0, 0), (.iload 3, 0, 0), (.iconst (5), 0, 0), (.iadd, 0, 0), (.iaload, 0, 0), (.invokevirtual 0, 131, 0), (.aload 2, 0, 0), (.aload 0, 0, 0), (.iload 3, 0, 0), (.iconst (1), 0, 0), (.iadd, 0, 0), (.iaload, 0, 0), (.aload 0, 0, 0), (.iload 3, 0, 0), (.iconst (2), 0, 0), (.iadd, 0, 0), (.iaload, 0, 0), (.aload 0, 0, 0), (.iload 3, 0, 0), (.iconst (3), 0, 0), (.iadd, 0, 0), (.iaload, 0, 0), (.aload 0, 0, 0), (.iload 3, 0, 0), (.iconst (4), 0, 0), (.iadd, 0, 0), (.iaload, 0, 0), (.aload 0, 0, 0), (.iload 3, 0, 0), (.iconst (5), 0, 0), (.iadd, 0, 0), (.iaload, 0, 0), (.invokevirtual 0, 220, 0), (.if_icmp .eq 0, 73, 0), (.goto_w 0, 20, 0)] := rfl
theorem k_LW_law_20 : zblk i_LW_law 20 = [(.iconst (0), 0, 0), (.ireturn, 0, 0)] := rfl
theorem k_LW_law_21 : zblk i_LW_law 21 = [(.aload 1, 0, 0), (.aload 0, 0, 0), (.iload 3, 0, 0), (.iconst (1), 0, 0), (.iadd, 0, 0), (.iaload, 0, 0), (.i2l, 0, 0), (.iconst (32), 0, 0), (.lshl, 0, 0), (.aload 0, 0, 0), (.iload 3, 0, 0), (.iconst (2), 0, 0), (.iadd, 0, 0), (.iaload, 0, 0), (.i2l, 0, 0), (.sipush (4294967295), 0, 0), (.land, 0, 0), (.lor, 0, 0), (.aload 0, 0, 0), (.iload 3, 0, 0), (.iconst (3), 0, 0), (.iadd, 0, 0), (.iaload, 0, 0), (.invokevirtual 0, 132, 0), (.aload 2, 0, 0), (.aload 0, 0, 0), (.iload 3, 0, 0), (.iconst (1), 0, 0), (.iadd, 0, 0), (.iaload, 0, 0), (.i2l, 0, 0), (.iconst (32), 0, 0), (.lshl, 0, 0), (.aload 0, 0, 0), (.iload 3, 0, 0), (.iconst (2), 0, 0), (.iadd, 0, 0), (.iaload, 0, 0), (.i2l, 0, 0), (.sipush (4294967295), 0, 0), (.land, 0, 0), (.lor, 0, 0), (.aload 0, 0, 0), (.iload 3, 0, 0), (.iconst (3), 0, 0), (.iadd, 0, 0), (.iaload, 0, 0), (.invokevirtual 0, 188, 0), (.if_icmp .eq 0, 73, 0), (.goto_w 0, 22, 0)] := rfl
theorem k_LW_law_22 : zblk i_LW_law 22 = [(.iconst (0), 0, 0), (.ireturn, 0, 0)] := rfl
theorem k_LW_law_23 : zblk i_LW_law 23 = [(.aload 1, 0, 0), (.invokevirtual 0, 133, 0), (.aload 2, 0, 0), (.invokevirtual 0, 195, 0), (.if_icmp .eq 0, 73, 0), (.goto_w 0, 24, 0)] := rfl
theorem k_LW_law_24 : zblk i_LW_law 24 = [(.iconst (0), 0, 0), (.ireturn, 0, 0)] := rfl
theorem k_LW_law_25 : zblk i_LW_law 25 = [(.aload 1, 0, 0), (.invokevirtual 0, 134, 0), (.aload 2, 0, 0), (.invokevirtual 0, 203, 0), (.if_icmp .eq 0, 73, 0), (.goto_w 0, 26, 0)] := rfl
theorem k_LW_law_26 : zblk i_LW_law 26 = [(.iconst (0), 0, 0), (.ireturn, 0, 0)] := rfl
theorem k_LW_law_27 : zblk i_LW_law 27 = [(.aload 1, 0, 0), (.aload 0, 0, 0), (.iload 3, 0, 0), (.iconst (1), 0, 0), (.iadd, 0, 0), (.iaload, 0, 0), (.invokevirtual 0, 135, 0), (.aload 2, 0, 0), (.aload 0, 0, 0), (.iload 3, 0, 0), (.iconst (1), 0, 0), (.iadd, 0, 0), (.iaload, 0, 0), (.invokevirtual 0, 204, 0), (.if_icmp .eq 0, 73, 0), (.goto_w 0, 28, 0)] := rfl
theorem k_LW_law_28 : zblk i_LW_law 28 = [(.iconst (0), 0, 0), (.ireturn, 0, 0)] := rfl
theorem k_LW_law_29 : zblk i_LW_law 29 = [(.aload 1, 0, 0), (.aload 0, 0, 0), (.iload 3, 0, 0), (.iconst (1), 0, 0), (.iadd, 0, 0), (.iaload, 0, 0), (.aload 0, 0, 0), (.iload 3, 0, 0), (.iconst (2), 0, 0), (.iadd, 0, 0), (.iaload, 0, 0), (.aload 0, 0, 0), (.iload 3, 0, 0), (.iconst (3), 0, 0), (.iadd, 0, 0), (.iaload, 0, 0), (.invokevirtual 0, 136, 0), (.aload 2, 0, 0), (.aload 0, 0, 0), (.iload 3, 0, 0), (.iconst (1), 0, 0), (.iadd, 0, 0), (.iaload, 0, 0), (.aload 0, 0, 0), (.iload 3, 0, 0), (.iconst (2), 0, 0), (.iadd, 0, 0), (.iaload, 0, 0), (.aload 0, 0, 0), (.iload 3, 0, 0), (.iconst (3), 0, 0), (.iadd, 0, 0), (.iaload, 0, 0), (.invokevirtual 0, 187, 0), (.if_icmp .eq 0, 73, 0), (.goto_w 0, 30, 0)] := rfl
theorem k_LW_law_30 : zblk i_LW_law 30 = [(.iconst (0), 0, 0), (.ireturn, 0, 0)] := rfl
theorem k_LW_law_31 : zblk i_LW_law 31 = [(.aload 1, 0, 0), (.aload 0, 0, 0), (.iload 3, 0, 0), (.iconst (1), 0, 0), (.iadd, 0, 0), (.iaload, 0, 0), (.invokevirtual 0, 137, 0), (.aload 2, 0, 0), (.aload 0, 0, 0), (.iload 3, 0, 0), (.iconst (1), 0, 0), (.iadd, 0, 0), (.iaload, 0, 0), (.invokevirtual 0, 207, 0), (.if_icmp .eq 0, 73, 0), (.goto_w 0, 32, 0)] := rfl
theorem k_LW_law_32 : zblk i_LW_law 32 = [(.iconst (0), 0, 0), (.ireturn, 0, 0)] := rfl
theorem k_LW_law_33 : zblk i_LW_law 33 = [(.aload 1, 0, 0), (.aload 0, 0, 0), (.iload 3, 0, 0), (.iconst (1), 0, 0), (.iadd, 0, 0), (.iaload, 0, 0), (.invokevirtual 0, 138, 0), (.aload 2, 0, 0), (.aload 0, 0, 0), (.iload 3, 0, 0), (.iconst (1), 0, 0), (.iadd, 0, 0), (.iaload, 0, 0), (.invokevirtual 0, 210, 0), (.if_icmp .eq 0, 73, 0), (.goto_w 0, 34, 0)] := rfl
theorem k_LW_law_34 : zblk i_LW_law 34 = [(.iconst (0), 0, 0), (.ireturn, 0, 0)] := rfl
theorem k_LW_law_35 : zblk i_LW_law 35 = [(.aload 1, 0, 0), (.aload 0, 0, 0), (.iload 3, 0, 0), (.iconst (1), 0, 0), (.iadd, 0, 0), (.iaload, 0, 0), (.aload 0, 0, 0), (.iload 3, 0, 0), (.iconst (2), 0, 0), (.iadd, 0, 0), (.iaload, 0, 0), (.invokevirtual 0, 139, 0), (.aload 2, 0, 0), (.aload 0, 0, 0), (.iload 3, 0, 0), (.iconst (1), 0, 0), (.iadd, 0, 0), (.iaload, 0, 0), (.aload 0, 0, 0), (.iload 3, 0, 0), (.iconst (2), 0, 0), (.iadd, 0, 0), (.iaload, 0, 0), (.invokevirtual 0, 211, 0), (.if_icmp .eq 0, 73, 0), (.goto_w 0, 36, 0)] := rfl
theorem k_LW_law_36 : zblk i_LW_law 36 = [(.iconst (0), 0, 0), (.ireturn, 0, 0)] := rfl
theorem k_LW_law_37 : zblk i_LW_law 37 = [(.aload 1, 0, 0), (.aload 0, 0, 0), (.iload 3, 0, 0), (.iconst (1), 0, 0), (.iadd, 0, 0), (.iaload, 0, 0), (.invokevirtual 0, 140, 0), (.aload 2, 0, 0), (.aload 0, 0, 0), (.iload 3, 0, 0), (.iconst (1), 0, 0), (.iadd, 0, 0), (.iaload, 0, 0), (.invokevirtual 0, 214, 0), (.if_icmp .eq 0, 73, 0), (.goto_w 0, 38, 0)] := rfl
theorem k_LW_law_38 : zblk i_LW_law 38 = [(.iconst (0), 0, 0), (.ireturn, 0, 0)] := rfl
theorem k_LW_law_39 : zblk i_LW_law 39 = [(.aload 1, 0, 0), (.aload 0, 0, 0), (.iload 3, 0, 0), (.iconst (1), 0, 0), (.iadd, 0, 0), (.iaload, 0, 0), (.aload 0, 0, 0), (.iload 3, 0, 0), (.iconst (2), 0, 0), (.iadd, 0, 0), (.iaload, 0, 0), (.aload 0, 0, 0), (.iload 3, 0, 0), (.iconst (3), 0, 0), (.iadd, 0, 0), (.iaload, 0, 0), (.aload 0, 0, 0), (.iload 3, 0, 0), (.iconst (4), 0, 0), (.iadd, 0, 0), (.iaload, 0, 0), (.aload 0, 0, 0), (.iload 3, 0, 0), (.iconst (5), 0, 0), (.iadd, 0, 0), (.iaload, 0, 0), (.invokevirtual 0, 141, 0), (.aload 2, 0, 0), (.aload 0, 0, 0), (.iload 3, 0, 0), (.iconst (1), 0, 0), (.iadd, 0, 0), (.iaload, 0, 0), (.aload 0, 0, 0), (.iload 3, 0, 0), (.iconst (2), 0, 0), (.iadd, 0, 0), (.iaload, 0, 0), (.aload 0, 0, 0), (.iload 3, 0, 0), (.iconst (3), 0, 0), (.iadd, 0, 0), (.iaload, 0, 0), (.aload 0, 0, 0), (.iload 3, 0, 0), (.iconst (4), 0, 0), (.iadd, 0, 0), (.iaload, 0, 0), (.aload 0, 0, 0), (.iload 3, 0, 0), (.iconst (5), 0, 0), (.iadd, 0, 0), (.iaload, 0, 0), (.invokevirtual 0, 218, 0), (.if_icmp .eq 0, 73, 0), (.goto_w 0, 40, 0)] := rfl
theorem k_LW_law_40 : zblk i_LW_law 40 = [(.iconst (0), 0, 0), (.ireturn, 0, 0)] := rfl
theorem k_LW_law_41 : zblk i_LW_law 41 = [(.aload 1, 0, 0), (.aload 0, 0, 0), (.iload 3, 0, 0), (.iconst (1), 0, 0), (.iadd, 0, 0), (.iaload, 0, 0), (.invokevirtual 0, 142, 0), (.aload 2, 0, 0), (.aload 0, 0, 0), (.iload 3, 0, 0), (.iconst (1), 0, 0), (.iadd, 0, 0), (.iaload, 0, 0), (.invokevirtual 0, 219, 0), (.if_icmp .eq 0, 73, 0), (.goto_w 0, 42, 0)] := rfl
theorem k_LW_law_42 : zblk i_LW_law 42 = [(.iconst (0), 0, 0), (.ireturn, 0, 0)] := rfl
theorem k_LW_law_43 : zblk i_LW_law 43 = [(.aload 1, 0, 0), (.aload 0, 0, 0), (.iload 3, 0, 0), (.iconst (1), 0, 0), (.iadd, 0, 0), (.iaload, 0, 0), (.invokevirtual 0, 143, 0), (.aload 2, 0, 0), (.aload 0, 0, 0), (.iload 3, 0, 0), (.iconst (1), 0, 0), (.iadd, 0, 0), (.iaload, 0, 0), (.invokevirtual 0, 231, 0), (.if_icmp .eq 0, 73, 0), (.goto_w 0, 44, 0)] := rfl
theorem k_LW_law_44 : zblk i_LW_law 44 = [(.iconst (0), 0, 0), (.ireturn, 0, 0)] := rfl
theorem k_LW_law_45 : zblk i_LW_law 45 = [(.aload 1, 0, 0), (.aload 0, 0, 0), (.iload 3, 0, 0), (.iconst (1), 0, 0), (.iadd, 0, 0), (.iaload, 0, 0), (.aload 0, 0, 0), (.iload 3, 0, 0), (.iconst (2), 0, 0), (.iadd, 0, 0), (.iaload, 0, 0), (.aload 0, 0, 0), (.iload 3, 0, 0), (.iconst (3), 0, 0), (.iadd, 0, 0), (.iaload, 0, 0), (.invokevirtual 0, 144, 0), (.aload 2, 0, 0), (.aload 0, 0, 0), (.iload 3, 0, 0), (.iconst (1), 0, 0), (.iadd, 0, 0), (.iaload, 0, 0), (.aload 0, 0, 0), (.iload 3, 0, 0), (.iconst (2), 0, 0), (.iadd, 0, 0), (.iaload, 0, 0), (.aload 0, 0, 0), (.iload 3, 0, 0), (.iconst (3), 0, 0), (.iadd, 0, 0), (.iaload, 0, 0), (.invokevirtual 0, 232, 0), (.if_icmp .eq 0, 73, 0), (.goto_w 0, 46, 0)] := rfl
theorem k_LW_law_46 : zblk i_LW_law 46 = [(.iconst (0), 0, 0), (.ireturn, 0, 0)] := rfl
theorem k_LW_law_47 : zblk i_LW_law 47 = [(.aload 1, 0, 0), (.aload 0, 0, 0), (.iload 3, 0, 0), (.iconst (1), 0, 0), (.iadd, 0, 0), (.iaload, 0, 0), (.aload 0, 0, 0), (.iload 3, 0, 0), (.iconst (2), 0, 0), (.iadd, 0, 0), (.iaload, 0, 0), (.aload 0, 0, 0), (.iload 3, 0, 0), (.iconst (3), 0, 0), (.iadd, 0, 0), (.iaload, 0, 0), (.invokevirtual 0, 146, 0), (.aload 2, 0, 0), (.aload 0, 0, 0), (.iload 3, 0, 0), (.iconst (1), 0, 0), (.iadd, 0, 0), (.iaload, 0, 0), (.aload 0, 0, 0), (.iload 3, 0, 0), (.iconst (2), 0, 0), (.iadd, 0, 0), (.iaload, 0, 0), (.aload 0, 0, 0), (.iload 3, 0, 0), (.iconst (3), 0, 0), (.iadd, 0, 0), (.iaload, 0, 0), (.invokevirtual 0, 233, 0), (.if_icmp .eq 0, 73, 0), (.goto_w 0, 48, 0)] := rfl
theorem k_LW_law_48 : zblk i_LW_law 48 = [(.iconst (0), 0, 0), (.ireturn, 0, 0)] := rfl
theorem k_LW_law_49 : zblk i_LW_law 49 = [(.aload 1, 0, 0), (.aload 0, 0, 0), (.iload 3, 0, 0), (.iconst (1), 0, 0), (.iadd, 0, 0), (.iaload, 0, 0), (.invokevirtual 0, 147, 0), (.aload 2, 0, 0), (.aload 0, 0, 0), (.iload 3, 0, 0), (.iconst (1), 0, 0), (.iadd, 0, 0), (.iaload, 0, 0), (.invokevirtual 0, 234, 0), (.if_icmp .eq 0, 73, 0), (.goto_w 0, 50, 0)] := rfl
theorem k_LW_law_50 : zblk i_LW_law 50 = [(.iconst (0), 0, 0), (.ireturn, 0, 0)] := rfl
theorem k_LW_law_51 : zblk i_LW_law 51 = [(.aload 1, 0, 0), (.aload 0, 0, 0), (.iload 3, 0, 0), (.iconst (1), 0, 0), (.iadd, 0, 0), (.iaload, 0, 0), (.aload 0, 0, 0), (.iload 3, 0, 0), (.iconst (2), 0, 0), (.iadd, 0, 0), (.iaload, 0, 0), (.invokevirtual 0, 148, 0), (.aload 2, 0, 0), (.aload 0, 0, 0), (.iload 3, 0, 0), (.iconst (1), 0, 0), (.iadd, 0, 0), (.iaload, 0, 0), (.aload 0, 0, 0), (.iload 3, 0, 0), (.iconst (2), 0, 0), (.iadd, 0, 0), (.iaload, 0, 0), (.invokevirtual 0, 243, 0), (.lcmp, 0, 0), (.ifCond .eq 0, 73, 0), (.goto_w 0, 52, 0)] := rfl
theorem k_LW_law_52 : zblk i_LW_law 52 = [(.iconst (0), 0, 0), (.ireturn, 0, 0)] := rfl
theorem k_LW_law_53 : zblk i_LW_law 53 = [(.aload 1, 0, 0), (.aload 0, 0, 0), (.iload 3, 0, 0), (.iconst (1), 0, 0), (.iadd, 0, 0), (.iaload, 0, 0), (.aload 0, 0, 0), (.iload 3, 0, 0), (.iconst (2), 0, 0), (.iadd, 0, 0), (.iaload, 0, 0), (.invokevirtual 0, 149, 0), (.aload 2, 0, 0), (.aload 0, 0, 0), (.iload 3, 0, 0), (.iconst (1), 0, 0), (.iadd, 0, 0), (.iaload, 0, 0), (.aload 0, 0, 0), (.iload 3, 0, 0), (.iconst (2), 0, 0), (.iadd, 0, 0), (.iaload, 0, 0), (.invokevirtual 0, 244, 0), (.if_icmp .eq 0, 73, 0), (.goto_w 0, 54, 0)] := rfl
theorem k_LW_law_54 : zblk i_LW_law 54 = [(.iconst (0), 0, 0), (.ireturn, 0, 0)] := rfl
theorem k_LW_law_55 : zblk i_LW_law 55 = [(.aload 1, 0, 0), (.aload 0, 0, 0), (.iload 3, 0, 0), (.iconst (1), 0, 0), (.iadd, 0, 0), (.iaload, 0, 0), (.invokevirtual 0, 150, 0), (.aload 2, 0, 0), (.aload 0, 0, 0), (.iload 3, 0, 0), (.iconst (1), 0, 0), (.iadd, 0, 0), (.iaload, 0, 0), (.invokevirtual 0, 247, 0), (.if_icmp .eq 0, 73, 0), (.goto_w 0, 56, 0)] := rfl
theorem k_LW_law_56 : zblk i_LW_law 56 = [(.iconst (0), 0, 0), (.ireturn, 0, 0)] := rfl
theorem k_LW_law_57 : zblk i_LW_law 57 = [(.aload 1, 0, 0), (.aload 0, 0, 0), (.iload 3, 0, 0), (.iconst (1), 0, 0), (.iadd, 0, 0), (.iaload, 0, 0), (.invokevirtual 0, 151, 0), (.aload 2, 0, 0), (.aload 0, 0, 0), (.iload 3, 0, 0), (.iconst (1), 0, 0), (.iadd, 0, 0), (.iaload, 0, 0), (.invokevirtual 0, 250, 0), (.if_icmp .eq 0, 73, 0), (.goto_w 0, 58, 0)] := rfl
theorem k_LW_law_58 : zblk i_LW_law 58 = [(.iconst (0), 0, 0), (.ireturn, 0, 0)] := rfl
theorem k_LW_law_59 : zblk i_LW_law 59 = [(.aload 1, 0, 0), (.aload 0, 0, 0), (.iload 3, 0, 0), (.iconst (1), 0, 0), (.iadd, 0, 0), (.iaload, 0, 0), (.invokevirtual 0, 152, 0), (.aload 2, 0, 0), (.aload 0, 0, 0), (.iload 3, 0, 0), (.iconst (1), 0, 0), (.iadd, 0, 0), (.iaload, 0, 0), (.invokevirtual 0, 253, 0), (.if_icmp .eq 0, 73, 0), (.goto_w 0, 60, 0)] := rfl
theorem k_LW_law_60 : zblk i_LW_law 60 = [(.iconst (0), 0, 0), (.ireturn, 0, 0)] := rfl
theorem k_LW_law_61 : zblk i_LW_law 61 = [(.aload 1, 0, 0), (.aload 0, 0, 0), (.iload 3, 0, 0), (.iconst (1), 0, 0), (.iadd, 0, 0), (.iaload, 0, 0), (.invokevirtual 0, 153, 0), (.aload 2, 0, 0), (.aload 0, 0, 0), (.iload 3, 0, 0), (.iconst (1), 0, 0), (.iadd, 0, 0), (.iaload, 0, 0), (.invokevirtual 0, 256, 0), (.if_icmp .eq 0, 73, 0), (.goto_w 0, 62, 0)] := rfl
theorem k_LW_law_62 : zblk i_LW_law 62 = [(.iconst (0), 0, 0), (.ireturn, 0, 0)] := rfl
theorem k_LW_law_63 : zblk i_LW_law 63 = [(.aload 1, 0, 0), (.aload 0, 0, 0), (.iload 3, 0, 0), (.iconst (1), 0, 0), (.iadd, 0, 0), (.iaload, 0, 0), (.invokevirtual 0, 154, 0), (.aload 2, 0, 0), (.aload 0, 0, 0), (.iload 3, 0, 0), (.iconst (1), 0, 0), (.iadd, 0, 0), (.iaload, 0, 0), (.invokevirtual 0, 257, 0), (.if_icmp .eq 0, 73, 0), (.goto_w 0, 64, 0)] := rfl
theorem k_LW_law_64 : zblk i_LW_law 64 = [(.iconst (0), 0, 0), (.ireturn, 0, 0)] := rfl
theorem k_LW_law_65 : zblk i_LW_law 65 = [(.aload 1, 0, 0), (.aload 0, 0, 0), (.iload 3, 0, 0), (.iconst (1), 0, 0), (.iadd, 0, 0), (.iaload, 0, 0), (.aload 0, 0, 0), (.iload 3, 0, 0), (.iconst (2), 0, 0), (.iadd, 0, 0), (.iaload, 0, 0), (.aload 0, 0, 0), (.iload 3, 0, 0), (.iconst (3), 0, 0), (.iadd, 0, 0), (.iaload, 0, 0), (.invokevirtual 0, 155, 0), (.aload 2, 0, 0), (.aload 0, 0, 0), (.iload 3, 0, 0), (.iconst (1), 0, 0), (.iadd, 0, 0), (.iaload, 0, 0), (.aload 0, 0, 0), (.iload 3, 0, 0), (.iconst (2), 0, 0), (.iadd, 0, 0), (.iaload, 0, 0), (.aload 0, 0, 0), (.iload 3, 0, 0), (.iconst (3), 0, 0), (.iadd, 0, 0), (.iaload, 0, 0), (.invokevirtual 0, 258, 0), (.if_icmp .eq 0, 73, 0), (.goto_w 0, 66, 0)] := rfl
theorem k_LW_law_66 : zblk i_LW_law 66 = [(.iconst (0), 0, 0), (.ireturn, 0, 0)] := rfl
theorem k_LW_law_67 : zblk i_LW_law 67 = [(.aload 1, 0, 0), (.aload 0, 0, 0), (.iload 3, 0, 0), (.iconst (1), 0, 0), (.iadd, 0, 0), (.iaload, 0, 0), (.invokevirtual 0, 156, 0), (.aload 2, 0, 0), (.aload 0, 0, 0), (.iload 3, 0, 0), (.iconst (1), 0, 0), (.iadd, 0, 0), (.iaload, 0, 0), (.invokevirtual 0, 259, 0), (.if_icmp .eq 0, 73, 0), (.goto_w 0, 68, 0)] := rfl
theorem k_LW_law_68 : zblk i_LW_law 68 = [(.iconst (0), 0, 0), (.ireturn, 0, 0)] := rfl
theorem k_LW_law_69 : zblk i_LW_law 69 = [(.aload 1, 0, 0), (.aload 0, 0, 0), (.iload 3, 0, 0), (.iconst (1), 0, 0), (.iadd, 0, 0), (.iaload, 0, 0), (.aload 0, 0, 0), (.iload 3, 0, 0), (.iconst (2), 0, 0), (.iadd, 0, 0), (.iaload, 0, 0), (.aload 0, 0, 0), (.iload 3, 0, 0), (.iconst (3), 0, 0), (.iadd, 0, 0), (.iaload, 0, 0), (.aload 0, 0, 0), (.iload 3, 0, 0), (.iconst (4), 0, 0), (.iadd, 0, 0), (.iaload, 0, 0), (.invokevirtual 0, 157, 0), (.aload 2, 0, 0), (.aload 0, 0, 0), (.iload 3, 0, 0), (.iconst (1), 0, 0), (.iadd, 0, 0), (.iaload, 0, 0), (.aload 0, 0, 0), (.iload 3, 0, 0), (.iconst (2), 0, 0), (.iadd, 0, 0), (.iaload, 0, 0), (.aload 0, 0, 0), (.iload 3, 0, 0), (.iconst (3), 0, 0), (.iadd, 0, 0), (.iaload, 0, 0), (.aload 0, 0, 0), (.iload 3, 0, 0), (.iconst (4), 0, 0), (.iadd, 0, 0), (.iaload, 0, 0), (.invokevirtual 0, 260, 0), (.if_icmp .eq 0, 73, 0), (.goto_w 0, 70, 0)] := rfl
theorem k_LW_law_70 : zblk i_LW_law 70 = [(.iconst (0), 0, 0), (.ireturn, 0, 0)] := rfl
theorem k_LW_law_71 : zblk i_LW_law 71 = [(.aload 1, 0, 0), (.aload 0, 0, 0), (.iload 3, 0, 0), (.iconst (1), 0, 0), (.iadd, 0, 0), (.iaload, 0, 0), (.aload 0, 0, 0), (.iload 3, 0, 0), (.iconst (2), 0, 0), (.iadd, 0, 0), (.iaload, 0, 0), (.aload 0, 0, 0), (.iload 3, 0, 0), (.iconst (3), 0, 0), (.iadd, 0, 0), (.iaload, 0, 0), (.aload 0, 0, 0), (.iload 3, 0, 0), (.iconst (4), 0, 0), (.iadd, 0, 0), (.iaload, 0, 0), (.aload 0, 0, 0), (.iload 3, 0, 0), (.iconst (5), 0, 0), (.iadd, 0, 0), (.iaload, 0, 0), (.invokevirtual 0, 158, 0), (.aload 2, 0, 0), (.aload 0, 0, 0), (.iload 3, 0, 0), (.iconst (1), 0, 0), (.iadd, 0, 0), (.iaload, 0, 0), (.aload 0, 0, 0), (.iload 3, 0, 0), (.iconst (2), 0, 0), (.iadd, 0, 0), (.iaload, 0, 0), (.aload 0, 0, 0), (.iload 3, 0, 0), (.iconst (3), 0, 0), (.iadd, 0, 0), (.iaload, 0, 0), (.aload 0, 0, 0), (.iload 3, 0, 0), (.iconst (4), 0, 0), (.iadd, 0, 0), (.iaload, 0, 0), (.aload 0, 0, 0), (.iload 3, 0, 0), (.iconst (5), 0, 0), (.iadd, 0, 0), (.iaload, 0, 0), (.invokevirtual 0, 261, 0), (.if_icmp .eq 0, 73, 0), (.goto_w 0, 72, 0)] := rfl
theorem k_LW_law_72 : zblk i_LW_law 72 = [(.iconst (0), 0, 0), (.ireturn, 0, 0)] := rfl
theorem k_LW_law_73 : zblk i_LW_law 73 = [(.iinc 3 (6), 0, 0), (.goto 0, 1, 0)] := rfl
theorem k_LW_law_74 : zblk i_LW_law 74 = [(.iconst (1), 0, 0), (.ireturn, 0, 0)] := rfl
theorem a_LW_law : zmA i_LW_law = 1 := rfl
theorem l_LW_law : zmL i_LW_law = 4 := rfl
theorem r_LW_law : zmR i_LW_law = some .boolean := rfl
theorem o_LW_law : zmO i_LW_law = 15 := rfl
