/-! the blocks by name, the entries, the cells: laid by wip/whole/genblk.py -/
/-- all cells, once both objects stand -/
def zSH (Ln : Nat) : List zSh := [(0, Ln, []),
  (0, Ln, []),
  (13, 9, [some 3, some 10, some 22, some 19, some 29, some 32, some 36, some 41, some 44]),
  (8, 9, [none, none, none, some 4, some 5, some 6, some 7, some 8, some 9]),
  (0, 48, []),
  (0, 48, []),
  (0, 144, []),
  (0, 972, []),
  (0, 12, []),
  (0, 48, []),
  (4, 6, [none, none, some 11, some 12, some 13, some 14]),
  (0, 24, []),
  (0, 24, []),
  (0, 24, []),
  (0, 24, []),
  (11, 6, [some 3, some 16, some 17, some 18, none, none]),
  (0, 972, []),
  (0, 12, []),
  (0, 81, []),
  (6, 7, [some 3, some 10, some 15, some 20, some 21, none, none]),
  (0, 24, []),
  (0, 12, []),
  (12, 6, [some 23, some 24, none, none, none, none]),
  (0, 100, []),
  (4, 6, [none, none, some 25, some 26, some 27, some 28]),
  (0, 24, []),
  (0, 24, []),
  (0, 24, []),
  (0, 24, []),
  (9, 7, [some 3, some 10, some 15, some 19, some 30, some 31, none]),
  (0, 12, []),
  (0, 41, []),
  (3, 9, [some 3, some 15, some 33, some 34, some 35, none, none, none, none]),
  (0, 48, []),
  (0, 48, []),
  (0, 12, []),
  (7, 8, [some 3, none, none, none, some 37, some 38, some 39, some 40]),
  (0, 144, []),
  (0, 12, []),
  (0, 12, []),
  (1, 156, []),
  (5, 3, [some 3, some 42, some 43]),
  (0, 4, []),
  (0, 48, []),
  (10, 3, [some 45, some 46, some 47]),
  (0, 4, []),
  (0, 4, []),
  (0, 324, [])]
theorem sh_1 (Ln : Nat) : (zSH Ln)[1]? = some (0, Ln, []) := rfl
theorem sh_2 (Ln : Nat) : (zSH Ln)[2]? = some (13, 9, [some 3, some 10, some 22, some 19, some 29, some 32, some 36, some 41, some 44]) := rfl
theorem sh_3 (Ln : Nat) : (zSH Ln)[3]? = some (8, 9, [none, none, none, some 4, some 5, some 6, some 7, some 8, some 9]) := rfl
theorem sh_4 (Ln : Nat) : (zSH Ln)[4]? = some (0, 48, []) := rfl
theorem sh_5 (Ln : Nat) : (zSH Ln)[5]? = some (0, 48, []) := rfl
theorem sh_6 (Ln : Nat) : (zSH Ln)[6]? = some (0, 144, []) := rfl
theorem sh_7 (Ln : Nat) : (zSH Ln)[7]? = some (0, 972, []) := rfl
theorem sh_8 (Ln : Nat) : (zSH Ln)[8]? = some (0, 12, []) := rfl
theorem sh_9 (Ln : Nat) : (zSH Ln)[9]? = some (0, 48, []) := rfl
theorem sh_10 (Ln : Nat) : (zSH Ln)[10]? = some (4, 6, [none, none, some 11, some 12, some 13, some 14]) := rfl
theorem sh_11 (Ln : Nat) : (zSH Ln)[11]? = some (0, 24, []) := rfl
theorem sh_12 (Ln : Nat) : (zSH Ln)[12]? = some (0, 24, []) := rfl
theorem sh_13 (Ln : Nat) : (zSH Ln)[13]? = some (0, 24, []) := rfl
theorem sh_14 (Ln : Nat) : (zSH Ln)[14]? = some (0, 24, []) := rfl
theorem sh_15 (Ln : Nat) : (zSH Ln)[15]? = some (11, 6, [some 3, some 16, some 17, some 18, none, none]) := rfl
theorem sh_16 (Ln : Nat) : (zSH Ln)[16]? = some (0, 972, []) := rfl
theorem sh_17 (Ln : Nat) : (zSH Ln)[17]? = some (0, 12, []) := rfl
theorem sh_18 (Ln : Nat) : (zSH Ln)[18]? = some (0, 81, []) := rfl
theorem sh_19 (Ln : Nat) : (zSH Ln)[19]? = some (6, 7, [some 3, some 10, some 15, some 20, some 21, none, none]) := rfl
theorem sh_20 (Ln : Nat) : (zSH Ln)[20]? = some (0, 24, []) := rfl
theorem sh_21 (Ln : Nat) : (zSH Ln)[21]? = some (0, 12, []) := rfl
theorem sh_22 (Ln : Nat) : (zSH Ln)[22]? = some (12, 6, [some 23, some 24, none, none, none, none]) := rfl
theorem sh_23 (Ln : Nat) : (zSH Ln)[23]? = some (0, 100, []) := rfl
theorem sh_24 (Ln : Nat) : (zSH Ln)[24]? = some (4, 6, [none, none, some 25, some 26, some 27, some 28]) := rfl
theorem sh_25 (Ln : Nat) : (zSH Ln)[25]? = some (0, 24, []) := rfl
theorem sh_26 (Ln : Nat) : (zSH Ln)[26]? = some (0, 24, []) := rfl
theorem sh_27 (Ln : Nat) : (zSH Ln)[27]? = some (0, 24, []) := rfl
theorem sh_28 (Ln : Nat) : (zSH Ln)[28]? = some (0, 24, []) := rfl
theorem sh_29 (Ln : Nat) : (zSH Ln)[29]? = some (9, 7, [some 3, some 10, some 15, some 19, some 30, some 31, none]) := rfl
theorem sh_30 (Ln : Nat) : (zSH Ln)[30]? = some (0, 12, []) := rfl
theorem sh_31 (Ln : Nat) : (zSH Ln)[31]? = some (0, 41, []) := rfl
theorem sh_32 (Ln : Nat) : (zSH Ln)[32]? = some (3, 9, [some 3, some 15, some 33, some 34, some 35, none, none, none, none]) := rfl
theorem sh_33 (Ln : Nat) : (zSH Ln)[33]? = some (0, 48, []) := rfl
theorem sh_34 (Ln : Nat) : (zSH Ln)[34]? = some (0, 48, []) := rfl
theorem sh_35 (Ln : Nat) : (zSH Ln)[35]? = some (0, 12, []) := rfl
theorem sh_36 (Ln : Nat) : (zSH Ln)[36]? = some (7, 8, [some 3, none, none, none, some 37, some 38, some 39, some 40]) := rfl
theorem sh_37 (Ln : Nat) : (zSH Ln)[37]? = some (0, 144, []) := rfl
theorem sh_38 (Ln : Nat) : (zSH Ln)[38]? = some (0, 12, []) := rfl
theorem sh_39 (Ln : Nat) : (zSH Ln)[39]? = some (0, 12, []) := rfl
theorem sh_40 (Ln : Nat) : (zSH Ln)[40]? = some (1, 156, []) := rfl
theorem sh_41 (Ln : Nat) : (zSH Ln)[41]? = some (5, 3, [some 3, some 42, some 43]) := rfl
theorem sh_42 (Ln : Nat) : (zSH Ln)[42]? = some (0, 4, []) := rfl
theorem sh_43 (Ln : Nat) : (zSH Ln)[43]? = some (0, 48, []) := rfl
theorem sh_44 (Ln : Nat) : (zSH Ln)[44]? = some (10, 3, [some 45, some 46, some 47]) := rfl
theorem sh_45 (Ln : Nat) : (zSH Ln)[45]? = some (0, 4, []) := rfl
theorem sh_46 (Ln : Nat) : (zSH Ln)[46]? = some (0, 4, []) := rfl
theorem sh_47 (Ln : Nat) : (zSH Ln)[47]? = some (0, 324, []) := rfl
theorem gf_2_0 (Ln : Nat) (M : Nat → Int → Int) : zgetf (zSH Ln, M) 2 10 0 = some (zR 3) := rfl
theorem gf_2_1 (Ln : Nat) (M : Nat → Int → Int) : zgetf (zSH Ln, M) 2 10 1 = some (zR 10) := rfl
theorem gf_2_2 (Ln : Nat) (M : Nat → Int → Int) : zgetf (zSH Ln, M) 2 10 2 = some (zR 22) := rfl
theorem gf_2_3 (Ln : Nat) (M : Nat → Int → Int) : zgetf (zSH Ln, M) 2 10 3 = some (zR 19) := rfl
theorem gf_2_4 (Ln : Nat) (M : Nat → Int → Int) : zgetf (zSH Ln, M) 2 10 4 = some (zR 29) := rfl
theorem gf_2_5 (Ln : Nat) (M : Nat → Int → Int) : zgetf (zSH Ln, M) 2 10 5 = some (zR 32) := rfl
theorem gf_2_6 (Ln : Nat) (M : Nat → Int → Int) : zgetf (zSH Ln, M) 2 10 6 = some (zR 36) := rfl
theorem gf_2_7 (Ln : Nat) (M : Nat → Int → Int) : zgetf (zSH Ln, M) 2 10 7 = some (zR 41) := rfl
theorem gf_2_8 (Ln : Nat) (M : Nat → Int → Int) : zgetf (zSH Ln, M) 2 10 8 = some (zR 44) := rfl
theorem gf_3_0 (Ln : Nat) (M : Nat → Int → Int) : zgetf (zSH Ln, M) 3 5 0 = some (zI (M 3 0)) := rfl
theorem pf_3_0 (Ln : Nat) (M : Nat → Int → Int) (x : Int) : zputf (zSH Ln, M) 3 5 0 (zI x) = some (zSH Ln, zup M 3 0 x) := rfl
theorem gf_3_1 (Ln : Nat) (M : Nat → Int → Int) : zgetf (zSH Ln, M) 3 5 1 = some (zI (M 3 1)) := rfl
theorem pf_3_1 (Ln : Nat) (M : Nat → Int → Int) (x : Int) : zputf (zSH Ln, M) 3 5 1 (zI x) = some (zSH Ln, zup M 3 1 x) := rfl
theorem gf_3_2 (Ln : Nat) (M : Nat → Int → Int) : zgetf (zSH Ln, M) 3 5 2 = some (zI (M 3 2)) := rfl
theorem pf_3_2 (Ln : Nat) (M : Nat → Int → Int) (x : Int) : zputf (zSH Ln, M) 3 5 2 (zI x) = some (zSH Ln, zup M 3 2 x) := rfl
theorem gf_3_3 (Ln : Nat) (M : Nat → Int → Int) : zgetf (zSH Ln, M) 3 5 3 = some (zR 4) := rfl
theorem gf_3_4 (Ln : Nat) (M : Nat → Int → Int) : zgetf (zSH Ln, M) 3 5 4 = some (zR 5) := rfl
theorem gf_3_5 (Ln : Nat) (M : Nat → Int → Int) : zgetf (zSH Ln, M) 3 5 5 = some (zR 6) := rfl
theorem gf_3_6 (Ln : Nat) (M : Nat → Int → Int) : zgetf (zSH Ln, M) 3 5 6 = some (zR 7) := rfl
theorem gf_3_7 (Ln : Nat) (M : Nat → Int → Int) : zgetf (zSH Ln, M) 3 5 7 = some (zR 8) := rfl
theorem gf_3_8 (Ln : Nat) (M : Nat → Int → Int) : zgetf (zSH Ln, M) 3 5 8 = some (zR 9) := rfl
theorem gf_10_0 (Ln : Nat) (M : Nat → Int → Int) : zgetf (zSH Ln, M) 10 1 0 = some (zI (M 10 0)) := rfl
theorem pf_10_0 (Ln : Nat) (M : Nat → Int → Int) (x : Int) : zputf (zSH Ln, M) 10 1 0 (zI x) = some (zSH Ln, zup M 10 0 x) := rfl
theorem gf_10_1 (Ln : Nat) (M : Nat → Int → Int) : zgetf (zSH Ln, M) 10 1 1 = some (zI (M 10 1)) := rfl
theorem pf_10_1 (Ln : Nat) (M : Nat → Int → Int) (x : Int) : zputf (zSH Ln, M) 10 1 1 (zI x) = some (zSH Ln, zup M 10 1 x) := rfl
theorem gf_10_2 (Ln : Nat) (M : Nat → Int → Int) : zgetf (zSH Ln, M) 10 1 2 = some (zR 11) := rfl
theorem gf_10_3 (Ln : Nat) (M : Nat → Int → Int) : zgetf (zSH Ln, M) 10 1 3 = some (zR 12) := rfl
theorem gf_10_4 (Ln : Nat) (M : Nat → Int → Int) : zgetf (zSH Ln, M) 10 1 4 = some (zR 13) := rfl
theorem gf_10_5 (Ln : Nat) (M : Nat → Int → Int) : zgetf (zSH Ln, M) 10 1 5 = some (zR 14) := rfl
theorem gf_15_0 (Ln : Nat) (M : Nat → Int → Int) : zgetf (zSH Ln, M) 15 8 0 = some (zR 3) := rfl
theorem gf_15_1 (Ln : Nat) (M : Nat → Int → Int) : zgetf (zSH Ln, M) 15 8 1 = some (zR 16) := rfl
theorem gf_15_2 (Ln : Nat) (M : Nat → Int → Int) : zgetf (zSH Ln, M) 15 8 2 = some (zR 17) := rfl
theorem gf_15_3 (Ln : Nat) (M : Nat → Int → Int) : zgetf (zSH Ln, M) 15 8 3 = some (zR 18) := rfl
theorem gf_15_4 (Ln : Nat) (M : Nat → Int → Int) : zgetf (zSH Ln, M) 15 8 4 = some (zI (M 15 4)) := rfl
theorem pf_15_4 (Ln : Nat) (M : Nat → Int → Int) (x : Int) : zputf (zSH Ln, M) 15 8 4 (zI x) = some (zSH Ln, zup M 15 4 x) := rfl
theorem gf_15_5 (Ln : Nat) (M : Nat → Int → Int) : zgetf (zSH Ln, M) 15 8 5 = some (zI (M 15 5)) := rfl
theorem pf_15_5 (Ln : Nat) (M : Nat → Int → Int) (x : Int) : zputf (zSH Ln, M) 15 8 5 (zI x) = some (zSH Ln, zup M 15 5 x) := rfl
theorem gf_19_0 (Ln : Nat) (M : Nat → Int → Int) : zgetf (zSH Ln, M) 19 3 0 = some (zR 3) := rfl
theorem gf_19_1 (Ln : Nat) (M : Nat → Int → Int) : zgetf (zSH Ln, M) 19 3 1 = some (zR 10) := rfl
theorem gf_19_2 (Ln : Nat) (M : Nat → Int → Int) : zgetf (zSH Ln, M) 19 3 2 = some (zR 15) := rfl
theorem gf_19_3 (Ln : Nat) (M : Nat → Int → Int) : zgetf (zSH Ln, M) 19 3 3 = some (zR 20) := rfl
theorem gf_19_4 (Ln : Nat) (M : Nat → Int → Int) : zgetf (zSH Ln, M) 19 3 4 = some (zR 21) := rfl
theorem gf_19_5 (Ln : Nat) (M : Nat → Int → Int) : zgetf (zSH Ln, M) 19 3 5 = some (zI (M 19 5)) := rfl
theorem pf_19_5 (Ln : Nat) (M : Nat → Int → Int) (x : Int) : zputf (zSH Ln, M) 19 3 5 (zI x) = some (zSH Ln, zup M 19 5 x) := rfl
theorem gf_19_6 (Ln : Nat) (M : Nat → Int → Int) : zgetf (zSH Ln, M) 19 3 6 = some (zI (M 19 6)) := rfl
theorem pf_19_6 (Ln : Nat) (M : Nat → Int → Int) (x : Int) : zputf (zSH Ln, M) 19 3 6 (zI x) = some (zSH Ln, zup M 19 6 x) := rfl
theorem gf_22_0 (Ln : Nat) (M : Nat → Int → Int) : zgetf (zSH Ln, M) 22 9 0 = some (zR 23) := rfl
theorem gf_22_1 (Ln : Nat) (M : Nat → Int → Int) : zgetf (zSH Ln, M) 22 9 1 = some (zR 24) := rfl
theorem gf_22_2 (Ln : Nat) (M : Nat → Int → Int) : zgetf (zSH Ln, M) 22 9 2 = some (zI (M 22 2)) := rfl
theorem pf_22_2 (Ln : Nat) (M : Nat → Int → Int) (x : Int) : zputf (zSH Ln, M) 22 9 2 (zI x) = some (zSH Ln, zup M 22 2 x) := rfl
theorem gf_22_3 (Ln : Nat) (M : Nat → Int → Int) : zgetf (zSH Ln, M) 22 9 3 = some (zI (M 22 3)) := rfl
theorem pf_22_3 (Ln : Nat) (M : Nat → Int → Int) (x : Int) : zputf (zSH Ln, M) 22 9 3 (zI x) = some (zSH Ln, zup M 22 3 x) := rfl
theorem gf_22_4 (Ln : Nat) (M : Nat → Int → Int) : zgetf (zSH Ln, M) 22 9 4 = some (zI (M 22 4)) := rfl
theorem pf_22_4 (Ln : Nat) (M : Nat → Int → Int) (x : Int) : zputf (zSH Ln, M) 22 9 4 (zI x) = some (zSH Ln, zup M 22 4 x) := rfl
theorem gf_22_5 (Ln : Nat) (M : Nat → Int → Int) : zgetf (zSH Ln, M) 22 9 5 = some (zI (M 22 5)) := rfl
theorem pf_22_5 (Ln : Nat) (M : Nat → Int → Int) (x : Int) : zputf (zSH Ln, M) 22 9 5 (zI x) = some (zSH Ln, zup M 22 5 x) := rfl
theorem gf_24_0 (Ln : Nat) (M : Nat → Int → Int) : zgetf (zSH Ln, M) 24 1 0 = some (zI (M 24 0)) := rfl
theorem pf_24_0 (Ln : Nat) (M : Nat → Int → Int) (x : Int) : zputf (zSH Ln, M) 24 1 0 (zI x) = some (zSH Ln, zup M 24 0 x) := rfl
theorem gf_24_1 (Ln : Nat) (M : Nat → Int → Int) : zgetf (zSH Ln, M) 24 1 1 = some (zI (M 24 1)) := rfl
theorem pf_24_1 (Ln : Nat) (M : Nat → Int → Int) (x : Int) : zputf (zSH Ln, M) 24 1 1 (zI x) = some (zSH Ln, zup M 24 1 x) := rfl
theorem gf_24_2 (Ln : Nat) (M : Nat → Int → Int) : zgetf (zSH Ln, M) 24 1 2 = some (zR 25) := rfl
theorem gf_24_3 (Ln : Nat) (M : Nat → Int → Int) : zgetf (zSH Ln, M) 24 1 3 = some (zR 26) := rfl
theorem gf_24_4 (Ln : Nat) (M : Nat → Int → Int) : zgetf (zSH Ln, M) 24 1 4 = some (zR 27) := rfl
theorem gf_24_5 (Ln : Nat) (M : Nat → Int → Int) : zgetf (zSH Ln, M) 24 1 5 = some (zR 28) := rfl
theorem gf_29_0 (Ln : Nat) (M : Nat → Int → Int) : zgetf (zSH Ln, M) 29 6 0 = some (zR 3) := rfl
theorem gf_29_1 (Ln : Nat) (M : Nat → Int → Int) : zgetf (zSH Ln, M) 29 6 1 = some (zR 10) := rfl
theorem gf_29_2 (Ln : Nat) (M : Nat → Int → Int) : zgetf (zSH Ln, M) 29 6 2 = some (zR 15) := rfl
theorem gf_29_3 (Ln : Nat) (M : Nat → Int → Int) : zgetf (zSH Ln, M) 29 6 3 = some (zR 19) := rfl
theorem gf_29_4 (Ln : Nat) (M : Nat → Int → Int) : zgetf (zSH Ln, M) 29 6 4 = some (zR 30) := rfl
theorem gf_29_5 (Ln : Nat) (M : Nat → Int → Int) : zgetf (zSH Ln, M) 29 6 5 = some (zR 31) := rfl
theorem gf_29_6 (Ln : Nat) (M : Nat → Int → Int) : zgetf (zSH Ln, M) 29 6 6 = some (zI (M 29 6)) := rfl
theorem pf_29_6 (Ln : Nat) (M : Nat → Int → Int) (x : Int) : zputf (zSH Ln, M) 29 6 6 (zI x) = some (zSH Ln, zup M 29 6 x) := rfl
theorem gf_32_0 (Ln : Nat) (M : Nat → Int → Int) : zgetf (zSH Ln, M) 32 0 0 = some (zR 3) := rfl
theorem gf_32_1 (Ln : Nat) (M : Nat → Int → Int) : zgetf (zSH Ln, M) 32 0 1 = some (zR 15) := rfl
theorem gf_32_2 (Ln : Nat) (M : Nat → Int → Int) : zgetf (zSH Ln, M) 32 0 2 = some (zR 33) := rfl
theorem gf_32_3 (Ln : Nat) (M : Nat → Int → Int) : zgetf (zSH Ln, M) 32 0 3 = some (zR 34) := rfl
theorem gf_32_4 (Ln : Nat) (M : Nat → Int → Int) : zgetf (zSH Ln, M) 32 0 4 = some (zR 35) := rfl
theorem gf_32_5 (Ln : Nat) (M : Nat → Int → Int) : zgetf (zSH Ln, M) 32 0 5 = some (zI (M 32 5)) := rfl
theorem pf_32_5 (Ln : Nat) (M : Nat → Int → Int) (x : Int) : zputf (zSH Ln, M) 32 0 5 (zI x) = some (zSH Ln, zup M 32 5 x) := rfl
theorem gf_32_6 (Ln : Nat) (M : Nat → Int → Int) : zgetf (zSH Ln, M) 32 0 6 = some (zI (M 32 6)) := rfl
theorem pf_32_6 (Ln : Nat) (M : Nat → Int → Int) (x : Int) : zputf (zSH Ln, M) 32 0 6 (zI x) = some (zSH Ln, zup M 32 6 x) := rfl
theorem gf_32_7 (Ln : Nat) (M : Nat → Int → Int) : zgetf (zSH Ln, M) 32 0 7 = some (zI (M 32 7)) := rfl
theorem pf_32_7 (Ln : Nat) (M : Nat → Int → Int) (x : Int) : zputf (zSH Ln, M) 32 0 7 (zI x) = some (zSH Ln, zup M 32 7 x) := rfl
theorem gf_32_8 (Ln : Nat) (M : Nat → Int → Int) : zgetf (zSH Ln, M) 32 0 8 = some (zI (M 32 8)) := rfl
theorem pf_32_8 (Ln : Nat) (M : Nat → Int → Int) (x : Int) : zputf (zSH Ln, M) 32 0 8 (zI x) = some (zSH Ln, zup M 32 8 x) := rfl
theorem gf_36_0 (Ln : Nat) (M : Nat → Int → Int) : zgetf (zSH Ln, M) 36 4 0 = some (zR 3) := rfl
theorem gf_36_1 (Ln : Nat) (M : Nat → Int → Int) : zgetf (zSH Ln, M) 36 4 1 = some (zI (M 36 1)) := rfl
theorem pf_36_1 (Ln : Nat) (M : Nat → Int → Int) (x : Int) : zputf (zSH Ln, M) 36 4 1 (zI x) = some (zSH Ln, zup M 36 1 x) := rfl
theorem gf_36_2 (Ln : Nat) (M : Nat → Int → Int) : zgetf (zSH Ln, M) 36 4 2 = some (zL (M 36 2)) := rfl
theorem pf_36_2 (Ln : Nat) (M : Nat → Int → Int) (x : Int) : zputf (zSH Ln, M) 36 4 2 (zL x) = some (zSH Ln, zup M 36 2 x) := rfl
theorem gf_36_3 (Ln : Nat) (M : Nat → Int → Int) : zgetf (zSH Ln, M) 36 4 3 = some (zL (M 36 3)) := rfl
theorem pf_36_3 (Ln : Nat) (M : Nat → Int → Int) (x : Int) : zputf (zSH Ln, M) 36 4 3 (zL x) = some (zSH Ln, zup M 36 3 x) := rfl
theorem gf_36_4 (Ln : Nat) (M : Nat → Int → Int) : zgetf (zSH Ln, M) 36 4 4 = some (zR 37) := rfl
theorem gf_36_5 (Ln : Nat) (M : Nat → Int → Int) : zgetf (zSH Ln, M) 36 4 5 = some (zR 38) := rfl
theorem gf_36_6 (Ln : Nat) (M : Nat → Int → Int) : zgetf (zSH Ln, M) 36 4 6 = some (zR 39) := rfl
theorem gf_36_7 (Ln : Nat) (M : Nat → Int → Int) : zgetf (zSH Ln, M) 36 4 7 = some (zR 40) := rfl
theorem gf_41_0 (Ln : Nat) (M : Nat → Int → Int) : zgetf (zSH Ln, M) 41 2 0 = some (zR 3) := rfl
theorem gf_41_1 (Ln : Nat) (M : Nat → Int → Int) : zgetf (zSH Ln, M) 41 2 1 = some (zR 42) := rfl
theorem gf_41_2 (Ln : Nat) (M : Nat → Int → Int) : zgetf (zSH Ln, M) 41 2 2 = some (zR 43) := rfl
theorem gf_44_0 (Ln : Nat) (M : Nat → Int → Int) : zgetf (zSH Ln, M) 44 7 0 = some (zR 45) := rfl
theorem gf_44_1 (Ln : Nat) (M : Nat → Int → Int) : zgetf (zSH Ln, M) 44 7 1 = some (zR 46) := rfl
theorem gf_44_2 (Ln : Nat) (M : Nat → Int → Int) : zgetf (zSH Ln, M) 44 7 2 = some (zR 47) := rfl
theorem k_Bl_init_0 : zblk i_Bl_init 0 = [(.aload 0, 0, 0), (.nop, 0, 0), (.aload 0, 0, 0), (.iconst (48), 0, 0), (.newarray .int, 0, 0), (.putfield 0, 0, 2), (.aload 0, 0, 0), (.iconst (48), 0, 0), (.newarray .int, 0, 0), (.putfield 0, 0, 3), (.aload 0, 0, 0), (.iconst (12), 0, 0), (.newarray .int, 0, 0), (.putfield 0, 0, 4), (.aload 0, 0, 0), (.aload 1, 0, 0), (.putfield 0, 0, 0), (.aload 0, 0, 0), (.aload 2, 0, 0), (.putfield 0, 0, 1), (.return_, 0, 0)] := rfl
theorem a_Bl_init : zmA i_Bl_init = 2 := rfl
theorem l_Bl_init : zmL i_Bl_init = 3 := rfl
theorem r_Bl_init : zmR i_Bl_init = none := rfl
theorem o_Bl_init : zmO i_Bl_init = 0 := rfl
theorem k_Fo_init_0 : zblk i_Fo_init 0 = [(.aload 0, 0, 0), (.nop, 0, 0), (.aload 0, 0, 0), (.iconst (24), 0, 0), (.newarray .int, 0, 0), (.putfield 0, 1, 2), (.aload 0, 0, 0), (.iconst (24), 0, 0), (.newarray .int, 0, 0), (.putfield 0, 1, 3), (.aload 0, 0, 0), (.iconst (24), 0, 0), (.newarray .int, 0, 0), (.putfield 0, 1, 4), (.aload 0, 0, 0), (.iconst (24), 0, 0), (.newarray .int, 0, 0), (.putfield 0, 1, 5), (.aload 0, 0, 0), (.invokevirtual 0, 2, 0), (.return_, 0, 0)] := rfl
theorem a_Fo_init : zmA i_Fo_init = 0 := rfl
theorem l_Fo_init : zmL i_Fo_init = 1 := rfl
theorem r_Fo_init : zmR i_Fo_init = none := rfl
theorem o_Fo_init : zmO i_Fo_init = 1 := rfl
theorem k_Fo_becomeTrue_0 : zblk i_Fo_becomeTrue 0 = [(.aload 0, 0, 0), (.invokevirtual 0, 3, 0), (.aload 0, 0, 0), (.aload 0, 0, 0), (.iconst (0), 0, 0), (.invokevirtual 0, 4, 0), (.iconst (0), 0, 0), (.iconst (0), 0, 0), (.iconst (0), 0, 0), (.invokevirtual 0, 5, 0), (.return_, 0, 0)] := rfl
theorem a_Fo_becomeTrue : zmA i_Fo_becomeTrue = 0 := rfl
theorem l_Fo_becomeTrue : zmL i_Fo_becomeTrue = 1 := rfl
theorem r_Fo_becomeTrue : zmR i_Fo_becomeTrue = none := rfl
theorem o_Fo_becomeTrue : zmO i_Fo_becomeTrue = 1 := rfl
theorem k_Fo_clear_0 : zblk i_Fo_clear 0 = [(.aload 0, 0, 0), (.iconst (0), 0, 0), (.putfield 0, 1, 0), (.aload 0, 0, 0), (.dup, 0, 0), (.getfield 0, 1, 1), (.iconst (1), 0, 0), (.iadd, 0, 0), (.putfield 0, 1, 1), (.return_, 0, 0)] := rfl
theorem a_Fo_clear : zmA i_Fo_clear = 0 := rfl
theorem l_Fo_clear : zmL i_Fo_clear = 1 := rfl
theorem r_Fo_clear : zmR i_Fo_clear = none := rfl
theorem o_Fo_clear : zmO i_Fo_clear = 1 := rfl
theorem k_Fo_add_0 : zblk i_Fo_add 0 = [(.aload 0, 0, 0), (.getfield 0, 1, 0), (.istore 2, 0, 0), (.aload 0, 0, 0), (.getfield 0, 1, 5), (.iload 2, 0, 0), (.iload 1, 0, 0), (.invokestatic 0, 106, 0), (.aload 0, 0, 0), (.dup, 0, 0), (.getfield 0, 1, 0), (.iconst (1), 0, 0), (.iadd, 0, 0), (.putfield 0, 1, 0), (.iload 2, 0, 0), (.ireturn, 0, 0)] := rfl
theorem a_Fo_add : zmA i_Fo_add = 1 := rfl
theorem l_Fo_add : zmL i_Fo_add = 3 := rfl
theorem r_Fo_add : zmR i_Fo_add = some .int := rfl
theorem o_Fo_add : zmO i_Fo_add = 1 := rfl
theorem k_Fo_set_0 : zblk i_Fo_set 0 = [(.aload 0, 0, 0), (.getfield 0, 1, 2), (.iload 1, 0, 0), (.iload 2, 0, 0), (.invokestatic 0, 106, 0), (.aload 0, 0, 0), (.getfield 0, 1, 3), (.iload 1, 0, 0), (.iload 3, 0, 0), (.invokestatic 0, 106, 0), (.aload 0, 0, 0), (.getfield 0, 1, 4), (.iload 1, 0, 0), (.iload 4, 0, 0), (.invokestatic 0, 106, 0), (.return_, 0, 0)] := rfl
theorem a_Fo_set : zmA i_Fo_set = 4 := rfl
theorem l_Fo_set : zmL i_Fo_set = 5 := rfl
theorem r_Fo_set : zmR i_Fo_set = none := rfl
theorem o_Fo_set : zmO i_Fo_set = 1 := rfl
theorem k_Fo_become_0 : zblk i_Fo_become 0 = [(.aload 0, 0, 0), (.invokevirtual 0, 3, 0), (.iconst (0), 0, 0), (.istore 2, 0, 0), (.goto_w 0, 1, 0)] := rfl
theorem k_Fo_become_1 : zblk i_Fo_become 1 = [(.iload 2, 0, 0), (.aload 1, 0, 0), (.getfield 0, 1, 0), (.if_icmp .ge 0, 3, 0), (.goto_w 0, 2, 0)] := rfl
theorem k_Fo_become_2 : zblk i_Fo_become 2 = [(.aload 0, 0, 0), (.aload 0, 0, 0), (.aload 1, 0, 0), (.iload 2, 0, 0), (.invokevirtual 0, 10, 0), (.invokevirtual 0, 4, 0), (.aload 1, 0, 0), (.iload 2, 0, 0), (.invokevirtual 0, 7, 0), (.aload 1, 0, 0), (.iload 2, 0, 0), (.invokevirtual 0, 8, 0), (.aload 1, 0, 0), (.iload 2, 0, 0), (.invokevirtual 0, 9, 0), (.invokevirtual 0, 5, 0), (.iinc 2 (1), 0, 0), (.goto 0, 1, 0)] := rfl
theorem k_Fo_become_3 : zblk i_Fo_become 3 = [(.return_, 0, 0)] := rfl
theorem a_Fo_become : zmA i_Fo_become = 1 := rfl
theorem l_Fo_become : zmL i_Fo_become = 3 := rfl
theorem r_Fo_become : zmR i_Fo_become = none := rfl
theorem o_Fo_become : zmO i_Fo_become = 1 := rfl
theorem k_Fo_kind_0 : zblk i_Fo_kind 0 = [(.aload 0, 0, 0), (.getfield 0, 1, 2), (.iload 1, 0, 0), (.invokestatic 0, 105, 0), (.ireturn, 0, 0)] := rfl
theorem a_Fo_kind : zmA i_Fo_kind = 1 := rfl
theorem l_Fo_kind : zmL i_Fo_kind = 2 := rfl
theorem r_Fo_kind : zmR i_Fo_kind = some .int := rfl
theorem o_Fo_kind : zmO i_Fo_kind = 1 := rfl
theorem k_Fo_left_0 : zblk i_Fo_left 0 = [(.aload 0, 0, 0), (.getfield 0, 1, 3), (.iload 1, 0, 0), (.invokestatic 0, 105, 0), (.ireturn, 0, 0)] := rfl
theorem a_Fo_left : zmA i_Fo_left = 1 := rfl
theorem l_Fo_left : zmL i_Fo_left = 2 := rfl
theorem r_Fo_left : zmR i_Fo_left = some .int := rfl
theorem o_Fo_left : zmO i_Fo_left = 1 := rfl
theorem k_Fo_right_0 : zblk i_Fo_right 0 = [(.aload 0, 0, 0), (.getfield 0, 1, 4), (.iload 1, 0, 0), (.invokestatic 0, 105, 0), (.ireturn, 0, 0)] := rfl
theorem a_Fo_right : zmA i_Fo_right = 1 := rfl
theorem l_Fo_right : zmL i_Fo_right = 2 := rfl
theorem r_Fo_right : zmR i_Fo_right = some .int := rfl
theorem o_Fo_right : zmO i_Fo_right = 1 := rfl
theorem k_Fo_group_0 : zblk i_Fo_group 0 = [(.aload 0, 0, 0), (.getfield 0, 1, 5), (.iload 1, 0, 0), (.invokestatic 0, 105, 0), (.ireturn, 0, 0)] := rfl
theorem a_Fo_group : zmA i_Fo_group = 1 := rfl
theorem l_Fo_group : zmL i_Fo_group = 2 := rfl
theorem r_Fo_group : zmR i_Fo_group = some .int := rfl
theorem o_Fo_group : zmO i_Fo_group = 1 := rfl
theorem k_Fo_isLaw_0 : zblk i_Fo_isLaw 0 = [(.aload 0, 0, 0), (.iload 1, 0, 0), (.invokevirtual 0, 7, 0), (.iconst (5), 0, 0), (.if_icmp .lt 0, 2, 0), (.goto_w 0, 1, 0)] := rfl
theorem k_Fo_isLaw_1 : zblk i_Fo_isLaw 1 = [(.iconst (1), 0, 0), (.goto 0, 3, 0)] := rfl
theorem k_Fo_isLaw_2 : zblk i_Fo_isLaw 2 = [(.iconst (0), 0, 0), (.goto_w 0, 3, 0)] := rfl
theorem k_Fo_isLaw_3 : zblk i_Fo_isLaw 3 = [(.ireturn, 0, 0)] := rfl
theorem a_Fo_isLaw : zmA i_Fo_isLaw = 1 := rfl
theorem l_Fo_isLaw : zmL i_Fo_isLaw = 2 := rfl
theorem r_Fo_isLaw : zmR i_Fo_isLaw = some .boolean := rfl
theorem o_Fo_isLaw : zmO i_Fo_isLaw = 1 := rfl
theorem k_Fo_isOfGroup_0 : zblk i_Fo_isOfGroup 0 = [(.aload 0, 0, 0), (.iconst (0), 0, 0), (.invokevirtual 0, 11, 0), (.ireturn, 0, 0)] := rfl
theorem a_Fo_isOfGroup : zmA i_Fo_isOfGroup = 0 := rfl
theorem l_Fo_isOfGroup : zmL i_Fo_isOfGroup = 1 := rfl
theorem r_Fo_isOfGroup : zmR i_Fo_isOfGroup = some .boolean := rfl
theorem o_Fo_isOfGroup : zmO i_Fo_isOfGroup = 1 := rfl
theorem k_Fo_hasRounds_0 : zblk i_Fo_hasRounds 0 = [(.aload 0, 0, 0), (.iconst (0), 0, 0), (.invokevirtual 0, 7, 0), (.iconst (7), 0, 0), (.if_icmp .lt 0, 2, 0), (.goto_w 0, 1, 0)] := rfl
theorem k_Fo_hasRounds_1 : zblk i_Fo_hasRounds 1 = [(.iconst (1), 0, 0), (.goto 0, 3, 0)] := rfl
theorem k_Fo_hasRounds_2 : zblk i_Fo_hasRounds 2 = [(.iconst (0), 0, 0), (.goto_w 0, 3, 0)] := rfl
theorem k_Fo_hasRounds_3 : zblk i_Fo_hasRounds 3 = [(.ireturn, 0, 0)] := rfl
theorem a_Fo_hasRounds : zmA i_Fo_hasRounds = 0 := rfl
theorem l_Fo_hasRounds : zmL i_Fo_hasRounds = 1 := rfl
theorem r_Fo_hasRounds : zmR i_Fo_hasRounds = some .boolean := rfl
theorem o_Fo_hasRounds : zmO i_Fo_hasRounds = 1 := rfl
theorem k_Fo_hasToll_0 : zblk i_Fo_hasToll 0 = [(.aload 0, 0, 0), (.iconst (0), 0, 0), (.invokevirtual 0, 7, 0), (.iconst (7), 0, 0), (.if_icmp .eq 0, 2, 0), (.goto_w 0, 1, 0)] := rfl
theorem k_Fo_hasToll_1 : zblk i_Fo_hasToll 1 = [(.aload 0, 0, 0), (.iconst (0), 0, 0), (.invokevirtual 0, 7, 0), (.iconst (8), 0, 0), (.if_icmp .ne 0, 3, 0), (.goto_w 0, 2, 0)] := rfl
theorem k_Fo_hasToll_2 : zblk i_Fo_hasToll 2 = [(.iconst (1), 0, 0), (.goto 0, 4, 0)] := rfl
theorem k_Fo_hasToll_3 : zblk i_Fo_hasToll 3 = [(.iconst (0), 0, 0), (.goto_w 0, 4, 0)] := rfl
theorem k_Fo_hasToll_4 : zblk i_Fo_hasToll 4 = [(.ireturn, 0, 0)] := rfl
theorem a_Fo_hasToll : zmA i_Fo_hasToll = 0 := rfl
theorem l_Fo_hasToll : zmL i_Fo_hasToll = 1 := rfl
theorem r_Fo_hasToll : zmR i_Fo_hasToll = some .boolean := rfl
theorem o_Fo_hasToll : zmO i_Fo_hasToll = 1 := rfl
theorem k_Go_init_0 : zblk i_Go_init 0 = [(.aload 0, 0, 0), (.nop, 0, 0), (.aload 0, 0, 0), (.iconst (4), 0, 0), (.newarray .int, 0, 0), (.putfield 0, 2, 1), (.aload 0, 0, 0), (.iconst (48), 0, 0), (.newarray .int, 0, 0), (.putfield 0, 2, 2), (.aload 0, 0, 0), (.aload 1, 0, 0), (.putfield 0, 2, 0), (.return_, 0, 0)] := rfl
theorem a_Go_init : zmA i_Go_init = 1 := rfl
theorem l_Go_init : zmL i_Go_init = 2 := rfl
theorem r_Go_init : zmR i_Go_init = none := rfl
theorem o_Go_init : zmO i_Go_init = 2 := rfl
theorem k_Go_forget_0 : zblk i_Go_forget 0 = [(.aload 0, 0, 0), (.getfield 0, 2, 1), (.iconst (0), 0, 0), (.invokestatic 0, 111, 0), (.return_, 0, 0)] := rfl
theorem a_Go_forget : zmA i_Go_forget = 0 := rfl
theorem l_Go_forget : zmL i_Go_forget = 1 := rfl
theorem r_Go_forget : zmR i_Go_forget = none := rfl
theorem o_Go_forget : zmO i_Go_forget = 2 := rfl
theorem k_La_init_0 : zblk i_La_init 0 = [(.aload 0, 0, 0), (.nop, 0, 0), (.aload 0, 0, 0), (.iconst (24), 0, 0), (.newarray .int, 0, 0), (.putfield 0, 3, 3), (.aload 0, 0, 0), (.iconst (12), 0, 0), (.newarray .int, 0, 0), (.putfield 0, 3, 4), (.aload 0, 0, 0), (.iconst (-1), 0, 0), (.putfield 0, 3, 5), (.aload 0, 0, 0), (.iconst (-1), 0, 0), (.putfield 0, 3, 6), (.aload 0, 0, 0), (.aload 1, 0, 0), (.putfield 0, 3, 0), (.aload 0, 0, 0), (.aload 2, 0, 0), (.putfield 0, 3, 1), (.aload 0, 0, 0), (.aload 3, 0, 0), (.putfield 0, 3, 2), (.return_, 0, 0)] := rfl
theorem a_La_init : zmA i_La_init = 3 := rfl
theorem l_La_init : zmL i_La_init = 4 := rfl
theorem r_La_init : zmR i_La_init = none := rfl
theorem o_La_init : zmO i_La_init = 3 := rfl
theorem k_La_whole_0 : zblk i_La_whole 0 = [(.aload 0, 0, 0), (.getfield 0, 3, 3), (.iconst (0), 0, 0), (.invokestatic 0, 105, 0), (.ireturn, 0, 0)] := rfl
theorem a_La_whole : zmA i_La_whole = 0 := rfl
theorem l_La_whole : zmL i_La_whole = 1 := rfl
theorem r_La_whole : zmR i_La_whole = some .int := rfl
theorem o_La_whole : zmO i_La_whole = 3 := rfl
theorem k_La_refresh_0 : zblk i_La_refresh 0 = [(.aload 0, 0, 0), (.getfield 0, 3, 5), (.aload 0, 0, 0), (.getfield 0, 3, 0), (.getfield 0, 5, 2), (.if_icmp .ne 0, 2, 0), (.goto_w 0, 1, 0)] := rfl
theorem k_La_refresh_1 : zblk i_La_refresh 1 = [(.aload 0, 0, 0), (.getfield 0, 3, 6), (.aload 0, 0, 0), (.getfield 0, 3, 1), (.getfield 0, 1, 1), (.if_icmp .eq 0, 8, 0), (.goto_w 0, 2, 0)] := rfl
theorem k_La_refresh_2 : zblk i_La_refresh 2 = [(.aload 0, 0, 0), (.getfield 0, 3, 1), (.getfield 0, 1, 0), (.iconst (1), 0, 0), (.isub, 0, 0), (.istore 1, 0, 0), (.goto_w 0, 3, 0)] := rfl
theorem k_La_refresh_3 : zblk i_La_refresh 3 = [(.iload 1, 0, 0), (.ifCond .lt 0, 7, 0), (.goto_w 0, 4, 0)] := rfl
theorem k_La_refresh_4 : zblk i_La_refresh 4 = [(.aload 0, 0, 0), (.getfield 0, 3, 1), (.iload 1, 0, 0), (.invokevirtual 0, 11, 0), (.ifCond .eq 0, 6, 0), (.goto_w 0, 5, 0)] := rfl
theorem k_La_refresh_5 : zblk i_La_refresh 5 = [(.aload 0, 0, 0), (.getfield 0, 3, 2), (.aload 0, 0, 0), (.getfield 0, 3, 1), (.iload 1, 0, 0), (.invokevirtual 0, 10, 0), (.invokevirtual 0, 67, 0), (.goto_w 0, 6, 0)] := rfl
theorem k_La_refresh_6 : zblk i_La_refresh 6 = [(.aload 0, 0, 0), (.getfield 0, 3, 3), (.iload 1, 0, 0), (.aload 0, 0, 0), (.iload 1, 0, 0), (.invokevirtual 0, 20, 0), (.invokestatic 0, 106, 0), (.iinc 1 (-1), 0, 0), (.goto 0, 3, 0)] := rfl
theorem k_La_refresh_7 : zblk i_La_refresh 7 = [(.aload 0, 0, 0), (.aload 0, 0, 0), (.getfield 0, 3, 0), (.getfield 0, 5, 2), (.putfield 0, 3, 5), (.aload 0, 0, 0), (.aload 0, 0, 0), (.getfield 0, 3, 1), (.getfield 0, 1, 1), (.putfield 0, 3, 6), (.goto_w 0, 8, 0)] := rfl
theorem k_La_refresh_8 : zblk i_La_refresh 8 = [(.return_, 0, 0)] := rfl
theorem a_La_refresh : zmA i_La_refresh = 0 := rfl
theorem l_La_refresh : zmL i_La_refresh = 2 := rfl
theorem r_La_refresh : zmR i_La_refresh = none := rfl
theorem o_La_refresh : zmO i_La_refresh = 3 := rfl
theorem k_La_judge_0 : zblk i_La_judge 0 = [(.aload 0, 0, 0), (.getfield 0, 3, 3), (.aload 0, 0, 0), (.getfield 0, 3, 1), (.iload 1, 0, 0), (.invokevirtual 0, 8, 0), (.invokestatic 0, 105, 0), (.istore 2, 0, 0), (.aload 0, 0, 0), (.getfield 0, 3, 3), (.aload 0, 0, 0), (.getfield 0, 3, 1), (.iload 1, 0, 0), (.invokevirtual 0, 9, 0), (.invokestatic 0, 105, 0), (.istore 3, 0, 0), (.aload 0, 0, 0), (.getfield 0, 3, 0), (.invokevirtual 0, 36, 0), (.istore 4, 0, 0), (.aload 0, 0, 0), (.getfield 0, 3, 1), (.iload 1, 0, 0), (.invokevirtual 0, 7, 0), (.tableswitch 10 (0) (8) #[1, 2, 3, 4, 5, 6, 7, 8, 9], 0, 0)] := rfl
theorem k_La_judge_1 : zblk i_La_judge 1 = [(.iload 4, 0, 0), (.ireturn, 0, 0)] := rfl
theorem k_La_judge_2 : zblk i_La_judge 2 = [(.aload 0, 0, 0), (.getfield 0, 3, 0), (.aload 0, 0, 0), (.getfield 0, 3, 1), (.iload 1, 0, 0), (.invokevirtual 0, 8, 0), (.invokevirtual 0, 42, 0), (.ireturn, 0, 0)] := rfl
theorem k_La_judge_3 : zblk i_La_judge 3 = [(.iload 4, 0, 0), (.iload 2, 0, 0), (.iconst (-1), 0, 0), (.ixor, 0, 0), (.iand, 0, 0), (.ireturn, 0, 0)] := rfl
theorem k_La_judge_4 : zblk i_La_judge 4 = [(.iload 2, 0, 0), (.iload 3, 0, 0), (.iand, 0, 0), (.ireturn, 0, 0)] := rfl
theorem k_La_judge_5 : zblk i_La_judge 5 = [(.iload 2, 0, 0), (.iload 3, 0, 0), (.ior, 0, 0), (.ireturn, 0, 0)] := rfl
theorem k_La_judge_6 : zblk i_La_judge 6 = [(.aload 0, 0, 0), (.getfield 0, 3, 2), (.iload 4, 0, 0), (.iload 2, 0, 0), (.invokevirtual 0, 72, 0), (.ireturn, 0, 0)] := rfl
theorem k_La_judge_7 : zblk i_La_judge 7 = [(.aload 0, 0, 0), (.iload 2, 0, 0), (.invokevirtual 0, 21, 0), (.ireturn, 0, 0)] := rfl
theorem k_La_judge_8 : zblk i_La_judge 8 = [(.aload 0, 0, 0), (.iload 4, 0, 0), (.iload 2, 0, 0), (.invokevirtual 0, 22, 0), (.ireturn, 0, 0)] := rfl
theorem k_La_judge_9 : zblk i_La_judge 9 = [(.aload 0, 0, 0), (.iload 2, 0, 0), (.iload 3, 0, 0), (.invokevirtual 0, 22, 0), (.ireturn, 0, 0)] := rfl
theorem k_La_judge_10 : zblk i_La_judge 10 = [(.aload 0, 0, 0), (.iload 2, 0, 0), (.invokevirtual 0, 24, 0), (.ireturn, 0, 0)] := rfl
theorem a_La_judge : zmA i_La_judge = 1 := rfl
theorem l_La_judge : zmL i_La_judge = 5 := rfl
theorem r_La_judge : zmR i_La_judge = some .int := rfl
theorem o_La_judge : zmO i_La_judge = 3 := rfl
theorem k_La_always_0 : zblk i_La_always 0 = [(.iload 1, 0, 0), (.istore 2, 0, 0), (.iconst (0), 0, 0), (.istore 3, 0, 0), (.goto_w 0, 1, 0)] := rfl
theorem k_La_always_1 : zblk i_La_always 1 = [(.iload 3, 0, 0), (.iconst (12), 0, 0), (.if_icmp .ge 0, 3, 0), (.goto_w 0, 2, 0)] := rfl
theorem k_La_always_2 : zblk i_La_always 2 = [(.aload 0, 0, 0), (.getfield 0, 3, 2), (.iload 2, 0, 0), (.iload 2, 0, 0), (.invokevirtual 0, 72, 0), (.istore 2, 0, 0), (.iinc 3 (1), 0, 0), (.goto 0, 1, 0)] := rfl
theorem k_La_always_3 : zblk i_La_always 3 = [(.iload 2, 0, 0), (.ireturn, 0, 0)] := rfl
theorem a_La_always : zmA i_La_always = 1 := rfl
theorem l_La_always : zmL i_La_always = 4 := rfl
theorem r_La_always : zmR i_La_always = some .int := rfl
theorem o_La_always : zmO i_La_always = 3 := rfl
theorem k_La_until_0 : zblk i_La_until 0 = [(.iload 2, 0, 0), (.istore 3, 0, 0), (.iconst (0), 0, 0), (.istore 4, 0, 0), (.goto_w 0, 1, 0)] := rfl
theorem k_La_until_1 : zblk i_La_until 1 = [(.iload 4, 0, 0), (.iconst (12), 0, 0), (.if_icmp .ge 0, 6, 0), (.goto_w 0, 2, 0)] := rfl
theorem k_La_until_2 : zblk i_La_until 2 = [(.aload 0, 0, 0), (.getfield 0, 3, 4), (.iload 4, 0, 0), (.iload 2, 0, 0), (.iload 4, 0, 0), (.invokestatic 0, 108, 0), (.ifCond .eq 0, 4, 0), (.goto_w 0, 3, 0)] := rfl
theorem k_La_until_3 : zblk i_La_until 3 = [(.iconst (0), 0, 0), (.goto 0, 5, 0)] := rfl
theorem k_La_until_4 : zblk i_La_until 4 = [(.iconst (-1), 0, 0), (.goto_w 0, 5, 0)] := rfl
theorem k_La_until_5 : zblk i_La_until 5 = [(.invokestatic 0, 106, 0), (.iinc 4 (1), 0, 0), (.goto 0, 1, 0)] := rfl
theorem k_La_until_6 : zblk i_La_until 6 = [(.iconst (1), 0, 0), (.istore 4, 0, 0), (.goto_w 0, 7, 0)] := rfl
theorem k_La_until_7 : zblk i_La_until 7 = [(.iload 4, 0, 0), (.iconst (12), 0, 0), (.if_icmp .gt 0, 11, 0), (.goto_w 0, 8, 0)] := rfl
theorem k_La_until_8 : zblk i_La_until 8 = [(.aload 0, 0, 0), (.getfield 0, 3, 2), (.iload 1, 0, 0), (.iload 3, 0, 0), (.iconst (-1), 0, 0), (.ixor, 0, 0), (.iand, 0, 0), (.iload 3, 0, 0), (.invokevirtual 0, 72, 0), (.istore 5, 0, 0), (.iload 5, 0, 0), (.ifCond .ne 0, 10, 0), (.goto_w 0, 9, 0)] := rfl
theorem k_La_until_9 : zblk i_La_until 9 = [(.goto 0, 11, 0)] := rfl
theorem k_La_until_10 : zblk i_La_until 10 = [(.aload 0, 0, 0), (.iload 5, 0, 0), (.iload 4, 0, 0), (.invokevirtual 0, 23, 0), (.iload 3, 0, 0), (.iload 5, 0, 0), (.ior, 0, 0), (.istore 3, 0, 0), (.iinc 4 (1), 0, 0), (.goto 0, 7, 0)] := rfl
theorem k_La_until_11 : zblk i_La_until 11 = [(.iload 3, 0, 0), (.ireturn, 0, 0)] := rfl
theorem a_La_until : zmA i_La_until = 2 := rfl
theorem l_La_until : zmL i_La_until = 6 := rfl
theorem r_La_until : zmR i_La_until = some .int := rfl
theorem o_La_until : zmO i_La_until = 3 := rfl
theorem k_La_mark_0 : zblk i_La_mark 0 = [(.iconst (0), 0, 0), (.istore 3, 0, 0), (.goto_w 0, 1, 0)] := rfl
theorem k_La_mark_1 : zblk i_La_mark 1 = [(.iload 3, 0, 0), (.iconst (12), 0, 0), (.if_icmp .ge 0, 5, 0), (.goto_w 0, 2, 0)] := rfl
theorem k_La_mark_2 : zblk i_La_mark 2 = [(.iload 1, 0, 0), (.iload 3, 0, 0), (.invokestatic 0, 108, 0), (.ifCond .eq 0, 4, 0), (.goto_w 0, 3, 0)] := rfl
theorem k_La_mark_3 : zblk i_La_mark 3 = [(.aload 0, 0, 0), (.getfield 0, 3, 4), (.iload 3, 0, 0), (.iload 2, 0, 0), (.invokestatic 0, 106, 0), (.goto_w 0, 4, 0)] := rfl
theorem k_La_mark_4 : zblk i_La_mark 4 = [(.iinc 3 (1), 0, 0), (.goto 0, 1, 0)] := rfl
theorem k_La_mark_5 : zblk i_La_mark 5 = [(.return_, 0, 0)] := rfl
theorem a_La_mark : zmA i_La_mark = 2 := rfl
theorem l_La_mark : zmL i_La_mark = 4 := rfl
theorem r_La_mark : zmR i_La_mark = none := rfl
theorem o_La_mark : zmO i_La_mark = 3 := rfl
theorem k_La_again_0 : zblk i_La_again 0 = [(.aload 0, 0, 0), (.getfield 0, 3, 0), (.invokevirtual 0, 36, 0), (.istore 2, 0, 0), (.iconst (0), 0, 0), (.istore 3, 0, 0), (.goto_w 0, 1, 0)] := rfl
theorem k_La_again_1 : zblk i_La_again 1 = [(.iload 3, 0, 0), (.iconst (12), 0, 0), (.if_icmp .gt 0, 5, 0), (.goto_w 0, 2, 0)] := rfl
theorem k_La_again_2 : zblk i_La_again 2 = [(.aload 0, 0, 0), (.aload 0, 0, 0), (.getfield 0, 3, 0), (.invokevirtual 0, 36, 0), (.aload 0, 0, 0), (.getfield 0, 3, 2), (.iload 1, 0, 0), (.iload 2, 0, 0), (.invokevirtual 0, 72, 0), (.invokevirtual 0, 22, 0), (.istore 4, 0, 0), (.iload 4, 0, 0), (.iload 2, 0, 0), (.if_icmp .ne 0, 4, 0), (.goto_w 0, 3, 0)] := rfl
theorem k_La_again_3 : zblk i_La_again 3 = [(.goto 0, 5, 0)] := rfl
theorem k_La_again_4 : zblk i_La_again 4 = [(.iload 4, 0, 0), (.istore 2, 0, 0), (.iinc 3 (1), 0, 0), (.goto 0, 1, 0)] := rfl
theorem k_La_again_5 : zblk i_La_again 5 = [(.iload 2, 0, 0), (.ireturn, 0, 0)] := rfl
theorem a_La_again : zmA i_La_again = 1 := rfl
theorem l_La_again : zmL i_La_again = 5 := rfl
theorem r_La_again : zmR i_La_again = some .int := rfl
theorem o_La_again : zmO i_La_again = 3 := rfl
theorem k_La_ahead_0 : zblk i_La_ahead 0 = [(.iconst (0), 0, 0), (.istore 2, 0, 0), (.iconst (0), 0, 0), (.istore 3, 0, 0), (.goto_w 0, 1, 0)] := rfl
theorem k_La_ahead_1 : zblk i_La_ahead 1 = [(.iload 3, 0, 0), (.aload 0, 0, 0), (.getfield 0, 3, 0), (.getfield 0, 5, 0), (.if_icmp .ge 0, 6, 0), (.goto_w 0, 2, 0)] := rfl
theorem k_La_ahead_2 : zblk i_La_ahead 2 = [(.aload 0, 0, 0), (.getfield 0, 3, 4), (.iload 3, 0, 0), (.invokestatic 0, 105, 0), (.ifCond .lt 0, 5, 0), (.goto_w 0, 3, 0)] := rfl
theorem k_La_ahead_3 : zblk i_La_ahead 3 = [(.aload 0, 0, 0), (.getfield 0, 3, 4), (.iload 3, 0, 0), (.invokestatic 0, 105, 0), (.iload 1, 0, 0), (.if_icmp .ge 0, 5, 0), (.goto_w 0, 4, 0)] := rfl
theorem k_La_ahead_4 : zblk i_La_ahead 4 = [(.iload 2, 0, 0), (.iconst (1), 0, 0), (.iload 3, 0, 0), (.ishl, 0, 0), (.ior, 0, 0), (.istore 2, 0, 0), (.goto_w 0, 5, 0)] := rfl
theorem k_La_ahead_5 : zblk i_La_ahead 5 = [(.iinc 3 (1), 0, 0), (.goto 0, 1, 0)] := rfl
theorem k_La_ahead_6 : zblk i_La_ahead 6 = [(.iload 2, 0, 0), (.ireturn, 0, 0)] := rfl
theorem a_La_ahead : zmA i_La_ahead = 1 := rfl
theorem l_La_ahead : zmL i_La_ahead = 4 := rfl
theorem r_La_ahead : zmR i_La_ahead = some .int := rfl
theorem o_La_ahead : zmO i_La_ahead = 3 := rfl
theorem k_Lo_init_0 : zblk i_Lo_init 0 = [(.aload 0, 0, 0), (.nop, 0, 0), (.aload 0, 0, 0), (.iconst (-1), 0, 0), (.putfield 0, 4, 1), (.aload 0, 0, 0), (.iconst (144), 0, 0), (.newarray .int, 0, 0), (.putfield 0, 4, 4), (.aload 0, 0, 0), (.iconst (12), 0, 0), (.newarray .int, 0, 0), (.putfield 0, 4, 5), (.aload 0, 0, 0), (.iconst (12), 0, 0), (.newarray .int, 0, 0), (.putfield 0, 4, 6), (.aload 0, 0, 0), (.iconst (156), 0, 0), (.newarray .long, 0, 0), (.putfield 0, 4, 7), (.aload 0, 0, 0), (.aload 1, 0, 0), (.putfield 0, 4, 0), (.return_, 0, 0)] := rfl
theorem a_Lo_init : zmA i_Lo_init = 1 := rfl
theorem l_Lo_init : zmL i_Lo_init = 2 := rfl
theorem r_Lo_init : zmR i_Lo_init = none := rfl
theorem o_Lo_init : zmO i_Lo_init = 4 := rfl
theorem k_Ne_init_0 : zblk i_Ne_init 0 = [(.aload 0, 0, 0), (.nop, 0, 0), (.aload 0, 0, 0), (.iconst (48), 0, 0), (.newarray .int, 0, 0), (.putfield 0, 5, 3), (.aload 0, 0, 0), (.iconst (48), 0, 0), (.newarray .int, 0, 0), (.putfield 0, 5, 4), (.aload 0, 0, 0), (.iconst (144), 0, 0), (.newarray .int, 0, 0), (.putfield 0, 5, 5), (.aload 0, 0, 0), (.iconst (972), 0, 0), (.newarray .int, 0, 0), (.putfield 0, 5, 6), (.aload 0, 0, 0), (.iconst (12), 0, 0), (.newarray .int, 0, 0), (.putfield 0, 5, 7), (.aload 0, 0, 0), (.iconst (48), 0, 0), (.newarray .int, 0, 0), (.putfield 0, 5, 8), (.aload 0, 0, 0), (.iconst (4), 0, 0), (.iconst (2), 0, 0), (.invokevirtual 0, 28, 0), (.return_, 0, 0)] := rfl
theorem a_Ne_init : zmA i_Ne_init = 0 := rfl
theorem l_Ne_init : zmL i_Ne_init = 1 := rfl
theorem r_Ne_init : zmR i_Ne_init = none := rfl
theorem o_Ne_init : zmO i_Ne_init = 5 := rfl
theorem k_Ne_begin_0 : zblk i_Ne_begin 0 = [(.aload 0, 0, 0), (.iload 1, 0, 0), (.putfield 0, 5, 0), (.aload 0, 0, 0), (.iload 2, 0, 0), (.putfield 0, 5, 1), (.aload 0, 0, 0), (.getfield 0, 5, 3), (.iconst (1), 0, 0), (.invokestatic 0, 111, 0), (.aload 0, 0, 0), (.getfield 0, 5, 7), (.iconst (0), 0, 0), (.invokestatic 0, 111, 0), (.iconst (0), 0, 0), (.istore 3, 0, 0), (.goto_w 0, 1, 0)] := rfl
theorem k_Ne_begin_1 : zblk i_Ne_begin 1 = [(.iload 3, 0, 0), (.iconst (12), 0, 0), (.if_icmp .ge 0, 6, 0), (.goto_w 0, 2, 0)] := rfl
theorem k_Ne_begin_2 : zblk i_Ne_begin 2 = [(.aload 0, 0, 0), (.iload 3, 0, 0), (.invokevirtual 0, 29, 0), (.iconst (0), 0, 0), (.istore 4, 0, 0), (.goto_w 0, 3, 0)] := rfl
theorem k_Ne_begin_3 : zblk i_Ne_begin 3 = [(.iload 4, 0, 0), (.iconst (4), 0, 0), (.if_icmp .ge 0, 5, 0), (.goto_w 0, 4, 0)] := rfl
theorem k_Ne_begin_4 : zblk i_Ne_begin 4 = [(.aload 0, 0, 0), (.getfield 0, 5, 8), (.iload 4, 0, 0), (.iconst (12), 0, 0), (.imul, 0, 0), (.iload 3, 0, 0), (.iadd, 0, 0), (.iload 3, 0, 0), (.invokestatic 0, 106, 0), (.iinc 4 (1), 0, 0), (.goto 0, 3, 0)] := rfl
theorem k_Ne_begin_5 : zblk i_Ne_begin 5 = [(.iinc 3 (1), 0, 0), (.goto 0, 1, 0)] := rfl
theorem k_Ne_begin_6 : zblk i_Ne_begin 6 = [(.aload 0, 0, 0), (.dup, 0, 0), (.getfield 0, 5, 2), (.iconst (1), 0, 0), (.iadd, 0, 0), (.putfield 0, 5, 2), (.return_, 0, 0)] := rfl
theorem a_Ne_begin : zmA i_Ne_begin = 2 := rfl
theorem l_Ne_begin : zmL i_Ne_begin = 5 := rfl
theorem r_Ne_begin : zmR i_Ne_begin = none := rfl
theorem o_Ne_begin : zmO i_Ne_begin = 5 := rfl
theorem k_Ne_leadBack_0 : zblk i_Ne_leadBack 0 = [(.iconst (0), 0, 0), (.istore 2, 0, 0), (.goto_w 0, 1, 0)] := rfl
theorem k_Ne_leadBack_1 : zblk i_Ne_leadBack 1 = [(.iload 2, 0, 0), (.iconst (81), 0, 0), (.if_icmp .ge 0, 3, 0), (.goto_w 0, 2, 0)] := rfl
theorem k_Ne_leadBack_2 : zblk i_Ne_leadBack 2 = [(.aload 0, 0, 0), (.getfield 0, 5, 6), (.iload 1, 0, 0), (.iconst (81), 0, 0), (.imul, 0, 0), (.iload 2, 0, 0), (.iadd, 0, 0), (.iload 1, 0, 0), (.invokestatic 0, 106, 0), (.iinc 2 (1), 0, 0), (.goto 0, 1, 0)] := rfl
theorem k_Ne_leadBack_3 : zblk i_Ne_leadBack 3 = [(.iconst (0), 0, 0), (.istore 2, 0, 0), (.goto_w 0, 4, 0)] := rfl
theorem k_Ne_leadBack_4 : zblk i_Ne_leadBack 4 = [(.iload 2, 0, 0), (.iconst (4), 0, 0), (.if_icmp .ge 0, 6, 0), (.goto_w 0, 5, 0)] := rfl
theorem k_Ne_leadBack_5 : zblk i_Ne_leadBack 5 = [(.aload 0, 0, 0), (.getfield 0, 5, 4), (.iload 1, 0, 0), (.iconst (4), 0, 0), (.imul, 0, 0), (.iload 2, 0, 0), (.iadd, 0, 0), (.iconst (0), 0, 0), (.invokestatic 0, 106, 0), (.iinc 2 (1), 0, 0), (.goto 0, 4, 0)] := rfl
theorem k_Ne_leadBack_6 : zblk i_Ne_leadBack 6 = [(.iconst (0), 0, 0), (.istore 2, 0, 0), (.goto_w 0, 7, 0)] := rfl
theorem k_Ne_leadBack_7 : zblk i_Ne_leadBack 7 = [(.iload 2, 0, 0), (.iconst (12), 0, 0), (.if_icmp .ge 0, 9, 0), (.goto_w 0, 8, 0)] := rfl
theorem k_Ne_leadBack_8 : zblk i_Ne_leadBack 8 = [(.aload 0, 0, 0), (.getfield 0, 5, 5), (.iload 1, 0, 0), (.iconst (4), 0, 0), (.imul, 0, 0), (.iconst (3), 0, 0), (.imul, 0, 0), (.iload 2, 0, 0), (.iadd, 0, 0), (.iconst (0), 0, 0), (.invokestatic 0, 106, 0), (.iinc 2 (1), 0, 0), (.goto 0, 7, 0)] := rfl
theorem k_Ne_leadBack_9 : zblk i_Ne_leadBack 9 = [(.return_, 0, 0)] := rfl
theorem a_Ne_leadBack : zmA i_Ne_leadBack = 1 := rfl
theorem l_Ne_leadBack : zmL i_Ne_leadBack = 3 := rfl
theorem r_Ne_leadBack : zmR i_Ne_leadBack = none := rfl
theorem o_Ne_leadBack : zmO i_Ne_leadBack = 5 := rfl
theorem k_Ne_hasState_0 : zblk i_Ne_hasState 0 = [(.iload 1, 0, 0), (.ifCond .lt 0, 3, 0), (.goto_w 0, 1, 0)] := rfl
theorem k_Ne_hasState_1 : zblk i_Ne_hasState 1 = [(.iload 1, 0, 0), (.aload 0, 0, 0), (.getfield 0, 5, 0), (.if_icmp .ge 0, 3, 0), (.goto_w 0, 2, 0)] := rfl
theorem k_Ne_hasState_2 : zblk i_Ne_hasState 2 = [(.iconst (1), 0, 0), (.goto 0, 4, 0)] := rfl
theorem k_Ne_hasState_3 : zblk i_Ne_hasState 3 = [(.iconst (0), 0, 0), (.goto_w 0, 4, 0)] := rfl
theorem k_Ne_hasState_4 : zblk i_Ne_hasState 4 = [(.ireturn, 0, 0)] := rfl
theorem a_Ne_hasState : zmA i_Ne_hasState = 1 := rfl
theorem l_Ne_hasState : zmL i_Ne_hasState = 2 := rfl
theorem r_Ne_hasState : zmR i_Ne_hasState = some .boolean := rfl
theorem o_Ne_hasState : zmO i_Ne_hasState = 5 := rfl
theorem k_Ne_hasPlayer_0 : zblk i_Ne_hasPlayer 0 = [(.iload 1, 0, 0), (.ifCond .lt 0, 3, 0), (.goto_w 0, 1, 0)] := rfl
theorem k_Ne_hasPlayer_1 : zblk i_Ne_hasPlayer 1 = [(.iload 1, 0, 0), (.aload 0, 0, 0), (.getfield 0, 5, 1), (.if_icmp .ge 0, 3, 0), (.goto_w 0, 2, 0)] := rfl
theorem k_Ne_hasPlayer_2 : zblk i_Ne_hasPlayer 2 = [(.iconst (1), 0, 0), (.goto 0, 4, 0)] := rfl
theorem k_Ne_hasPlayer_3 : zblk i_Ne_hasPlayer 3 = [(.iconst (0), 0, 0), (.goto_w 0, 4, 0)] := rfl
theorem k_Ne_hasPlayer_4 : zblk i_Ne_hasPlayer 4 = [(.ireturn, 0, 0)] := rfl
theorem a_Ne_hasPlayer : zmA i_Ne_hasPlayer = 1 := rfl
theorem l_Ne_hasPlayer : zmL i_Ne_hasPlayer = 2 := rfl
theorem r_Ne_hasPlayer : zmR i_Ne_hasPlayer = some .boolean := rfl
theorem o_Ne_hasPlayer : zmO i_Ne_hasPlayer = 5 := rfl
theorem k_Ne_hasGroup_0 : zblk i_Ne_hasGroup 0 = [(.iload 1, 0, 0), (.ifCond .lt 0, 3, 0), (.goto_w 0, 1, 0)] := rfl
theorem k_Ne_hasGroup_1 : zblk i_Ne_hasGroup 1 = [(.iload 1, 0, 0), (.aload 0, 0, 0), (.invokevirtual 0, 35, 0), (.if_icmp .gt 0, 3, 0), (.goto_w 0, 2, 0)] := rfl
theorem k_Ne_hasGroup_2 : zblk i_Ne_hasGroup 2 = [(.iconst (1), 0, 0), (.goto 0, 4, 0)] := rfl
theorem k_Ne_hasGroup_3 : zblk i_Ne_hasGroup 3 = [(.iconst (0), 0, 0), (.goto_w 0, 4, 0)] := rfl
theorem k_Ne_hasGroup_4 : zblk i_Ne_hasGroup 4 = [(.ireturn, 0, 0)] := rfl
theorem a_Ne_hasGroup : zmA i_Ne_hasGroup = 1 := rfl
theorem l_Ne_hasGroup : zmL i_Ne_hasGroup = 2 := rfl
theorem r_Ne_hasGroup : zmR i_Ne_hasGroup = some .boolean := rfl
theorem o_Ne_hasGroup : zmO i_Ne_hasGroup = 5 := rfl
theorem k_Ne_hasMove_0 : zblk i_Ne_hasMove 0 = [(.aload 0, 0, 0), (.iload 1, 0, 0), (.invokevirtual 0, 30, 0), (.ifCond .eq 0, 5, 0), (.goto_w 0, 1, 0)] := rfl
theorem k_Ne_hasMove_1 : zblk i_Ne_hasMove 1 = [(.aload 0, 0, 0), (.iload 2, 0, 0), (.invokevirtual 0, 31, 0), (.ifCond .eq 0, 5, 0), (.goto_w 0, 2, 0)] := rfl
theorem k_Ne_hasMove_2 : zblk i_Ne_hasMove 2 = [(.iload 3, 0, 0), (.ifCond .lt 0, 5, 0), (.goto_w 0, 3, 0)] := rfl
theorem k_Ne_hasMove_3 : zblk i_Ne_hasMove 3 = [(.iload 3, 0, 0), (.aload 0, 0, 0), (.iload 1, 0, 0), (.iload 2, 0, 0), (.invokevirtual 0, 37, 0), (.if_icmp .ge 0, 5, 0), (.goto_w 0, 4, 0)] := rfl
theorem k_Ne_hasMove_4 : zblk i_Ne_hasMove 4 = [(.iconst (1), 0, 0), (.goto 0, 6, 0)] := rfl
theorem k_Ne_hasMove_5 : zblk i_Ne_hasMove 5 = [(.iconst (0), 0, 0), (.goto_w 0, 6, 0)] := rfl
theorem k_Ne_hasMove_6 : zblk i_Ne_hasMove 6 = [(.ireturn, 0, 0)] := rfl
theorem a_Ne_hasMove : zmA i_Ne_hasMove = 3 := rfl
theorem l_Ne_hasMove : zmL i_Ne_hasMove = 4 := rfl
theorem r_Ne_hasMove : zmR i_Ne_hasMove = some .boolean := rfl
theorem o_Ne_hasMove : zmO i_Ne_hasMove = 5 := rfl
theorem k_Ne_hasJoint_0 : zblk i_Ne_hasJoint 0 = [(.aload 0, 0, 0), (.iload 1, 0, 0), (.invokevirtual 0, 30, 0), (.ifCond .eq 0, 4, 0), (.goto_w 0, 1, 0)] := rfl
theorem k_Ne_hasJoint_1 : zblk i_Ne_hasJoint 1 = [(.iload 2, 0, 0), (.ifCond .lt 0, 4, 0), (.goto_w 0, 2, 0)] := rfl
theorem k_Ne_hasJoint_2 : zblk i_Ne_hasJoint 2 = [(.iload 2, 0, 0), (.aload 0, 0, 0), (.iload 1, 0, 0), (.aload 0, 0, 0), (.invokevirtual 0, 35, 0), (.invokevirtual 0, 43, 0), (.if_icmp .ge 0, 4, 0), (.goto_w 0, 3, 0)] := rfl
theorem k_Ne_hasJoint_3 : zblk i_Ne_hasJoint 3 = [(.iconst (1), 0, 0), (.goto 0, 5, 0)] := rfl
theorem k_Ne_hasJoint_4 : zblk i_Ne_hasJoint 4 = [(.iconst (0), 0, 0), (.goto_w 0, 5, 0)] := rfl
theorem k_Ne_hasJoint_5 : zblk i_Ne_hasJoint 5 = [(.ireturn, 0, 0)] := rfl
theorem a_Ne_hasJoint : zmA i_Ne_hasJoint = 2 := rfl
theorem l_Ne_hasJoint : zmL i_Ne_hasJoint = 3 := rfl
theorem r_Ne_hasJoint : zmR i_Ne_hasJoint = some .boolean := rfl
theorem o_Ne_hasJoint : zmO i_Ne_hasJoint = 5 := rfl
theorem k_Ne_everyone_0 : zblk i_Ne_everyone 0 = [(.iconst (1), 0, 0), (.aload 0, 0, 0), (.getfield 0, 5, 1), (.ishl, 0, 0), (.iconst (1), 0, 0), (.isub, 0, 0), (.ireturn, 0, 0)] := rfl
theorem a_Ne_everyone : zmA i_Ne_everyone = 0 := rfl
theorem l_Ne_everyone : zmL i_Ne_everyone = 1 := rfl
theorem r_Ne_everyone : zmR i_Ne_everyone = some .int := rfl
theorem o_Ne_everyone : zmO i_Ne_everyone = 5 := rfl
theorem k_Ne_everywhere_0 : zblk i_Ne_everywhere 0 = [(.iconst (1), 0, 0), (.aload 0, 0, 0), (.getfield 0, 5, 0), (.ishl, 0, 0), (.iconst (1), 0, 0), (.isub, 0, 0), (.ireturn, 0, 0)] := rfl
theorem a_Ne_everywhere : zmA i_Ne_everywhere = 0 := rfl
theorem l_Ne_everywhere : zmL i_Ne_everywhere = 1 := rfl
theorem r_Ne_everywhere : zmR i_Ne_everywhere = some .int := rfl
theorem o_Ne_everywhere : zmO i_Ne_everywhere = 5 := rfl
theorem k_Ne_movesOf_0 : zblk i_Ne_movesOf 0 = [(.aload 0, 0, 0), (.getfield 0, 5, 3), (.iload 1, 0, 0), (.iconst (4), 0, 0), (.imul, 0, 0), (.iload 2, 0, 0), (.iadd, 0, 0), (.invokestatic 0, 105, 0), (.ireturn, 0, 0)] := rfl
theorem a_Ne_movesOf : zmA i_Ne_movesOf = 2 := rfl
theorem l_Ne_movesOf : zmL i_Ne_movesOf = 3 := rfl
theorem r_Ne_movesOf : zmR i_Ne_movesOf = some .int := rfl
theorem o_Ne_movesOf : zmO i_Ne_movesOf = 5 := rfl
theorem k_Ne_target_0 : zblk i_Ne_target 0 = [(.aload 0, 0, 0), (.getfield 0, 5, 6), (.iload 1, 0, 0), (.iconst (81), 0, 0), (.imul, 0, 0), (.iload 2, 0, 0), (.iadd, 0, 0), (.invokestatic 0, 105, 0), (.ireturn, 0, 0)] := rfl
theorem a_Ne_target : zmA i_Ne_target = 2 := rfl
theorem l_Ne_target : zmL i_Ne_target = 3 := rfl
theorem r_Ne_target : zmR i_Ne_target = some .int := rfl
theorem o_Ne_target : zmO i_Ne_target = 5 := rfl
theorem k_Ne_changeMoves_0 : zblk i_Ne_changeMoves 0 = [(.aload 0, 0, 0), (.dup, 0, 0), (.getfield 0, 5, 2), (.iconst (1), 0, 0), (.iadd, 0, 0), (.putfield 0, 5, 2), (.aload 0, 0, 0), (.iload 1, 0, 0), (.invokevirtual 0, 29, 0), (.aload 0, 0, 0), (.getfield 0, 5, 3), (.iload 1, 0, 0), (.iconst (4), 0, 0), (.imul, 0, 0), (.iload 2, 0, 0), (.iadd, 0, 0), (.iload 3, 0, 0), (.invokestatic 0, 107, 0), (.ireturn, 0, 0)] := rfl
theorem a_Ne_changeMoves : zmA i_Ne_changeMoves = 3 := rfl
theorem l_Ne_changeMoves : zmL i_Ne_changeMoves = 4 := rfl
theorem r_Ne_changeMoves : zmR i_Ne_changeMoves = some .int := rfl
theorem o_Ne_changeMoves : zmO i_Ne_changeMoves = 5 := rfl
theorem k_Ne_changeTarget_0 : zblk i_Ne_changeTarget 0 = [(.aload 0, 0, 0), (.dup, 0, 0), (.getfield 0, 5, 2), (.iconst (1), 0, 0), (.iadd, 0, 0), (.putfield 0, 5, 2), (.aload 0, 0, 0), (.getfield 0, 5, 6), (.iload 1, 0, 0), (.iconst (81), 0, 0), (.imul, 0, 0), (.iload 2, 0, 0), (.iadd, 0, 0), (.iload 3, 0, 0), (.invokestatic 0, 107, 0), (.ireturn, 0, 0)] := rfl
theorem a_Ne_changeTarget : zmA i_Ne_changeTarget = 3 := rfl
theorem l_Ne_changeTarget : zmL i_Ne_changeTarget = 4 := rfl
theorem r_Ne_changeTarget : zmR i_Ne_changeTarget = some .int := rfl
theorem o_Ne_changeTarget : zmO i_Ne_changeTarget = 5 := rfl
theorem k_Ne_changeLetters_0 : zblk i_Ne_changeLetters 0 = [(.aload 0, 0, 0), (.dup, 0, 0), (.getfield 0, 5, 2), (.iconst (1), 0, 0), (.iadd, 0, 0), (.putfield 0, 5, 2), (.aload 0, 0, 0), (.getfield 0, 5, 7), (.iload 1, 0, 0), (.iload 2, 0, 0), (.invokestatic 0, 107, 0), (.ireturn, 0, 0)] := rfl
theorem a_Ne_changeLetters : zmA i_Ne_changeLetters = 2 := rfl
theorem l_Ne_changeLetters : zmL i_Ne_changeLetters = 3 := rfl
theorem r_Ne_changeLetters : zmR i_Ne_changeLetters = some .int := rfl
theorem o_Ne_changeLetters : zmO i_Ne_changeLetters = 5 := rfl
theorem k_Ne_bearing_0 : zblk i_Ne_bearing 0 = [(.iconst (0), 0, 0), (.istore 2, 0, 0), (.iconst (0), 0, 0), (.istore 3, 0, 0), (.goto_w 0, 1, 0)] := rfl
theorem k_Ne_bearing_1 : zblk i_Ne_bearing 1 = [(.iload 3, 0, 0), (.aload 0, 0, 0), (.getfield 0, 5, 0), (.if_icmp .ge 0, 5, 0), (.goto_w 0, 2, 0)] := rfl
theorem k_Ne_bearing_2 : zblk i_Ne_bearing 2 = [(.aload 0, 0, 0), (.getfield 0, 5, 7), (.iload 3, 0, 0), (.invokestatic 0, 105, 0), (.iload 1, 0, 0), (.invokestatic 0, 108, 0), (.ifCond .eq 0, 4, 0), (.goto_w 0, 3, 0)] := rfl
theorem k_Ne_bearing_3 : zblk i_Ne_bearing 3 = [(.iload 2, 0, 0), (.iconst (1), 0, 0), (.iload 3, 0, 0), (.ishl, 0, 0), (.ior, 0, 0), (.istore 2, 0, 0), (.goto_w 0, 4, 0)] := rfl
theorem k_Ne_bearing_4 : zblk i_Ne_bearing 4 = [(.iinc 3 (1), 0, 0), (.goto 0, 1, 0)] := rfl
theorem k_Ne_bearing_5 : zblk i_Ne_bearing 5 = [(.iload 2, 0, 0), (.ireturn, 0, 0)] := rfl
theorem a_Ne_bearing : zmA i_Ne_bearing = 1 := rfl
theorem l_Ne_bearing : zmL i_Ne_bearing = 4 := rfl
theorem r_Ne_bearing : zmR i_Ne_bearing = some .int := rfl
theorem o_Ne_bearing : zmO i_Ne_bearing = 5 := rfl
theorem k_Ne_ways_0 : zblk i_Ne_ways 0 = [(.iconst (1), 0, 0), (.istore 3, 0, 0), (.iconst (0), 0, 0), (.istore 4, 0, 0), (.goto_w 0, 1, 0)] := rfl
theorem k_Ne_ways_1 : zblk i_Ne_ways 1 = [(.iload 4, 0, 0), (.aload 0, 0, 0), (.getfield 0, 5, 1), (.if_icmp .ge 0, 5, 0), (.goto_w 0, 2, 0)] := rfl
theorem k_Ne_ways_2 : zblk i_Ne_ways 2 = [(.iload 2, 0, 0), (.iload 4, 0, 0), (.invokestatic 0, 108, 0), (.ifCond .eq 0, 4, 0), (.goto_w 0, 3, 0)] := rfl
theorem k_Ne_ways_3 : zblk i_Ne_ways 3 = [(.iload 3, 0, 0), (.aload 0, 0, 0), (.iload 1, 0, 0), (.iload 4, 0, 0), (.invokevirtual 0, 37, 0), (.imul, 0, 0), (.istore 3, 0, 0), (.goto_w 0, 4, 0)] := rfl
theorem k_Ne_ways_4 : zblk i_Ne_ways 4 = [(.iinc 4 (1), 0, 0), (.goto 0, 1, 0)] := rfl
theorem k_Ne_ways_5 : zblk i_Ne_ways 5 = [(.iload 3, 0, 0), (.ireturn, 0, 0)] := rfl
theorem a_Ne_ways : zmA i_Ne_ways = 2 := rfl
theorem l_Ne_ways : zmL i_Ne_ways = 5 := rfl
theorem r_Ne_ways : zmR i_Ne_ways = some .int := rfl
theorem o_Ne_ways : zmO i_Ne_ways = 5 := rfl
theorem k_Ne_together_0 : zblk i_Ne_together 0 = [(.iload 3, 0, 0), (.istore 5, 0, 0), (.iload 4, 0, 0), (.istore 6, 0, 0), (.iconst (0), 0, 0), (.istore 7, 0, 0), (.iconst (1), 0, 0), (.istore 8, 0, 0), (.aload 0, 0, 0), (.getfield 0, 5, 1), (.iconst (1), 0, 0), (.isub, 0, 0), (.istore 9, 0, 0), (.goto_w 0, 1, 0)] := rfl
theorem k_Ne_together_1 : zblk i_Ne_together 1 = [(.iload 9, 0, 0), (.ifCond .lt 0, 6, 0), (.goto_w 0, 2, 0)] := rfl
theorem k_Ne_together_2 : zblk i_Ne_together 2 = [(.aload 0, 0, 0), (.iload 1, 0, 0), (.iload 9, 0, 0), (.invokevirtual 0, 37, 0), (.istore 10, 0, 0), (.iload 2, 0, 0), (.iload 9, 0, 0), (.invokestatic 0, 108, 0), (.ifCond .eq 0, 4, 0), (.goto_w 0, 3, 0)] := rfl
theorem k_Ne_together_3 : zblk i_Ne_together 3 = [(.iload 7, 0, 0), (.iload 5, 0, 0), (.iload 10, 0, 0), (.invokestatic 0, 110, 0), (.iload 8, 0, 0), (.imul, 0, 0), (.iadd, 0, 0), (.istore 7, 0, 0), (.iload 5, 0, 0), (.iload 10, 0, 0), (.invokestatic 0, 109, 0), (.istore 5, 0, 0), (.goto 0, 5, 0)] := rfl
theorem k_Ne_together_4 : zblk i_Ne_together 4 = [(.iload 7, 0, 0), (.iload 6, 0, 0), (.iload 10, 0, 0), (.invokestatic 0, 110, 0), (.iload 8, 0, 0), (.imul, 0, 0), (.iadd, 0, 0), (.istore 7, 0, 0), (.iload 6, 0, 0), (.iload 10, 0, 0), (.invokestatic 0, 109, 0), (.istore 6, 0, 0), (.goto_w 0, 5, 0)] := rfl
theorem k_Ne_together_5 : zblk i_Ne_together 5 = [(.iload 8, 0, 0), (.iload 10, 0, 0), (.imul, 0, 0), (.istore 8, 0, 0), (.iinc 9 (-1), 0, 0), (.goto 0, 1, 0)] := rfl
theorem k_Ne_together_6 : zblk i_Ne_together 6 = [(.iload 7, 0, 0), (.ireturn, 0, 0)] := rfl
theorem a_Ne_together : zmA i_Ne_together = 4 := rfl
theorem l_Ne_together : zmL i_Ne_together = 11 := rfl
theorem r_Ne_together : zmR i_Ne_together = some .int := rfl
theorem o_Ne_together : zmO i_Ne_together = 5 := rfl
theorem k_Ne_sumOfPrices_0 : zblk i_Ne_sumOfPrices 0 = [(.iload 3, 0, 0), (.istore 4, 0, 0), (.iconst (0), 0, 0), (.istore 5, 0, 0), (.aload 0, 0, 0), (.getfield 0, 5, 1), (.iconst (1), 0, 0), (.isub, 0, 0), (.istore 6, 0, 0), (.goto_w 0, 1, 0)] := rfl
theorem k_Ne_sumOfPrices_1 : zblk i_Ne_sumOfPrices 1 = [(.iload 6, 0, 0), (.ifCond .lt 0, 5, 0), (.goto_w 0, 2, 0)] := rfl
theorem k_Ne_sumOfPrices_2 : zblk i_Ne_sumOfPrices 2 = [(.iload 2, 0, 0), (.iload 6, 0, 0), (.invokestatic 0, 108, 0), (.ifCond .eq 0, 4, 0), (.goto_w 0, 3, 0)] := rfl
theorem k_Ne_sumOfPrices_3 : zblk i_Ne_sumOfPrices 3 = [(.aload 0, 0, 0), (.iload 1, 0, 0), (.iload 6, 0, 0), (.invokevirtual 0, 37, 0), (.istore 7, 0, 0), (.iload 5, 0, 0), (.aload 0, 0, 0), (.getfield 0, 5, 5), (.iload 1, 0, 0), (.iconst (4), 0, 0), (.imul, 0, 0), (.iload 6, 0, 0), (.iadd, 0, 0), (.iconst (3), 0, 0), (.imul, 0, 0), (.iload 4, 0, 0), (.iload 7, 0, 0), (.invokestatic 0, 110, 0), (.iadd, 0, 0), (.invokestatic 0, 105, 0), (.iadd, 0, 0), (.istore 5, 0, 0), (.iload 4, 0, 0), (.iload 7, 0, 0), (.invokestatic 0, 109, 0), (.istore 4, 0, 0), (.goto_w 0, 4, 0)] := rfl
theorem k_Ne_sumOfPrices_4 : zblk i_Ne_sumOfPrices 4 = [(.iinc 6 (-1), 0, 0), (.goto 0, 1, 0)] := rfl
theorem k_Ne_sumOfPrices_5 : zblk i_Ne_sumOfPrices 5 = [(.iload 5, 0, 0), (.ireturn, 0, 0)] := rfl
theorem a_Ne_sumOfPrices : zmA i_Ne_sumOfPrices = 3 := rfl
theorem l_Ne_sumOfPrices : zmL i_Ne_sumOfPrices = 8 := rfl
theorem r_Ne_sumOfPrices : zmR i_Ne_sumOfPrices = some .int := rfl
theorem o_Ne_sumOfPrices : zmO i_Ne_sumOfPrices = 5 := rfl
theorem k_Pl_init_0 : zblk i_Pl_init 0 = [(.aload 0, 0, 0), (.nop, 0, 0), (.aload 0, 0, 0), (.iconst (12), 0, 0), (.newarray .int, 0, 0), (.putfield 0, 6, 4), (.aload 0, 0, 0), (.iconst (41), 0, 0), (.newarray .int, 0, 0), (.putfield 0, 6, 5), (.aload 0, 0, 0), (.aload 1, 0, 0), (.putfield 0, 6, 0), (.aload 0, 0, 0), (.aload 2, 0, 0), (.putfield 0, 6, 1), (.aload 0, 0, 0), (.aload 3, 0, 0), (.putfield 0, 6, 2), (.aload 0, 0, 0), (.aload 4, 0, 0), (.putfield 0, 6, 3), (.return_, 0, 0)] := rfl
theorem a_Pl_init : zmA i_Pl_init = 4 := rfl
theorem l_Pl_init : zmL i_Pl_init = 5 := rfl
theorem r_Pl_init : zmR i_Pl_init = none := rfl
theorem o_Pl_init : zmO i_Pl_init = 6 := rfl
theorem k_Pl_move_0 : zblk i_Pl_move 0 = [(.aload 0, 0, 0), (.getfield 0, 6, 3), (.invokevirtual 0, 18, 0), (.iload 1, 0, 0), (.invokestatic 0, 108, 0), (.ifCond .ne 0, 2, 0), (.goto_w 0, 1, 0)] := rfl
theorem k_Pl_move_1 : zblk i_Pl_move 1 = [(.iconst (-4), 0, 0), (.ireturn, 0, 0)] := rfl
theorem k_Pl_move_2 : zblk i_Pl_move 2 = [(.aload 0, 0, 0), (.getfield 0, 6, 2), (.iload 1, 0, 0), (.aload 0, 0, 0), (.iload 1, 0, 0), (.invokevirtual 0, 48, 0), (.invokevirtual 0, 71, 0), (.istore 2, 0, 0), (.iload 2, 0, 0), (.ifCond .ge 0, 4, 0), (.goto_w 0, 3, 0)] := rfl
theorem k_Pl_move_3 : zblk i_Pl_move 3 = [(.iconst (-4), 0, 0), (.goto 0, 5, 0)] := rfl
theorem k_Pl_move_4 : zblk i_Pl_move 4 = [(.iload 2, 0, 0), (.goto_w 0, 5, 0)] := rfl
theorem k_Pl_move_5 : zblk i_Pl_move 5 = [(.ireturn, 0, 0)] := rfl
theorem a_Pl_move : zmA i_Pl_move = 1 := rfl
theorem l_Pl_move : zmL i_Pl_move = 3 := rfl
theorem r_Pl_move : zmR i_Pl_move = some .int := rfl
theorem o_Pl_move : zmO i_Pl_move = 6 := rfl
theorem k_Pl_aim_0 : zblk i_Pl_aim 0 = [(.aload 0, 0, 0), (.getfield 0, 6, 3), (.getfield 0, 3, 4), (.iload 1, 0, 0), (.invokestatic 0, 105, 0), (.istore 2, 0, 0), (.aload 0, 0, 0), (.getfield 0, 6, 1), (.iconst (0), 0, 0), (.invokevirtual 0, 7, 0), (.tableswitch 7 (5) (9) #[1, 2, 7, 7, 3], 0, 0)] := rfl
theorem k_Pl_aim_1 : zblk i_Pl_aim 1 = [(.aload 0, 0, 0), (.getfield 0, 6, 3), (.getfield 0, 3, 3), (.aload 0, 0, 0), (.getfield 0, 6, 1), (.iconst (0), 0, 0), (.invokevirtual 0, 8, 0), (.invokestatic 0, 105, 0), (.ireturn, 0, 0)] := rfl
theorem k_Pl_aim_2 : zblk i_Pl_aim 2 = [(.aload 0, 0, 0), (.getfield 0, 6, 3), (.invokevirtual 0, 18, 0), (.ireturn, 0, 0)] := rfl
theorem k_Pl_aim_3 : zblk i_Pl_aim 3 = [(.iload 2, 0, 0), (.ifCond .ne 0, 5, 0), (.goto_w 0, 4, 0)] := rfl
theorem k_Pl_aim_4 : zblk i_Pl_aim 4 = [(.aload 0, 0, 0), (.getfield 0, 6, 3), (.invokevirtual 0, 18, 0), (.goto 0, 6, 0)] := rfl
theorem k_Pl_aim_5 : zblk i_Pl_aim 5 = [(.aload 0, 0, 0), (.getfield 0, 6, 3), (.iload 2, 0, 0), (.invokevirtual 0, 25, 0), (.goto_w 0, 6, 0)] := rfl
theorem k_Pl_aim_6 : zblk i_Pl_aim 6 = [(.ireturn, 0, 0)] := rfl
theorem k_Pl_aim_7 : zblk i_Pl_aim 7 = [(.aload 0, 0, 0), (.getfield 0, 6, 3), (.iload 2, 0, 0), (.invokevirtual 0, 25, 0), (.ireturn, 0, 0)] := rfl
theorem a_Pl_aim : zmA i_Pl_aim = 1 := rfl
theorem l_Pl_aim : zmL i_Pl_aim = 3 := rfl
theorem r_Pl_aim : zmR i_Pl_aim = some .int := rfl
theorem o_Pl_aim : zmO i_Pl_aim = 6 := rfl
theorem k_Pl_hinder_0 : zblk i_Pl_hinder 0 = [(.aload 0, 0, 0), (.getfield 0, 6, 1), (.iconst (0), 0, 0), (.invokevirtual 0, 10, 0), (.istore 3, 0, 0), (.aload 0, 0, 0), (.getfield 0, 6, 1), (.iconst (0), 0, 0), (.invokevirtual 0, 7, 0), (.iconst (5), 0, 0), (.if_icmp .ne 0, 2, 0), (.goto_w 0, 1, 0)] := rfl
theorem k_Pl_hinder_1 : zblk i_Pl_hinder 1 = [(.aload 0, 0, 0), (.getfield 0, 6, 3), (.getfield 0, 3, 3), (.aload 0, 0, 0), (.getfield 0, 6, 1), (.iconst (0), 0, 0), (.invokevirtual 0, 8, 0), (.invokestatic 0, 105, 0), (.goto 0, 3, 0)] := rfl
theorem k_Pl_hinder_2 : zblk i_Pl_hinder 2 = [(.aload 0, 0, 0), (.getfield 0, 6, 3), (.invokevirtual 0, 18, 0), (.goto_w 0, 3, 0)] := rfl
theorem k_Pl_hinder_3 : zblk i_Pl_hinder 3 = [(.istore 4, 0, 0), (.aload 0, 0, 0), (.getfield 0, 6, 0), (.iload 1, 0, 0), (.aload 0, 0, 0), (.getfield 0, 6, 0), (.invokevirtual 0, 35, 0), (.iload 3, 0, 0), (.iconst (-1), 0, 0), (.ixor, 0, 0), (.iand, 0, 0), (.invokevirtual 0, 43, 0), (.istore 5, 0, 0), (.iconst (0), 0, 0), (.istore 6, 0, 0), (.goto_w 0, 4, 0)] := rfl
theorem k_Pl_hinder_4 : zblk i_Pl_hinder 4 = [(.iload 6, 0, 0), (.iload 5, 0, 0), (.if_icmp .ge 0, 8, 0), (.goto_w 0, 5, 0)] := rfl
theorem k_Pl_hinder_5 : zblk i_Pl_hinder 5 = [(.iload 4, 0, 0), (.aload 0, 0, 0), (.getfield 0, 6, 0), (.iload 1, 0, 0), (.aload 0, 0, 0), (.getfield 0, 6, 0), (.iload 1, 0, 0), (.iload 3, 0, 0), (.iload 2, 0, 0), (.iload 6, 0, 0), (.invokevirtual 0, 44, 0), (.invokevirtual 0, 38, 0), (.invokestatic 0, 108, 0), (.ifCond .ne 0, 7, 0), (.goto_w 0, 6, 0)] := rfl
theorem k_Pl_hinder_6 : zblk i_Pl_hinder 6 = [(.iload 6, 0, 0), (.ireturn, 0, 0)] := rfl
theorem k_Pl_hinder_7 : zblk i_Pl_hinder 7 = [(.iinc 6 (1), 0, 0), (.goto 0, 4, 0)] := rfl
theorem k_Pl_hinder_8 : zblk i_Pl_hinder 8 = [(.iconst (-4), 0, 0), (.ireturn, 0, 0)] := rfl
theorem a_Pl_hinder : zmA i_Pl_hinder = 2 := rfl
theorem l_Pl_hinder : zmL i_Pl_hinder = 7 := rfl
theorem r_Pl_hinder : zmR i_Pl_hinder = some .int := rfl
theorem o_Pl_hinder : zmO i_Pl_hinder = 6 := rfl
theorem k_Pl_leastSum_0 : zblk i_Pl_leastSum 0 = [(.iconst (0), 0, 0), (.istore 2, 0, 0), (.goto_w 0, 1, 0)] := rfl
theorem k_Pl_leastSum_1 : zblk i_Pl_leastSum 1 = [(.iload 2, 0, 0), (.iconst (12), 0, 0), (.if_icmp .ge 0, 3, 0), (.goto_w 0, 2, 0)] := rfl
theorem k_Pl_leastSum_2 : zblk i_Pl_leastSum 2 = [(.aload 0, 0, 0), (.getfield 0, 6, 4), (.iload 2, 0, 0), (.iconst (1000000), 0, 0), (.invokestatic 0, 106, 0), (.iinc 2 (1), 0, 0), (.goto 0, 1, 0)] := rfl
theorem k_Pl_leastSum_3 : zblk i_Pl_leastSum 3 = [(.iconst (0), 0, 0), (.istore 2, 0, 0), (.goto_w 0, 4, 0)] := rfl
theorem k_Pl_leastSum_4 : zblk i_Pl_leastSum 4 = [(.iload 2, 0, 0), (.aload 0, 0, 0), (.getfield 0, 6, 0), (.getfield 0, 5, 0), (.if_icmp .gt 0, 14, 0), (.goto_w 0, 5, 0)] := rfl
theorem k_Pl_leastSum_5 : zblk i_Pl_leastSum 5 = [(.iconst (0), 0, 0), (.istore 3, 0, 0), (.goto_w 0, 6, 0)] := rfl
theorem k_Pl_leastSum_6 : zblk i_Pl_leastSum 6 = [(.iload 3, 0, 0), (.aload 0, 0, 0), (.getfield 0, 6, 0), (.getfield 0, 5, 0), (.if_icmp .ge 0, 13, 0), (.goto_w 0, 7, 0)] := rfl
theorem k_Pl_leastSum_7 : zblk i_Pl_leastSum 7 = [(.aload 0, 0, 0), (.getfield 0, 6, 3), (.invokevirtual 0, 18, 0), (.iload 3, 0, 0), (.invokestatic 0, 108, 0), (.ifCond .eq 0, 12, 0), (.goto_w 0, 8, 0)] := rfl
theorem k_Pl_leastSum_8 : zblk i_Pl_leastSum 8 = [(.aload 0, 0, 0), (.getfield 0, 6, 4), (.iload 3, 0, 0), (.aload 0, 0, 0), (.getfield 0, 6, 3), (.getfield 0, 3, 4), (.iload 3, 0, 0), (.invokestatic 0, 105, 0), (.ifCond .ne 0, 10, 0), (.goto_w 0, 9, 0)] := rfl
theorem k_Pl_leastSum_9 : zblk i_Pl_leastSum 9 = [(.iconst (0), 0, 0), (.goto 0, 11, 0)] := rfl
theorem k_Pl_leastSum_10 : zblk i_Pl_leastSum 10 = [(.aload 0, 0, 0), (.iload 3, 0, 0), (.invokevirtual 0, 51, 0), (.goto_w 0, 11, 0)] := rfl
theorem k_Pl_leastSum_11 : zblk i_Pl_leastSum 11 = [(.invokestatic 0, 106, 0), (.goto_w 0, 12, 0)] := rfl
theorem k_Pl_leastSum_12 : zblk i_Pl_leastSum 12 = [(.iinc 3 (1), 0, 0), (.goto 0, 6, 0)] := rfl
theorem k_Pl_leastSum_13 : zblk i_Pl_leastSum 13 = [(.iinc 2 (1), 0, 0), (.goto 0, 4, 0)] := rfl
theorem k_Pl_leastSum_14 : zblk i_Pl_leastSum 14 = [(.aload 0, 0, 0), (.getfield 0, 6, 4), (.iload 1, 0, 0), (.invokestatic 0, 105, 0), (.ireturn, 0, 0)] := rfl
theorem a_Pl_leastSum : zmA i_Pl_leastSum = 1 := rfl
theorem l_Pl_leastSum : zmL i_Pl_leastSum = 4 := rfl
theorem r_Pl_leastSum : zmR i_Pl_leastSum = some .int := rfl
theorem o_Pl_leastSum : zmO i_Pl_leastSum = 6 := rfl
theorem k_Pl_cheapest_0 : zblk i_Pl_cheapest 0 = [(.iconst (1000000), 0, 0), (.istore 2, 0, 0), (.aload 0, 0, 0), (.getfield 0, 6, 2), (.getfield 0, 8, 2), (.iload 1, 0, 0), (.invokestatic 0, 105, 0), (.istore 3, 0, 0), (.iconst (0), 0, 0), (.istore 4, 0, 0), (.goto_w 0, 1, 0)] := rfl
theorem k_Pl_cheapest_1 : zblk i_Pl_cheapest 1 = [(.iload 4, 0, 0), (.iload 3, 0, 0), (.if_icmp .ge 0, 3, 0), (.goto_w 0, 2, 0)] := rfl
theorem k_Pl_cheapest_2 : zblk i_Pl_cheapest 2 = [(.aload 0, 0, 0), (.getfield 0, 6, 0), (.iload 1, 0, 0), (.aload 0, 0, 0), (.getfield 0, 6, 1), (.iconst (0), 0, 0), (.invokevirtual 0, 10, 0), (.iload 4, 0, 0), (.invokevirtual 0, 45, 0), (.aload 0, 0, 0), (.aload 0, 0, 0), (.getfield 0, 6, 2), (.iload 1, 0, 0), (.iload 4, 0, 0), (.invokevirtual 0, 70, 0), (.invokevirtual 0, 52, 0), (.iadd, 0, 0), (.istore 5, 0, 0), (.iload 2, 0, 0), (.iload 5, 0, 0), (.fsub, 0, 0), (.istore 2, 0, 0), (.iinc 4 (1), 0, 0), (.goto 0, 1, 0)] := rfl
theorem k_Pl_cheapest_3 : zblk i_Pl_cheapest 3 = [(.iload 2, 0, 0), (.ireturn, 0, 0)] := rfl
theorem a_Pl_cheapest : zmA i_Pl_cheapest = 1 := rfl
theorem l_Pl_cheapest : zmL i_Pl_cheapest = 6 := rfl
theorem r_Pl_cheapest : zmR i_Pl_cheapest = some .int := rfl
theorem o_Pl_cheapest : zmO i_Pl_cheapest = 6 := rfl
theorem k_Pl_worst_0 : zblk i_Pl_worst 0 = [(.iconst (0), 0, 0), (.istore 2, 0, 0), (.iconst (0), 0, 0), (.istore 3, 0, 0), (.goto_w 0, 1, 0)] := rfl
theorem k_Pl_worst_1 : zblk i_Pl_worst 1 = [(.iload 3, 0, 0), (.aload 0, 0, 0), (.getfield 0, 6, 0), (.getfield 0, 5, 0), (.if_icmp .ge 0, 5, 0), (.goto_w 0, 2, 0)] := rfl
theorem k_Pl_worst_2 : zblk i_Pl_worst 2 = [(.iload 1, 0, 0), (.iload 3, 0, 0), (.invokestatic 0, 108, 0), (.ifCond .eq 0, 4, 0), (.goto_w 0, 3, 0)] := rfl
theorem k_Pl_worst_3 : zblk i_Pl_worst 3 = [(.iload 2, 0, 0), (.aload 0, 0, 0), (.getfield 0, 6, 4), (.iload 3, 0, 0), (.invokestatic 0, 105, 0), (.fadd, 0, 0), (.istore 2, 0, 0), (.goto_w 0, 4, 0)] := rfl
theorem k_Pl_worst_4 : zblk i_Pl_worst 4 = [(.iinc 3 (1), 0, 0), (.goto 0, 1, 0)] := rfl
theorem k_Pl_worst_5 : zblk i_Pl_worst 5 = [(.iload 2, 0, 0), (.ireturn, 0, 0)] := rfl
theorem a_Pl_worst : zmA i_Pl_worst = 1 := rfl
theorem l_Pl_worst : zmL i_Pl_worst = 4 := rfl
theorem r_Pl_worst : zmR i_Pl_worst = some .int := rfl
theorem o_Pl_worst : zmO i_Pl_worst = 6 := rfl
theorem k_Pl_forget_0 : zblk i_Pl_forget 0 = [(.aload 0, 0, 0), (.iconst (0), 0, 0), (.putfield 0, 6, 6), (.return_, 0, 0)] := rfl
theorem a_Pl_forget : zmA i_Pl_forget = 0 := rfl
theorem l_Pl_forget : zmL i_Pl_forget = 1 := rfl
theorem r_Pl_forget : zmR i_Pl_forget = none := rfl
theorem o_Pl_forget : zmO i_Pl_forget = 6 := rfl
theorem k_Pl_startWalk_0 : zblk i_Pl_startWalk 0 = [(.aload 0, 0, 0), (.getfield 0, 6, 5), (.iconst (0), 0, 0), (.iload 1, 0, 0), (.invokestatic 0, 106, 0), (.aload 0, 0, 0), (.iconst (1), 0, 0), (.putfield 0, 6, 6), (.return_, 0, 0)] := rfl
theorem a_Pl_startWalk : zmA i_Pl_startWalk = 1 := rfl
theorem l_Pl_startWalk : zmL i_Pl_startWalk = 2 := rfl
theorem r_Pl_startWalk : zmR i_Pl_startWalk = none := rfl
theorem o_Pl_startWalk : zmO i_Pl_startWalk = 6 := rfl
theorem k_Pl_goOn_0 : zblk i_Pl_goOn 0 = [(.aload 0, 0, 0), (.getfield 0, 6, 5), (.aload 0, 0, 0), (.getfield 0, 6, 6), (.iconst (1), 0, 0), (.isub, 0, 0), (.invokestatic 0, 105, 0), (.istore 2, 0, 0), (.aload 0, 0, 0), (.getfield 0, 6, 1), (.iconst (0), 0, 0), (.invokevirtual 0, 10, 0), (.istore 3, 0, 0), (.iload 1, 0, 0), (.aload 0, 0, 0), (.getfield 0, 6, 0), (.iload 2, 0, 0), (.aload 0, 0, 0), (.getfield 0, 6, 0), (.invokevirtual 0, 35, 0), (.iload 3, 0, 0), (.iconst (-1), 0, 0), (.ixor, 0, 0), (.iand, 0, 0), (.invokevirtual 0, 43, 0), (.invokestatic 0, 110, 0), (.istore 4, 0, 0), (.aload 0, 0, 0), (.iload 2, 0, 0), (.invokevirtual 0, 47, 0), (.iconst (0), 0, 0), (.fadd, 0, 0), (.istore 5, 0, 0), (.aload 0, 0, 0), (.getfield 0, 6, 5), (.aload 0, 0, 0), (.getfield 0, 6, 6), (.aload 0, 0, 0), (.getfield 0, 6, 0), (.iload 2, 0, 0), (.aload 0, 0, 0), (.getfield 0, 6, 0), (.iload 2, 0, 0), (.iload 3, 0, 0), (.iload 5, 0, 0), (.iload 4, 0, 0), (.invokevirtual 0, 44, 0), (.invokevirtual 0, 38, 0), (.invokestatic 0, 106, 0), (.aload 0, 0, 0), (.dup, 0, 0), (.getfield 0, 6, 6), (.iconst (1), 0, 0), (.iadd, 0, 0), (.putfield 0, 6, 6), (.return_, 0, 0)] := rfl
theorem a_Pl_goOn : zmA i_Pl_goOn = 1 := rfl
theorem l_Pl_goOn : zmL i_Pl_goOn = 6 := rfl
theorem r_Pl_goOn : zmR i_Pl_goOn = none := rfl
theorem o_Pl_goOn : zmO i_Pl_goOn = 6 := rfl
theorem k_Pl_behind_0 : zblk i_Pl_behind 0 = [(.iload 1, 0, 0), (.ifCond .lt 0, 3, 0), (.goto_w 0, 1, 0)] := rfl
theorem k_Pl_behind_1 : zblk i_Pl_behind 1 = [(.iload 1, 0, 0), (.aload 0, 0, 0), (.getfield 0, 6, 6), (.if_icmp .ge 0, 3, 0), (.goto_w 0, 2, 0)] := rfl
theorem k_Pl_behind_2 : zblk i_Pl_behind 2 = [(.aload 0, 0, 0), (.getfield 0, 6, 5), (.iload 1, 0, 0), (.invokestatic 0, 105, 0), (.goto 0, 4, 0)] := rfl
theorem k_Pl_behind_3 : zblk i_Pl_behind 3 = [(.iconst (-1), 0, 0), (.goto_w 0, 4, 0)] := rfl
theorem k_Pl_behind_4 : zblk i_Pl_behind 4 = [(.ireturn, 0, 0)] := rfl
theorem a_Pl_behind : zmA i_Pl_behind = 1 := rfl
theorem l_Pl_behind : zmL i_Pl_behind = 2 := rfl
theorem r_Pl_behind : zmR i_Pl_behind = some .int := rfl
theorem o_Pl_behind : zmO i_Pl_behind = 6 := rfl
theorem k_Sh_init_0 : zblk i_Sh_init 0 = [(.aload 0, 0, 0), (.nop, 0, 0), (.aload 0, 0, 0), (.iconst (4), 0, 0), (.newarray .int, 0, 0), (.putfield 0, 7, 0), (.aload 0, 0, 0), (.iconst (4), 0, 0), (.newarray .int, 0, 0), (.putfield 0, 7, 1), (.aload 0, 0, 0), (.iconst (324), 0, 0), (.newarray .int, 0, 0), (.putfield 0, 7, 2), (.aload 0, 0, 0), (.getfield 0, 7, 0), (.iconst (-1), 0, 0), (.invokestatic 0, 111, 0), (.return_, 0, 0)] := rfl
theorem a_Sh_init : zmA i_Sh_init = 0 := rfl
theorem l_Sh_init : zmL i_Sh_init = 1 := rfl
theorem r_Sh_init : zmR i_Sh_init = none := rfl
theorem o_Sh_init : zmO i_Sh_init = 7 := rfl
theorem k_Sh_hasPlace_0 : zblk i_Sh_hasPlace 0 = [(.iload 1, 0, 0), (.ifCond .lt 0, 5, 0), (.goto_w 0, 1, 0)] := rfl
theorem k_Sh_hasPlace_1 : zblk i_Sh_hasPlace 1 = [(.iload 1, 0, 0), (.iconst (4), 0, 0), (.if_icmp .ge 0, 5, 0), (.goto_w 0, 2, 0)] := rfl
theorem k_Sh_hasPlace_2 : zblk i_Sh_hasPlace 2 = [(.iload 2, 0, 0), (.ifCond .lt 0, 5, 0), (.goto_w 0, 3, 0)] := rfl
theorem k_Sh_hasPlace_3 : zblk i_Sh_hasPlace 3 = [(.iload 2, 0, 0), (.iconst (3), 0, 0), (.if_icmp .ge 0, 5, 0), (.goto_w 0, 4, 0)] := rfl
theorem k_Sh_hasPlace_4 : zblk i_Sh_hasPlace 4 = [(.iconst (1), 0, 0), (.goto 0, 6, 0)] := rfl
theorem k_Sh_hasPlace_5 : zblk i_Sh_hasPlace 5 = [(.iconst (0), 0, 0), (.goto_w 0, 6, 0)] := rfl
theorem k_Sh_hasPlace_6 : zblk i_Sh_hasPlace 6 = [(.ireturn, 0, 0)] := rfl
theorem a_Sh_hasPlace : zmA i_Sh_hasPlace = 2 := rfl
theorem l_Sh_hasPlace : zmL i_Sh_hasPlace = 3 := rfl
theorem r_Sh_hasPlace : zmR i_Sh_hasPlace = some .boolean := rfl
theorem o_Sh_hasPlace : zmO i_Sh_hasPlace = 7 := rfl
theorem k_Sh_isEmptyPlace_0 : zblk i_Sh_isEmptyPlace 0 = [(.aload 0, 0, 0), (.getfield 0, 7, 0), (.iload 1, 0, 0), (.invokestatic 0, 105, 0), (.iconst (-1), 0, 0), (.if_icmp .ne 0, 2, 0), (.goto_w 0, 1, 0)] := rfl
theorem k_Sh_isEmptyPlace_1 : zblk i_Sh_isEmptyPlace 1 = [(.iconst (1), 0, 0), (.goto 0, 3, 0)] := rfl
theorem k_Sh_isEmptyPlace_2 : zblk i_Sh_isEmptyPlace 2 = [(.iconst (0), 0, 0), (.goto_w 0, 3, 0)] := rfl
theorem k_Sh_isEmptyPlace_3 : zblk i_Sh_isEmptyPlace 3 = [(.ireturn, 0, 0)] := rfl
theorem a_Sh_isEmptyPlace : zmA i_Sh_isEmptyPlace = 1 := rfl
theorem l_Sh_isEmptyPlace : zmL i_Sh_isEmptyPlace = 2 := rfl
theorem r_Sh_isEmptyPlace : zmR i_Sh_isEmptyPlace = some .boolean := rfl
theorem o_Sh_isEmptyPlace : zmO i_Sh_isEmptyPlace = 7 := rfl
theorem k_Sh_hasItems_0 : zblk i_Sh_hasItems 0 = [(.aload 0, 0, 0), (.getfield 0, 7, 1), (.iload 1, 0, 0), (.invokestatic 0, 105, 0), (.istore 4, 0, 0), (.iload 3, 0, 0), (.ifCond .lt 0, 5, 0), (.goto_w 0, 1, 0)] := rfl
theorem k_Sh_hasItems_1 : zblk i_Sh_hasItems 1 = [(.iload 2, 0, 0), (.ifCond .lt 0, 5, 0), (.goto_w 0, 2, 0)] := rfl
theorem k_Sh_hasItems_2 : zblk i_Sh_hasItems 2 = [(.iload 2, 0, 0), (.iload 4, 0, 0), (.if_icmp .gt 0, 5, 0), (.goto_w 0, 3, 0)] := rfl
theorem k_Sh_hasItems_3 : zblk i_Sh_hasItems 3 = [(.iload 3, 0, 0), (.iload 4, 0, 0), (.iload 2, 0, 0), (.isub, 0, 0), (.if_icmp .gt 0, 5, 0), (.goto_w 0, 4, 0)] := rfl
theorem k_Sh_hasItems_4 : zblk i_Sh_hasItems 4 = [(.iconst (1), 0, 0), (.goto 0, 6, 0)] := rfl
theorem k_Sh_hasItems_5 : zblk i_Sh_hasItems 5 = [(.iconst (0), 0, 0), (.goto_w 0, 6, 0)] := rfl
theorem k_Sh_hasItems_6 : zblk i_Sh_hasItems 6 = [(.ireturn, 0, 0)] := rfl
theorem a_Sh_hasItems : zmA i_Sh_hasItems = 3 := rfl
theorem l_Sh_hasItems : zmL i_Sh_hasItems = 5 := rfl
theorem r_Sh_hasItems : zmR i_Sh_hasItems = some .boolean := rfl
theorem o_Sh_hasItems : zmO i_Sh_hasItems = 7 := rfl
theorem k_Sh_wrong_0 : zblk i_Sh_wrong 0 = [(.aload 0, 0, 0), (.iload 1, 0, 0), (.invokevirtual 0, 59, 0), (.ifCond .eq 0, 2, 0), (.goto_w 0, 1, 0)] := rfl
theorem k_Sh_wrong_1 : zblk i_Sh_wrong 1 = [(.iconst (-11), 0, 0), (.ireturn, 0, 0)] := rfl
theorem k_Sh_wrong_2 : zblk i_Sh_wrong 2 = [(.aload 0, 0, 0), (.getfield 0, 7, 0), (.iload 1, 0, 0), (.invokestatic 0, 105, 0), (.iload 2, 0, 0), (.if_icmp .eq 0, 4, 0), (.goto_w 0, 3, 0)] := rfl
theorem k_Sh_wrong_3 : zblk i_Sh_wrong 3 = [(.iconst (-12), 0, 0), (.ireturn, 0, 0)] := rfl
theorem k_Sh_wrong_4 : zblk i_Sh_wrong 4 = [(.aload 0, 0, 0), (.iload 1, 0, 0), (.iload 3, 0, 0), (.iload 4, 0, 0), (.invokevirtual 0, 60, 0), (.ifCond .eq 0, 6, 0), (.goto_w 0, 5, 0)] := rfl
theorem k_Sh_wrong_5 : zblk i_Sh_wrong 5 = [(.iconst (0), 0, 0), (.goto 0, 7, 0)] := rfl
theorem k_Sh_wrong_6 : zblk i_Sh_wrong 6 = [(.iconst (-13), 0, 0), (.goto_w 0, 7, 0)] := rfl
theorem k_Sh_wrong_7 : zblk i_Sh_wrong 7 = [(.ireturn, 0, 0)] := rfl
theorem a_Sh_wrong : zmA i_Sh_wrong = 4 := rfl
theorem l_Sh_wrong : zmL i_Sh_wrong = 5 := rfl
theorem r_Sh_wrong : zmR i_Sh_wrong = some .int := rfl
theorem o_Sh_wrong : zmO i_Sh_wrong = 7 := rfl
theorem k_Sh_start_0 : zblk i_Sh_start 0 = [(.aload 0, 0, 0), (.getfield 0, 7, 0), (.iload 1, 0, 0), (.iload 2, 0, 0), (.invokestatic 0, 106, 0), (.aload 0, 0, 0), (.getfield 0, 7, 1), (.iload 1, 0, 0), (.iload 3, 0, 0), (.invokestatic 0, 106, 0), (.iconst (0), 0, 0), (.istore 4, 0, 0), (.goto_w 0, 1, 0)] := rfl
theorem k_Sh_start_1 : zblk i_Sh_start 1 = [(.iload 4, 0, 0), (.iconst (81), 0, 0), (.if_icmp .ge 0, 3, 0), (.goto_w 0, 2, 0)] := rfl
theorem k_Sh_start_2 : zblk i_Sh_start 2 = [(.aload 0, 0, 0), (.getfield 0, 7, 2), (.iload 1, 0, 0), (.iconst (81), 0, 0), (.imul, 0, 0), (.iload 4, 0, 0), (.iadd, 0, 0), (.iconst (0), 0, 0), (.invokestatic 0, 106, 0), (.iinc 4 (1), 0, 0), (.goto 0, 1, 0)] := rfl
theorem k_Sh_start_3 : zblk i_Sh_start 3 = [(.return_, 0, 0)] := rfl
theorem a_Sh_start : zmA i_Sh_start = 3 := rfl
theorem l_Sh_start : zmL i_Sh_start = 5 := rfl
theorem r_Sh_start : zmR i_Sh_start = none := rfl
theorem o_Sh_start : zmO i_Sh_start = 7 := rfl
theorem k_Sh_read_0 : zblk i_Sh_read 0 = [(.aload 0, 0, 0), (.getfield 0, 7, 2), (.iload 1, 0, 0), (.iconst (81), 0, 0), (.imul, 0, 0), (.iload 2, 0, 0), (.iadd, 0, 0), (.invokestatic 0, 105, 0), (.ireturn, 0, 0)] := rfl
theorem a_Sh_read : zmA i_Sh_read = 2 := rfl
theorem l_Sh_read : zmL i_Sh_read = 3 := rfl
theorem r_Sh_read : zmR i_Sh_read = some .int := rfl
theorem o_Sh_read : zmO i_Sh_read = 7 := rfl
theorem k_Sh_write_0 : zblk i_Sh_write 0 = [(.aload 0, 0, 0), (.getfield 0, 7, 2), (.iload 1, 0, 0), (.iconst (81), 0, 0), (.imul, 0, 0), (.iload 2, 0, 0), (.iadd, 0, 0), (.aload 0, 0, 0), (.getfield 0, 7, 0), (.iload 1, 0, 0), (.invokestatic 0, 105, 0), (.ifCond .ne 0, 2, 0), (.goto_w 0, 1, 0)] := rfl
theorem k_Sh_write_1 : zblk i_Sh_write 1 = [(.iload 3, 0, 0), (.i2b, 0, 0), (.goto 0, 3, 0)] := rfl
theorem k_Sh_write_2 : zblk i_Sh_write 2 = [(.iload 3, 0, 0), (.goto_w 0, 3, 0)] := rfl
theorem k_Sh_write_3 : zblk i_Sh_write 3 = [(.invokestatic 0, 106, 0), (.return_, 0, 0)] := rfl
theorem a_Sh_write : zmA i_Sh_write = 3 := rfl
theorem l_Sh_write : zmL i_Sh_write = 4 := rfl
theorem r_Sh_write : zmR i_Sh_write = none := rfl
theorem o_Sh_write : zmO i_Sh_write = 7 := rfl
theorem k_Sh_hasBelowZero_0 : zblk i_Sh_hasBelowZero 0 = [(.iconst (0), 0, 0), (.istore 4, 0, 0), (.goto_w 0, 1, 0)] := rfl
theorem k_Sh_hasBelowZero_1 : zblk i_Sh_hasBelowZero 1 = [(.iload 4, 0, 0), (.iload 3, 0, 0), (.if_icmp .ge 0, 5, 0), (.goto_w 0, 2, 0)] := rfl
theorem k_Sh_hasBelowZero_2 : zblk i_Sh_hasBelowZero 2 = [(.aload 0, 0, 0), (.iload 1, 0, 0), (.iload 2, 0, 0), (.iload 4, 0, 0), (.iadd, 0, 0), (.invokevirtual 0, 63, 0), (.ifCond .ge 0, 4, 0), (.goto_w 0, 3, 0)] := rfl
theorem k_Sh_hasBelowZero_3 : zblk i_Sh_hasBelowZero 3 = [(.iconst (1), 0, 0), (.ireturn, 0, 0)] := rfl
theorem k_Sh_hasBelowZero_4 : zblk i_Sh_hasBelowZero 4 = [(.iinc 4 (1), 0, 0), (.goto 0, 1, 0)] := rfl
theorem k_Sh_hasBelowZero_5 : zblk i_Sh_hasBelowZero 5 = [(.iconst (0), 0, 0), (.ireturn, 0, 0)] := rfl
theorem a_Sh_hasBelowZero : zmA i_Sh_hasBelowZero = 3 := rfl
theorem l_Sh_hasBelowZero : zmL i_Sh_hasBelowZero = 5 := rfl
theorem r_Sh_hasBelowZero : zmR i_Sh_hasBelowZero = some .boolean := rfl
theorem o_Sh_hasBelowZero : zmO i_Sh_hasBelowZero = 7 := rfl
theorem k_Ta_init_0 : zblk i_Ta_init 0 = [(.aload 0, 0, 0), (.nop, 0, 0), (.aload 0, 0, 0), (.iconst (972), 0, 0), (.newarray .int, 0, 0), (.putfield 0, 8, 1), (.aload 0, 0, 0), (.iconst (12), 0, 0), (.newarray .int, 0, 0), (.putfield 0, 8, 2), (.aload 0, 0, 0), (.iconst (81), 0, 0), (.newarray .int, 0, 0), (.putfield 0, 8, 3), (.aload 0, 0, 0), (.iconst (-1), 0, 0), (.putfield 0, 8, 4), (.aload 0, 0, 0), (.iconst (-1), 0, 0), (.putfield 0, 8, 5), (.aload 0, 0, 0), (.aload 1, 0, 0), (.putfield 0, 8, 0), (.return_, 0, 0)] := rfl
theorem a_Ta_init : zmA i_Ta_init = 1 := rfl
theorem l_Ta_init : zmL i_Ta_init = 2 := rfl
theorem r_Ta_init : zmR i_Ta_init = none := rfl
theorem o_Ta_init : zmO i_Ta_init = 8 := rfl
theorem k_Ta_prepare_0 : zblk i_Ta_prepare 0 = [(.iload 1, 0, 0), (.aload 0, 0, 0), (.getfield 0, 8, 4), (.if_icmp .ne 0, 3, 0), (.goto_w 0, 1, 0)] := rfl
theorem k_Ta_prepare_1 : zblk i_Ta_prepare 1 = [(.aload 0, 0, 0), (.getfield 0, 8, 5), (.aload 0, 0, 0), (.getfield 0, 8, 0), (.getfield 0, 5, 2), (.if_icmp .ne 0, 3, 0), (.goto_w 0, 2, 0)] := rfl
theorem k_Ta_prepare_2 : zblk i_Ta_prepare 2 = [(.return_, 0, 0)] := rfl
theorem k_Ta_prepare_3 : zblk i_Ta_prepare 3 = [(.aload 0, 0, 0), (.iload 1, 0, 0), (.putfield 0, 8, 4), (.aload 0, 0, 0), (.aload 0, 0, 0), (.getfield 0, 8, 0), (.getfield 0, 5, 2), (.putfield 0, 8, 5), (.aload 0, 0, 0), (.getfield 0, 8, 1), (.iconst (0), 0, 0), (.invokestatic 0, 111, 0), (.iconst (0), 0, 0), (.istore 2, 0, 0), (.goto_w 0, 4, 0)] := rfl
theorem k_Ta_prepare_4 : zblk i_Ta_prepare 4 = [(.iload 2, 0, 0), (.aload 0, 0, 0), (.getfield 0, 8, 0), (.getfield 0, 5, 0), (.if_icmp .ge 0, 6, 0), (.goto_w 0, 5, 0)] := rfl
theorem k_Ta_prepare_5 : zblk i_Ta_prepare 5 = [(.aload 0, 0, 0), (.iload 2, 0, 0), (.invokevirtual 0, 68, 0), (.iinc 2 (1), 0, 0), (.goto 0, 4, 0)] := rfl
theorem k_Ta_prepare_6 : zblk i_Ta_prepare 6 = [(.return_, 0, 0)] := rfl
theorem a_Ta_prepare : zmA i_Ta_prepare = 1 := rfl
theorem l_Ta_prepare : zmL i_Ta_prepare = 3 := rfl
theorem r_Ta_prepare : zmR i_Ta_prepare = none := rfl
theorem o_Ta_prepare : zmO i_Ta_prepare = 8 := rfl
theorem k_Ta_fill_0 : zblk i_Ta_fill 0 = [(.aload 0, 0, 0), (.getfield 0, 8, 2), (.iload 1, 0, 0), (.aload 0, 0, 0), (.getfield 0, 8, 0), (.iload 1, 0, 0), (.aload 0, 0, 0), (.getfield 0, 8, 4), (.invokevirtual 0, 43, 0), (.invokestatic 0, 106, 0), (.aload 0, 0, 0), (.iload 1, 0, 0), (.invokevirtual 0, 69, 0), (.istore 2, 0, 0), (.iconst (0), 0, 0), (.istore 3, 0, 0), (.goto_w 0, 1, 0)] := rfl
theorem k_Ta_fill_1 : zblk i_Ta_fill 1 = [(.iload 3, 0, 0), (.iload 2, 0, 0), (.if_icmp .ge 0, 3, 0), (.goto_w 0, 2, 0)] := rfl
theorem k_Ta_fill_2 : zblk i_Ta_fill 2 = [(.iload 1, 0, 0), (.iconst (81), 0, 0), (.imul, 0, 0), (.aload 0, 0, 0), (.getfield 0, 8, 3), (.iload 3, 0, 0), (.invokestatic 0, 105, 0), (.iadd, 0, 0), (.istore 4, 0, 0), (.aload 0, 0, 0), (.getfield 0, 8, 1), (.iload 4, 0, 0), (.aload 0, 0, 0), (.getfield 0, 8, 1), (.iload 4, 0, 0), (.invokestatic 0, 105, 0), (.iconst (1), 0, 0), (.aload 0, 0, 0), (.getfield 0, 8, 0), (.iload 1, 0, 0), (.iload 3, 0, 0), (.invokevirtual 0, 38, 0), (.ishl, 0, 0), (.ior, 0, 0), (.invokestatic 0, 106, 0), (.iinc 3 (1), 0, 0), (.goto 0, 1, 0)] := rfl
theorem k_Ta_fill_3 : zblk i_Ta_fill 3 = [(.return_, 0, 0)] := rfl
theorem a_Ta_fill : zmA i_Ta_fill = 1 := rfl
theorem l_Ta_fill : zmL i_Ta_fill = 5 := rfl
theorem r_Ta_fill : zmR i_Ta_fill = none := rfl
theorem o_Ta_fill : zmO i_Ta_fill = 8 := rfl
theorem k_Ta_share_0 : zblk i_Ta_share 0 = [(.iconst (1), 0, 0), (.istore 2, 0, 0), (.aload 0, 0, 0), (.getfield 0, 8, 3), (.iconst (0), 0, 0), (.iconst (0), 0, 0), (.invokestatic 0, 106, 0), (.iconst (0), 0, 0), (.istore 3, 0, 0), (.goto_w 0, 1, 0)] := rfl
theorem k_Ta_share_1 : zblk i_Ta_share 1 = [(.iload 3, 0, 0), (.aload 0, 0, 0), (.getfield 0, 8, 0), (.getfield 0, 5, 1), (.if_icmp .ge 0, 12, 0), (.goto_w 0, 2, 0)] := rfl
theorem k_Ta_share_2 : zblk i_Ta_share 2 = [(.aload 0, 0, 0), (.getfield 0, 8, 0), (.iload 1, 0, 0), (.iload 3, 0, 0), (.invokevirtual 0, 37, 0), (.istore 4, 0, 0), (.iload 2, 0, 0), (.iconst (1), 0, 0), (.isub, 0, 0), (.istore 5, 0, 0), (.goto_w 0, 3, 0)] := rfl
theorem k_Ta_share_3 : zblk i_Ta_share 3 = [(.iload 5, 0, 0), (.ifCond .lt 0, 11, 0), (.goto_w 0, 4, 0)] := rfl
theorem k_Ta_share_4 : zblk i_Ta_share 4 = [(.aload 0, 0, 0), (.getfield 0, 8, 3), (.iload 5, 0, 0), (.invokestatic 0, 105, 0), (.istore 6, 0, 0), (.iconst (0), 0, 0), (.istore 7, 0, 0), (.goto_w 0, 5, 0)] := rfl
theorem k_Ta_share_5 : zblk i_Ta_share 5 = [(.iload 7, 0, 0), (.iload 4, 0, 0), (.if_icmp .ge 0, 10, 0), (.goto_w 0, 6, 0)] := rfl
theorem k_Ta_share_6 : zblk i_Ta_share 6 = [(.aload 0, 0, 0), (.getfield 0, 8, 3), (.iload 5, 0, 0), (.iload 4, 0, 0), (.imul, 0, 0), (.iload 7, 0, 0), (.iadd, 0, 0), (.aload 0, 0, 0), (.getfield 0, 8, 4), (.iload 3, 0, 0), (.invokestatic 0, 108, 0), (.ifCond .eq 0, 8, 0), (.goto_w 0, 7, 0)] := rfl
theorem k_Ta_share_7 : zblk i_Ta_share 7 = [(.iload 6, 0, 0), (.iload 4, 0, 0), (.imul, 0, 0), (.iload 7, 0, 0), (.iadd, 0, 0), (.goto 0, 9, 0)] := rfl
theorem k_Ta_share_8 : zblk i_Ta_share 8 = [(.iload 6, 0, 0), (.goto_w 0, 9, 0)] := rfl
theorem k_Ta_share_9 : zblk i_Ta_share 9 = [(.invokestatic 0, 106, 0), (.iinc 7 (1), 0, 0), (.goto 0, 5, 0)] := rfl
theorem k_Ta_share_10 : zblk i_Ta_share 10 = [(.iinc 5 (-1), 0, 0), (.goto 0, 3, 0)] := rfl
theorem k_Ta_share_11 : zblk i_Ta_share 11 = [(.iload 2, 0, 0), (.iload 4, 0, 0), (.imul, 0, 0), (.istore 2, 0, 0), (.iinc 3 (1), 0, 0), (.goto 0, 1, 0)] := rfl
theorem k_Ta_share_12 : zblk i_Ta_share 12 = [(.iload 2, 0, 0), (.ireturn, 0, 0)] := rfl
theorem a_Ta_share : zmA i_Ta_share = 1 := rfl
theorem l_Ta_share : zmL i_Ta_share = 8 := rfl
theorem r_Ta_share : zmR i_Ta_share = some .int := rfl
theorem o_Ta_share : zmO i_Ta_share = 8 := rfl
theorem k_Ta_endsOf_0 : zblk i_Ta_endsOf 0 = [(.aload 0, 0, 0), (.getfield 0, 8, 1), (.iload 1, 0, 0), (.iconst (81), 0, 0), (.imul, 0, 0), (.iload 2, 0, 0), (.iadd, 0, 0), (.invokestatic 0, 105, 0), (.ireturn, 0, 0)] := rfl
theorem a_Ta_endsOf : zmA i_Ta_endsOf = 2 := rfl
theorem l_Ta_endsOf : zmL i_Ta_endsOf = 3 := rfl
theorem r_Ta_endsOf : zmR i_Ta_endsOf = some .int := rfl
theorem o_Ta_endsOf : zmO i_Ta_endsOf = 8 := rfl
theorem k_Ta_leastInto_0 : zblk i_Ta_leastInto 0 = [(.aload 0, 0, 0), (.getfield 0, 8, 2), (.iload 1, 0, 0), (.invokestatic 0, 105, 0), (.istore 3, 0, 0), (.iconst (0), 0, 0), (.istore 4, 0, 0), (.goto_w 0, 1, 0)] := rfl
theorem k_Ta_leastInto_1 : zblk i_Ta_leastInto 1 = [(.iload 4, 0, 0), (.iload 3, 0, 0), (.if_icmp .ge 0, 5, 0), (.goto_w 0, 2, 0)] := rfl
theorem k_Ta_leastInto_2 : zblk i_Ta_leastInto 2 = [(.aload 0, 0, 0), (.getfield 0, 8, 1), (.iload 1, 0, 0), (.iconst (81), 0, 0), (.imul, 0, 0), (.iload 4, 0, 0), (.iadd, 0, 0), (.invokestatic 0, 105, 0), (.iload 2, 0, 0), (.iconst (-1), 0, 0), (.ixor, 0, 0), (.iand, 0, 0), (.ifCond .ne 0, 4, 0), (.goto_w 0, 3, 0)] := rfl
theorem k_Ta_leastInto_3 : zblk i_Ta_leastInto 3 = [(.iload 4, 0, 0), (.ireturn, 0, 0)] := rfl
theorem k_Ta_leastInto_4 : zblk i_Ta_leastInto 4 = [(.iinc 4 (1), 0, 0), (.goto 0, 1, 0)] := rfl
theorem k_Ta_leastInto_5 : zblk i_Ta_leastInto 5 = [(.iconst (-1), 0, 0), (.ireturn, 0, 0)] := rfl
theorem a_Ta_leastInto : zmA i_Ta_leastInto = 2 := rfl
theorem l_Ta_leastInto : zmL i_Ta_leastInto = 5 := rfl
theorem r_Ta_leastInto : zmR i_Ta_leastInto = some .int := rfl
theorem o_Ta_leastInto : zmO i_Ta_leastInto = 8 := rfl
theorem k_Ta_forcing_0 : zblk i_Ta_forcing 0 = [(.iconst (0), 0, 0), (.istore 3, 0, 0), (.iconst (0), 0, 0), (.istore 4, 0, 0), (.goto_w 0, 1, 0)] := rfl
theorem k_Ta_forcing_1 : zblk i_Ta_forcing 1 = [(.iload 4, 0, 0), (.aload 0, 0, 0), (.getfield 0, 8, 0), (.getfield 0, 5, 0), (.if_icmp .ge 0, 6, 0), (.goto_w 0, 2, 0)] := rfl
theorem k_Ta_forcing_2 : zblk i_Ta_forcing 2 = [(.iload 1, 0, 0), (.iload 4, 0, 0), (.invokestatic 0, 108, 0), (.ifCond .eq 0, 5, 0), (.goto_w 0, 3, 0)] := rfl
theorem k_Ta_forcing_3 : zblk i_Ta_forcing 3 = [(.aload 0, 0, 0), (.iload 4, 0, 0), (.iload 2, 0, 0), (.invokevirtual 0, 71, 0), (.ifCond .lt 0, 5, 0), (.goto_w 0, 4, 0)] := rfl
theorem k_Ta_forcing_4 : zblk i_Ta_forcing 4 = [(.iload 3, 0, 0), (.iconst (1), 0, 0), (.iload 4, 0, 0), (.ishl, 0, 0), (.ior, 0, 0), (.istore 3, 0, 0), (.goto_w 0, 5, 0)] := rfl
theorem k_Ta_forcing_5 : zblk i_Ta_forcing 5 = [(.iinc 4 (1), 0, 0), (.goto 0, 1, 0)] := rfl
theorem k_Ta_forcing_6 : zblk i_Ta_forcing 6 = [(.iload 3, 0, 0), (.ireturn, 0, 0)] := rfl
theorem a_Ta_forcing : zmA i_Ta_forcing = 2 := rfl
theorem l_Ta_forcing : zmL i_Ta_forcing = 5 := rfl
theorem r_Ta_forcing : zmR i_Ta_forcing = some .int := rfl
theorem o_Ta_forcing : zmO i_Ta_forcing = 8 := rfl
theorem k_Tp_init_0 : zblk i_Tp_init 0 = [(.aload 0, 0, 0), (.nop, 0, 0), (.aload 0, 0, 0), (.iconst (100), 0, 0), (.newarray .int, 0, 0), (.putfield 0, 9, 0), (.aload 0, 0, 0), (.new 0, 1, 0), (.dup, 0, 0), (.invokevirtual 0, 1, 0), (.putfield 0, 9, 1), (.return_, 0, 0)] := rfl
theorem a_Tp_init : zmA i_Tp_init = 0 := rfl
theorem l_Tp_init : zmL i_Tp_init = 1 := rfl
theorem r_Tp_init : zmR i_Tp_init = none := rfl
theorem o_Tp_init : zmO i_Tp_init = 9 := rfl
theorem k_Tp_add_0 : zblk i_Tp_add 0 = [(.iconst (0), 0, 0), (.istore 4, 0, 0), (.goto_w 0, 1, 0)] := rfl
theorem k_Tp_add_1 : zblk i_Tp_add 1 = [(.iload 4, 0, 0), (.iload 3, 0, 0), (.if_icmp .ge 0, 6, 0), (.goto_w 0, 2, 0)] := rfl
theorem k_Tp_add_2 : zblk i_Tp_add 2 = [(.lload 1, 0, 0), (.iload 4, 0, 0), (.invokestatic 0, 75, 0), (.istore 5, 0, 0), (.iload 5, 0, 0), (.iconst (32), 0, 0), (.if_icmp .lt 0, 4, 0), (.goto_w 0, 3, 0)] := rfl
theorem k_Tp_add_3 : zblk i_Tp_add 3 = [(.iload 5, 0, 0), (.iconst (126), 0, 0), (.if_icmp .le 0, 5, 0), (.goto_w 0, 4, 0)] := rfl
theorem k_Tp_add_4 : zblk i_Tp_add 4 = [(.iconst (-1), 0, 0), (.ireturn, 0, 0)] := rfl
theorem k_Tp_add_5 : zblk i_Tp_add 5 = [(.iinc 4 (1), 0, 0), (.goto 0, 1, 0)] := rfl
theorem k_Tp_add_6 : zblk i_Tp_add 6 = [(.iload 3, 0, 0), (.iconst (100), 0, 0), (.aload 0, 0, 0), (.getfield 0, 9, 2), (.isub, 0, 0), (.if_icmp .le 0, 8, 0), (.goto_w 0, 7, 0)] := rfl
theorem k_Tp_add_7 : zblk i_Tp_add 7 = [(.iconst (-3), 0, 0), (.ireturn, 0, 0)] := rfl
theorem k_Tp_add_8 : zblk i_Tp_add 8 = [(.iload 3, 0, 0), (.iconst (1), 0, 0), (.isub, 0, 0), (.istore 4, 0, 0), (.goto_w 0, 9, 0)] := rfl
theorem k_Tp_add_9 : zblk i_Tp_add 9 = [(.iload 4, 0, 0), (.ifCond .lt 0, 11, 0), (.goto_w 0, 10, 0)] := rfl
theorem k_Tp_add_10 : zblk i_Tp_add 10 = [(.aload 0, 0, 0), (.getfield 0, 9, 0), (.aload 0, 0, 0), (.getfield 0, 9, 2), (.lload 1, 0, 0), (.iload 4, 0, 0), (.invokestatic 0, 75, 0), (.invokestatic 0, 106, 0), (.aload 0, 0, 0), (.dup, 0, 0), (.getfield 0, 9, 2), (.iconst (1), 0, 0), (.iadd, 0, 0), (.putfield 0, 9, 2), (.iinc 4 (-1), 0, 0), (.goto 0, 9, 0)] := rfl
theorem k_Tp_add_11 : zblk i_Tp_add 11 = [(.aload 0, 0, 0), (.getfield 0, 9, 2), (.ireturn, 0, 0)] := rfl
theorem a_Tp_add : zmA i_Tp_add = 2 := rfl
theorem l_Tp_add : zmL i_Tp_add = 6 := rfl
theorem r_Tp_add : zmR i_Tp_add = some .int := rfl
theorem o_Tp_add : zmO i_Tp_add = 9 := rfl
theorem k_Tp_byteOf_0 : zblk i_Tp_byteOf 0 = [(.lload 0, 0, 0), (.iconst (8), 0, 0), (.iload 2, 0, 0), (.imul, 0, 0), (.lshr, 0, 0), (.l2i, 0, 0), (.iconst (255), 0, 0), (.iand, 0, 0), (.ireturn, 0, 0)] := rfl
theorem a_Tp_byteOf : zmA i_Tp_byteOf = 2 := rfl
theorem l_Tp_byteOf : zmL i_Tp_byteOf = 3 := rfl
theorem r_Tp_byteOf : zmR i_Tp_byteOf = some .int := rfl
theorem o_Tp_byteOf : zmO i_Tp_byteOf = 9 := rfl
theorem k_Tp_understand_0 : zblk i_Tp_understand 0 = [(.aload 0, 0, 0), (.iload 1, 0, 0), (.putfield 0, 9, 5), (.aload 0, 0, 0), (.iconst (0), 0, 0), (.putfield 0, 9, 3), (.aload 0, 0, 0), (.iconst (-1), 0, 0), (.putfield 0, 9, 4), (.aload 0, 0, 0), (.getfield 0, 9, 1), (.invokevirtual 0, 3, 0), (.aload 0, 0, 0), (.iconst (0), 0, 0), (.invokevirtual 0, 80, 0), (.ifCond .eq 0, 3, 0), (.goto_w 0, 1, 0)] := rfl
theorem k_Tp_understand_1 : zblk i_Tp_understand 1 = [(.aload 0, 0, 0), (.invokevirtual 0, 77, 0), (.iconst (-1), 0, 0), (.if_icmp .eq 0, 3, 0), (.goto_w 0, 2, 0)] := rfl
theorem k_Tp_understand_2 : zblk i_Tp_understand 2 = [(.aload 0, 0, 0), (.invokevirtual 0, 78, 0), (.pop, 0, 0), (.goto_w 0, 3, 0)] := rfl
theorem k_Tp_understand_3 : zblk i_Tp_understand 3 = [(.aload 0, 0, 0), (.iconst (0), 0, 0), (.putfield 0, 9, 2), (.aload 0, 0, 0), (.getfield 0, 9, 4), (.ifCond .ge 0, 5, 0), (.goto_w 0, 4, 0)] := rfl
theorem k_Tp_understand_4 : zblk i_Tp_understand 4 = [(.iconst (0), 0, 0), (.goto 0, 6, 0)] := rfl
theorem k_Tp_understand_5 : zblk i_Tp_understand 5 = [(.iconst (-20), 0, 0), (.aload 0, 0, 0), (.getfield 0, 9, 4), (.isub, 0, 0), (.goto_w 0, 6, 0)] := rfl
theorem k_Tp_understand_6 : zblk i_Tp_understand 6 = [(.ireturn, 0, 0)] := rfl
theorem a_Tp_understand : zmA i_Tp_understand = 1 := rfl
theorem l_Tp_understand : zmL i_Tp_understand = 2 := rfl
theorem r_Tp_understand : zmR i_Tp_understand = some .int := rfl
theorem o_Tp_understand : zmO i_Tp_understand = 9 := rfl
theorem k_Tp_here_0 : zblk i_Tp_here 0 = [(.aload 0, 0, 0), (.getfield 0, 9, 3), (.aload 0, 0, 0), (.getfield 0, 9, 2), (.if_icmp .ge 0, 3, 0), (.goto_w 0, 1, 0)] := rfl
theorem k_Tp_here_1 : zblk i_Tp_here 1 = [(.aload 0, 0, 0), (.getfield 0, 9, 0), (.aload 0, 0, 0), (.getfield 0, 9, 3), (.invokestatic 0, 105, 0), (.iconst (32), 0, 0), (.if_icmp .ne 0, 3, 0), (.goto_w 0, 2, 0)] := rfl
theorem k_Tp_here_2 : zblk i_Tp_here 2 = [(.aload 0, 0, 0), (.dup, 0, 0), (.getfield 0, 9, 3), (.iconst (1), 0, 0), (.iadd, 0, 0), (.putfield 0, 9, 3), (.goto 0, 0, 0)] := rfl
theorem k_Tp_here_3 : zblk i_Tp_here 3 = [(.aload 0, 0, 0), (.getfield 0, 9, 3), (.aload 0, 0, 0), (.getfield 0, 9, 2), (.if_icmp .ge 0, 5, 0), (.goto_w 0, 4, 0)] := rfl
theorem k_Tp_here_4 : zblk i_Tp_here 4 = [(.aload 0, 0, 0), (.getfield 0, 9, 0), (.aload 0, 0, 0), (.getfield 0, 9, 3), (.invokestatic 0, 105, 0), (.goto 0, 6, 0)] := rfl
theorem k_Tp_here_5 : zblk i_Tp_here 5 = [(.iconst (-1), 0, 0), (.goto_w 0, 6, 0)] := rfl
theorem k_Tp_here_6 : zblk i_Tp_here 6 = [(.ireturn, 0, 0)] := rfl
theorem a_Tp_here : zmA i_Tp_here = 0 := rfl
theorem l_Tp_here : zmL i_Tp_here = 1 := rfl
theorem r_Tp_here : zmR i_Tp_here = some .int := rfl
theorem o_Tp_here : zmO i_Tp_here = 9 := rfl
theorem k_Tp_refuse_0 : zblk i_Tp_refuse 0 = [(.aload 0, 0, 0), (.aload 0, 0, 0), (.getfield 0, 9, 3), (.putfield 0, 9, 4), (.iconst (0), 0, 0), (.ireturn, 0, 0)] := rfl
theorem a_Tp_refuse : zmA i_Tp_refuse = 0 := rfl
theorem l_Tp_refuse : zmL i_Tp_refuse = 1 := rfl
theorem r_Tp_refuse : zmR i_Tp_refuse = some .boolean := rfl
theorem o_Tp_refuse : zmO i_Tp_refuse = 9 := rfl
theorem k_Tp_take_0 : zblk i_Tp_take 0 = [(.aload 0, 0, 0), (.invokevirtual 0, 77, 0), (.iload 1, 0, 0), (.if_icmp .eq 0, 2, 0), (.goto_w 0, 1, 0)] := rfl
theorem k_Tp_take_1 : zblk i_Tp_take 1 = [(.aload 0, 0, 0), (.invokevirtual 0, 78, 0), (.ireturn, 0, 0)] := rfl
theorem k_Tp_take_2 : zblk i_Tp_take 2 = [(.aload 0, 0, 0), (.dup, 0, 0), (.getfield 0, 9, 3), (.iconst (1), 0, 0), (.iadd, 0, 0), (.putfield 0, 9, 3), (.iconst (1), 0, 0), (.ireturn, 0, 0)] := rfl
theorem a_Tp_take : zmA i_Tp_take = 1 := rfl
theorem l_Tp_take : zmL i_Tp_take = 2 := rfl
theorem r_Tp_take : zmR i_Tp_take = some .boolean := rfl
theorem o_Tp_take : zmO i_Tp_take = 9 := rfl
theorem k_Tp_readForm_0 : zblk i_Tp_readForm 0 = [(.aload 0, 0, 0), (.invokevirtual 0, 77, 0), (.istore 2, 0, 0), (.iload 1, 0, 0), (.iconst (24), 0, 0), (.if_icmp .ge 0, 2, 0), (.goto_w 0, 1, 0)] := rfl
theorem k_Tp_readForm_1 : zblk i_Tp_readForm 1 = [(.aload 0, 0, 0), (.getfield 0, 9, 1), (.getfield 0, 1, 0), (.iconst (24), 0, 0), (.if_icmp .lt 0, 3, 0), (.goto_w 0, 2, 0)] := rfl
theorem k_Tp_readForm_2 : zblk i_Tp_readForm 2 = [(.aload 0, 0, 0), (.invokevirtual 0, 78, 0), (.ireturn, 0, 0)] := rfl
theorem k_Tp_readForm_3 : zblk i_Tp_readForm 3 = [(.iload 2, 0, 0), (.iconst (84), 0, 0), (.if_icmp .eq 0, 6, 0), (.goto_w 0, 4, 0)] := rfl
theorem k_Tp_readForm_4 : zblk i_Tp_readForm 4 = [(.iload 2, 0, 0), (.iconst (97), 0, 0), (.if_icmp .lt 0, 10, 0), (.goto_w 0, 5, 0)] := rfl
theorem k_Tp_readForm_5 : zblk i_Tp_readForm 5 = [(.iload 2, 0, 0), (.iconst (104), 0, 0), (.if_icmp .gt 0, 10, 0), (.goto_w 0, 6, 0)] := rfl
theorem k_Tp_readForm_6 : zblk i_Tp_readForm 6 = [(.aload 0, 0, 0), (.dup, 0, 0), (.getfield 0, 9, 3), (.iconst (1), 0, 0), (.iadd, 0, 0), (.putfield 0, 9, 3), (.aload 0, 0, 0), (.getfield 0, 9, 1), (.aload 0, 0, 0), (.getfield 0, 9, 1), (.iconst (0), 0, 0), (.invokevirtual 0, 4, 0), (.iload 2, 0, 0), (.iconst (84), 0, 0), (.if_icmp .ne 0, 8, 0), (.goto_w 0, 7, 0)] := rfl
theorem k_Tp_readForm_7 : zblk i_Tp_readForm 7 = [(.iconst (0), 0, 0), (.goto 0, 9, 0)] := rfl
theorem k_Tp_readForm_8 : zblk i_Tp_readForm 8 = [(.iconst (1), 0, 0), (.goto_w 0, 9, 0)] := rfl
theorem k_Tp_readForm_9 : zblk i_Tp_readForm 9 = [(.iload 2, 0, 0), (.iconst (97), 0, 0), (.isub, 0, 0), (.iconst (0), 0, 0), (.invokevirtual 0, 5, 0), (.iconst (1), 0, 0), (.ireturn, 0, 0)] := rfl
theorem k_Tp_readForm_10 : zblk i_Tp_readForm 10 = [(.iload 2, 0, 0), (.iconst (33), 0, 0), (.if_icmp .eq 0, 14, 0), (.goto_w 0, 11, 0)] := rfl
theorem k_Tp_readForm_11 : zblk i_Tp_readForm 11 = [(.iload 2, 0, 0), (.iconst (40), 0, 0), (.if_icmp .eq 0, 14, 0), (.goto_w 0, 12, 0)] := rfl
theorem k_Tp_readForm_12 : zblk i_Tp_readForm 12 = [(.iload 2, 0, 0), (.iconst (60), 0, 0), (.if_icmp .eq 0, 14, 0), (.goto_w 0, 13, 0)] := rfl
theorem k_Tp_readForm_13 : zblk i_Tp_readForm 13 = [(.aload 0, 0, 0), (.invokevirtual 0, 78, 0), (.ireturn, 0, 0)] := rfl
theorem k_Tp_readForm_14 : zblk i_Tp_readForm 14 = [(.aload 0, 0, 0), (.dup, 0, 0), (.getfield 0, 9, 3), (.iconst (1), 0, 0), (.iadd, 0, 0), (.putfield 0, 9, 3), (.aload 0, 0, 0), (.getfield 0, 9, 1), (.iconst (0), 0, 0), (.invokevirtual 0, 4, 0), (.istore 3, 0, 0), (.iload 2, 0, 0), (.iconst (33), 0, 0), (.if_icmp .ne 0, 16, 0), (.goto_w 0, 15, 0)] := rfl
theorem k_Tp_readForm_15 : zblk i_Tp_readForm 15 = [(.aload 0, 0, 0), (.getfield 0, 9, 1), (.iload 3, 0, 0), (.iconst (2), 0, 0), (.iload 3, 0, 0), (.iconst (1), 0, 0), (.iadd, 0, 0), (.iconst (0), 0, 0), (.invokevirtual 0, 5, 0), (.aload 0, 0, 0), (.iload 1, 0, 0), (.iconst (1), 0, 0), (.iadd, 0, 0), (.invokevirtual 0, 80, 0), (.ireturn, 0, 0)] := rfl
theorem k_Tp_readForm_16 : zblk i_Tp_readForm 16 = [(.iload 2, 0, 0), (.iconst (40), 0, 0), (.if_icmp .ne 0, 18, 0), (.goto_w 0, 17, 0)] := rfl
theorem k_Tp_readForm_17 : zblk i_Tp_readForm 17 = [(.aload 0, 0, 0), (.iload 3, 0, 0), (.iconst (0), 0, 0), (.iload 1, 0, 0), (.invokevirtual 0, 83, 0), (.goto 0, 22, 0)] := rfl
theorem k_Tp_readForm_18 : zblk i_Tp_readForm 18 = [(.aload 0, 0, 0), (.iload 3, 0, 0), (.invokevirtual 0, 81, 0), (.ifCond .eq 0, 21, 0), (.goto_w 0, 19, 0)] := rfl
theorem k_Tp_readForm_19 : zblk i_Tp_readForm 19 = [(.aload 0, 0, 0), (.iload 3, 0, 0), (.iload 1, 0, 0), (.invokevirtual 0, 82, 0), (.ifCond .eq 0, 21, 0), (.goto_w 0, 20, 0)] := rfl
theorem k_Tp_readForm_20 : zblk i_Tp_readForm 20 = [(.iconst (1), 0, 0), (.goto 0, 22, 0)] := rfl
theorem k_Tp_readForm_21 : zblk i_Tp_readForm 21 = [(.iconst (0), 0, 0), (.goto_w 0, 22, 0)] := rfl
theorem k_Tp_readForm_22 : zblk i_Tp_readForm 22 = [(.ireturn, 0, 0)] := rfl
theorem a_Tp_readForm : zmA i_Tp_readForm = 1 := rfl
theorem l_Tp_readForm : zmL i_Tp_readForm = 4 := rfl
theorem r_Tp_readForm : zmR i_Tp_readForm = some .boolean := rfl
theorem o_Tp_readForm : zmO i_Tp_readForm = 9 := rfl
theorem k_Tp_readGroup_0 : zblk i_Tp_readGroup 0 = [(.iconst (0), 0, 0), (.istore 2, 0, 0), (.iconst (0), 0, 0), (.istore 3, 0, 0), (.iconst (0), 0, 0), (.istore 4, 0, 0), (.goto_w 0, 1, 0)] := rfl
theorem k_Tp_readGroup_1 : zblk i_Tp_readGroup 1 = [(.iload 4, 0, 0), (.iconst (4), 0, 0), (.if_icmp .ge 0, 6, 0), (.goto_w 0, 2, 0)] := rfl
theorem k_Tp_readGroup_2 : zblk i_Tp_readGroup 2 = [(.aload 0, 0, 0), (.invokevirtual 0, 77, 0), (.iconst (48), 0, 0), (.isub, 0, 0), (.istore 5, 0, 0), (.iload 5, 0, 0), (.iload 3, 0, 0), (.if_icmp .lt 0, 6, 0), (.goto_w 0, 3, 0)] := rfl
theorem k_Tp_readGroup_3 : zblk i_Tp_readGroup 3 = [(.iload 5, 0, 0), (.aload 0, 0, 0), (.getfield 0, 9, 5), (.if_icmp .lt 0, 5, 0), (.goto_w 0, 4, 0)] := rfl
theorem k_Tp_readGroup_4 : zblk i_Tp_readGroup 4 = [(.goto 0, 6, 0)] := rfl
theorem k_Tp_readGroup_5 : zblk i_Tp_readGroup 5 = [(.iload 2, 0, 0), (.iconst (1), 0, 0), (.iload 5, 0, 0), (.ishl, 0, 0), (.ior, 0, 0), (.istore 2, 0, 0), (.iload 5, 0, 0), (.iconst (1), 0, 0), (.iadd, 0, 0), (.istore 3, 0, 0), (.aload 0, 0, 0), (.dup, 0, 0), (.getfield 0, 9, 3), (.iconst (1), 0, 0), (.iadd, 0, 0), (.putfield 0, 9, 3), (.iinc 4 (1), 0, 0), (.goto 0, 1, 0)] := rfl
theorem k_Tp_readGroup_6 : zblk i_Tp_readGroup 6 = [(.aload 0, 0, 0), (.getfield 0, 9, 1), (.getfield 0, 1, 5), (.iload 1, 0, 0), (.iload 2, 0, 0), (.invokestatic 0, 106, 0), (.aload 0, 0, 0), (.iconst (62), 0, 0), (.invokevirtual 0, 79, 0), (.ireturn, 0, 0)] := rfl
theorem a_Tp_readGroup : zmA i_Tp_readGroup = 1 := rfl
theorem l_Tp_readGroup : zmL i_Tp_readGroup = 6 := rfl
theorem r_Tp_readGroup : zmR i_Tp_readGroup = some .boolean := rfl
theorem o_Tp_readGroup : zmO i_Tp_readGroup = 9 := rfl
theorem k_Tp_readLaw_0 : zblk i_Tp_readLaw 0 = [(.aload 0, 0, 0), (.invokevirtual 0, 77, 0), (.istore 3, 0, 0), (.iload 3, 0, 0), (.invokestatic 0, 84, 0), (.istore 4, 0, 0), (.iload 4, 0, 0), (.ifCond .ge 0, 2, 0), (.goto_w 0, 1, 0)] := rfl
theorem k_Tp_readLaw_1 : zblk i_Tp_readLaw 1 = [(.aload 0, 0, 0), (.invokevirtual 0, 78, 0), (.ireturn, 0, 0)] := rfl
theorem k_Tp_readLaw_2 : zblk i_Tp_readLaw 2 = [(.aload 0, 0, 0), (.dup, 0, 0), (.getfield 0, 9, 3), (.iconst (1), 0, 0), (.iadd, 0, 0), (.putfield 0, 9, 3), (.iload 4, 0, 0), (.iconst (8), 0, 0), (.if_icmp .ne 0, 4, 0), (.goto_w 0, 3, 0)] := rfl
theorem k_Tp_readLaw_3 : zblk i_Tp_readLaw 3 = [(.aload 0, 0, 0), (.iload 1, 0, 0), (.iconst (1), 0, 0), (.iload 2, 0, 0), (.invokevirtual 0, 83, 0), (.ireturn, 0, 0)] := rfl
theorem k_Tp_readLaw_4 : zblk i_Tp_readLaw 4 = [(.aload 0, 0, 0), (.getfield 0, 9, 1), (.iload 1, 0, 0), (.iload 4, 0, 0), (.iload 1, 0, 0), (.iconst (1), 0, 0), (.iadd, 0, 0), (.iconst (0), 0, 0), (.invokevirtual 0, 5, 0), (.aload 0, 0, 0), (.iload 2, 0, 0), (.iconst (1), 0, 0), (.iadd, 0, 0), (.invokevirtual 0, 80, 0), (.ireturn, 0, 0)] := rfl
theorem a_Tp_readLaw : zmA i_Tp_readLaw = 2 := rfl
theorem l_Tp_readLaw : zmL i_Tp_readLaw = 5 := rfl
theorem r_Tp_readLaw : zmR i_Tp_readLaw = some .boolean := rfl
theorem o_Tp_readLaw : zmO i_Tp_readLaw = 9 := rfl
theorem k_Tp_readPair_0 : zblk i_Tp_readPair 0 = [(.aload 0, 0, 0), (.iload 3, 0, 0), (.iconst (1), 0, 0), (.iadd, 0, 0), (.invokevirtual 0, 80, 0), (.ifCond .ne 0, 2, 0), (.goto_w 0, 1, 0)] := rfl
theorem k_Tp_readPair_1 : zblk i_Tp_readPair 1 = [(.iconst (0), 0, 0), (.ireturn, 0, 0)] := rfl
theorem k_Tp_readPair_2 : zblk i_Tp_readPair 2 = [(.aload 0, 0, 0), (.invokevirtual 0, 77, 0), (.invokestatic 0, 85, 0), (.istore 4, 0, 0), (.iload 4, 0, 0), (.ifCond .lt 0, 7, 0), (.goto_w 0, 3, 0)] := rfl
theorem k_Tp_readPair_3 : zblk i_Tp_readPair 3 = [(.iload 2, 0, 0), (.iload 4, 0, 0), (.iconst (8), 0, 0), (.if_icmp .ne 0, 5, 0), (.goto_w 0, 4, 0)] := rfl
theorem k_Tp_readPair_4 : zblk i_Tp_readPair 4 = [(.iconst (1), 0, 0), (.goto 0, 6, 0)] := rfl
theorem k_Tp_readPair_5 : zblk i_Tp_readPair 5 = [(.iconst (0), 0, 0), (.goto_w 0, 6, 0)] := rfl
theorem k_Tp_readPair_6 : zblk i_Tp_readPair 6 = [(.if_icmp .eq 0, 8, 0), (.goto_w 0, 7, 0)] := rfl
theorem k_Tp_readPair_7 : zblk i_Tp_readPair 7 = [(.aload 0, 0, 0), (.invokevirtual 0, 78, 0), (.ireturn, 0, 0)] := rfl
theorem k_Tp_readPair_8 : zblk i_Tp_readPair 8 = [(.aload 0, 0, 0), (.dup, 0, 0), (.getfield 0, 9, 3), (.iconst (1), 0, 0), (.iadd, 0, 0), (.putfield 0, 9, 3), (.aload 0, 0, 0), (.getfield 0, 9, 1), (.iload 1, 0, 0), (.iload 4, 0, 0), (.iload 1, 0, 0), (.iconst (1), 0, 0), (.iadd, 0, 0), (.aload 0, 0, 0), (.getfield 0, 9, 1), (.getfield 0, 1, 0), (.invokevirtual 0, 5, 0), (.aload 0, 0, 0), (.iload 3, 0, 0), (.iconst (1), 0, 0), (.iadd, 0, 0), (.invokevirtual 0, 80, 0), (.ifCond .eq 0, 11, 0), (.goto_w 0, 9, 0)] := rfl
theorem k_Tp_readPair_9 : zblk i_Tp_readPair 9 = [(.aload 0, 0, 0), (.iconst (41), 0, 0), (.invokevirtual 0, 79, 0), (.ifCond .eq 0, 11, 0), (.goto_w 0, 10, 0)] := rfl
theorem k_Tp_readPair_10 : zblk i_Tp_readPair 10 = [(.iconst (1), 0, 0), (.goto 0, 12, 0)] := rfl
theorem k_Tp_readPair_11 : zblk i_Tp_readPair 11 = [(.iconst (0), 0, 0), (.goto_w 0, 12, 0)] := rfl
theorem k_Tp_readPair_12 : zblk i_Tp_readPair 12 = [(.ireturn, 0, 0)] := rfl
theorem a_Tp_readPair : zmA i_Tp_readPair = 3 := rfl
theorem l_Tp_readPair : zmL i_Tp_readPair = 5 := rfl
theorem r_Tp_readPair : zmR i_Tp_readPair = some .boolean := rfl
theorem o_Tp_readPair : zmO i_Tp_readPair = 9 := rfl
theorem k_Tp_lawKind_0 : zblk i_Tp_lawKind 0 = [(.iload 0, 0, 0), (.lookupswitch 6 #[(40, 5), (70, 3), (71, 2), (73, 4), (88, 1)], 0, 0)] := rfl
theorem k_Tp_lawKind_1 : zblk i_Tp_lawKind 1 = [(.iconst (5), 0, 0), (.ireturn, 0, 0)] := rfl
theorem k_Tp_lawKind_2 : zblk i_Tp_lawKind 2 = [(.iconst (6), 0, 0), (.ireturn, 0, 0)] := rfl
theorem k_Tp_lawKind_3 : zblk i_Tp_lawKind 3 = [(.iconst (7), 0, 0), (.ireturn, 0, 0)] := rfl
theorem k_Tp_lawKind_4 : zblk i_Tp_lawKind 4 = [(.iconst (9), 0, 0), (.ireturn, 0, 0)] := rfl
theorem k_Tp_lawKind_5 : zblk i_Tp_lawKind 5 = [(.iconst (8), 0, 0), (.ireturn, 0, 0)] := rfl
theorem k_Tp_lawKind_6 : zblk i_Tp_lawKind 6 = [(.iconst (-1), 0, 0), (.ireturn, 0, 0)] := rfl
theorem a_Tp_lawKind : zmA i_Tp_lawKind = 1 := rfl
theorem l_Tp_lawKind : zmL i_Tp_lawKind = 1 := rfl
theorem r_Tp_lawKind : zmR i_Tp_lawKind = some .int := rfl
theorem o_Tp_lawKind : zmO i_Tp_lawKind = 9 := rfl
theorem k_Tp_pairKind_0 : zblk i_Tp_pairKind 0 = [(.iload 0, 0, 0), (.lookupswitch 4 #[(38, 1), (85, 3), (124, 2)], 0, 0)] := rfl
theorem k_Tp_pairKind_1 : zblk i_Tp_pairKind 1 = [(.iconst (3), 0, 0), (.ireturn, 0, 0)] := rfl
theorem k_Tp_pairKind_2 : zblk i_Tp_pairKind 2 = [(.iconst (4), 0, 0), (.ireturn, 0, 0)] := rfl
theorem k_Tp_pairKind_3 : zblk i_Tp_pairKind 3 = [(.iconst (8), 0, 0), (.ireturn, 0, 0)] := rfl
theorem k_Tp_pairKind_4 : zblk i_Tp_pairKind 4 = [(.iconst (-1), 0, 0), (.ireturn, 0, 0)] := rfl
theorem a_Tp_pairKind : zmA i_Tp_pairKind = 1 := rfl
theorem l_Tp_pairKind : zmL i_Tp_pairKind = 1 := rfl
theorem r_Tp_pairKind : zmR i_Tp_pairKind = some .int := rfl
theorem o_Tp_pairKind : zmO i_Tp_pairKind = 9 := rfl
theorem k_FN_init_0 : zblk i_FN_init 0 = [(.aload 0, 0, 0), (.nop, 0, 0), (.new 0, 5, 0), (.dup, 0, 0), (.invokevirtual 0, 27, 0), (.astore 1, 0, 0), (.new 0, 1, 0), (.dup, 0, 0), (.invokevirtual 0, 1, 0), (.astore 2, 0, 0), (.new 0, 8, 0), (.dup, 0, 0), (.aload 1, 0, 0), (.invokevirtual 0, 66, 0), (.astore 3, 0, 0), (.new 0, 3, 0), (.dup, 0, 0), (.aload 1, 0, 0), (.aload 2, 0, 0), (.aload 3, 0, 0), (.invokevirtual 0, 17, 0), (.astore 4, 0, 0), (.aload 0, 0, 0), (.aload 1, 0, 0), (.putfield 0, 10, 0), (.aload 0, 0, 0), (.aload 2, 0, 0), (.putfield 0, 10, 1), (.aload 0, 0, 0), (.new 0, 9, 0), (.dup, 0, 0), (.invokevirtual 0, 73, 0), (.putfield 0, 10, 2), (.aload 0, 0, 0), (.aload 4, 0, 0), (.putfield 0, 10, 3), (.aload 0, 0, 0), (.new 0, 6, 0), (.dup, 0, 0), (.aload 1, 0, 0), (.aload 2, 0, 0), (.aload 3, 0, 0), (.aload 4, 0, 0), (.invokevirtual 0, 46, 0), (.putfield 0, 10, 4), (.aload 0, 0, 0), (.new 0, 0, 0), (.dup, 0, 0), (.aload 1, 0, 0), (.aload 3, 0, 0), (.invokevirtual 0, 0, 0), (.putfield 0, 10, 5), (.aload 0, 0, 0), (.new 0, 4, 0), (.dup, 0, 0), (.aload 1, 0, 0), (.invokevirtual 0, 26, 0), (.putfield 0, 10, 6), (.aload 0, 0, 0), (.new 0, 2, 0), (.dup, 0, 0), (.aload 1, 0, 0), (.invokevirtual 0, 15, 0), (.putfield 0, 10, 7), (.aload 0, 0, 0), (.new 0, 7, 0), (.dup, 0, 0), (.invokevirtual 0, 57, 0), (.putfield 0, 10, 8), (.return_, 0, 0)] := rfl
theorem a_FN_init : zmA i_FN_init = 0 := rfl
theorem l_FN_init : zmL i_FN_init = 5 := rfl
theorem r_FN_init : zmR i_FN_init = none := rfl
theorem o_FN_init : zmO i_FN_init = 10 := rfl
theorem k_FN_net_0 : zblk i_FN_net 0 = [(.iload 1, 0, 0), (.iconst (2), 0, 0), (.if_icmp .lt 0, 4, 0), (.goto_w 0, 1, 0)] := rfl
theorem k_FN_net_1 : zblk i_FN_net 1 = [(.iload 1, 0, 0), (.iconst (12), 0, 0), (.if_icmp .gt 0, 4, 0), (.goto_w 0, 2, 0)] := rfl
theorem k_FN_net_2 : zblk i_FN_net 2 = [(.iload 2, 0, 0), (.iconst (1), 0, 0), (.if_icmp .lt 0, 4, 0), (.goto_w 0, 3, 0)] := rfl
theorem k_FN_net_3 : zblk i_FN_net 3 = [(.iload 2, 0, 0), (.iconst (4), 0, 0), (.if_icmp .le 0, 5, 0), (.goto_w 0, 4, 0)] := rfl
theorem k_FN_net_4 : zblk i_FN_net 4 = [(.iconst (-1), 0, 0), (.ireturn, 0, 0)] := rfl
theorem k_FN_net_5 : zblk i_FN_net 5 = [(.aload 0, 0, 0), (.getfield 0, 10, 0), (.iload 1, 0, 0), (.iload 2, 0, 0), (.invokevirtual 0, 28, 0), (.aload 0, 0, 0), (.getfield 0, 10, 1), (.invokevirtual 0, 2, 0), (.aload 0, 0, 0), (.getfield 0, 10, 6), (.iconst (-1), 0, 0), (.putfield 0, 4, 1), (.aload 0, 0, 0), (.getfield 0, 10, 7), (.invokevirtual 0, 16, 0), (.aload 0, 0, 0), (.getfield 0, 10, 4), (.invokevirtual 0, 53, 0), (.iconst (1), 0, 0), (.ireturn, 0, 0)] := rfl
theorem a_FN_net : zmA i_FN_net = 2 := rfl
theorem l_FN_net : zmL i_FN_net = 3 := rfl
theorem r_FN_net : zmR i_FN_net = some .int := rfl
theorem o_FN_net : zmO i_FN_net = 10 := rfl
theorem k_FN_moves_0 : zblk i_FN_moves 0 = [(.aload 0, 0, 0), (.getfield 0, 10, 0), (.iload 1, 0, 0), (.invokevirtual 0, 30, 0), (.ifCond .eq 0, 4, 0), (.goto_w 0, 1, 0)] := rfl
theorem k_FN_moves_1 : zblk i_FN_moves 1 = [(.aload 0, 0, 0), (.getfield 0, 10, 0), (.iload 2, 0, 0), (.invokevirtual 0, 31, 0), (.ifCond .eq 0, 4, 0), (.goto_w 0, 2, 0)] := rfl
theorem k_FN_moves_2 : zblk i_FN_moves 2 = [(.iload 3, 0, 0), (.iconst (1), 0, 0), (.if_icmp .lt 0, 4, 0), (.goto_w 0, 3, 0)] := rfl
theorem k_FN_moves_3 : zblk i_FN_moves 3 = [(.iload 3, 0, 0), (.iconst (3), 0, 0), (.if_icmp .le 0, 5, 0), (.goto_w 0, 4, 0)] := rfl
theorem k_FN_moves_4 : zblk i_FN_moves 4 = [(.iconst (-1), 0, 0), (.ireturn, 0, 0)] := rfl
theorem k_FN_moves_5 : zblk i_FN_moves 5 = [(.aload 0, 0, 0), (.getfield 0, 10, 0), (.iload 1, 0, 0), (.iload 2, 0, 0), (.iload 3, 0, 0), (.invokevirtual 0, 39, 0), (.ireturn, 0, 0)] := rfl
theorem a_FN_moves : zmA i_FN_moves = 3 := rfl
theorem l_FN_moves : zmL i_FN_moves = 4 := rfl
theorem r_FN_moves : zmR i_FN_moves = some .int := rfl
theorem o_FN_moves : zmO i_FN_moves = 10 := rfl
theorem k_FN_joint_0 : zblk i_FN_joint 0 = [(.aload 0, 0, 0), (.getfield 0, 10, 0), (.iload 1, 0, 0), (.invokevirtual 0, 30, 0), (.ifCond .eq 0, 2, 0), (.goto_w 0, 1, 0)] := rfl
theorem k_FN_joint_1 : zblk i_FN_joint 1 = [(.aload 0, 0, 0), (.getfield 0, 10, 0), (.iload 2, 0, 0), (.invokevirtual 0, 32, 0), (.ifCond .ne 0, 3, 0), (.goto_w 0, 2, 0)] := rfl
theorem k_FN_joint_2 : zblk i_FN_joint 2 = [(.iconst (-1), 0, 0), (.ireturn, 0, 0)] := rfl
theorem k_FN_joint_3 : zblk i_FN_joint 3 = [(.aload 0, 0, 0), (.getfield 0, 10, 0), (.iload 1, 0, 0), (.iload 2, 0, 0), (.invokevirtual 0, 43, 0), (.ireturn, 0, 0)] := rfl
theorem a_FN_joint : zmA i_FN_joint = 2 := rfl
theorem l_FN_joint : zmL i_FN_joint = 3 := rfl
theorem r_FN_joint : zmR i_FN_joint = some .int := rfl
theorem o_FN_joint : zmO i_FN_joint = 10 := rfl
theorem k_FN_step_0 : zblk i_FN_step 0 = [(.aload 0, 0, 0), (.getfield 0, 10, 0), (.iload 1, 0, 0), (.iload 2, 0, 0), (.invokevirtual 0, 34, 0), (.ifCond .eq 0, 2, 0), (.goto_w 0, 1, 0)] := rfl
theorem k_FN_step_1 : zblk i_FN_step 1 = [(.aload 0, 0, 0), (.getfield 0, 10, 0), (.iload 3, 0, 0), (.invokevirtual 0, 30, 0), (.ifCond .ne 0, 3, 0), (.goto_w 0, 2, 0)] := rfl
theorem k_FN_step_2 : zblk i_FN_step 2 = [(.iconst (-1), 0, 0), (.ireturn, 0, 0)] := rfl
theorem k_FN_step_3 : zblk i_FN_step 3 = [(.aload 0, 0, 0), (.getfield 0, 10, 0), (.iload 1, 0, 0), (.iload 2, 0, 0), (.iload 3, 0, 0), (.invokevirtual 0, 40, 0), (.ireturn, 0, 0)] := rfl
theorem a_FN_step : zmA i_FN_step = 3 := rfl
theorem l_FN_step : zmL i_FN_step = 4 := rfl
theorem r_FN_step : zmR i_FN_step = some .int := rfl
theorem o_FN_step : zmO i_FN_step = 10 := rfl
theorem k_FN_letters_0 : zblk i_FN_letters 0 = [(.aload 0, 0, 0), (.getfield 0, 10, 0), (.iload 1, 0, 0), (.invokevirtual 0, 30, 0), (.ifCond .eq 0, 3, 0), (.goto_w 0, 1, 0)] := rfl
theorem k_FN_letters_1 : zblk i_FN_letters 1 = [(.iload 2, 0, 0), (.ifCond .lt 0, 3, 0), (.goto_w 0, 2, 0)] := rfl
theorem k_FN_letters_2 : zblk i_FN_letters 2 = [(.iload 2, 0, 0), (.iconst (256), 0, 0), (.if_icmp .lt 0, 4, 0), (.goto_w 0, 3, 0)] := rfl
theorem k_FN_letters_3 : zblk i_FN_letters 3 = [(.iconst (-1), 0, 0), (.ireturn, 0, 0)] := rfl
theorem k_FN_letters_4 : zblk i_FN_letters 4 = [(.aload 0, 0, 0), (.getfield 0, 10, 0), (.iload 1, 0, 0), (.iload 2, 0, 0), (.invokevirtual 0, 41, 0), (.ireturn, 0, 0)] := rfl
theorem a_FN_letters : zmA i_FN_letters = 2 := rfl
theorem l_FN_letters : zmL i_FN_letters = 3 := rfl
theorem r_FN_letters : zmR i_FN_letters = some .int := rfl
theorem o_FN_letters : zmO i_FN_letters = 10 := rfl
theorem k_FN_price_0 : zblk i_FN_price 0 = [(.aload 0, 0, 0), (.getfield 0, 10, 0), (.iload 1, 0, 0), (.iload 2, 0, 0), (.iload 3, 0, 0), (.invokevirtual 0, 33, 0), (.ifCond .eq 0, 3, 0), (.goto_w 0, 1, 0)] := rfl
theorem k_FN_price_1 : zblk i_FN_price 1 = [(.iload 4, 0, 0), (.ifCond .lt 0, 3, 0), (.goto_w 0, 2, 0)] := rfl
theorem k_FN_price_2 : zblk i_FN_price 2 = [(.iload 4, 0, 0), (.iconst (9), 0, 0), (.if_icmp .le 0, 4, 0), (.goto_w 0, 3, 0)] := rfl
theorem k_FN_price_3 : zblk i_FN_price 3 = [(.iconst (-1), 0, 0), (.ireturn, 0, 0)] := rfl
theorem k_FN_price_4 : zblk i_FN_price 4 = [(.aload 0, 0, 0), (.getfield 0, 10, 0), (.getfield 0, 5, 5), (.iload 1, 0, 0), (.iconst (4), 0, 0), (.imul, 0, 0), (.iload 2, 0, 0), (.iadd, 0, 0), (.iconst (3), 0, 0), (.imul, 0, 0), (.iload 3, 0, 0), (.iadd, 0, 0), (.iload 4, 0, 0), (.invokestatic 0, 107, 0), (.ireturn, 0, 0)] := rfl
theorem a_FN_price : zmA i_FN_price = 4 := rfl
theorem l_FN_price : zmL i_FN_price = 5 := rfl
theorem r_FN_price : zmR i_FN_price = some .int := rfl
theorem o_FN_price : zmO i_FN_price = 10 := rfl
theorem k_FN_type_0 : zblk i_FN_type 0 = [(.iload 3, 0, 0), (.iconst (1), 0, 0), (.if_icmp .lt 0, 2, 0), (.goto_w 0, 1, 0)] := rfl
theorem k_FN_type_1 : zblk i_FN_type 1 = [(.iload 3, 0, 0), (.iconst (8), 0, 0), (.if_icmp .le 0, 3, 0), (.goto_w 0, 2, 0)] := rfl
theorem k_FN_type_2 : zblk i_FN_type 2 = [(.iconst (-1), 0, 0), (.ireturn, 0, 0)] := rfl
theorem k_FN_type_3 : zblk i_FN_type 3 = [(.aload 0, 0, 0), (.getfield 0, 10, 2), (.lload 1, 0, 0), (.iload 3, 0, 0), (.invokevirtual 0, 74, 0), (.ireturn, 0, 0)] := rfl
theorem a_FN_type : zmA i_FN_type = 2 := rfl
theorem l_FN_type : zmL i_FN_type = 4 := rfl
theorem r_FN_type : zmR i_FN_type = some .int := rfl
theorem o_FN_type : zmO i_FN_type = 10 := rfl
theorem k_FN_form_0 : zblk i_FN_form 0 = [(.aload 0, 0, 0), (.getfield 0, 10, 2), (.aload 0, 0, 0), (.getfield 0, 10, 0), (.getfield 0, 5, 1), (.invokevirtual 0, 76, 0), (.istore 1, 0, 0), (.iload 1, 0, 0), (.ifCond .eq 0, 2, 0), (.goto_w 0, 1, 0)] := rfl
theorem k_FN_form_1 : zblk i_FN_form 1 = [(.iload 1, 0, 0), (.ireturn, 0, 0)] := rfl
theorem k_FN_form_2 : zblk i_FN_form 2 = [(.aload 0, 0, 0), (.getfield 0, 10, 1), (.aload 0, 0, 0), (.getfield 0, 10, 2), (.getfield 0, 9, 1), (.invokevirtual 0, 6, 0), (.aload 0, 0, 0), (.getfield 0, 10, 1), (.getfield 0, 1, 0), (.ireturn, 0, 0)] := rfl
theorem a_FN_form : zmA i_FN_form = 0 := rfl
theorem l_FN_form : zmL i_FN_form = 2 := rfl
theorem r_FN_form : zmR i_FN_form = some .int := rfl
theorem o_FN_form : zmO i_FN_form = 10 := rfl
theorem k_FN_holds_0 : zblk i_FN_holds 0 = [(.aload 0, 0, 0), (.getfield 0, 10, 3), (.invokevirtual 0, 19, 0), (.aload 0, 0, 0), (.getfield 0, 10, 3), (.invokevirtual 0, 18, 0), (.ireturn, 0, 0)] := rfl
theorem a_FN_holds : zmA i_FN_holds = 0 := rfl
theorem l_FN_holds : zmL i_FN_holds = 1 := rfl
theorem r_FN_holds : zmR i_FN_holds = some .int := rfl
theorem o_FN_holds : zmO i_FN_holds = 10 := rfl
theorem k_FN_part_0 : zblk i_FN_part 0 = [(.iload 1, 0, 0), (.ifCond .lt 0, 2, 0), (.goto_w 0, 1, 0)] := rfl
theorem k_FN_part_1 : zblk i_FN_part 1 = [(.iload 1, 0, 0), (.aload 0, 0, 0), (.getfield 0, 10, 1), (.getfield 0, 1, 0), (.if_icmp .lt 0, 3, 0), (.goto_w 0, 2, 0)] := rfl
theorem k_FN_part_2 : zblk i_FN_part 2 = [(.iconst (-1), 0, 0), (.ireturn, 0, 0)] := rfl
theorem k_FN_part_3 : zblk i_FN_part 3 = [(.aload 0, 0, 0), (.getfield 0, 10, 3), (.invokevirtual 0, 19, 0), (.aload 0, 0, 0), (.getfield 0, 10, 3), (.getfield 0, 3, 3), (.iload 1, 0, 0), (.invokestatic 0, 105, 0), (.ireturn, 0, 0)] := rfl
theorem a_FN_part : zmA i_FN_part = 1 := rfl
theorem l_FN_part : zmL i_FN_part = 2 := rfl
theorem r_FN_part : zmR i_FN_part = some .int := rfl
theorem o_FN_part : zmO i_FN_part = 10 := rfl
theorem k_FN_round_0 : zblk i_FN_round 0 = [(.aload 0, 0, 0), (.getfield 0, 10, 0), (.iload 1, 0, 0), (.invokevirtual 0, 30, 0), (.ifCond .ne 0, 2, 0), (.goto_w 0, 1, 0)] := rfl
theorem k_FN_round_1 : zblk i_FN_round 1 = [(.iconst (-1), 0, 0), (.ireturn, 0, 0)] := rfl
theorem k_FN_round_2 : zblk i_FN_round 2 = [(.aload 0, 0, 0), (.getfield 0, 10, 1), (.invokevirtual 0, 13, 0), (.ifCond .ne 0, 4, 0), (.goto_w 0, 3, 0)] := rfl
theorem k_FN_round_3 : zblk i_FN_round 3 = [(.iconst (-2), 0, 0), (.ireturn, 0, 0)] := rfl
theorem k_FN_round_4 : zblk i_FN_round 4 = [(.aload 0, 0, 0), (.getfield 0, 10, 3), (.invokevirtual 0, 19, 0), (.aload 0, 0, 0), (.getfield 0, 10, 3), (.invokevirtual 0, 18, 0), (.iload 1, 0, 0), (.invokestatic 0, 108, 0), (.ifCond .eq 0, 6, 0), (.goto_w 0, 5, 0)] := rfl
theorem k_FN_round_5 : zblk i_FN_round 5 = [(.aload 0, 0, 0), (.getfield 0, 10, 3), (.getfield 0, 3, 4), (.iload 1, 0, 0), (.invokestatic 0, 105, 0), (.goto 0, 7, 0)] := rfl
theorem k_FN_round_6 : zblk i_FN_round 6 = [(.iconst (-4), 0, 0), (.goto_w 0, 7, 0)] := rfl
theorem k_FN_round_7 : zblk i_FN_round 7 = [(.ireturn, 0, 0)] := rfl
theorem a_FN_round : zmA i_FN_round = 1 := rfl
theorem l_FN_round : zmL i_FN_round = 2 := rfl
theorem r_FN_round : zmR i_FN_round = some .int := rfl
theorem o_FN_round : zmO i_FN_round = 10 := rfl
theorem k_FN_plan_0 : zblk i_FN_plan 0 = [(.aload 0, 0, 0), (.getfield 0, 10, 0), (.iload 1, 0, 0), (.invokevirtual 0, 30, 0), (.ifCond .ne 0, 2, 0), (.goto_w 0, 1, 0)] := rfl
theorem k_FN_plan_1 : zblk i_FN_plan 1 = [(.iconst (-1), 0, 0), (.ireturn, 0, 0)] := rfl
theorem k_FN_plan_2 : zblk i_FN_plan 2 = [(.aload 0, 0, 0), (.getfield 0, 10, 1), (.invokevirtual 0, 12, 0), (.ifCond .ne 0, 4, 0), (.goto_w 0, 3, 0)] := rfl
theorem k_FN_plan_3 : zblk i_FN_plan 3 = [(.iconst (-2), 0, 0), (.ireturn, 0, 0)] := rfl
theorem k_FN_plan_4 : zblk i_FN_plan 4 = [(.aload 0, 0, 0), (.getfield 0, 10, 3), (.invokevirtual 0, 19, 0), (.aload 0, 0, 0), (.getfield 0, 10, 4), (.iload 1, 0, 0), (.invokevirtual 0, 47, 0), (.ireturn, 0, 0)] := rfl
theorem a_FN_plan : zmA i_FN_plan = 1 := rfl
theorem l_FN_plan : zmL i_FN_plan = 2 := rfl
theorem r_FN_plan : zmR i_FN_plan = some .int := rfl
theorem o_FN_plan : zmO i_FN_plan = 10 := rfl
theorem k_FN_answer_0 : zblk i_FN_answer 0 = [(.aload 0, 0, 0), (.getfield 0, 10, 0), (.iload 1, 0, 0), (.invokevirtual 0, 30, 0), (.ifCond .ne 0, 2, 0), (.goto_w 0, 1, 0)] := rfl
theorem k_FN_answer_1 : zblk i_FN_answer 1 = [(.iconst (-1), 0, 0), (.ireturn, 0, 0)] := rfl
theorem k_FN_answer_2 : zblk i_FN_answer 2 = [(.aload 0, 0, 0), (.getfield 0, 10, 1), (.invokevirtual 0, 12, 0), (.ifCond .ne 0, 4, 0), (.goto_w 0, 3, 0)] := rfl
theorem k_FN_answer_3 : zblk i_FN_answer 3 = [(.iconst (-2), 0, 0), (.ireturn, 0, 0)] := rfl
theorem k_FN_answer_4 : zblk i_FN_answer 4 = [(.iload 2, 0, 0), (.ifCond .lt 0, 6, 0), (.goto_w 0, 5, 0)] := rfl
theorem k_FN_answer_5 : zblk i_FN_answer 5 = [(.iload 2, 0, 0), (.aload 0, 0, 0), (.getfield 0, 10, 0), (.iload 1, 0, 0), (.aload 0, 0, 0), (.getfield 0, 10, 1), (.iconst (0), 0, 0), (.invokevirtual 0, 10, 0), (.invokevirtual 0, 43, 0), (.if_icmp .lt 0, 7, 0), (.goto_w 0, 6, 0)] := rfl
theorem k_FN_answer_6 : zblk i_FN_answer 6 = [(.iconst (-1), 0, 0), (.ireturn, 0, 0)] := rfl
theorem k_FN_answer_7 : zblk i_FN_answer 7 = [(.aload 0, 0, 0), (.getfield 0, 10, 3), (.invokevirtual 0, 19, 0), (.aload 0, 0, 0), (.getfield 0, 10, 4), (.iload 1, 0, 0), (.iload 2, 0, 0), (.invokevirtual 0, 49, 0), (.ireturn, 0, 0)] := rfl
theorem a_FN_answer : zmA i_FN_answer = 2 := rfl
theorem l_FN_answer : zmL i_FN_answer = 3 := rfl
theorem r_FN_answer : zmR i_FN_answer = some .int := rfl
theorem o_FN_answer : zmO i_FN_answer = 10 := rfl
theorem k_FN_toll_0 : zblk i_FN_toll 0 = [(.aload 0, 0, 0), (.getfield 0, 10, 0), (.iload 1, 0, 0), (.invokevirtual 0, 30, 0), (.ifCond .ne 0, 2, 0), (.goto_w 0, 1, 0)] := rfl
theorem k_FN_toll_1 : zblk i_FN_toll 1 = [(.iconst (-1), 0, 0), (.ireturn, 0, 0)] := rfl
theorem k_FN_toll_2 : zblk i_FN_toll 2 = [(.aload 0, 0, 0), (.getfield 0, 10, 1), (.invokevirtual 0, 14, 0), (.ifCond .ne 0, 4, 0), (.goto_w 0, 3, 0)] := rfl
theorem k_FN_toll_3 : zblk i_FN_toll 3 = [(.iconst (-2), 0, 0), (.ireturn, 0, 0)] := rfl
theorem k_FN_toll_4 : zblk i_FN_toll 4 = [(.aload 0, 0, 0), (.getfield 0, 10, 3), (.invokevirtual 0, 19, 0), (.aload 0, 0, 0), (.getfield 0, 10, 3), (.invokevirtual 0, 18, 0), (.iload 1, 0, 0), (.invokestatic 0, 108, 0), (.ifCond .eq 0, 6, 0), (.goto_w 0, 5, 0)] := rfl
theorem k_FN_toll_5 : zblk i_FN_toll 5 = [(.aload 0, 0, 0), (.getfield 0, 10, 4), (.iload 1, 0, 0), (.invokevirtual 0, 50, 0), (.goto 0, 7, 0)] := rfl
theorem k_FN_toll_6 : zblk i_FN_toll 6 = [(.iconst (-4), 0, 0), (.goto_w 0, 7, 0)] := rfl
theorem k_FN_toll_7 : zblk i_FN_toll 7 = [(.ireturn, 0, 0)] := rfl
theorem a_FN_toll : zmA i_FN_toll = 1 := rfl
theorem l_FN_toll : zmL i_FN_toll = 2 := rfl
theorem r_FN_toll : zmR i_FN_toll = some .int := rfl
theorem o_FN_toll : zmO i_FN_toll = 10 := rfl
theorem k_FN_walk_0 : zblk i_FN_walk 0 = [(.aload 0, 0, 0), (.getfield 0, 10, 0), (.iload 1, 0, 0), (.invokevirtual 0, 30, 0), (.ifCond .eq 0, 4, 0), (.goto_w 0, 1, 0)] := rfl
theorem k_FN_walk_1 : zblk i_FN_walk 1 = [(.aload 0, 0, 0), (.getfield 0, 10, 8), (.iload 2, 0, 0), (.iload 3, 0, 0), (.invokevirtual 0, 58, 0), (.ifCond .eq 0, 4, 0), (.goto_w 0, 2, 0)] := rfl
theorem k_FN_walk_2 : zblk i_FN_walk 2 = [(.iload 5, 0, 0), (.ifCond .lt 0, 4, 0), (.goto_w 0, 3, 0)] := rfl
theorem k_FN_walk_3 : zblk i_FN_walk 3 = [(.iload 5, 0, 0), (.iconst (40), 0, 0), (.if_icmp .le 0, 5, 0), (.goto_w 0, 4, 0)] := rfl
theorem k_FN_walk_4 : zblk i_FN_walk 4 = [(.iconst (-1), 0, 0), (.ireturn, 0, 0)] := rfl
theorem k_FN_walk_5 : zblk i_FN_walk 5 = [(.aload 0, 0, 0), (.getfield 0, 10, 8), (.iload 2, 0, 0), (.iload 3, 0, 0), (.iload 4, 0, 0), (.iload 5, 0, 0), (.invokevirtual 0, 61, 0), (.istore 6, 0, 0), (.iload 6, 0, 0), (.ifCond .eq 0, 7, 0), (.goto_w 0, 6, 0)] := rfl
theorem k_FN_walk_6 : zblk i_FN_walk 6 = [(.iload 6, 0, 0), (.ireturn, 0, 0)] := rfl
theorem k_FN_walk_7 : zblk i_FN_walk 7 = [(.aload 0, 0, 0), (.getfield 0, 10, 1), (.invokevirtual 0, 12, 0), (.ifCond .eq 0, 9, 0), (.goto_w 0, 8, 0)] := rfl
theorem k_FN_walk_8 : zblk i_FN_walk 8 = [(.aload 0, 0, 0), (.getfield 0, 10, 8), (.iload 2, 0, 0), (.iload 4, 0, 0), (.iload 5, 0, 0), (.invokevirtual 0, 65, 0), (.ifCond .eq 0, 10, 0), (.goto_w 0, 9, 0)] := rfl
theorem k_FN_walk_9 : zblk i_FN_walk 9 = [(.iconst (-2), 0, 0), (.ireturn, 0, 0)] := rfl
theorem k_FN_walk_10 : zblk i_FN_walk 10 = [(.aload 0, 0, 0), (.getfield 0, 10, 3), (.invokevirtual 0, 19, 0), (.aload 0, 0, 0), (.getfield 0, 10, 4), (.iload 1, 0, 0), (.invokevirtual 0, 54, 0), (.iconst (0), 0, 0), (.istore 7, 0, 0), (.goto_w 0, 11, 0)] := rfl
theorem k_FN_walk_11 : zblk i_FN_walk 11 = [(.iload 7, 0, 0), (.iload 5, 0, 0), (.if_icmp .ge 0, 13, 0), (.goto_w 0, 12, 0)] := rfl
theorem k_FN_walk_12 : zblk i_FN_walk 12 = [(.aload 0, 0, 0), (.getfield 0, 10, 4), (.aload 0, 0, 0), (.getfield 0, 10, 8), (.iload 2, 0, 0), (.iload 4, 0, 0), (.iload 7, 0, 0), (.iadd, 0, 0), (.invokevirtual 0, 63, 0), (.invokevirtual 0, 55, 0), (.iinc 7 (1), 0, 0), (.goto 0, 11, 0)] := rfl
theorem k_FN_walk_13 : zblk i_FN_walk 13 = [(.aload 0, 0, 0), (.getfield 0, 10, 4), (.iload 5, 0, 0), (.invokevirtual 0, 56, 0), (.ireturn, 0, 0)] := rfl
theorem a_FN_walk : zmA i_FN_walk = 5 := rfl
theorem l_FN_walk : zmL i_FN_walk = 8 := rfl
theorem r_FN_walk : zmR i_FN_walk = some .int := rfl
theorem o_FN_walk : zmO i_FN_walk = 10 := rfl
theorem k_FN_walked_0 : zblk i_FN_walked 0 = [(.aload 0, 0, 0), (.getfield 0, 10, 4), (.iload 1, 0, 0), (.invokevirtual 0, 56, 0), (.ireturn, 0, 0)] := rfl
theorem a_FN_walked : zmA i_FN_walked = 1 := rfl
theorem l_FN_walked : zmL i_FN_walked = 2 := rfl
theorem r_FN_walked : zmR i_FN_walked = some .int := rfl
theorem o_FN_walked : zmO i_FN_walked = 10 := rfl
theorem k_FN_sheet_0 : zblk i_FN_sheet 0 = [(.aload 0, 0, 0), (.getfield 0, 10, 8), (.iload 1, 0, 0), (.iload 2, 0, 0), (.invokevirtual 0, 58, 0), (.ifCond .eq 0, 2, 0), (.goto_w 0, 1, 0)] := rfl
theorem k_FN_sheet_1 : zblk i_FN_sheet 1 = [(.iload 3, 0, 0), (.iconst (81), 0, 0), (.if_icmp .le 0, 3, 0), (.goto_w 0, 2, 0)] := rfl
theorem k_FN_sheet_2 : zblk i_FN_sheet 2 = [(.iconst (-1), 0, 0), (.ireturn, 0, 0)] := rfl
theorem k_FN_sheet_3 : zblk i_FN_sheet 3 = [(.iload 3, 0, 0), (.ifCond .ge 0, 5, 0), (.goto_w 0, 4, 0)] := rfl
theorem k_FN_sheet_4 : zblk i_FN_sheet 4 = [(.iconst (-14), 0, 0), (.ireturn, 0, 0)] := rfl
theorem k_FN_sheet_5 : zblk i_FN_sheet 5 = [(.aload 0, 0, 0), (.getfield 0, 10, 8), (.iload 1, 0, 0), (.iload 2, 0, 0), (.iload 3, 0, 0), (.invokevirtual 0, 62, 0), (.iload 3, 0, 0), (.ireturn, 0, 0)] := rfl
theorem a_FN_sheet : zmA i_FN_sheet = 3 := rfl
theorem l_FN_sheet : zmL i_FN_sheet = 4 := rfl
theorem r_FN_sheet : zmR i_FN_sheet = some .int := rfl
theorem o_FN_sheet : zmO i_FN_sheet = 10 := rfl
theorem k_FN_item_0 : zblk i_FN_item 0 = [(.aload 0, 0, 0), (.getfield 0, 10, 8), (.iload 1, 0, 0), (.iload 2, 0, 0), (.invokevirtual 0, 58, 0), (.ifCond .ne 0, 2, 0), (.goto_w 0, 1, 0)] := rfl
theorem k_FN_item_1 : zblk i_FN_item 1 = [(.iconst (-1), 0, 0), (.ireturn, 0, 0)] := rfl
theorem k_FN_item_2 : zblk i_FN_item 2 = [(.aload 0, 0, 0), (.getfield 0, 10, 8), (.iload 1, 0, 0), (.iload 2, 0, 0), (.iload 3, 0, 0), (.iconst (1), 0, 0), (.invokevirtual 0, 61, 0), (.istore 5, 0, 0), (.iload 5, 0, 0), (.ifCond .eq 0, 4, 0), (.goto_w 0, 3, 0)] := rfl
theorem k_FN_item_3 : zblk i_FN_item 3 = [(.iload 5, 0, 0), (.ireturn, 0, 0)] := rfl
theorem k_FN_item_4 : zblk i_FN_item 4 = [(.aload 0, 0, 0), (.getfield 0, 10, 8), (.iload 1, 0, 0), (.iload 3, 0, 0), (.iload 4, 0, 0), (.invokevirtual 0, 64, 0), (.iconst (1), 0, 0), (.ireturn, 0, 0)] := rfl
theorem a_FN_item : zmA i_FN_item = 4 := rfl
theorem l_FN_item : zmL i_FN_item = 6 := rfl
theorem r_FN_item : zmR i_FN_item = some .int := rfl
theorem o_FN_item : zmO i_FN_item = 10 := rfl
theorem k_FN_at_0 : zblk i_FN_at 0 = [(.iload 1, 0, 0), (.ifCond .lt 0, 3, 0), (.goto_w 0, 1, 0)] := rfl
theorem k_FN_at_1 : zblk i_FN_at 1 = [(.iload 1, 0, 0), (.aload 0, 0, 0), (.arraylength, 0, 0), (.if_icmp .ge 0, 3, 0), (.goto_w 0, 2, 0)] := rfl
theorem k_FN_at_2 : zblk i_FN_at 2 = [(.aload 0, 0, 0), (.iload 1, 0, 0), (.iaload, 0, 0), (.goto 0, 4, 0)] := rfl
theorem k_FN_at_3 : zblk i_FN_at 3 = [(.iconst (0), 0, 0), (.goto_w 0, 4, 0)] := rfl
theorem k_FN_at_4 : zblk i_FN_at 4 = [(.ireturn, 0, 0)] := rfl
theorem a_FN_at : zmA i_FN_at = 2 := rfl
theorem l_FN_at : zmL i_FN_at = 2 := rfl
theorem r_FN_at : zmR i_FN_at = some .int := rfl
theorem o_FN_at : zmO i_FN_at = 10 := rfl
theorem k_FN_put_0 : zblk i_FN_put 0 = [(.iload 1, 0, 0), (.ifCond .lt 0, 3, 0), (.goto_w 0, 1, 0)] := rfl
theorem k_FN_put_1 : zblk i_FN_put 1 = [(.iload 1, 0, 0), (.aload 0, 0, 0), (.arraylength, 0, 0), (.if_icmp .ge 0, 3, 0), (.goto_w 0, 2, 0)] := rfl
theorem k_FN_put_2 : zblk i_FN_put 2 = [(.aload 0, 0, 0), (.iload 1, 0, 0), (.iload 2, 0, 0), (.iastore, 0, 0), (.goto_w 0, 3, 0)] := rfl
theorem k_FN_put_3 : zblk i_FN_put 3 = [(.return_, 0, 0)] := rfl
theorem a_FN_put : zmA i_FN_put = 3 := rfl
theorem l_FN_put : zmL i_FN_put = 3 := rfl
theorem r_FN_put : zmR i_FN_put = none := rfl
theorem o_FN_put : zmO i_FN_put = 10 := rfl
theorem k_FN_swap_0 : zblk i_FN_swap 0 = [(.aload 0, 0, 0), (.iload 1, 0, 0), (.invokestatic 0, 105, 0), (.istore 3, 0, 0), (.aload 0, 0, 0), (.iload 1, 0, 0), (.iload 2, 0, 0), (.invokestatic 0, 106, 0), (.iload 3, 0, 0), (.ireturn, 0, 0)] := rfl
theorem a_FN_swap : zmA i_FN_swap = 3 := rfl
theorem l_FN_swap : zmL i_FN_swap = 4 := rfl
theorem r_FN_swap : zmR i_FN_swap = some .int := rfl
theorem o_FN_swap : zmO i_FN_swap = 10 := rfl
theorem k_FN_has_0 : zblk i_FN_has 0 = [(.iload 0, 0, 0), (.iload 1, 0, 0), (.ishr, 0, 0), (.iconst (1), 0, 0), (.iand, 0, 0), (.ifCond .eq 0, 2, 0), (.goto_w 0, 1, 0)] := rfl
theorem k_FN_has_1 : zblk i_FN_has 1 = [(.iconst (1), 0, 0), (.goto 0, 3, 0)] := rfl
theorem k_FN_has_2 : zblk i_FN_has 2 = [(.iconst (0), 0, 0), (.goto_w 0, 3, 0)] := rfl
theorem k_FN_has_3 : zblk i_FN_has 3 = [(.ireturn, 0, 0)] := rfl
theorem a_FN_has : zmA i_FN_has = 2 := rfl
theorem l_FN_has : zmL i_FN_has = 2 := rfl
theorem r_FN_has : zmR i_FN_has = some .boolean := rfl
theorem o_FN_has : zmO i_FN_has = 10 := rfl
theorem k_FN_over_0 : zblk i_FN_over 0 = [(.iload 1, 0, 0), (.iconst (1), 0, 0), (.if_icmp .ge 0, 2, 0), (.goto_w 0, 1, 0)] := rfl
theorem k_FN_over_1 : zblk i_FN_over 1 = [(.iconst (0), 0, 0), (.goto 0, 3, 0)] := rfl
theorem k_FN_over_2 : zblk i_FN_over 2 = [(.iload 0, 0, 0), (.iload 1, 0, 0), (.idiv, 0, 0), (.goto_w 0, 3, 0)] := rfl
theorem k_FN_over_3 : zblk i_FN_over 3 = [(.ireturn, 0, 0)] := rfl
theorem a_FN_over : zmA i_FN_over = 2 := rfl
theorem l_FN_over : zmL i_FN_over = 2 := rfl
theorem r_FN_over : zmR i_FN_over = some .int := rfl
theorem o_FN_over : zmO i_FN_over = 10 := rfl
theorem k_FN_rest_0 : zblk i_FN_rest 0 = [(.iload 1, 0, 0), (.iconst (1), 0, 0), (.if_icmp .ge 0, 2, 0), (.goto_w 0, 1, 0)] := rfl
theorem k_FN_rest_1 : zblk i_FN_rest 1 = [(.iconst (0), 0, 0), (.goto 0, 3, 0)] := rfl
theorem k_FN_rest_2 : zblk i_FN_rest 2 = [(.iload 0, 0, 0), (.iload 1, 0, 0), (.irem, 0, 0), (.goto_w 0, 3, 0)] := rfl
theorem k_FN_rest_3 : zblk i_FN_rest 3 = [(.ireturn, 0, 0)] := rfl
theorem a_FN_rest : zmA i_FN_rest = 2 := rfl
theorem l_FN_rest : zmL i_FN_rest = 2 := rfl
theorem r_FN_rest : zmR i_FN_rest = some .int := rfl
theorem o_FN_rest : zmO i_FN_rest = 10 := rfl
theorem k_JA_fill_0 : zblk i_JA_fill 0 = [(.iconst (0), 0, 0), (.istore 2, 0, 0), (.aload 0, 0, 0), (.arraylength, 0, 0), (.istore 3, 0, 0), (.goto_w 0, 1, 0)] := rfl
theorem k_JA_fill_1 : zblk i_JA_fill 1 = [(.iload 2, 0, 0), (.iload 3, 0, 0), (.if_icmp .ge 0, 3, 0), (.goto_w 0, 2, 0)] := rfl
theorem k_JA_fill_2 : zblk i_JA_fill 2 = [(.aload 0, 0, 0), (.iload 2, 0, 0), (.iload 1, 0, 0), (.iastore, 0, 0), (.iinc 2 (1), 0, 0), (.goto 0, 1, 0)] := rfl
theorem k_JA_fill_3 : zblk i_JA_fill 3 = [(.return_, 0, 0)] := rfl
theorem a_JA_fill : zmA i_JA_fill = 2 := rfl
theorem l_JA_fill : zmL i_JA_fill = 4 := rfl
theorem r_JA_fill : zmR i_JA_fill = none := rfl
theorem o_JA_fill : zmO i_JA_fill = 14 := rfl
theorem k_LW_cell_0 : zblk i_LW_cell 0 = [(.iload 1, 0, 0), (.aload 0, 0, 0), (.arraylength, 0, 0), (.if_icmp .ge 0, 2, 0), (.goto_w 0, 1, 0)] := rfl
theorem k_LW_cell_1 : zblk i_LW_cell 1 = [(.aload 0, 0, 0), (.iload 1, 0, 0), (.iaload, 0, 0), (.goto 0, 3, 0)] := rfl
theorem k_LW_cell_2 : zblk i_LW_cell 2 = [(.iconst (15485957), 0, 0), (.iload 1, 0, 0), (.imul, 0, 0), (.iconst (107), 0, 0), (.iadd, 0, 0), (.goto_w 0, 3, 0)] := rfl
theorem k_LW_cell_3 : zblk i_LW_cell 3 = [(.iconst (2147483647), 0, 0), (.iand, 0, 0), (.ireturn, 0, 0)] := rfl
theorem a_LW_cell : zmA i_LW_cell = 2 := rfl
theorem l_LW_cell : zmL i_LW_cell = 2 := rfl
theorem r_LW_cell : zmR i_LW_cell = some .int := rfl
theorem o_LW_cell : zmO i_LW_cell = 12 := rfl
theorem k_LW_lays_0 : zblk i_LW_lays 0 = [(.iconst (2), 0, 0), (.aload 1, 0, 0), (.iconst (0), 0, 0), (.invokestatic 0, 112, 0), (.iconst (7), 0, 0), (.irem, 0, 0), (.iadd, 0, 0), (.istore 2, 0, 0), (.iconst (1), 0, 0), (.aload 1, 0, 0), (.iconst (0), 0, 0), (.invokestatic 0, 112, 0), (.iconst (4), 0, 0), (.ishr, 0, 0), (.iconst (3), 0, 0), (.irem, 0, 0), (.iadd, 0, 0), (.istore 3, 0, 0), (.aload 0, 0, 0), (.iload 2, 0, 0), (.iload 3, 0, 0), (.invokevirtual 0, 87, 0), (.istore 4, 0, 0), (.iconst (0), 0, 0), (.istore 5, 0, 0), (.goto_w 0, 1, 0)] := rfl
theorem k_LW_lays_1 : zblk i_LW_lays 1 = [(.iload 5, 0, 0), (.iload 2, 0, 0), (.if_icmp .ge 0, 9, 0), (.goto_w 0, 2, 0)] := rfl
theorem k_LW_lays_2 : zblk i_LW_lays 2 = [(.iconst (0), 0, 0), (.istore 6, 0, 0), (.goto_w 0, 3, 0)] := rfl
theorem k_LW_lays_3 : zblk i_LW_lays 3 = [(.iload 6, 0, 0), (.iload 3, 0, 0), (.if_icmp .ge 0, 5, 0), (.goto_w 0, 4, 0)] := rfl
theorem k_LW_lays_4 : zblk i_LW_lays 4 = [(.aload 0, 0, 0), (.iload 5, 0, 0), (.iload 6, 0, 0), (.iconst (1), 0, 0), (.aload 1, 0, 0), (.iconst (1), 0, 0), (.iload 5, 0, 0), (.iadd, 0, 0), (.invokestatic 0, 112, 0), (.iconst (2), 0, 0), (.iload 6, 0, 0), (.imul, 0, 0), (.ishr, 0, 0), (.iconst (3), 0, 0), (.irem, 0, 0), (.iadd, 0, 0), (.invokevirtual 0, 88, 0), (.istore 4, 0, 0), (.iinc 6 (1), 0, 0), (.goto 0, 3, 0)] := rfl
theorem k_LW_lays_5 : zblk i_LW_lays 5 = [(.aload 0, 0, 0), (.iload 5, 0, 0), (.aload 1, 0, 0), (.iconst (1), 0, 0), (.iload 5, 0, 0), (.iadd, 0, 0), (.invokestatic 0, 112, 0), (.iconst (8), 0, 0), (.ishr, 0, 0), (.iconst (15), 0, 0), (.iand, 0, 0), (.invokevirtual 0, 91, 0), (.istore 4, 0, 0), (.aload 0, 0, 0), (.iload 5, 0, 0), (.iconst (1), 0, 0), (.iload 3, 0, 0), (.ishl, 0, 0), (.iconst (1), 0, 0), (.isub, 0, 0), (.invokevirtual 0, 89, 0), (.istore 6, 0, 0), (.iconst (0), 0, 0), (.istore 7, 0, 0), (.goto_w 0, 6, 0)] := rfl
theorem k_LW_lays_6 : zblk i_LW_lays 6 = [(.iload 7, 0, 0), (.iload 6, 0, 0), (.if_icmp .ge 0, 8, 0), (.goto_w 0, 7, 0)] := rfl
theorem k_LW_lays_7 : zblk i_LW_lays 7 = [(.aload 0, 0, 0), (.iload 5, 0, 0), (.iload 7, 0, 0), (.aload 1, 0, 0), (.iconst (1), 0, 0), (.iload 5, 0, 0), (.iadd, 0, 0), (.invokestatic 0, 112, 0), (.iload 7, 0, 0), (.iconst (20), 0, 0), (.irem, 0, 0), (.ishr, 0, 0), (.iconst (13), 0, 0), (.irem, 0, 0), (.iload 7, 0, 0), (.iconst (3), 0, 0), (.iadd, 0, 0), (.imul, 0, 0), (.iload 2, 0, 0), (.irem, 0, 0), (.invokevirtual 0, 90, 0), (.istore 4, 0, 0), (.iinc 7 (1), 0, 0), (.goto 0, 6, 0)] := rfl
theorem k_LW_lays_8 : zblk i_LW_lays 8 = [(.iinc 5 (1), 0, 0), (.goto 0, 1, 0)] := rfl
theorem k_LW_lays_9 : zblk i_LW_lays 9 = [(.return_, 0, 0)] := rfl
theorem a_LW_lays : zmA i_LW_lays = 2 := rfl
theorem l_LW_lays : zmL i_LW_lays = 8 := rfl
theorem r_LW_lays : zmR i_LW_lays = none := rfl
theorem o_LW_lays : zmO i_LW_lays = 12 := rfl
theorem k_LW_statesOf_0 : zblk i_LW_statesOf 0 = [(.iconst (2), 0, 0), (.aload 0, 0, 0), (.iconst (0), 0, 0), (.invokestatic 0, 112, 0), (.iconst (7), 0, 0), (.irem, 0, 0), (.iadd, 0, 0), (.ireturn, 0, 0)] := rfl
theorem a_LW_statesOf : zmA i_LW_statesOf = 1 := rfl
theorem l_LW_statesOf : zmL i_LW_statesOf = 1 := rfl
theorem r_LW_statesOf : zmR i_LW_statesOf = some .int := rfl
theorem o_LW_statesOf : zmO i_LW_statesOf = 12 := rfl
theorem k_LW_playersOf_0 : zblk i_LW_playersOf 0 = [(.iconst (1), 0, 0), (.aload 0, 0, 0), (.iconst (0), 0, 0), (.invokestatic 0, 112, 0), (.iconst (4), 0, 0), (.ishr, 0, 0), (.iconst (3), 0, 0), (.irem, 0, 0), (.iadd, 0, 0), (.ireturn, 0, 0)] := rfl
theorem a_LW_playersOf : zmA i_LW_playersOf = 1 := rfl
theorem l_LW_playersOf : zmL i_LW_playersOf = 1 := rfl
theorem r_LW_playersOf : zmR i_LW_playersOf = some .int := rfl
theorem o_LW_playersOf : zmO i_LW_playersOf = 12 := rfl
theorem k_LW_group_0 : zblk i_LW_group 0 = [(.aload 0, 0, 0), (.sipush (60), 0, 0), (.iconst (1), 0, 0), (.invokevirtual 0, 93, 0), (.ifCond .le 0, 2, 0), (.goto_w 0, 1, 0)] := rfl
theorem k_LW_group_1 : zblk i_LW_group 1 = [(.iconst (1), 0, 0), (.goto 0, 3, 0)] := rfl
theorem k_LW_group_2 : zblk i_LW_group 2 = [(.iconst (0), 0, 0), (.goto_w 0, 3, 0)] := rfl
theorem k_LW_group_3 : zblk i_LW_group 3 = [(.istore 2, 0, 0), (.iconst (0), 0, 0), (.istore 3, 0, 0), (.goto_w 0, 4, 0)] := rfl
theorem k_LW_group_4 : zblk i_LW_group 4 = [(.iload 3, 0, 0), (.iconst (4), 0, 0), (.if_icmp .ge 0, 11, 0), (.goto_w 0, 5, 0)] := rfl
theorem k_LW_group_5 : zblk i_LW_group 5 = [(.iload 2, 0, 0), (.ifCond .eq 0, 9, 0), (.goto_w 0, 6, 0)] := rfl
theorem k_LW_group_6 : zblk i_LW_group 6 = [(.iload 1, 0, 0), (.iload 3, 0, 0), (.ishr, 0, 0), (.iconst (1), 0, 0), (.iand, 0, 0), (.ifCond .eq 0, 8, 0), (.goto_w 0, 7, 0)] := rfl
theorem k_LW_group_7 : zblk i_LW_group 7 = [(.aload 0, 0, 0), (.sipush (48), 0, 0), (.iload 3, 0, 0), (.i2l, 0, 0), (.ladd, 0, 0), (.iconst (1), 0, 0), (.invokevirtual 0, 93, 0), (.ifCond .le 0, 9, 0), (.goto_w 0, 8, 0)] := rfl
theorem k_LW_group_8 : zblk i_LW_group 8 = [(.iconst (1), 0, 0), (.goto 0, 10, 0)] := rfl
theorem k_LW_group_9 : zblk i_LW_group 9 = [(.iconst (0), 0, 0), (.goto_w 0, 10, 0)] := rfl
theorem k_LW_group_10 : zblk i_LW_group 10 = [(.istore 2, 0, 0), (.iinc 3 (1), 0, 0), (.goto 0, 4, 0)] := rfl
theorem k_LW_group_11 : zblk i_LW_group 11 = [(.iload 2, 0, 0), (.ifCond .eq 0, 14, 0), (.goto_w 0, 12, 0)] := rfl
theorem k_LW_group_12 : zblk i_LW_group 12 = [(.aload 0, 0, 0), (.sipush (62), 0, 0), (.iconst (1), 0, 0), (.invokevirtual 0, 93, 0), (.ifCond .le 0, 14, 0), (.goto_w 0, 13, 0)] := rfl
theorem k_LW_group_13 : zblk i_LW_group 13 = [(.iconst (1), 0, 0), (.goto 0, 15, 0)] := rfl
theorem k_LW_group_14 : zblk i_LW_group 14 = [(.iconst (0), 0, 0), (.goto_w 0, 15, 0)] := rfl
theorem k_LW_group_15 : zblk i_LW_group 15 = [(.ireturn, 0, 0)] := rfl
theorem a_LW_group : zmA i_LW_group = 2 := rfl
theorem l_LW_group : zmL i_LW_group = 4 := rfl
theorem r_LW_group : zmR i_LW_group = some .boolean := rfl
theorem o_LW_group : zmO i_LW_group = 12 := rfl
theorem k_LW_outermost_0 : zblk i_LW_outermost 0 = [(.aload 0, 0, 0), (.iload 1, 0, 0), (.invokestatic 0, 116, 0), (.istore 3, 0, 0), (.iload 3, 0, 0), (.ifCond .eq 0, 17, 0), (.goto_w 0, 1, 0)] := rfl
theorem k_LW_outermost_1 : zblk i_LW_outermost 1 = [(.iload 2, 0, 0), (.iconst (4), 0, 0), (.if_icmp .ne 0, 4, 0), (.goto_w 0, 2, 0)] := rfl
theorem k_LW_outermost_2 : zblk i_LW_outermost 2 = [(.aload 0, 0, 0), (.sipush (173431677481), 0, 0), (.iconst (5), 0, 0), (.invokevirtual 0, 93, 0), (.ifCond .le 0, 17, 0), (.goto_w 0, 3, 0)] := rfl
theorem k_LW_outermost_3 : zblk i_LW_outermost 3 = [(.goto 0, 12, 0)] := rfl
theorem k_LW_outermost_4 : zblk i_LW_outermost 4 = [(.aload 0, 0, 0), (.iload 2, 0, 0), (.ifCond .ne 0, 6, 0), (.goto_w 0, 5, 0)] := rfl
theorem k_LW_outermost_5 : zblk i_LW_outermost 5 = [(.sipush (22625), 0, 0), (.goto 0, 11, 0)] := rfl
theorem k_LW_outermost_6 : zblk i_LW_outermost 6 = [(.iload 2, 0, 0), (.iconst (1), 0, 0), (.if_icmp .ne 0, 8, 0), (.goto_w 0, 7, 0)] := rfl
theorem k_LW_outermost_7 : zblk i_LW_outermost 7 = [(.sipush (18273), 0, 0), (.goto 0, 11, 0)] := rfl
theorem k_LW_outermost_8 : zblk i_LW_outermost 8 = [(.iload 2, 0, 0), (.iconst (2), 0, 0), (.if_icmp .ne 0, 10, 0), (.goto_w 0, 9, 0)] := rfl
theorem k_LW_outermost_9 : zblk i_LW_outermost 9 = [(.sipush (18017), 0, 0), (.goto 0, 11, 0)] := rfl
theorem k_LW_outermost_10 : zblk i_LW_outermost 10 = [(.sipush (18785), 0, 0), (.goto_w 0, 11, 0)] := rfl
theorem k_LW_outermost_11 : zblk i_LW_outermost 11 = [(.iconst (2), 0, 0), (.invokevirtual 0, 93, 0), (.ifCond .le 0, 17, 0), (.goto_w 0, 12, 0)] := rfl
theorem k_LW_outermost_12 : zblk i_LW_outermost 12 = [(.aload 0, 0, 0), (.invokevirtual 0, 94, 0), (.iload 2, 0, 0), (.iconst (4), 0, 0), (.if_icmp .ne 0, 14, 0), (.goto_w 0, 13, 0)] := rfl
theorem k_LW_outermost_13 : zblk i_LW_outermost 13 = [(.iconst (3), 0, 0), (.goto 0, 15, 0)] := rfl
theorem k_LW_outermost_14 : zblk i_LW_outermost 14 = [(.iconst (2), 0, 0), (.goto_w 0, 15, 0)] := rfl
theorem k_LW_outermost_15 : zblk i_LW_outermost 15 = [(.if_icmp .ne 0, 17, 0), (.goto_w 0, 16, 0)] := rfl
theorem k_LW_outermost_16 : zblk i_LW_outermost 16 = [(.iconst (1), 0, 0), (.goto 0, 18, 0)] := rfl
theorem k_LW_outermost_17 : zblk i_LW_outermost 17 = [(.iconst (0), 0, 0), (.goto_w 0, 18, 0)] := rfl
theorem k_LW_outermost_18 : zblk i_LW_outermost 18 = [(.ireturn, 0, 0)] := rfl
theorem a_LW_outermost : zmA i_LW_outermost = 3 := rfl
theorem l_LW_outermost : zmL i_LW_outermost = 4 := rfl
theorem r_LW_outermost : zmR i_LW_outermost = some .boolean := rfl
theorem o_LW_outermost : zmO i_LW_outermost = 12 := rfl
theorem k_LW_law_0 : zblk i_LW_law 0 = [(.new 0, 10, 0), (.dup, 0, 0), (.invokevirtual 0, 86, 0), (.astore 1, 0, 0), (.aload 1, 0, 0), (.aload 0, 0, 0), (.invokestatic 0, 113, 0), (.aload 0, 0, 0), (.invokestatic 0, 114, 0), (.istore 2, 0, 0), (.aload 0, 0, 0), (.invokestatic 0, 115, 0), (.istore 3, 0, 0), (.aload 0, 0, 0), (.iconst (9), 0, 0), (.invokestatic 0, 112, 0), (.iconst (3), 0, 0), (.ishr, 0, 0), (.iconst (1), 0, 0), (.iload 3, 0, 0), (.ishl, 0, 0), (.iconst (1), 0, 0), (.isub, 0, 0), (.iand, 0, 0), (.istore 4, 0, 0), (.aload 0, 0, 0), (.iconst (10), 0, 0), (.invokestatic 0, 112, 0), (.iconst (5), 0, 0), (.irem, 0, 0), (.istore 5, 0, 0), (.aload 1, 0, 0), (.iload 4, 0, 0), (.iload 5, 0, 0), (.invokestatic 0, 117, 0), (.ifCond .eq 0, 3, 0), (.goto_w 0, 1, 0)] := rfl
theorem k_LW_law_1 : zblk i_LW_law 1 = [(.aload 1, 0, 0), (.iconst (1), 0, 0), (.iconst (1), 0, 0), (.iconst (40), 0, 0), (.invokevirtual 0, 103, 0), (.iconst (40), 0, 0), (.if_icmp .ne 0, 3, 0), (.goto_w 0, 2, 0)] := rfl
theorem k_LW_law_2 : zblk i_LW_law 2 = [(.iconst (1), 0, 0), (.goto 0, 4, 0)] := rfl
theorem k_LW_law_3 : zblk i_LW_law 3 = [(.iconst (0), 0, 0), (.goto_w 0, 4, 0)] := rfl
theorem k_LW_law_4 : zblk i_LW_law 4 = [(.istore 6, 0, 0), (.iconst (0), 0, 0), (.istore 7, 0, 0), (.goto_w 0, 5, 0)] := rfl
theorem k_LW_law_5 : zblk i_LW_law 5 = [(.iload 7, 0, 0), (.iload 2, 0, 0), (.if_icmp .ge 0, 18, 0), (.goto_w 0, 6, 0)] := rfl
theorem k_LW_law_6 : zblk i_LW_law 6 = [(.iload 6, 0, 0), (.ifCond .eq 0, 18, 0), (.goto_w 0, 7, 0)] := rfl
theorem k_LW_law_7 : zblk i_LW_law 7 = [(.iconst (0), 0, 0), (.istore 8, 0, 0), (.goto_w 0, 8, 0)] := rfl
theorem k_LW_law_8 : zblk i_LW_law 8 = [(.iload 8, 0, 0), (.iload 3, 0, 0), (.if_icmp .ge 0, 17, 0), (.goto_w 0, 9, 0)] := rfl
theorem k_LW_law_9 : zblk i_LW_law 9 = [(.iconst (0), 0, 0), (.istore 9, 0, 0), (.goto_w 0, 10, 0)] := rfl
theorem k_LW_law_10 : zblk i_LW_law 10 = [(.iload 9, 0, 0), (.aload 1, 0, 0), (.iload 7, 0, 0), (.iconst (1), 0, 0), (.iload 8, 0, 0), (.ishl, 0, 0), (.invokevirtual 0, 89, 0), (.if_icmp .ge 0, 16, 0), (.goto_w 0, 11, 0)] := rfl
theorem k_LW_law_11 : zblk i_LW_law 11 = [(.iload 6, 0, 0), (.ifCond .eq 0, 14, 0), (.goto_w 0, 12, 0)] := rfl
theorem k_LW_law_12 : zblk i_LW_law 12 = [(.aload 1, 0, 0), (.iload 7, 0, 0), (.iload 8, 0, 0), (.iload 9, 0, 0), (.aload 0, 0, 0), (.iconst (11), 0, 0), (.iload 7, 0, 0), (.iadd, 0, 0), (.invokestatic 0, 112, 0), (.iconst (3), 0, 0), (.iload 8, 0, 0), (.iload 9, 0, 0), (.iadd, 0, 0), (.imul, 0, 0), (.ishr, 0, 0), (.iconst (10), 0, 0), (.irem, 0, 0), (.invokevirtual 0, 92, 0), (.ifCond .ne 0, 14, 0), (.goto_w 0, 13, 0)] := rfl
theorem k_LW_law_13 : zblk i_LW_law 13 = [(.iconst (1), 0, 0), (.goto 0, 15, 0)] := rfl
theorem k_LW_law_14 : zblk i_LW_law 14 = [(.iconst (0), 0, 0), (.goto_w 0, 15, 0)] := rfl
theorem k_LW_law_15 : zblk i_LW_law 15 = [(.istore 6, 0, 0), (.iinc 9 (1), 0, 0), (.goto 0, 10, 0)] := rfl
theorem k_LW_law_16 : zblk i_LW_law 16 = [(.iinc 8 (1), 0, 0), (.goto 0, 8, 0)] := rfl
theorem k_LW_law_17 : zblk i_LW_law 17 = [(.iinc 7 (1), 0, 0), (.goto 0, 5, 0)] := rfl
theorem k_LW_law_18 : zblk i_LW_law 18 = [(.iconst (0), 0, 0), (.istore 7, 0, 0), (.goto_w 0, 19, 0)] := rfl
theorem k_LW_law_19 : zblk i_LW_law 19 = [(.iload 7, 0, 0), (.iconst (40), 0, 0), (.if_icmp .ge 0, 25, 0), (.goto_w 0, 20, 0)] := rfl
theorem k_LW_law_20 : zblk i_LW_law 20 = [(.iload 6, 0, 0), (.ifCond .eq 0, 25, 0), (.goto_w 0, 21, 0)] := rfl
theorem k_LW_law_21 : zblk i_LW_law 21 = [(.aload 1, 0, 0), (.iconst (1), 0, 0), (.iconst (1), 0, 0), (.iload 7, 0, 0), (.aload 0, 0, 0), (.iconst (20), 0, 0), (.iload 7, 0, 0), (.iconst (10), 0, 0), (.irem, 0, 0), (.iadd, 0, 0), (.invokestatic 0, 112, 0), (.iload 7, 0, 0), (.iconst (10), 0, 0), (.idiv, 0, 0), (.ishr, 0, 0), (.invokevirtual 0, 104, 0), (.iconst (1), 0, 0), (.if_icmp .ne 0, 23, 0), (.goto_w 0, 22, 0)] := rfl
theorem k_LW_law_22 : zblk i_LW_law 22 = [(.iconst (1), 0, 0), (.goto 0, 24, 0)] := rfl
theorem k_LW_law_23 : zblk i_LW_law 23 = [(.iconst (0), 0, 0), (.goto_w 0, 24, 0)] := rfl
theorem k_LW_law_24 : zblk i_LW_law 24 = [(.istore 6, 0, 0), (.iinc 7 (1), 0, 0), (.goto 0, 19, 0)] := rfl
theorem k_LW_law_25 : zblk i_LW_law 25 = [(.aload 1, 0, 0), (.invokevirtual 0, 95, 0), (.istore 7, 0, 0), (.aload 1, 0, 0), (.iconst (1), 0, 0), (.invokevirtual 0, 96, 0), (.istore 8, 0, 0), (.iload 5, 0, 0), (.iconst (4), 0, 0), (.if_icmp .ne 0, 27, 0), (.goto_w 0, 26, 0)] := rfl
theorem k_LW_law_26 : zblk i_LW_law 26 = [(.aload 1, 0, 0), (.iconst (2), 0, 0), (.invokevirtual 0, 96, 0), (.goto 0, 28, 0)] := rfl
theorem k_LW_law_27 : zblk i_LW_law 27 = [(.iload 8, 0, 0), (.goto_w 0, 28, 0)] := rfl
theorem k_LW_law_28 : zblk i_LW_law 28 = [(.istore 9, 0, 0), (.iconst (0), 0, 0), (.istore 10, 0, 0), (.goto_w 0, 29, 0)] := rfl
theorem k_LW_law_29 : zblk i_LW_law 29 = [(.iload 10, 0, 0), (.iload 2, 0, 0), (.if_icmp .ge 0, 113, 0), (.goto_w 0, 30, 0)] := rfl
theorem k_LW_law_30 : zblk i_LW_law 30 = [(.iload 6, 0, 0), (.ifCond .eq 0, 113, 0), (.goto_w 0, 31, 0)] := rfl
theorem k_LW_law_31 : zblk i_LW_law 31 = [(.aload 1, 0, 0), (.iload 10, 0, 0), (.iconst (1), 0, 0), (.iconst (1), 0, 0), (.iconst (0), 0, 0), (.iconst (40), 0, 0), (.invokevirtual 0, 101, 0), (.istore 11, 0, 0), (.iload 11, 0, 0), (.ifCond .lt 0, 37, 0), (.goto_w 0, 32, 0)] := rfl
theorem k_LW_law_32 : zblk i_LW_law 32 = [(.iload 11, 0, 0), (.iload 2, 0, 0), (.if_icmp .ge 0, 37, 0), (.goto_w 0, 33, 0)] := rfl
theorem k_LW_law_33 : zblk i_LW_law 33 = [(.aload 1, 0, 0), (.iconst (0), 0, 0), (.invokevirtual 0, 102, 0), (.iload 10, 0, 0), (.if_icmp .ne 0, 37, 0), (.goto_w 0, 34, 0)] := rfl
theorem k_LW_law_34 : zblk i_LW_law 34 = [(.aload 1, 0, 0), (.iconst (40), 0, 0), (.invokevirtual 0, 102, 0), (.iload 11, 0, 0), (.if_icmp .ne 0, 37, 0), (.goto_w 0, 35, 0)] := rfl
theorem k_LW_law_35 : zblk i_LW_law 35 = [(.aload 1, 0, 0), (.iconst (41), 0, 0), (.invokevirtual 0, 102, 0), (.iconst (-1), 0, 0), (.if_icmp .ne 0, 37, 0), (.goto_w 0, 36, 0)] := rfl
theorem k_LW_law_36 : zblk i_LW_law 36 = [(.iconst (1), 0, 0), (.goto 0, 38, 0)] := rfl
theorem k_LW_law_37 : zblk i_LW_law 37 = [(.iconst (0), 0, 0), (.goto_w 0, 38, 0)] := rfl
theorem k_LW_law_38 : zblk i_LW_law 38 = [(.istore 6, 0, 0), (.iload 7, 0, 0), (.iload 10, 0, 0), (.ishr, 0, 0), (.iconst (1), 0, 0), (.iand, 0, 0), (.iconst (1), 0, 0), (.if_icmp .ne 0, 40, 0), (.goto_w 0, 39, 0)] := rfl
theorem k_LW_law_39 : zblk i_LW_law 39 = [(.iconst (1), 0, 0), (.goto 0, 41, 0)] := rfl
theorem k_LW_law_40 : zblk i_LW_law 40 = [(.iconst (0), 0, 0), (.goto_w 0, 41, 0)] := rfl
theorem k_LW_law_41 : zblk i_LW_law 41 = [(.istore 12, 0, 0), (.iload 12, 0, 0), (.ifCond .ne 0, 59, 0), (.goto_w 0, 42, 0)] := rfl
theorem k_LW_law_42 : zblk i_LW_law 42 = [(.iconst (0), 0, 0), (.istore 13, 0, 0), (.goto_w 0, 43, 0)] := rfl
theorem k_LW_law_43 : zblk i_LW_law 43 = [(.iload 13, 0, 0), (.aload 1, 0, 0), (.iload 10, 0, 0), (.iload 4, 0, 0), (.invokevirtual 0, 89, 0), (.if_icmp .ge 0, 54, 0), (.goto_w 0, 44, 0)] := rfl
theorem k_LW_law_44 : zblk i_LW_law 44 = [(.iload 6, 0, 0), (.ifCond .eq 0, 54, 0), (.goto_w 0, 45, 0)] := rfl
theorem k_LW_law_45 : zblk i_LW_law 45 = [(.iload 5, 0, 0), (.iconst (1), 0, 0), (.if_icmp .ne 0, 47, 0), (.goto_w 0, 46, 0)] := rfl
theorem k_LW_law_46 : zblk i_LW_law 46 = [(.iload 8, 0, 0), (.iload 10, 0, 0), (.ishr, 0, 0), (.iconst (1), 0, 0), (.iand, 0, 0), (.ifCond .eq 0, 51, 0), (.goto_w 0, 47, 0)] := rfl
theorem k_LW_law_47 : zblk i_LW_law 47 = [(.aload 1, 0, 0), (.iload 10, 0, 0), (.iload 13, 0, 0), (.invokevirtual 0, 99, 0), (.ifCond .ge 0, 51, 0), (.goto_w 0, 48, 0)] := rfl
theorem k_LW_law_48 : zblk i_LW_law 48 = [(.iload 5, 0, 0), (.iconst (4), 0, 0), (.if_icmp .ne 0, 50, 0), (.goto_w 0, 49, 0)] := rfl
theorem k_LW_law_49 : zblk i_LW_law 49 = [(.iload 8, 0, 0), (.iload 10, 0, 0), (.ishr, 0, 0), (.iconst (1), 0, 0), (.iand, 0, 0), (.ifCond .eq 0, 51, 0), (.goto_w 0, 50, 0)] := rfl
theorem k_LW_law_50 : zblk i_LW_law 50 = [(.iload 5, 0, 0), (.iconst (3), 0, 0), (.if_icmp .ne 0, 52, 0), (.goto_w 0, 51, 0)] := rfl
theorem k_LW_law_51 : zblk i_LW_law 51 = [(.iconst (1), 0, 0), (.goto 0, 53, 0)] := rfl
theorem k_LW_law_52 : zblk i_LW_law 52 = [(.iconst (0), 0, 0), (.goto_w 0, 53, 0)] := rfl
theorem k_LW_law_53 : zblk i_LW_law 53 = [(.istore 6, 0, 0), (.iinc 13 (1), 0, 0), (.goto 0, 43, 0)] := rfl
theorem k_LW_law_54 : zblk i_LW_law 54 = [(.iload 6, 0, 0), (.ifCond .eq 0, 57, 0), (.goto_w 0, 55, 0)] := rfl
theorem k_LW_law_55 : zblk i_LW_law 55 = [(.aload 1, 0, 0), (.iload 10, 0, 0), (.invokevirtual 0, 98, 0), (.iconst (-4), 0, 0), (.if_icmp .ne 0, 57, 0), (.goto_w 0, 56, 0)] := rfl
theorem k_LW_law_56 : zblk i_LW_law 56 = [(.iconst (1), 0, 0), (.goto 0, 58, 0)] := rfl
theorem k_LW_law_57 : zblk i_LW_law 57 = [(.iconst (0), 0, 0), (.goto_w 0, 58, 0)] := rfl
theorem k_LW_law_58 : zblk i_LW_law 58 = [(.istore 6, 0, 0), (.goto 0, 112, 0)] := rfl
theorem k_LW_law_59 : zblk i_LW_law 59 = [(.iload 5, 0, 0), (.ifCond .ne 0, 65, 0), (.goto_w 0, 60, 0)] := rfl
theorem k_LW_law_60 : zblk i_LW_law 60 = [(.iload 8, 0, 0), (.aload 1, 0, 0), (.iconst (1), 0, 0), (.invokevirtual 0, 102, 0), (.ishr, 0, 0), (.iconst (1), 0, 0), (.iand, 0, 0), (.iconst (1), 0, 0), (.if_icmp .ne 0, 63, 0), (.goto_w 0, 61, 0)] := rfl
theorem k_LW_law_61 : zblk i_LW_law 61 = [(.aload 1, 0, 0), (.iload 10, 0, 0), (.invokevirtual 0, 97, 0), (.iconst (-2), 0, 0), (.if_icmp .ne 0, 63, 0), (.goto_w 0, 62, 0)] := rfl
theorem k_LW_law_62 : zblk i_LW_law 62 = [(.iconst (1), 0, 0), (.goto 0, 64, 0)] := rfl
theorem k_LW_law_63 : zblk i_LW_law 63 = [(.iconst (0), 0, 0), (.goto_w 0, 64, 0)] := rfl
theorem k_LW_law_64 : zblk i_LW_law 64 = [(.istore 6, 0, 0), (.goto 0, 112, 0)] := rfl
theorem k_LW_law_65 : zblk i_LW_law 65 = [(.iload 5, 0, 0), (.iconst (1), 0, 0), (.if_icmp .ne 0, 74, 0), (.goto_w 0, 66, 0)] := rfl
theorem k_LW_law_66 : zblk i_LW_law 66 = [(.iconst (0), 0, 0), (.istore 13, 0, 0), (.goto_w 0, 67, 0)] := rfl
theorem k_LW_law_67 : zblk i_LW_law 67 = [(.iload 13, 0, 0), (.iconst (40), 0, 0), (.if_icmp .gt 0, 73, 0), (.goto_w 0, 68, 0)] := rfl
theorem k_LW_law_68 : zblk i_LW_law 68 = [(.iload 6, 0, 0), (.ifCond .eq 0, 73, 0), (.goto_w 0, 69, 0)] := rfl
theorem k_LW_law_69 : zblk i_LW_law 69 = [(.iload 8, 0, 0), (.aload 1, 0, 0), (.iload 13, 0, 0), (.invokevirtual 0, 102, 0), (.ishr, 0, 0), (.iload 7, 0, 0), (.aload 1, 0, 0), (.iload 13, 0, 0), (.invokevirtual 0, 102, 0), (.ishr, 0, 0), (.iand, 0, 0), (.iconst (1), 0, 0), (.iand, 0, 0), (.iconst (1), 0, 0), (.if_icmp .ne 0, 71, 0), (.goto_w 0, 70, 0)] := rfl
theorem k_LW_law_70 : zblk i_LW_law 70 = [(.iconst (1), 0, 0), (.goto 0, 72, 0)] := rfl
theorem k_LW_law_71 : zblk i_LW_law 71 = [(.iconst (0), 0, 0), (.goto_w 0, 72, 0)] := rfl
theorem k_LW_law_72 : zblk i_LW_law 72 = [(.istore 6, 0, 0), (.iinc 13 (1), 0, 0), (.goto 0, 67, 0)] := rfl
theorem k_LW_law_73 : zblk i_LW_law 73 = [(.goto 0, 112, 0)] := rfl
theorem k_LW_law_74 : zblk i_LW_law 74 = [(.iload 5, 0, 0), (.iconst (3), 0, 0), (.if_icmp .ne 0, 90, 0), (.goto_w 0, 75, 0)] := rfl
theorem k_LW_law_75 : zblk i_LW_law 75 = [(.iconst (0), 0, 0), (.istore 13, 0, 0), (.iconst (0), 0, 0), (.istore 14, 0, 0), (.goto_w 0, 76, 0)] := rfl
theorem k_LW_law_76 : zblk i_LW_law 76 = [(.iload 14, 0, 0), (.iconst (40), 0, 0), (.if_icmp .gt 0, 89, 0), (.goto_w 0, 77, 0)] := rfl
theorem k_LW_law_77 : zblk i_LW_law 77 = [(.iload 6, 0, 0), (.ifCond .eq 0, 89, 0), (.goto_w 0, 78, 0)] := rfl
theorem k_LW_law_78 : zblk i_LW_law 78 = [(.aload 1, 0, 0), (.iload 14, 0, 0), (.invokevirtual 0, 102, 0), (.istore 15, 0, 0), (.iload 8, 0, 0), (.iload 15, 0, 0), (.ishr, 0, 0), (.iconst (1), 0, 0), (.iand, 0, 0), (.iconst (1), 0, 0), (.if_icmp .ne 0, 80, 0), (.goto_w 0, 79, 0)] := rfl
theorem k_LW_law_79 : zblk i_LW_law 79 = [(.iconst (0), 0, 0), (.goto 0, 81, 0)] := rfl
theorem k_LW_law_80 : zblk i_LW_law 80 = [(.iload 13, 0, 0), (.iconst (1), 0, 0), (.iadd, 0, 0), (.goto_w 0, 81, 0)] := rfl
theorem k_LW_law_81 : zblk i_LW_law 81 = [(.istore 13, 0, 0), (.iload 7, 0, 0), (.iload 15, 0, 0), (.ishr, 0, 0), (.iconst (1), 0, 0), (.iand, 0, 0), (.iconst (1), 0, 0), (.if_icmp .ne 0, 87, 0), (.goto_w 0, 82, 0)] := rfl
theorem k_LW_law_82 : zblk i_LW_law 82 = [(.iload 13, 0, 0), (.iload 2, 0, 0), (.if_icmp .gt 0, 87, 0), (.goto_w 0, 83, 0)] := rfl
theorem k_LW_law_83 : zblk i_LW_law 83 = [(.iload 14, 0, 0), (.iconst (40), 0, 0), (.if_icmp .eq 0, 86, 0), (.goto_w 0, 84, 0)] := rfl
theorem k_LW_law_84 : zblk i_LW_law 84 = [(.aload 1, 0, 0), (.iload 15, 0, 0), (.invokevirtual 0, 97, 0), (.ifCond .eq 0, 86, 0), (.goto_w 0, 85, 0)] := rfl
theorem k_LW_law_85 : zblk i_LW_law 85 = [(.aload 1, 0, 0), (.aload 1, 0, 0), (.iload 14, 0, 0), (.iconst (1), 0, 0), (.iadd, 0, 0), (.invokevirtual 0, 102, 0), (.invokevirtual 0, 97, 0), (.aload 1, 0, 0), (.iload 15, 0, 0), (.invokevirtual 0, 97, 0), (.if_icmp .ge 0, 87, 0), (.goto_w 0, 86, 0)] := rfl
theorem k_LW_law_86 : zblk i_LW_law 86 = [(.iconst (1), 0, 0), (.goto 0, 88, 0)] := rfl
theorem k_LW_law_87 : zblk i_LW_law 87 = [(.iconst (0), 0, 0), (.goto_w 0, 88, 0)] := rfl
theorem k_LW_law_88 : zblk i_LW_law 88 = [(.istore 6, 0, 0), (.iinc 14 (1), 0, 0), (.goto 0, 76, 0)] := rfl
theorem k_LW_law_89 : zblk i_LW_law 89 = [(.goto 0, 112, 0)] := rfl
theorem k_LW_law_90 : zblk i_LW_law 90 = [(.iconst (0), 0, 0), (.istore 13, 0, 0), (.goto_w 0, 91, 0)] := rfl
theorem k_LW_law_91 : zblk i_LW_law 91 = [(.iload 6, 0, 0), (.ifCond .eq 0, 102, 0), (.goto_w 0, 92, 0)] := rfl
theorem k_LW_law_92 : zblk i_LW_law 92 = [(.aload 1, 0, 0), (.aload 1, 0, 0), (.iload 13, 0, 0), (.invokevirtual 0, 102, 0), (.invokevirtual 0, 97, 0), (.ifCond .le 0, 102, 0), (.goto_w 0, 93, 0)] := rfl
theorem k_LW_law_93 : zblk i_LW_law 93 = [(.aload 1, 0, 0), (.iload 13, 0, 0), (.invokevirtual 0, 102, 0), (.istore 14, 0, 0), (.aload 1, 0, 0), (.iload 13, 0, 0), (.iconst (1), 0, 0), (.iadd, 0, 0), (.invokevirtual 0, 102, 0), (.istore 15, 0, 0), (.iload 13, 0, 0), (.iload 2, 0, 0), (.if_icmp .ge 0, 100, 0), (.goto_w 0, 94, 0)] := rfl
theorem k_LW_law_94 : zblk i_LW_law 94 = [(.iload 7, 0, 0), (.iload 14, 0, 0), (.ishr, 0, 0), (.iconst (1), 0, 0), (.iand, 0, 0), (.iconst (1), 0, 0), (.if_icmp .ne 0, 100, 0), (.goto_w 0, 95, 0)] := rfl
theorem k_LW_law_95 : zblk i_LW_law 95 = [(.aload 1, 0, 0), (.iload 15, 0, 0), (.invokevirtual 0, 97, 0), (.ifCond .lt 0, 100, 0), (.goto_w 0, 96, 0)] := rfl
theorem k_LW_law_96 : zblk i_LW_law 96 = [(.aload 1, 0, 0), (.iload 15, 0, 0), (.invokevirtual 0, 97, 0), (.aload 1, 0, 0), (.iload 14, 0, 0), (.invokevirtual 0, 97, 0), (.if_icmp .ge 0, 100, 0), (.goto_w 0, 97, 0)] := rfl
theorem k_LW_law_97 : zblk i_LW_law 97 = [(.iload 5, 0, 0), (.iconst (2), 0, 0), (.if_icmp .eq 0, 99, 0), (.goto_w 0, 98, 0)] := rfl
theorem k_LW_law_98 : zblk i_LW_law 98 = [(.iload 8, 0, 0), (.iload 14, 0, 0), (.ishr, 0, 0), (.iconst (1), 0, 0), (.iand, 0, 0), (.iconst (1), 0, 0), (.if_icmp .ne 0, 100, 0), (.goto_w 0, 99, 0)] := rfl
theorem k_LW_law_99 : zblk i_LW_law 99 = [(.iconst (1), 0, 0), (.goto 0, 101, 0)] := rfl
theorem k_LW_law_100 : zblk i_LW_law 100 = [(.iconst (0), 0, 0), (.goto_w 0, 101, 0)] := rfl
theorem k_LW_law_101 : zblk i_LW_law 101 = [(.istore 6, 0, 0), (.iinc 13 (1), 0, 0), (.goto 0, 91, 0)] := rfl
theorem k_LW_law_102 : zblk i_LW_law 102 = [(.iload 6, 0, 0), (.ifCond .eq 0, 110, 0), (.goto_w 0, 103, 0)] := rfl
theorem k_LW_law_103 : zblk i_LW_law 103 = [(.iload 9, 0, 0), (.aload 1, 0, 0), (.iload 13, 0, 0), (.invokevirtual 0, 102, 0), (.ishr, 0, 0), (.iconst (1), 0, 0), (.iand, 0, 0), (.iconst (1), 0, 0), (.if_icmp .ne 0, 110, 0), (.goto_w 0, 104, 0)] := rfl
theorem k_LW_law_104 : zblk i_LW_law 104 = [(.iload 13, 0, 0), (.aload 1, 0, 0), (.iload 10, 0, 0), (.invokevirtual 0, 97, 0), (.if_icmp .gt 0, 110, 0), (.goto_w 0, 105, 0)] := rfl
theorem k_LW_law_105 : zblk i_LW_law 105 = [(.aload 1, 0, 0), (.iload 10, 0, 0), (.invokevirtual 0, 100, 0), (.ifCond .lt 0, 110, 0), (.goto_w 0, 106, 0)] := rfl
theorem k_LW_law_106 : zblk i_LW_law 106 = [(.aload 1, 0, 0), (.iload 10, 0, 0), (.invokevirtual 0, 97, 0), (.ifCond .gt 0, 108, 0), (.goto_w 0, 107, 0)] := rfl
theorem k_LW_law_107 : zblk i_LW_law 107 = [(.aload 1, 0, 0), (.iload 10, 0, 0), (.invokevirtual 0, 100, 0), (.ifCond .ne 0, 110, 0), (.goto_w 0, 108, 0)] := rfl
theorem k_LW_law_108 : zblk i_LW_law 108 = [(.aload 1, 0, 0), (.iload 10, 0, 0), (.invokevirtual 0, 100, 0), (.iconst (9), 0, 0), (.iload 3, 0, 0), (.imul, 0, 0), (.iload 2, 0, 0), (.imul, 0, 0), (.if_icmp .gt 0, 110, 0), (.goto_w 0, 109, 0)] := rfl
theorem k_LW_law_109 : zblk i_LW_law 109 = [(.iconst (1), 0, 0), (.goto 0, 111, 0)] := rfl
theorem k_LW_law_110 : zblk i_LW_law 110 = [(.iconst (0), 0, 0), (.goto_w 0, 111, 0)] := rfl
theorem k_LW_law_111 : zblk i_LW_law 111 = [(.istore 6, 0, 0), (.goto_w 0, 112, 0)] := rfl
theorem k_LW_law_112 : zblk i_LW_law 112 = [(.iinc 10 (1), 0, 0), (.goto 0, 29, 0)] := rfl
theorem k_LW_law_113 : zblk i_LW_law 113 = [(.iload 6, 0, 0), (.ireturn, 0, 0)] := rfl
theorem a_LW_law : zmA i_LW_law = 1 := rfl
theorem l_LW_law : zmL i_LW_law = 16 := rfl
theorem r_LW_law : zmR i_LW_law = some .boolean := rfl
theorem o_LW_law : zmO i_LW_law = 12 := rfl
