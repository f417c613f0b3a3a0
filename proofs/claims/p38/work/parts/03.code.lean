/-! the code of each method, its instructions with their targets, laid by wip/whole/gen.py -/
abbrev zEnt : Type := Instr × Nat × Nat
abbrev i_Bl_init : Nat := 0
abbrev i_Fo_init : Nat := 1
abbrev i_Fo_becomeTrue : Nat := 2
abbrev i_Fo_clear : Nat := 3
abbrev i_Fo_add : Nat := 4
abbrev i_Fo_set : Nat := 5
abbrev i_Fo_become : Nat := 6
abbrev i_Fo_kind : Nat := 7
abbrev i_Fo_left : Nat := 8
abbrev i_Fo_right : Nat := 9
abbrev i_Fo_group : Nat := 10
abbrev i_Fo_isLaw : Nat := 11
abbrev i_Fo_isOfGroup : Nat := 12
abbrev i_Fo_hasRounds : Nat := 13
abbrev i_Fo_hasToll : Nat := 14
abbrev i_Go_init : Nat := 15
abbrev i_Go_forget : Nat := 16
abbrev i_La_init : Nat := 17
abbrev i_La_whole : Nat := 18
abbrev i_La_refresh : Nat := 19
abbrev i_La_judge : Nat := 20
abbrev i_La_always : Nat := 21
abbrev i_La_until : Nat := 22
abbrev i_La_mark : Nat := 23
abbrev i_La_again : Nat := 24
abbrev i_La_ahead : Nat := 25
abbrev i_Lo_init : Nat := 26
abbrev i_Ne_init : Nat := 27
abbrev i_Ne_begin : Nat := 28
abbrev i_Ne_leadBack : Nat := 29
abbrev i_Ne_hasState : Nat := 30
abbrev i_Ne_hasPlayer : Nat := 31
abbrev i_Ne_hasGroup : Nat := 32
abbrev i_Ne_hasMove : Nat := 33
abbrev i_Ne_hasJoint : Nat := 34
abbrev i_Ne_everyone : Nat := 35
abbrev i_Ne_everywhere : Nat := 36
abbrev i_Ne_movesOf : Nat := 37
abbrev i_Ne_target : Nat := 38
abbrev i_Ne_changeMoves : Nat := 39
abbrev i_Ne_changeTarget : Nat := 40
abbrev i_Ne_changeLetters : Nat := 41
abbrev i_Ne_bearing : Nat := 42
abbrev i_Ne_ways : Nat := 43
abbrev i_Ne_together : Nat := 44
abbrev i_Ne_sumOfPrices : Nat := 45
abbrev i_Pl_init : Nat := 46
abbrev i_Pl_move : Nat := 47
abbrev i_Pl_aim : Nat := 48
abbrev i_Pl_hinder : Nat := 49
abbrev i_Pl_leastSum : Nat := 50
abbrev i_Pl_cheapest : Nat := 51
abbrev i_Pl_worst : Nat := 52
abbrev i_Pl_forget : Nat := 53
abbrev i_Pl_startWalk : Nat := 54
abbrev i_Pl_goOn : Nat := 55
abbrev i_Pl_behind : Nat := 56
abbrev i_Sh_init : Nat := 57
abbrev i_Sh_hasPlace : Nat := 58
abbrev i_Sh_isEmptyPlace : Nat := 59
abbrev i_Sh_hasItems : Nat := 60
abbrev i_Sh_wrong : Nat := 61
abbrev i_Sh_start : Nat := 62
abbrev i_Sh_read : Nat := 63
abbrev i_Sh_write : Nat := 64
abbrev i_Sh_hasBelowZero : Nat := 65
abbrev i_Ta_init : Nat := 66
abbrev i_Ta_prepare : Nat := 67
abbrev i_Ta_fill : Nat := 68
abbrev i_Ta_share : Nat := 69
abbrev i_Ta_endsOf : Nat := 70
abbrev i_Ta_leastInto : Nat := 71
abbrev i_Ta_forcing : Nat := 72
abbrev i_Tp_init : Nat := 73
abbrev i_Tp_add : Nat := 74
abbrev i_Tp_byteOf : Nat := 75
abbrev i_Tp_understand : Nat := 76
abbrev i_Tp_here : Nat := 77
abbrev i_Tp_refuse : Nat := 78
abbrev i_Tp_take : Nat := 79
abbrev i_Tp_readForm : Nat := 80
abbrev i_Tp_readGroup : Nat := 81
abbrev i_Tp_readLaw : Nat := 82
abbrev i_Tp_readPair : Nat := 83
abbrev i_Tp_lawKind : Nat := 84
abbrev i_Tp_pairKind : Nat := 85
abbrev i_FN_init : Nat := 86
abbrev i_FN_net : Nat := 87
abbrev i_FN_moves : Nat := 88
abbrev i_FN_joint : Nat := 89
abbrev i_FN_step : Nat := 90
abbrev i_FN_letters : Nat := 91
abbrev i_FN_price : Nat := 92
abbrev i_FN_type : Nat := 93
abbrev i_FN_form : Nat := 94
abbrev i_FN_holds : Nat := 95
abbrev i_FN_part : Nat := 96
abbrev i_FN_round : Nat := 97
abbrev i_FN_plan : Nat := 98
abbrev i_FN_answer : Nat := 99
abbrev i_FN_toll : Nat := 100
abbrev i_FN_walk : Nat := 101
abbrev i_FN_walked : Nat := 102
abbrev i_FN_sheet : Nat := 103
abbrev i_FN_item : Nat := 104
abbrev i_FN_at : Nat := 105
abbrev i_FN_put : Nat := 106
abbrev i_FN_swap : Nat := 107
abbrev i_FN_has : Nat := 108
abbrev i_FN_over : Nat := 109
abbrev i_FN_rest : Nat := 110
abbrev i_JA_fill : Nat := 111
abbrev i_LW_cell : Nat := 112
abbrev i_LW_lays : Nat := 113
abbrev i_LW_statesOf : Nat := 114
abbrev i_LW_playersOf : Nat := 115
abbrev i_LW_group : Nat := 116
abbrev i_LW_outermost : Nat := 117
abbrev i_LW_law : Nat := 118
def zB_Bl_init : List (Nat × List zEnt) := [(0, [(.aload 0, 0, 0), (.nop, 0, 0), (.aload 0, 0, 0), (.iconst (48), 0, 0), (.newarray .int, 0, 0), (.putfield 0, 0, 2), (.aload 0, 0, 0), (.iconst (48), 0, 0), (.newarray .int, 0, 0), (.putfield 0, 0, 3), (.aload 0, 0, 0), (.iconst (12), 0, 0), (.newarray .int, 0, 0), (.putfield 0, 0, 4), (.aload 0, 0, 0), (.aload 1, 0, 0), (.putfield 0, 0, 0), (.aload 0, 0, 0), (.aload 2, 0, 0), (.putfield 0, 0, 1), (.return_, 0, 0)])]
def zB_Fo_init : List (Nat × List zEnt) := [(0, [(.aload 0, 0, 0), (.nop, 0, 0), (.aload 0, 0, 0), (.iconst (24), 0, 0), (.newarray .int, 0, 0), (.putfield 0, 1, 2), (.aload 0, 0, 0), (.iconst (24), 0, 0), (.newarray .int, 0, 0), (.putfield 0, 1, 3), (.aload 0, 0, 0), (.iconst (24), 0, 0), (.newarray .int, 0, 0), (.putfield 0, 1, 4), (.aload 0, 0, 0), (.iconst (24), 0, 0), (.newarray .int, 0, 0), (.putfield 0, 1, 5), (.aload 0, 0, 0), (.invokevirtual 0, 2, 0), (.return_, 0, 0)])]
def zB_Fo_becomeTrue : List (Nat × List zEnt) := [(0, [(.aload 0, 0, 0), (.invokevirtual 0, 3, 0), (.aload 0, 0, 0), (.aload 0, 0, 0), (.iconst (0), 0, 0), (.invokevirtual 0, 4, 0), (.iconst (0), 0, 0), (.iconst (0), 0, 0), (.iconst (0), 0, 0), (.invokevirtual 0, 5, 0), (.return_, 0, 0)])]
def zB_Fo_clear : List (Nat × List zEnt) := [(0, [(.aload 0, 0, 0), (.iconst (0), 0, 0), (.putfield 0, 1, 0), (.aload 0, 0, 0), (.dup, 0, 0), (.getfield 0, 1, 1), (.iconst (1), 0, 0), (.iadd, 0, 0), (.putfield 0, 1, 1), (.return_, 0, 0)])]
def zB_Fo_add : List (Nat × List zEnt) := [(0, [(.aload 0, 0, 0), (.getfield 0, 1, 0), (.istore 2, 0, 0), (.aload 0, 0, 0), (.getfield 0, 1, 5), (.iload 2, 0, 0), (.iload 1, 0, 0), (.invokestatic 0, 106, 0), (.aload 0, 0, 0), (.dup, 0, 0), (.getfield 0, 1, 0), (.iconst (1), 0, 0), (.iadd, 0, 0), (.putfield 0, 1, 0), (.iload 2, 0, 0), (.ireturn, 0, 0)])]
def zB_Fo_set : List (Nat × List zEnt) := [(0, [(.aload 0, 0, 0), (.getfield 0, 1, 2), (.iload 1, 0, 0), (.iload 2, 0, 0), (.invokestatic 0, 106, 0), (.aload 0, 0, 0), (.getfield 0, 1, 3), (.iload 1, 0, 0), (.iload 3, 0, 0), (.invokestatic 0, 106, 0), (.aload 0, 0, 0), (.getfield 0, 1, 4), (.iload 1, 0, 0), (.iload 4, 0, 0), (.invokestatic 0, 106, 0), (.return_, 0, 0)])]
def zB_Fo_become : List (Nat × List zEnt) := [(0, [(.aload 0, 0, 0), (.invokevirtual 0, 3, 0), (.iconst (0), 0, 0), (.istore 2, 0, 0), (.goto_w 0, 1, 0)]),
  (6, [(.iload 2, 0, 0), (.aload 1, 0, 0), (.getfield 0, 1, 0), (.if_icmp .ge 0, 3, 0), (.goto_w 0, 2, 0)]),
  (14, [(.aload 0, 0, 0), (.aload 0, 0, 0), (.aload 1, 0, 0), (.iload 2, 0, 0), (.invokevirtual 0, 10, 0), (.invokevirtual 0, 4, 0), (.aload 1, 0, 0), (.iload 2, 0, 0), (.invokevirtual 0, 7, 0), (.aload 1, 0, 0), (.iload 2, 0, 0), (.invokevirtual 0, 8, 0), (.aload 1, 0, 0), (.iload 2, 0, 0), (.invokevirtual 0, 9, 0), (.invokevirtual 0, 5, 0), (.iinc 2 (1), 0, 0), (.goto 0, 1, 0)]),
  (48, [(.return_, 0, 0)])]
def zB_Fo_kind : List (Nat × List zEnt) := [(0, [(.aload 0, 0, 0), (.getfield 0, 1, 2), (.iload 1, 0, 0), (.invokestatic 0, 105, 0), (.ireturn, 0, 0)])]
def zB_Fo_left : List (Nat × List zEnt) := [(0, [(.aload 0, 0, 0), (.getfield 0, 1, 3), (.iload 1, 0, 0), (.invokestatic 0, 105, 0), (.ireturn, 0, 0)])]
def zB_Fo_right : List (Nat × List zEnt) := [(0, [(.aload 0, 0, 0), (.getfield 0, 1, 4), (.iload 1, 0, 0), (.invokestatic 0, 105, 0), (.ireturn, 0, 0)])]
def zB_Fo_group : List (Nat × List zEnt) := [(0, [(.aload 0, 0, 0), (.getfield 0, 1, 5), (.iload 1, 0, 0), (.invokestatic 0, 105, 0), (.ireturn, 0, 0)])]
def zB_Fo_isLaw : List (Nat × List zEnt) := [(0, [(.aload 0, 0, 0), (.iload 1, 0, 0), (.invokevirtual 0, 7, 0), (.iconst (5), 0, 0), (.if_icmp .lt 0, 2, 0), (.goto_w 0, 1, 0)]),
  (9, [(.iconst (1), 0, 0), (.goto 0, 3, 0)]),
  (13, [(.iconst (0), 0, 0), (.goto_w 0, 3, 0)]),
  (14, [(.ireturn, 0, 0)])]
def zB_Fo_isOfGroup : List (Nat × List zEnt) := [(0, [(.aload 0, 0, 0), (.iconst (0), 0, 0), (.invokevirtual 0, 11, 0), (.ireturn, 0, 0)])]
def zB_Fo_hasRounds : List (Nat × List zEnt) := [(0, [(.aload 0, 0, 0), (.iconst (0), 0, 0), (.invokevirtual 0, 7, 0), (.iconst (7), 0, 0), (.if_icmp .lt 0, 2, 0), (.goto_w 0, 1, 0)]),
  (10, [(.iconst (1), 0, 0), (.goto 0, 3, 0)]),
  (14, [(.iconst (0), 0, 0), (.goto_w 0, 3, 0)]),
  (15, [(.ireturn, 0, 0)])]
def zB_Fo_hasToll : List (Nat × List zEnt) := [(0, [(.aload 0, 0, 0), (.iconst (0), 0, 0), (.invokevirtual 0, 7, 0), (.iconst (7), 0, 0), (.if_icmp .eq 0, 2, 0), (.goto_w 0, 1, 0)]),
  (10, [(.aload 0, 0, 0), (.iconst (0), 0, 0), (.invokevirtual 0, 7, 0), (.iconst (8), 0, 0), (.if_icmp .ne 0, 3, 0), (.goto_w 0, 2, 0)]),
  (20, [(.iconst (1), 0, 0), (.goto 0, 4, 0)]),
  (24, [(.iconst (0), 0, 0), (.goto_w 0, 4, 0)]),
  (25, [(.ireturn, 0, 0)])]
def zB_Go_init : List (Nat × List zEnt) := [(0, [(.aload 0, 0, 0), (.nop, 0, 0), (.aload 0, 0, 0), (.iconst (4), 0, 0), (.newarray .int, 0, 0), (.putfield 0, 2, 1), (.aload 0, 0, 0), (.iconst (48), 0, 0), (.newarray .int, 0, 0), (.putfield 0, 2, 2), (.aload 0, 0, 0), (.aload 1, 0, 0), (.putfield 0, 2, 0), (.return_, 0, 0)])]
def zB_Go_forget : List (Nat × List zEnt) := [(0, [(.aload 0, 0, 0), (.getfield 0, 2, 1), (.iconst (0), 0, 0), (.invokestatic 0, 111, 0), (.return_, 0, 0)])]
def zB_La_init : List (Nat × List zEnt) := [(0, [(.aload 0, 0, 0), (.nop, 0, 0), (.aload 0, 0, 0), (.iconst (24), 0, 0), (.newarray .int, 0, 0), (.putfield 0, 3, 3), (.aload 0, 0, 0), (.iconst (12), 0, 0), (.newarray .int, 0, 0), (.putfield 0, 3, 4), (.aload 0, 0, 0), (.iconst (-1), 0, 0), (.putfield 0, 3, 5), (.aload 0, 0, 0), (.iconst (-1), 0, 0), (.putfield 0, 3, 6), (.aload 0, 0, 0), (.aload 1, 0, 0), (.putfield 0, 3, 0), (.aload 0, 0, 0), (.aload 2, 0, 0), (.putfield 0, 3, 1), (.aload 0, 0, 0), (.aload 3, 0, 0), (.putfield 0, 3, 2), (.return_, 0, 0)])]
def zB_La_whole : List (Nat × List zEnt) := [(0, [(.aload 0, 0, 0), (.getfield 0, 3, 3), (.iconst (0), 0, 0), (.invokestatic 0, 105, 0), (.ireturn, 0, 0)])]
def zB_La_refresh : List (Nat × List zEnt) := [(0, [(.aload 0, 0, 0), (.getfield 0, 3, 5), (.aload 0, 0, 0), (.getfield 0, 3, 0), (.getfield 0, 5, 2), (.if_icmp .ne 0, 2, 0), (.goto_w 0, 1, 0)]),
  (14, [(.aload 0, 0, 0), (.getfield 0, 3, 6), (.aload 0, 0, 0), (.getfield 0, 3, 1), (.getfield 0, 1, 1), (.if_icmp .eq 0, 8, 0), (.goto_w 0, 2, 0)]),
  (28, [(.aload 0, 0, 0), (.getfield 0, 3, 1), (.getfield 0, 1, 0), (.iconst (1), 0, 0), (.isub, 0, 0), (.istore 1, 0, 0), (.goto_w 0, 3, 0)]),
  (38, [(.iload 1, 0, 0), (.ifCond .lt 0, 7, 0), (.goto_w 0, 4, 0)]),
  (42, [(.aload 0, 0, 0), (.getfield 0, 3, 1), (.iload 1, 0, 0), (.invokevirtual 0, 11, 0), (.ifCond .eq 0, 6, 0), (.goto_w 0, 5, 0)]),
  (53, [(.aload 0, 0, 0), (.getfield 0, 3, 2), (.aload 0, 0, 0), (.getfield 0, 3, 1), (.iload 1, 0, 0), (.invokevirtual 0, 10, 0), (.invokevirtual 0, 67, 0), (.goto_w 0, 6, 0)]),
  (68, [(.aload 0, 0, 0), (.getfield 0, 3, 3), (.iload 1, 0, 0), (.aload 0, 0, 0), (.iload 1, 0, 0), (.invokevirtual 0, 20, 0), (.invokestatic 0, 106, 0), (.iinc 1 (-1), 0, 0), (.goto 0, 3, 0)]),
  (87, [(.aload 0, 0, 0), (.aload 0, 0, 0), (.getfield 0, 3, 0), (.getfield 0, 5, 2), (.putfield 0, 3, 5), (.aload 0, 0, 0), (.aload 0, 0, 0), (.getfield 0, 3, 1), (.getfield 0, 1, 1), (.putfield 0, 3, 6), (.goto_w 0, 8, 0)]),
  (109, [(.return_, 0, 0)])]
def zB_La_judge : List (Nat × List zEnt) := [(0, [(.aload 0, 0, 0), (.getfield 0, 3, 3), (.aload 0, 0, 0), (.getfield 0, 3, 1), (.iload 1, 0, 0), (.invokevirtual 0, 8, 0), (.invokestatic 0, 105, 0), (.istore 2, 0, 0), (.aload 0, 0, 0), (.getfield 0, 3, 3), (.aload 0, 0, 0), (.getfield 0, 3, 1), (.iload 1, 0, 0), (.invokevirtual 0, 9, 0), (.invokestatic 0, 105, 0), (.istore 3, 0, 0), (.aload 0, 0, 0), (.getfield 0, 3, 0), (.invokevirtual 0, 36, 0), (.istore 4, 0, 0), (.aload 0, 0, 0), (.getfield 0, 3, 1), (.iload 1, 0, 0), (.invokevirtual 0, 7, 0), (.tableswitch 10 (0) (8) #[1, 2, 3, 4, 5, 6, 7, 8, 9], 0, 0)]),
  (100, [(.iload 4, 0, 0), (.ireturn, 0, 0)]),
  (103, [(.aload 0, 0, 0), (.getfield 0, 3, 0), (.aload 0, 0, 0), (.getfield 0, 3, 1), (.iload 1, 0, 0), (.invokevirtual 0, 8, 0), (.invokevirtual 0, 42, 0), (.ireturn, 0, 0)]),
  (119, [(.iload 4, 0, 0), (.iload 2, 0, 0), (.iconst (-1), 0, 0), (.ixor, 0, 0), (.iand, 0, 0), (.ireturn, 0, 0)]),
  (126, [(.iload 2, 0, 0), (.iload 3, 0, 0), (.iand, 0, 0), (.ireturn, 0, 0)]),
  (130, [(.iload 2, 0, 0), (.iload 3, 0, 0), (.ior, 0, 0), (.ireturn, 0, 0)]),
  (134, [(.aload 0, 0, 0), (.getfield 0, 3, 2), (.iload 4, 0, 0), (.iload 2, 0, 0), (.invokevirtual 0, 72, 0), (.ireturn, 0, 0)]),
  (145, [(.aload 0, 0, 0), (.iload 2, 0, 0), (.invokevirtual 0, 21, 0), (.ireturn, 0, 0)]),
  (151, [(.aload 0, 0, 0), (.iload 4, 0, 0), (.iload 2, 0, 0), (.invokevirtual 0, 22, 0), (.ireturn, 0, 0)]),
  (159, [(.aload 0, 0, 0), (.iload 2, 0, 0), (.iload 3, 0, 0), (.invokevirtual 0, 22, 0), (.ireturn, 0, 0)]),
  (166, [(.aload 0, 0, 0), (.iload 2, 0, 0), (.invokevirtual 0, 24, 0), (.ireturn, 0, 0)])]
def zB_La_always : List (Nat × List zEnt) := [(0, [(.iload 1, 0, 0), (.istore 2, 0, 0), (.iconst (0), 0, 0), (.istore 3, 0, 0), (.goto_w 0, 1, 0)]),
  (4, [(.iload 3, 0, 0), (.iconst (12), 0, 0), (.if_icmp .ge 0, 3, 0), (.goto_w 0, 2, 0)]),
  (10, [(.aload 0, 0, 0), (.getfield 0, 3, 2), (.iload 2, 0, 0), (.iload 2, 0, 0), (.invokevirtual 0, 72, 0), (.istore 2, 0, 0), (.iinc 3 (1), 0, 0), (.goto 0, 1, 0)]),
  (26, [(.iload 2, 0, 0), (.ireturn, 0, 0)])]
def zB_La_until : List (Nat × List zEnt) := [(0, [(.iload 2, 0, 0), (.istore 3, 0, 0), (.iconst (0), 0, 0), (.istore 4, 0, 0), (.goto_w 0, 1, 0)]),
  (5, [(.iload 4, 0, 0), (.iconst (12), 0, 0), (.if_icmp .ge 0, 6, 0), (.goto_w 0, 2, 0)]),
  (12, [(.aload 0, 0, 0), (.getfield 0, 3, 4), (.iload 4, 0, 0), (.iload 2, 0, 0), (.iload 4, 0, 0), (.invokestatic 0, 108, 0), (.ifCond .eq 0, 4, 0), (.goto_w 0, 3, 0)]),
  (27, [(.iconst (0), 0, 0), (.goto 0, 5, 0)]),
  (31, [(.iconst (-1), 0, 0), (.goto_w 0, 5, 0)]),
  (32, [(.invokestatic 0, 106, 0), (.iinc 4 (1), 0, 0), (.goto 0, 1, 0)]),
  (41, [(.iconst (1), 0, 0), (.istore 4, 0, 0), (.goto_w 0, 7, 0)]),
  (44, [(.iload 4, 0, 0), (.iconst (12), 0, 0), (.if_icmp .gt 0, 11, 0), (.goto_w 0, 8, 0)]),
  (51, [(.aload 0, 0, 0), (.getfield 0, 3, 2), (.iload 1, 0, 0), (.iload 3, 0, 0), (.iconst (-1), 0, 0), (.ixor, 0, 0), (.iand, 0, 0), (.iload 3, 0, 0), (.invokevirtual 0, 72, 0), (.istore 5, 0, 0), (.iload 5, 0, 0), (.ifCond .ne 0, 10, 0), (.goto_w 0, 9, 0)]),
  (71, [(.goto 0, 11, 0)]),
  (74, [(.aload 0, 0, 0), (.iload 5, 0, 0), (.iload 4, 0, 0), (.invokevirtual 0, 23, 0), (.iload 3, 0, 0), (.iload 5, 0, 0), (.ior, 0, 0), (.istore 3, 0, 0), (.iinc 4 (1), 0, 0), (.goto 0, 7, 0)]),
  (93, [(.iload 3, 0, 0), (.ireturn, 0, 0)])]
def zB_La_mark : List (Nat × List zEnt) := [(0, [(.iconst (0), 0, 0), (.istore 3, 0, 0), (.goto_w 0, 1, 0)]),
  (2, [(.iload 3, 0, 0), (.iconst (12), 0, 0), (.if_icmp .ge 0, 5, 0), (.goto_w 0, 2, 0)]),
  (8, [(.iload 1, 0, 0), (.iload 3, 0, 0), (.invokestatic 0, 108, 0), (.ifCond .eq 0, 4, 0), (.goto_w 0, 3, 0)]),
  (16, [(.aload 0, 0, 0), (.getfield 0, 3, 4), (.iload 3, 0, 0), (.iload 2, 0, 0), (.invokestatic 0, 106, 0), (.goto_w 0, 4, 0)]),
  (25, [(.iinc 3 (1), 0, 0), (.goto 0, 1, 0)]),
  (31, [(.return_, 0, 0)])]
def zB_La_again : List (Nat × List zEnt) := [(0, [(.aload 0, 0, 0), (.getfield 0, 3, 0), (.invokevirtual 0, 36, 0), (.istore 2, 0, 0), (.iconst (0), 0, 0), (.istore 3, 0, 0), (.goto_w 0, 1, 0)]),
  (10, [(.iload 3, 0, 0), (.iconst (12), 0, 0), (.if_icmp .gt 0, 5, 0), (.goto_w 0, 2, 0)]),
  (16, [(.aload 0, 0, 0), (.aload 0, 0, 0), (.getfield 0, 3, 0), (.invokevirtual 0, 36, 0), (.aload 0, 0, 0), (.getfield 0, 3, 2), (.iload 1, 0, 0), (.iload 2, 0, 0), (.invokevirtual 0, 72, 0), (.invokevirtual 0, 22, 0), (.istore 4, 0, 0), (.iload 4, 0, 0), (.iload 2, 0, 0), (.if_icmp .ne 0, 4, 0), (.goto_w 0, 3, 0)]),
  (44, [(.goto 0, 5, 0)]),
  (47, [(.iload 4, 0, 0), (.istore 2, 0, 0), (.iinc 3 (1), 0, 0), (.goto 0, 1, 0)]),
  (56, [(.iload 2, 0, 0), (.ireturn, 0, 0)])]
def zB_La_ahead : List (Nat × List zEnt) := [(0, [(.iconst (0), 0, 0), (.istore 2, 0, 0), (.iconst (0), 0, 0), (.istore 3, 0, 0), (.goto_w 0, 1, 0)]),
  (4, [(.iload 3, 0, 0), (.aload 0, 0, 0), (.getfield 0, 3, 0), (.getfield 0, 5, 0), (.if_icmp .ge 0, 6, 0), (.goto_w 0, 2, 0)]),
  (15, [(.aload 0, 0, 0), (.getfield 0, 3, 4), (.iload 3, 0, 0), (.invokestatic 0, 105, 0), (.ifCond .lt 0, 5, 0), (.goto_w 0, 3, 0)]),
  (26, [(.aload 0, 0, 0), (.getfield 0, 3, 4), (.iload 3, 0, 0), (.invokestatic 0, 105, 0), (.iload 1, 0, 0), (.if_icmp .ge 0, 5, 0), (.goto_w 0, 4, 0)]),
  (38, [(.iload 2, 0, 0), (.iconst (1), 0, 0), (.iload 3, 0, 0), (.ishl, 0, 0), (.ior, 0, 0), (.istore 2, 0, 0), (.goto_w 0, 5, 0)]),
  (44, [(.iinc 3 (1), 0, 0), (.goto 0, 1, 0)]),
  (50, [(.iload 2, 0, 0), (.ireturn, 0, 0)])]
def zB_Lo_init : List (Nat × List zEnt) := [(0, [(.aload 0, 0, 0), (.nop, 0, 0), (.aload 0, 0, 0), (.iconst (-1), 0, 0), (.putfield 0, 4, 1), (.aload 0, 0, 0), (.iconst (144), 0, 0), (.newarray .int, 0, 0), (.putfield 0, 4, 4), (.aload 0, 0, 0), (.iconst (12), 0, 0), (.newarray .int, 0, 0), (.putfield 0, 4, 5), (.aload 0, 0, 0), (.iconst (12), 0, 0), (.newarray .int, 0, 0), (.putfield 0, 4, 6), (.aload 0, 0, 0), (.iconst (156), 0, 0), (.newarray .long, 0, 0), (.putfield 0, 4, 7), (.aload 0, 0, 0), (.aload 1, 0, 0), (.putfield 0, 4, 0), (.return_, 0, 0)])]
def zB_Ne_init : List (Nat × List zEnt) := [(0, [(.aload 0, 0, 0), (.nop, 0, 0), (.aload 0, 0, 0), (.iconst (48), 0, 0), (.newarray .int, 0, 0), (.putfield 0, 5, 3), (.aload 0, 0, 0), (.iconst (48), 0, 0), (.newarray .int, 0, 0), (.putfield 0, 5, 4), (.aload 0, 0, 0), (.iconst (144), 0, 0), (.newarray .int, 0, 0), (.putfield 0, 5, 5), (.aload 0, 0, 0), (.iconst (972), 0, 0), (.newarray .int, 0, 0), (.putfield 0, 5, 6), (.aload 0, 0, 0), (.iconst (12), 0, 0), (.newarray .int, 0, 0), (.putfield 0, 5, 7), (.aload 0, 0, 0), (.iconst (48), 0, 0), (.newarray .int, 0, 0), (.putfield 0, 5, 8), (.aload 0, 0, 0), (.iconst (4), 0, 0), (.iconst (2), 0, 0), (.invokevirtual 0, 28, 0), (.return_, 0, 0)])]
def zB_Ne_begin : List (Nat × List zEnt) := [(0, [(.aload 0, 0, 0), (.iload 1, 0, 0), (.putfield 0, 5, 0), (.aload 0, 0, 0), (.iload 2, 0, 0), (.putfield 0, 5, 1), (.aload 0, 0, 0), (.getfield 0, 5, 3), (.iconst (1), 0, 0), (.invokestatic 0, 111, 0), (.aload 0, 0, 0), (.getfield 0, 5, 7), (.iconst (0), 0, 0), (.invokestatic 0, 111, 0), (.iconst (0), 0, 0), (.istore 3, 0, 0), (.goto_w 0, 1, 0)]),
  (28, [(.iload 3, 0, 0), (.iconst (12), 0, 0), (.if_icmp .ge 0, 6, 0), (.goto_w 0, 2, 0)]),
  (34, [(.aload 0, 0, 0), (.iload 3, 0, 0), (.invokevirtual 0, 29, 0), (.iconst (0), 0, 0), (.istore 4, 0, 0), (.goto_w 0, 3, 0)]),
  (42, [(.iload 4, 0, 0), (.iconst (4), 0, 0), (.if_icmp .ge 0, 5, 0), (.goto_w 0, 4, 0)]),
  (48, [(.aload 0, 0, 0), (.getfield 0, 5, 8), (.iload 4, 0, 0), (.iconst (12), 0, 0), (.imul, 0, 0), (.iload 3, 0, 0), (.iadd, 0, 0), (.iload 3, 0, 0), (.invokestatic 0, 106, 0), (.iinc 4 (1), 0, 0), (.goto 0, 3, 0)]),
  (69, [(.iinc 3 (1), 0, 0), (.goto 0, 1, 0)]),
  (75, [(.aload 0, 0, 0), (.dup, 0, 0), (.getfield 0, 5, 2), (.iconst (1), 0, 0), (.iadd, 0, 0), (.putfield 0, 5, 2), (.return_, 0, 0)])]
def zB_Ne_leadBack : List (Nat × List zEnt) := [(0, [(.iconst (0), 0, 0), (.istore 2, 0, 0), (.goto_w 0, 1, 0)]),
  (2, [(.iload 2, 0, 0), (.iconst (81), 0, 0), (.if_icmp .ge 0, 3, 0), (.goto_w 0, 2, 0)]),
  (8, [(.aload 0, 0, 0), (.getfield 0, 5, 6), (.iload 1, 0, 0), (.iconst (81), 0, 0), (.imul, 0, 0), (.iload 2, 0, 0), (.iadd, 0, 0), (.iload 1, 0, 0), (.invokestatic 0, 106, 0), (.iinc 2 (1), 0, 0), (.goto 0, 1, 0)]),
  (28, [(.iconst (0), 0, 0), (.istore 2, 0, 0), (.goto_w 0, 4, 0)]),
  (30, [(.iload 2, 0, 0), (.iconst (4), 0, 0), (.if_icmp .ge 0, 6, 0), (.goto_w 0, 5, 0)]),
  (35, [(.aload 0, 0, 0), (.getfield 0, 5, 4), (.iload 1, 0, 0), (.iconst (4), 0, 0), (.imul, 0, 0), (.iload 2, 0, 0), (.iadd, 0, 0), (.iconst (0), 0, 0), (.invokestatic 0, 106, 0), (.iinc 2 (1), 0, 0), (.goto 0, 4, 0)]),
  (54, [(.iconst (0), 0, 0), (.istore 2, 0, 0), (.goto_w 0, 7, 0)]),
  (56, [(.iload 2, 0, 0), (.iconst (12), 0, 0), (.if_icmp .ge 0, 9, 0), (.goto_w 0, 8, 0)]),
  (62, [(.aload 0, 0, 0), (.getfield 0, 5, 5), (.iload 1, 0, 0), (.iconst (4), 0, 0), (.imul, 0, 0), (.iconst (3), 0, 0), (.imul, 0, 0), (.iload 2, 0, 0), (.iadd, 0, 0), (.iconst (0), 0, 0), (.invokestatic 0, 106, 0), (.iinc 2 (1), 0, 0), (.goto 0, 7, 0)]),
  (83, [(.return_, 0, 0)])]
def zB_Ne_hasState : List (Nat × List zEnt) := [(0, [(.iload 1, 0, 0), (.ifCond .lt 0, 3, 0), (.goto_w 0, 1, 0)]),
  (4, [(.iload 1, 0, 0), (.aload 0, 0, 0), (.getfield 0, 5, 0), (.if_icmp .ge 0, 3, 0), (.goto_w 0, 2, 0)]),
  (12, [(.iconst (1), 0, 0), (.goto 0, 4, 0)]),
  (16, [(.iconst (0), 0, 0), (.goto_w 0, 4, 0)]),
  (17, [(.ireturn, 0, 0)])]
def zB_Ne_hasPlayer : List (Nat × List zEnt) := [(0, [(.iload 1, 0, 0), (.ifCond .lt 0, 3, 0), (.goto_w 0, 1, 0)]),
  (4, [(.iload 1, 0, 0), (.aload 0, 0, 0), (.getfield 0, 5, 1), (.if_icmp .ge 0, 3, 0), (.goto_w 0, 2, 0)]),
  (12, [(.iconst (1), 0, 0), (.goto 0, 4, 0)]),
  (16, [(.iconst (0), 0, 0), (.goto_w 0, 4, 0)]),
  (17, [(.ireturn, 0, 0)])]
def zB_Ne_hasGroup : List (Nat × List zEnt) := [(0, [(.iload 1, 0, 0), (.ifCond .lt 0, 3, 0), (.goto_w 0, 1, 0)]),
  (4, [(.iload 1, 0, 0), (.aload 0, 0, 0), (.invokevirtual 0, 35, 0), (.if_icmp .gt 0, 3, 0), (.goto_w 0, 2, 0)]),
  (12, [(.iconst (1), 0, 0), (.goto 0, 4, 0)]),
  (16, [(.iconst (0), 0, 0), (.goto_w 0, 4, 0)]),
  (17, [(.ireturn, 0, 0)])]
def zB_Ne_hasMove : List (Nat × List zEnt) := [(0, [(.aload 0, 0, 0), (.iload 1, 0, 0), (.invokevirtual 0, 30, 0), (.ifCond .eq 0, 5, 0), (.goto_w 0, 1, 0)]),
  (8, [(.aload 0, 0, 0), (.iload 2, 0, 0), (.invokevirtual 0, 31, 0), (.ifCond .eq 0, 5, 0), (.goto_w 0, 2, 0)]),
  (16, [(.iload 3, 0, 0), (.ifCond .lt 0, 5, 0), (.goto_w 0, 3, 0)]),
  (20, [(.iload 3, 0, 0), (.aload 0, 0, 0), (.iload 1, 0, 0), (.iload 2, 0, 0), (.invokevirtual 0, 37, 0), (.if_icmp .ge 0, 5, 0), (.goto_w 0, 4, 0)]),
  (30, [(.iconst (1), 0, 0), (.goto 0, 6, 0)]),
  (34, [(.iconst (0), 0, 0), (.goto_w 0, 6, 0)]),
  (35, [(.ireturn, 0, 0)])]
def zB_Ne_hasJoint : List (Nat × List zEnt) := [(0, [(.aload 0, 0, 0), (.iload 1, 0, 0), (.invokevirtual 0, 30, 0), (.ifCond .eq 0, 4, 0), (.goto_w 0, 1, 0)]),
  (8, [(.iload 2, 0, 0), (.ifCond .lt 0, 4, 0), (.goto_w 0, 2, 0)]),
  (12, [(.iload 2, 0, 0), (.aload 0, 0, 0), (.iload 1, 0, 0), (.aload 0, 0, 0), (.invokevirtual 0, 35, 0), (.invokevirtual 0, 43, 0), (.if_icmp .ge 0, 4, 0), (.goto_w 0, 3, 0)]),
  (25, [(.iconst (1), 0, 0), (.goto 0, 5, 0)]),
  (29, [(.iconst (0), 0, 0), (.goto_w 0, 5, 0)]),
  (30, [(.ireturn, 0, 0)])]
def zB_Ne_everyone : List (Nat × List zEnt) := [(0, [(.iconst (1), 0, 0), (.aload 0, 0, 0), (.getfield 0, 5, 1), (.ishl, 0, 0), (.iconst (1), 0, 0), (.isub, 0, 0), (.ireturn, 0, 0)])]
def zB_Ne_everywhere : List (Nat × List zEnt) := [(0, [(.iconst (1), 0, 0), (.aload 0, 0, 0), (.getfield 0, 5, 0), (.ishl, 0, 0), (.iconst (1), 0, 0), (.isub, 0, 0), (.ireturn, 0, 0)])]
def zB_Ne_movesOf : List (Nat × List zEnt) := [(0, [(.aload 0, 0, 0), (.getfield 0, 5, 3), (.iload 1, 0, 0), (.iconst (4), 0, 0), (.imul, 0, 0), (.iload 2, 0, 0), (.iadd, 0, 0), (.invokestatic 0, 105, 0), (.ireturn, 0, 0)])]
def zB_Ne_target : List (Nat × List zEnt) := [(0, [(.aload 0, 0, 0), (.getfield 0, 5, 6), (.iload 1, 0, 0), (.iconst (81), 0, 0), (.imul, 0, 0), (.iload 2, 0, 0), (.iadd, 0, 0), (.invokestatic 0, 105, 0), (.ireturn, 0, 0)])]
def zB_Ne_changeMoves : List (Nat × List zEnt) := [(0, [(.aload 0, 0, 0), (.dup, 0, 0), (.getfield 0, 5, 2), (.iconst (1), 0, 0), (.iadd, 0, 0), (.putfield 0, 5, 2), (.aload 0, 0, 0), (.iload 1, 0, 0), (.invokevirtual 0, 29, 0), (.aload 0, 0, 0), (.getfield 0, 5, 3), (.iload 1, 0, 0), (.iconst (4), 0, 0), (.imul, 0, 0), (.iload 2, 0, 0), (.iadd, 0, 0), (.iload 3, 0, 0), (.invokestatic 0, 107, 0), (.ireturn, 0, 0)])]
def zB_Ne_changeTarget : List (Nat × List zEnt) := [(0, [(.aload 0, 0, 0), (.dup, 0, 0), (.getfield 0, 5, 2), (.iconst (1), 0, 0), (.iadd, 0, 0), (.putfield 0, 5, 2), (.aload 0, 0, 0), (.getfield 0, 5, 6), (.iload 1, 0, 0), (.iconst (81), 0, 0), (.imul, 0, 0), (.iload 2, 0, 0), (.iadd, 0, 0), (.iload 3, 0, 0), (.invokestatic 0, 107, 0), (.ireturn, 0, 0)])]
def zB_Ne_changeLetters : List (Nat × List zEnt) := [(0, [(.aload 0, 0, 0), (.dup, 0, 0), (.getfield 0, 5, 2), (.iconst (1), 0, 0), (.iadd, 0, 0), (.putfield 0, 5, 2), (.aload 0, 0, 0), (.getfield 0, 5, 7), (.iload 1, 0, 0), (.iload 2, 0, 0), (.invokestatic 0, 107, 0), (.ireturn, 0, 0)])]
def zB_Ne_bearing : List (Nat × List zEnt) := [(0, [(.iconst (0), 0, 0), (.istore 2, 0, 0), (.iconst (0), 0, 0), (.istore 3, 0, 0), (.goto_w 0, 1, 0)]),
  (4, [(.iload 3, 0, 0), (.aload 0, 0, 0), (.getfield 0, 5, 0), (.if_icmp .ge 0, 5, 0), (.goto_w 0, 2, 0)]),
  (12, [(.aload 0, 0, 0), (.getfield 0, 5, 7), (.iload 3, 0, 0), (.invokestatic 0, 105, 0), (.iload 1, 0, 0), (.invokestatic 0, 108, 0), (.ifCond .eq 0, 4, 0), (.goto_w 0, 3, 0)]),
  (27, [(.iload 2, 0, 0), (.iconst (1), 0, 0), (.iload 3, 0, 0), (.ishl, 0, 0), (.ior, 0, 0), (.istore 2, 0, 0), (.goto_w 0, 4, 0)]),
  (33, [(.iinc 3 (1), 0, 0), (.goto 0, 1, 0)]),
  (39, [(.iload 2, 0, 0), (.ireturn, 0, 0)])]
def zB_Ne_ways : List (Nat × List zEnt) := [(0, [(.iconst (1), 0, 0), (.istore 3, 0, 0), (.iconst (0), 0, 0), (.istore 4, 0, 0), (.goto_w 0, 1, 0)]),
  (5, [(.iload 4, 0, 0), (.aload 0, 0, 0), (.getfield 0, 5, 1), (.if_icmp .ge 0, 5, 0), (.goto_w 0, 2, 0)]),
  (14, [(.iload 2, 0, 0), (.iload 4, 0, 0), (.invokestatic 0, 108, 0), (.ifCond .eq 0, 4, 0), (.goto_w 0, 3, 0)]),
  (23, [(.iload 3, 0, 0), (.aload 0, 0, 0), (.iload 1, 0, 0), (.iload 4, 0, 0), (.invokevirtual 0, 37, 0), (.imul, 0, 0), (.istore 3, 0, 0), (.goto_w 0, 4, 0)]),
  (33, [(.iinc 4 (1), 0, 0), (.goto 0, 1, 0)]),
  (39, [(.iload 3, 0, 0), (.ireturn, 0, 0)])]
def zB_Ne_together : List (Nat × List zEnt) := [(0, [(.iload 3, 0, 0), (.istore 5, 0, 0), (.iload 4, 0, 0), (.istore 6, 0, 0), (.iconst (0), 0, 0), (.istore 7, 0, 0), (.iconst (1), 0, 0), (.istore 8, 0, 0), (.aload 0, 0, 0), (.getfield 0, 5, 1), (.iconst (1), 0, 0), (.isub, 0, 0), (.istore 9, 0, 0), (.goto_w 0, 1, 0)]),
  (21, [(.iload 9, 0, 0), (.ifCond .lt 0, 6, 0), (.goto_w 0, 2, 0)]),
  (26, [(.aload 0, 0, 0), (.iload 1, 0, 0), (.iload 9, 0, 0), (.invokevirtual 0, 37, 0), (.istore 10, 0, 0), (.iload 2, 0, 0), (.iload 9, 0, 0), (.invokestatic 0, 108, 0), (.ifCond .eq 0, 4, 0), (.goto_w 0, 3, 0)]),
  (44, [(.iload 7, 0, 0), (.iload 5, 0, 0), (.iload 10, 0, 0), (.invokestatic 0, 110, 0), (.iload 8, 0, 0), (.imul, 0, 0), (.iadd, 0, 0), (.istore 7, 0, 0), (.iload 5, 0, 0), (.iload 10, 0, 0), (.invokestatic 0, 109, 0), (.istore 5, 0, 0), (.goto 0, 5, 0)]),
  (71, [(.iload 7, 0, 0), (.iload 6, 0, 0), (.iload 10, 0, 0), (.invokestatic 0, 110, 0), (.iload 8, 0, 0), (.imul, 0, 0), (.iadd, 0, 0), (.istore 7, 0, 0), (.iload 6, 0, 0), (.iload 10, 0, 0), (.invokestatic 0, 109, 0), (.istore 6, 0, 0), (.goto_w 0, 5, 0)]),
  (95, [(.iload 8, 0, 0), (.iload 10, 0, 0), (.imul, 0, 0), (.istore 8, 0, 0), (.iinc 9 (-1), 0, 0), (.goto 0, 1, 0)]),
  (108, [(.iload 7, 0, 0), (.ireturn, 0, 0)])]
def zB_Ne_sumOfPrices : List (Nat × List zEnt) := [(0, [(.iload 3, 0, 0), (.istore 4, 0, 0), (.iconst (0), 0, 0), (.istore 5, 0, 0), (.aload 0, 0, 0), (.getfield 0, 5, 1), (.iconst (1), 0, 0), (.isub, 0, 0), (.istore 6, 0, 0), (.goto_w 0, 1, 0)]),
  (14, [(.iload 6, 0, 0), (.ifCond .lt 0, 5, 0), (.goto_w 0, 2, 0)]),
  (19, [(.iload 2, 0, 0), (.iload 6, 0, 0), (.invokestatic 0, 108, 0), (.ifCond .eq 0, 4, 0), (.goto_w 0, 3, 0)]),
  (28, [(.aload 0, 0, 0), (.iload 1, 0, 0), (.iload 6, 0, 0), (.invokevirtual 0, 37, 0), (.istore 7, 0, 0), (.iload 5, 0, 0), (.aload 0, 0, 0), (.getfield 0, 5, 5), (.iload 1, 0, 0), (.iconst (4), 0, 0), (.imul, 0, 0), (.iload 6, 0, 0), (.iadd, 0, 0), (.iconst (3), 0, 0), (.imul, 0, 0), (.iload 4, 0, 0), (.iload 7, 0, 0), (.invokestatic 0, 110, 0), (.iadd, 0, 0), (.invokestatic 0, 105, 0), (.iadd, 0, 0), (.istore 5, 0, 0), (.iload 4, 0, 0), (.iload 7, 0, 0), (.invokestatic 0, 109, 0), (.istore 4, 0, 0), (.goto_w 0, 4, 0)]),
  (74, [(.iinc 6 (-1), 0, 0), (.goto 0, 1, 0)]),
  (80, [(.iload 5, 0, 0), (.ireturn, 0, 0)])]
def zB_Pl_init : List (Nat × List zEnt) := [(0, [(.aload 0, 0, 0), (.nop, 0, 0), (.aload 0, 0, 0), (.iconst (12), 0, 0), (.newarray .int, 0, 0), (.putfield 0, 6, 4), (.aload 0, 0, 0), (.iconst (41), 0, 0), (.newarray .int, 0, 0), (.putfield 0, 6, 5), (.aload 0, 0, 0), (.aload 1, 0, 0), (.putfield 0, 6, 0), (.aload 0, 0, 0), (.aload 2, 0, 0), (.putfield 0, 6, 1), (.aload 0, 0, 0), (.aload 3, 0, 0), (.putfield 0, 6, 2), (.aload 0, 0, 0), (.aload 4, 0, 0), (.putfield 0, 6, 3), (.return_, 0, 0)])]
def zB_Pl_move : List (Nat × List zEnt) := [(0, [(.aload 0, 0, 0), (.getfield 0, 6, 3), (.invokevirtual 0, 18, 0), (.iload 1, 0, 0), (.invokestatic 0, 108, 0), (.ifCond .ne 0, 2, 0), (.goto_w 0, 1, 0)]),
  (14, [(.iconst (-4), 0, 0), (.ireturn, 0, 0)]),
  (17, [(.aload 0, 0, 0), (.getfield 0, 6, 2), (.iload 1, 0, 0), (.aload 0, 0, 0), (.iload 1, 0, 0), (.invokevirtual 0, 48, 0), (.invokevirtual 0, 71, 0), (.istore 2, 0, 0), (.iload 2, 0, 0), (.ifCond .ge 0, 4, 0), (.goto_w 0, 3, 0)]),
  (35, [(.iconst (-4), 0, 0), (.goto 0, 5, 0)]),
  (40, [(.iload 2, 0, 0), (.goto_w 0, 5, 0)]),
  (41, [(.ireturn, 0, 0)])]
def zB_Pl_aim : List (Nat × List zEnt) := [(0, [(.aload 0, 0, 0), (.getfield 0, 6, 3), (.getfield 0, 3, 4), (.iload 1, 0, 0), (.invokestatic 0, 105, 0), (.istore 2, 0, 0), (.aload 0, 0, 0), (.getfield 0, 6, 1), (.iconst (0), 0, 0), (.invokevirtual 0, 7, 0), (.tableswitch 7 (5) (9) #[1, 2, 7, 7, 3], 0, 0)]),
  (56, [(.aload 0, 0, 0), (.getfield 0, 6, 3), (.getfield 0, 3, 3), (.aload 0, 0, 0), (.getfield 0, 6, 1), (.iconst (0), 0, 0), (.invokevirtual 0, 8, 0), (.invokestatic 0, 105, 0), (.ireturn, 0, 0)]),
  (75, [(.aload 0, 0, 0), (.getfield 0, 6, 3), (.invokevirtual 0, 18, 0), (.ireturn, 0, 0)]),
  (83, [(.iload 2, 0, 0), (.ifCond .ne 0, 5, 0), (.goto_w 0, 4, 0)]),
  (87, [(.aload 0, 0, 0), (.getfield 0, 6, 3), (.invokevirtual 0, 18, 0), (.goto 0, 6, 0)]),
  (97, [(.aload 0, 0, 0), (.getfield 0, 6, 3), (.iload 2, 0, 0), (.invokevirtual 0, 25, 0), (.goto_w 0, 6, 0)]),
  (105, [(.ireturn, 0, 0)]),
  (106, [(.aload 0, 0, 0), (.getfield 0, 6, 3), (.iload 2, 0, 0), (.invokevirtual 0, 25, 0), (.ireturn, 0, 0)])]
def zB_Pl_hinder : List (Nat × List zEnt) := [(0, [(.aload 0, 0, 0), (.getfield 0, 6, 1), (.iconst (0), 0, 0), (.invokevirtual 0, 10, 0), (.istore 3, 0, 0), (.aload 0, 0, 0), (.getfield 0, 6, 1), (.iconst (0), 0, 0), (.invokevirtual 0, 7, 0), (.iconst (5), 0, 0), (.if_icmp .ne 0, 2, 0), (.goto_w 0, 1, 0)]),
  (21, [(.aload 0, 0, 0), (.getfield 0, 6, 3), (.getfield 0, 3, 3), (.aload 0, 0, 0), (.getfield 0, 6, 1), (.iconst (0), 0, 0), (.invokevirtual 0, 8, 0), (.invokestatic 0, 105, 0), (.goto 0, 3, 0)]),
  (42, [(.aload 0, 0, 0), (.getfield 0, 6, 3), (.invokevirtual 0, 18, 0), (.goto_w 0, 3, 0)]),
  (49, [(.istore 4, 0, 0), (.aload 0, 0, 0), (.getfield 0, 6, 0), (.iload 1, 0, 0), (.aload 0, 0, 0), (.getfield 0, 6, 0), (.invokevirtual 0, 35, 0), (.iload 3, 0, 0), (.iconst (-1), 0, 0), (.ixor, 0, 0), (.iand, 0, 0), (.invokevirtual 0, 43, 0), (.istore 5, 0, 0), (.iconst (0), 0, 0), (.istore 6, 0, 0), (.goto_w 0, 4, 0)]),
  (75, [(.iload 6, 0, 0), (.iload 5, 0, 0), (.if_icmp .ge 0, 8, 0), (.goto_w 0, 5, 0)]),
  (82, [(.iload 4, 0, 0), (.aload 0, 0, 0), (.getfield 0, 6, 0), (.iload 1, 0, 0), (.aload 0, 0, 0), (.getfield 0, 6, 0), (.iload 1, 0, 0), (.iload 3, 0, 0), (.iload 2, 0, 0), (.iload 6, 0, 0), (.invokevirtual 0, 44, 0), (.invokevirtual 0, 38, 0), (.invokestatic 0, 108, 0), (.ifCond .ne 0, 7, 0), (.goto_w 0, 6, 0)]),
  (110, [(.iload 6, 0, 0), (.ireturn, 0, 0)]),
  (113, [(.iinc 6 (1), 0, 0), (.goto 0, 4, 0)]),
  (119, [(.iconst (-4), 0, 0), (.ireturn, 0, 0)])]
def zB_Pl_leastSum : List (Nat × List zEnt) := [(0, [(.iconst (0), 0, 0), (.istore 2, 0, 0), (.goto_w 0, 1, 0)]),
  (2, [(.iload 2, 0, 0), (.iconst (12), 0, 0), (.if_icmp .ge 0, 3, 0), (.goto_w 0, 2, 0)]),
  (8, [(.aload 0, 0, 0), (.getfield 0, 6, 4), (.iload 2, 0, 0), (.iconst (1000000), 0, 0), (.invokestatic 0, 106, 0), (.iinc 2 (1), 0, 0), (.goto 0, 1, 0)]),
  (24, [(.iconst (0), 0, 0), (.istore 2, 0, 0), (.goto_w 0, 4, 0)]),
  (26, [(.iload 2, 0, 0), (.aload 0, 0, 0), (.getfield 0, 6, 0), (.getfield 0, 5, 0), (.if_icmp .gt 0, 14, 0), (.goto_w 0, 5, 0)]),
  (37, [(.iconst (0), 0, 0), (.istore 3, 0, 0), (.goto_w 0, 6, 0)]),
  (39, [(.iload 3, 0, 0), (.aload 0, 0, 0), (.getfield 0, 6, 0), (.getfield 0, 5, 0), (.if_icmp .ge 0, 13, 0), (.goto_w 0, 7, 0)]),
  (50, [(.aload 0, 0, 0), (.getfield 0, 6, 3), (.invokevirtual 0, 18, 0), (.iload 3, 0, 0), (.invokestatic 0, 108, 0), (.ifCond .eq 0, 12, 0), (.goto_w 0, 8, 0)]),
  (64, [(.aload 0, 0, 0), (.getfield 0, 6, 4), (.iload 3, 0, 0), (.aload 0, 0, 0), (.getfield 0, 6, 3), (.getfield 0, 3, 4), (.iload 3, 0, 0), (.invokestatic 0, 105, 0), (.ifCond .ne 0, 10, 0), (.goto_w 0, 9, 0)]),
  (83, [(.iconst (0), 0, 0), (.goto 0, 11, 0)]),
  (87, [(.aload 0, 0, 0), (.iload 3, 0, 0), (.invokevirtual 0, 51, 0), (.goto_w 0, 11, 0)]),
  (92, [(.invokestatic 0, 106, 0), (.goto_w 0, 12, 0)]),
  (95, [(.iinc 3 (1), 0, 0), (.goto 0, 6, 0)]),
  (101, [(.iinc 2 (1), 0, 0), (.goto 0, 4, 0)]),
  (107, [(.aload 0, 0, 0), (.getfield 0, 6, 4), (.iload 1, 0, 0), (.invokestatic 0, 105, 0), (.ireturn, 0, 0)])]
def zB_Pl_cheapest : List (Nat × List zEnt) := [(0, [(.iconst (1000000), 0, 0), (.istore 2, 0, 0), (.aload 0, 0, 0), (.getfield 0, 6, 2), (.getfield 0, 8, 2), (.iload 1, 0, 0), (.invokestatic 0, 105, 0), (.istore 3, 0, 0), (.iconst (0), 0, 0), (.istore 4, 0, 0), (.goto_w 0, 1, 0)]),
  (18, [(.iload 4, 0, 0), (.iload 3, 0, 0), (.if_icmp .ge 0, 3, 0), (.goto_w 0, 2, 0)]),
  (24, [(.aload 0, 0, 0), (.getfield 0, 6, 0), (.iload 1, 0, 0), (.aload 0, 0, 0), (.getfield 0, 6, 1), (.iconst (0), 0, 0), (.invokevirtual 0, 10, 0), (.iload 4, 0, 0), (.invokevirtual 0, 45, 0), (.aload 0, 0, 0), (.aload 0, 0, 0), (.getfield 0, 6, 2), (.iload 1, 0, 0), (.iload 4, 0, 0), (.invokevirtual 0, 70, 0), (.invokevirtual 0, 52, 0), (.iadd, 0, 0), (.istore 5, 0, 0), (.iload 2, 0, 0), (.iload 5, 0, 0), (.fsub, 0, 0), (.istore 2, 0, 0), (.iinc 4 (1), 0, 0), (.goto 0, 1, 0)]),
  (72, [(.iload 2, 0, 0), (.ireturn, 0, 0)])]
def zB_Pl_worst : List (Nat × List zEnt) := [(0, [(.iconst (0), 0, 0), (.istore 2, 0, 0), (.iconst (0), 0, 0), (.istore 3, 0, 0), (.goto_w 0, 1, 0)]),
  (4, [(.iload 3, 0, 0), (.aload 0, 0, 0), (.getfield 0, 6, 0), (.getfield 0, 5, 0), (.if_icmp .ge 0, 5, 0), (.goto_w 0, 2, 0)]),
  (15, [(.iload 1, 0, 0), (.iload 3, 0, 0), (.invokestatic 0, 108, 0), (.ifCond .eq 0, 4, 0), (.goto_w 0, 3, 0)]),
  (23, [(.iload 2, 0, 0), (.aload 0, 0, 0), (.getfield 0, 6, 4), (.iload 3, 0, 0), (.invokestatic 0, 105, 0), (.fadd, 0, 0), (.istore 2, 0, 0), (.goto_w 0, 4, 0)]),
  (36, [(.iinc 3 (1), 0, 0), (.goto 0, 1, 0)]),
  (42, [(.iload 2, 0, 0), (.ireturn, 0, 0)])]
def zB_Pl_forget : List (Nat × List zEnt) := [(0, [(.aload 0, 0, 0), (.iconst (0), 0, 0), (.putfield 0, 6, 6), (.return_, 0, 0)])]
def zB_Pl_startWalk : List (Nat × List zEnt) := [(0, [(.aload 0, 0, 0), (.getfield 0, 6, 5), (.iconst (0), 0, 0), (.iload 1, 0, 0), (.invokestatic 0, 106, 0), (.aload 0, 0, 0), (.iconst (1), 0, 0), (.putfield 0, 6, 6), (.return_, 0, 0)])]
def zB_Pl_goOn : List (Nat × List zEnt) := [(0, [(.aload 0, 0, 0), (.getfield 0, 6, 5), (.aload 0, 0, 0), (.getfield 0, 6, 6), (.iconst (1), 0, 0), (.isub, 0, 0), (.invokestatic 0, 105, 0), (.istore 2, 0, 0), (.aload 0, 0, 0), (.getfield 0, 6, 1), (.iconst (0), 0, 0), (.invokevirtual 0, 10, 0), (.istore 3, 0, 0), (.iload 1, 0, 0), (.aload 0, 0, 0), (.getfield 0, 6, 0), (.iload 2, 0, 0), (.aload 0, 0, 0), (.getfield 0, 6, 0), (.invokevirtual 0, 35, 0), (.iload 3, 0, 0), (.iconst (-1), 0, 0), (.ixor, 0, 0), (.iand, 0, 0), (.invokevirtual 0, 43, 0), (.invokestatic 0, 110, 0), (.istore 4, 0, 0), (.aload 0, 0, 0), (.iload 2, 0, 0), (.invokevirtual 0, 47, 0), (.iconst (0), 0, 0), (.fadd, 0, 0), (.istore 5, 0, 0), (.aload 0, 0, 0), (.getfield 0, 6, 5), (.aload 0, 0, 0), (.getfield 0, 6, 6), (.aload 0, 0, 0), (.getfield 0, 6, 0), (.iload 2, 0, 0), (.aload 0, 0, 0), (.getfield 0, 6, 0), (.iload 2, 0, 0), (.iload 3, 0, 0), (.iload 5, 0, 0), (.iload 4, 0, 0), (.invokevirtual 0, 44, 0), (.invokevirtual 0, 38, 0), (.invokestatic 0, 106, 0), (.aload 0, 0, 0), (.dup, 0, 0), (.getfield 0, 6, 6), (.iconst (1), 0, 0), (.iadd, 0, 0), (.putfield 0, 6, 6), (.return_, 0, 0)])]
def zB_Pl_behind : List (Nat × List zEnt) := [(0, [(.iload 1, 0, 0), (.ifCond .lt 0, 3, 0), (.goto_w 0, 1, 0)]),
  (4, [(.iload 1, 0, 0), (.aload 0, 0, 0), (.getfield 0, 6, 6), (.if_icmp .ge 0, 3, 0), (.goto_w 0, 2, 0)]),
  (12, [(.aload 0, 0, 0), (.getfield 0, 6, 5), (.iload 1, 0, 0), (.invokestatic 0, 105, 0), (.goto 0, 4, 0)]),
  (23, [(.iconst (-1), 0, 0), (.goto_w 0, 4, 0)]),
  (24, [(.ireturn, 0, 0)])]
def zB_Sh_init : List (Nat × List zEnt) := [(0, [(.aload 0, 0, 0), (.nop, 0, 0), (.aload 0, 0, 0), (.iconst (4), 0, 0), (.newarray .int, 0, 0), (.putfield 0, 7, 0), (.aload 0, 0, 0), (.iconst (4), 0, 0), (.newarray .int, 0, 0), (.putfield 0, 7, 1), (.aload 0, 0, 0), (.iconst (324), 0, 0), (.newarray .int, 0, 0), (.putfield 0, 7, 2), (.aload 0, 0, 0), (.getfield 0, 7, 0), (.iconst (-1), 0, 0), (.invokestatic 0, 111, 0), (.return_, 0, 0)])]
def zB_Sh_hasPlace : List (Nat × List zEnt) := [(0, [(.iload 1, 0, 0), (.ifCond .lt 0, 5, 0), (.goto_w 0, 1, 0)]),
  (4, [(.iload 1, 0, 0), (.iconst (4), 0, 0), (.if_icmp .ge 0, 5, 0), (.goto_w 0, 2, 0)]),
  (9, [(.iload 2, 0, 0), (.ifCond .lt 0, 5, 0), (.goto_w 0, 3, 0)]),
  (13, [(.iload 2, 0, 0), (.iconst (3), 0, 0), (.if_icmp .ge 0, 5, 0), (.goto_w 0, 4, 0)]),
  (18, [(.iconst (1), 0, 0), (.goto 0, 6, 0)]),
  (22, [(.iconst (0), 0, 0), (.goto_w 0, 6, 0)]),
  (23, [(.ireturn, 0, 0)])]
def zB_Sh_isEmptyPlace : List (Nat × List zEnt) := [(0, [(.aload 0, 0, 0), (.getfield 0, 7, 0), (.iload 1, 0, 0), (.invokestatic 0, 105, 0), (.iconst (-1), 0, 0), (.if_icmp .ne 0, 2, 0), (.goto_w 0, 1, 0)]),
  (12, [(.iconst (1), 0, 0), (.goto 0, 3, 0)]),
  (16, [(.iconst (0), 0, 0), (.goto_w 0, 3, 0)]),
  (17, [(.ireturn, 0, 0)])]
def zB_Sh_hasItems : List (Nat × List zEnt) := [(0, [(.aload 0, 0, 0), (.getfield 0, 7, 1), (.iload 1, 0, 0), (.invokestatic 0, 105, 0), (.istore 4, 0, 0), (.iload 3, 0, 0), (.ifCond .lt 0, 5, 0), (.goto_w 0, 1, 0)]),
  (14, [(.iload 2, 0, 0), (.ifCond .lt 0, 5, 0), (.goto_w 0, 2, 0)]),
  (18, [(.iload 2, 0, 0), (.iload 4, 0, 0), (.if_icmp .gt 0, 5, 0), (.goto_w 0, 3, 0)]),
  (24, [(.iload 3, 0, 0), (.iload 4, 0, 0), (.iload 2, 0, 0), (.isub, 0, 0), (.if_icmp .gt 0, 5, 0), (.goto_w 0, 4, 0)]),
  (32, [(.iconst (1), 0, 0), (.goto 0, 6, 0)]),
  (36, [(.iconst (0), 0, 0), (.goto_w 0, 6, 0)]),
  (37, [(.ireturn, 0, 0)])]
def zB_Sh_wrong : List (Nat × List zEnt) := [(0, [(.aload 0, 0, 0), (.iload 1, 0, 0), (.invokevirtual 0, 59, 0), (.ifCond .eq 0, 2, 0), (.goto_w 0, 1, 0)]),
  (8, [(.iconst (-11), 0, 0), (.ireturn, 0, 0)]),
  (11, [(.aload 0, 0, 0), (.getfield 0, 7, 0), (.iload 1, 0, 0), (.invokestatic 0, 105, 0), (.iload 2, 0, 0), (.if_icmp .eq 0, 4, 0), (.goto_w 0, 3, 0)]),
  (23, [(.iconst (-12), 0, 0), (.ireturn, 0, 0)]),
  (26, [(.aload 0, 0, 0), (.iload 1, 0, 0), (.iload 3, 0, 0), (.iload 4, 0, 0), (.invokevirtual 0, 60, 0), (.ifCond .eq 0, 6, 0), (.goto_w 0, 5, 0)]),
  (37, [(.iconst (0), 0, 0), (.goto 0, 7, 0)]),
  (41, [(.iconst (-13), 0, 0), (.goto_w 0, 7, 0)]),
  (43, [(.ireturn, 0, 0)])]
def zB_Sh_start : List (Nat × List zEnt) := [(0, [(.aload 0, 0, 0), (.getfield 0, 7, 0), (.iload 1, 0, 0), (.iload 2, 0, 0), (.invokestatic 0, 106, 0), (.aload 0, 0, 0), (.getfield 0, 7, 1), (.iload 1, 0, 0), (.iload 3, 0, 0), (.invokestatic 0, 106, 0), (.iconst (0), 0, 0), (.istore 4, 0, 0), (.goto_w 0, 1, 0)]),
  (21, [(.iload 4, 0, 0), (.iconst (81), 0, 0), (.if_icmp .ge 0, 3, 0), (.goto_w 0, 2, 0)]),
  (28, [(.aload 0, 0, 0), (.getfield 0, 7, 2), (.iload 1, 0, 0), (.iconst (81), 0, 0), (.imul, 0, 0), (.iload 4, 0, 0), (.iadd, 0, 0), (.iconst (0), 0, 0), (.invokestatic 0, 106, 0), (.iinc 4 (1), 0, 0), (.goto 0, 1, 0)]),
  (49, [(.return_, 0, 0)])]
def zB_Sh_read : List (Nat × List zEnt) := [(0, [(.aload 0, 0, 0), (.getfield 0, 7, 2), (.iload 1, 0, 0), (.iconst (81), 0, 0), (.imul, 0, 0), (.iload 2, 0, 0), (.iadd, 0, 0), (.invokestatic 0, 105, 0), (.ireturn, 0, 0)])]
def zB_Sh_write : List (Nat × List zEnt) := [(0, [(.aload 0, 0, 0), (.getfield 0, 7, 2), (.iload 1, 0, 0), (.iconst (81), 0, 0), (.imul, 0, 0), (.iload 2, 0, 0), (.iadd, 0, 0), (.aload 0, 0, 0), (.getfield 0, 7, 0), (.iload 1, 0, 0), (.invokestatic 0, 105, 0), (.ifCond .ne 0, 2, 0), (.goto_w 0, 1, 0)]),
  (21, [(.iload 3, 0, 0), (.i2b, 0, 0), (.goto 0, 3, 0)]),
  (26, [(.iload 3, 0, 0), (.goto_w 0, 3, 0)]),
  (27, [(.invokestatic 0, 106, 0), (.return_, 0, 0)])]
def zB_Sh_hasBelowZero : List (Nat × List zEnt) := [(0, [(.iconst (0), 0, 0), (.istore 4, 0, 0), (.goto_w 0, 1, 0)]),
  (3, [(.iload 4, 0, 0), (.iload 3, 0, 0), (.if_icmp .ge 0, 5, 0), (.goto_w 0, 2, 0)]),
  (9, [(.aload 0, 0, 0), (.iload 1, 0, 0), (.iload 2, 0, 0), (.iload 4, 0, 0), (.iadd, 0, 0), (.invokevirtual 0, 63, 0), (.ifCond .ge 0, 4, 0), (.goto_w 0, 3, 0)]),
  (21, [(.iconst (1), 0, 0), (.ireturn, 0, 0)]),
  (23, [(.iinc 4 (1), 0, 0), (.goto 0, 1, 0)]),
  (29, [(.iconst (0), 0, 0), (.ireturn, 0, 0)])]
def zB_Ta_init : List (Nat × List zEnt) := [(0, [(.aload 0, 0, 0), (.nop, 0, 0), (.aload 0, 0, 0), (.iconst (972), 0, 0), (.newarray .int, 0, 0), (.putfield 0, 8, 1), (.aload 0, 0, 0), (.iconst (12), 0, 0), (.newarray .int, 0, 0), (.putfield 0, 8, 2), (.aload 0, 0, 0), (.iconst (81), 0, 0), (.newarray .int, 0, 0), (.putfield 0, 8, 3), (.aload 0, 0, 0), (.iconst (-1), 0, 0), (.putfield 0, 8, 4), (.aload 0, 0, 0), (.iconst (-1), 0, 0), (.putfield 0, 8, 5), (.aload 0, 0, 0), (.aload 1, 0, 0), (.putfield 0, 8, 0), (.return_, 0, 0)])]
def zB_Ta_prepare : List (Nat × List zEnt) := [(0, [(.iload 1, 0, 0), (.aload 0, 0, 0), (.getfield 0, 8, 4), (.if_icmp .ne 0, 3, 0), (.goto_w 0, 1, 0)]),
  (8, [(.aload 0, 0, 0), (.getfield 0, 8, 5), (.aload 0, 0, 0), (.getfield 0, 8, 0), (.getfield 0, 5, 2), (.if_icmp .ne 0, 3, 0), (.goto_w 0, 2, 0)]),
  (22, [(.return_, 0, 0)]),
  (23, [(.aload 0, 0, 0), (.iload 1, 0, 0), (.putfield 0, 8, 4), (.aload 0, 0, 0), (.aload 0, 0, 0), (.getfield 0, 8, 0), (.getfield 0, 5, 2), (.putfield 0, 8, 5), (.aload 0, 0, 0), (.getfield 0, 8, 1), (.iconst (0), 0, 0), (.invokestatic 0, 111, 0), (.iconst (0), 0, 0), (.istore 2, 0, 0), (.goto_w 0, 4, 0)]),
  (49, [(.iload 2, 0, 0), (.aload 0, 0, 0), (.getfield 0, 8, 0), (.getfield 0, 5, 0), (.if_icmp .ge 0, 6, 0), (.goto_w 0, 5, 0)]),
  (60, [(.aload 0, 0, 0), (.iload 2, 0, 0), (.invokevirtual 0, 68, 0), (.iinc 2 (1), 0, 0), (.goto 0, 4, 0)]),
  (71, [(.return_, 0, 0)])]
def zB_Ta_fill : List (Nat × List zEnt) := [(0, [(.aload 0, 0, 0), (.getfield 0, 8, 2), (.iload 1, 0, 0), (.aload 0, 0, 0), (.getfield 0, 8, 0), (.iload 1, 0, 0), (.aload 0, 0, 0), (.getfield 0, 8, 4), (.invokevirtual 0, 43, 0), (.invokestatic 0, 106, 0), (.aload 0, 0, 0), (.iload 1, 0, 0), (.invokevirtual 0, 69, 0), (.istore 2, 0, 0), (.iconst (0), 0, 0), (.istore 3, 0, 0), (.goto_w 0, 1, 0)]),
  (28, [(.iload 3, 0, 0), (.iload 2, 0, 0), (.if_icmp .ge 0, 3, 0), (.goto_w 0, 2, 0)]),
  (33, [(.iload 1, 0, 0), (.iconst (81), 0, 0), (.imul, 0, 0), (.aload 0, 0, 0), (.getfield 0, 8, 3), (.iload 3, 0, 0), (.invokestatic 0, 105, 0), (.iadd, 0, 0), (.istore 4, 0, 0), (.aload 0, 0, 0), (.getfield 0, 8, 1), (.iload 4, 0, 0), (.aload 0, 0, 0), (.getfield 0, 8, 1), (.iload 4, 0, 0), (.invokestatic 0, 105, 0), (.iconst (1), 0, 0), (.aload 0, 0, 0), (.getfield 0, 8, 0), (.iload 1, 0, 0), (.iload 3, 0, 0), (.invokevirtual 0, 38, 0), (.ishl, 0, 0), (.ior, 0, 0), (.invokestatic 0, 106, 0), (.iinc 3 (1), 0, 0), (.goto 0, 1, 0)]),
  (84, [(.return_, 0, 0)])]
def zB_Ta_share : List (Nat × List zEnt) := [(0, [(.iconst (1), 0, 0), (.istore 2, 0, 0), (.aload 0, 0, 0), (.getfield 0, 8, 3), (.iconst (0), 0, 0), (.iconst (0), 0, 0), (.invokestatic 0, 106, 0), (.iconst (0), 0, 0), (.istore 3, 0, 0), (.goto_w 0, 1, 0)]),
  (13, [(.iload 3, 0, 0), (.aload 0, 0, 0), (.getfield 0, 8, 0), (.getfield 0, 5, 1), (.if_icmp .ge 0, 12, 0), (.goto_w 0, 2, 0)]),
  (24, [(.aload 0, 0, 0), (.getfield 0, 8, 0), (.iload 1, 0, 0), (.iload 3, 0, 0), (.invokevirtual 0, 37, 0), (.istore 4, 0, 0), (.iload 2, 0, 0), (.iconst (1), 0, 0), (.isub, 0, 0), (.istore 5, 0, 0), (.goto_w 0, 3, 0)]),
  (40, [(.iload 5, 0, 0), (.ifCond .lt 0, 11, 0), (.goto_w 0, 4, 0)]),
  (45, [(.aload 0, 0, 0), (.getfield 0, 8, 3), (.iload 5, 0, 0), (.invokestatic 0, 105, 0), (.istore 6, 0, 0), (.iconst (0), 0, 0), (.istore 7, 0, 0), (.goto_w 0, 5, 0)]),
  (59, [(.iload 7, 0, 0), (.iload 4, 0, 0), (.if_icmp .ge 0, 10, 0), (.goto_w 0, 6, 0)]),
  (66, [(.aload 0, 0, 0), (.getfield 0, 8, 3), (.iload 5, 0, 0), (.iload 4, 0, 0), (.imul, 0, 0), (.iload 7, 0, 0), (.iadd, 0, 0), (.aload 0, 0, 0), (.getfield 0, 8, 4), (.iload 3, 0, 0), (.invokestatic 0, 108, 0), (.ifCond .eq 0, 8, 0), (.goto_w 0, 7, 0)]),
  (89, [(.iload 6, 0, 0), (.iload 4, 0, 0), (.imul, 0, 0), (.iload 7, 0, 0), (.iadd, 0, 0), (.goto 0, 9, 0)]),
  (100, [(.iload 6, 0, 0), (.goto_w 0, 9, 0)]),
  (102, [(.invokestatic 0, 106, 0), (.iinc 7 (1), 0, 0), (.goto 0, 5, 0)]),
  (111, [(.iinc 5 (-1), 0, 0), (.goto 0, 3, 0)]),
  (117, [(.iload 2, 0, 0), (.iload 4, 0, 0), (.imul, 0, 0), (.istore 2, 0, 0), (.iinc 3 (1), 0, 0), (.goto 0, 1, 0)]),
  (128, [(.iload 2, 0, 0), (.ireturn, 0, 0)])]
def zB_Ta_endsOf : List (Nat × List zEnt) := [(0, [(.aload 0, 0, 0), (.getfield 0, 8, 1), (.iload 1, 0, 0), (.iconst (81), 0, 0), (.imul, 0, 0), (.iload 2, 0, 0), (.iadd, 0, 0), (.invokestatic 0, 105, 0), (.ireturn, 0, 0)])]
def zB_Ta_leastInto : List (Nat × List zEnt) := [(0, [(.aload 0, 0, 0), (.getfield 0, 8, 2), (.iload 1, 0, 0), (.invokestatic 0, 105, 0), (.istore 3, 0, 0), (.iconst (0), 0, 0), (.istore 4, 0, 0), (.goto_w 0, 1, 0)]),
  (12, [(.iload 4, 0, 0), (.iload 3, 0, 0), (.if_icmp .ge 0, 5, 0), (.goto_w 0, 2, 0)]),
  (18, [(.aload 0, 0, 0), (.getfield 0, 8, 1), (.iload 1, 0, 0), (.iconst (81), 0, 0), (.imul, 0, 0), (.iload 4, 0, 0), (.iadd, 0, 0), (.invokestatic 0, 105, 0), (.iload 2, 0, 0), (.iconst (-1), 0, 0), (.ixor, 0, 0), (.iand, 0, 0), (.ifCond .ne 0, 4, 0), (.goto_w 0, 3, 0)]),
  (39, [(.iload 4, 0, 0), (.ireturn, 0, 0)]),
  (42, [(.iinc 4 (1), 0, 0), (.goto 0, 1, 0)]),
  (48, [(.iconst (-1), 0, 0), (.ireturn, 0, 0)])]
def zB_Ta_forcing : List (Nat × List zEnt) := [(0, [(.iconst (0), 0, 0), (.istore 3, 0, 0), (.iconst (0), 0, 0), (.istore 4, 0, 0), (.goto_w 0, 1, 0)]),
  (5, [(.iload 4, 0, 0), (.aload 0, 0, 0), (.getfield 0, 8, 0), (.getfield 0, 5, 0), (.if_icmp .ge 0, 6, 0), (.goto_w 0, 2, 0)]),
  (17, [(.iload 1, 0, 0), (.iload 4, 0, 0), (.invokestatic 0, 108, 0), (.ifCond .eq 0, 5, 0), (.goto_w 0, 3, 0)]),
  (26, [(.aload 0, 0, 0), (.iload 4, 0, 0), (.iload 2, 0, 0), (.invokevirtual 0, 71, 0), (.ifCond .lt 0, 5, 0), (.goto_w 0, 4, 0)]),
  (36, [(.iload 3, 0, 0), (.iconst (1), 0, 0), (.iload 4, 0, 0), (.ishl, 0, 0), (.ior, 0, 0), (.istore 3, 0, 0), (.goto_w 0, 5, 0)]),
  (43, [(.iinc 4 (1), 0, 0), (.goto 0, 1, 0)]),
  (49, [(.iload 3, 0, 0), (.ireturn, 0, 0)])]
def zB_Tp_init : List (Nat × List zEnt) := [(0, [(.aload 0, 0, 0), (.nop, 0, 0), (.aload 0, 0, 0), (.iconst (100), 0, 0), (.newarray .int, 0, 0), (.putfield 0, 9, 0), (.aload 0, 0, 0), (.new 0, 1, 0), (.dup, 0, 0), (.invokevirtual 0, 1, 0), (.putfield 0, 9, 1), (.return_, 0, 0)])]
def zB_Tp_add : List (Nat × List zEnt) := [(0, [(.iconst (0), 0, 0), (.istore 4, 0, 0), (.goto_w 0, 1, 0)]),
  (3, [(.iload 4, 0, 0), (.iload 3, 0, 0), (.if_icmp .ge 0, 6, 0), (.goto_w 0, 2, 0)]),
  (9, [(.lload 1, 0, 0), (.iload 4, 0, 0), (.invokestatic 0, 75, 0), (.istore 5, 0, 0), (.iload 5, 0, 0), (.iconst (32), 0, 0), (.if_icmp .lt 0, 4, 0), (.goto_w 0, 3, 0)]),
  (24, [(.iload 5, 0, 0), (.iconst (126), 0, 0), (.if_icmp .le 0, 5, 0), (.goto_w 0, 4, 0)]),
  (31, [(.iconst (-1), 0, 0), (.ireturn, 0, 0)]),
  (33, [(.iinc 4 (1), 0, 0), (.goto 0, 1, 0)]),
  (39, [(.iload 3, 0, 0), (.iconst (100), 0, 0), (.aload 0, 0, 0), (.getfield 0, 9, 2), (.isub, 0, 0), (.if_icmp .le 0, 8, 0), (.goto_w 0, 7, 0)]),
  (50, [(.iconst (-3), 0, 0), (.ireturn, 0, 0)]),
  (53, [(.iload 3, 0, 0), (.iconst (1), 0, 0), (.isub, 0, 0), (.istore 4, 0, 0), (.goto_w 0, 9, 0)]),
  (58, [(.iload 4, 0, 0), (.ifCond .lt 0, 11, 0), (.goto_w 0, 10, 0)]),
  (63, [(.aload 0, 0, 0), (.getfield 0, 9, 0), (.aload 0, 0, 0), (.getfield 0, 9, 2), (.lload 1, 0, 0), (.iload 4, 0, 0), (.invokestatic 0, 75, 0), (.invokestatic 0, 106, 0), (.aload 0, 0, 0), (.dup, 0, 0), (.getfield 0, 9, 2), (.iconst (1), 0, 0), (.iadd, 0, 0), (.putfield 0, 9, 2), (.iinc 4 (-1), 0, 0), (.goto 0, 9, 0)]),
  (96, [(.aload 0, 0, 0), (.getfield 0, 9, 2), (.ireturn, 0, 0)])]
def zB_Tp_byteOf : List (Nat × List zEnt) := [(0, [(.lload 0, 0, 0), (.iconst (8), 0, 0), (.iload 2, 0, 0), (.imul, 0, 0), (.lshr, 0, 0), (.l2i, 0, 0), (.iconst (255), 0, 0), (.iand, 0, 0), (.ireturn, 0, 0)])]
def zB_Tp_understand : List (Nat × List zEnt) := [(0, [(.aload 0, 0, 0), (.iload 1, 0, 0), (.putfield 0, 9, 5), (.aload 0, 0, 0), (.iconst (0), 0, 0), (.putfield 0, 9, 3), (.aload 0, 0, 0), (.iconst (-1), 0, 0), (.putfield 0, 9, 4), (.aload 0, 0, 0), (.getfield 0, 9, 1), (.invokevirtual 0, 3, 0), (.aload 0, 0, 0), (.iconst (0), 0, 0), (.invokevirtual 0, 80, 0), (.ifCond .eq 0, 3, 0), (.goto_w 0, 1, 0)]),
  (30, [(.aload 0, 0, 0), (.invokevirtual 0, 77, 0), (.iconst (-1), 0, 0), (.if_icmp .eq 0, 3, 0), (.goto_w 0, 2, 0)]),
  (38, [(.aload 0, 0, 0), (.invokevirtual 0, 78, 0), (.pop, 0, 0), (.goto_w 0, 3, 0)]),
  (43, [(.aload 0, 0, 0), (.iconst (0), 0, 0), (.putfield 0, 9, 2), (.aload 0, 0, 0), (.getfield 0, 9, 4), (.ifCond .ge 0, 5, 0), (.goto_w 0, 4, 0)]),
  (55, [(.iconst (0), 0, 0), (.goto 0, 6, 0)]),
  (59, [(.iconst (-20), 0, 0), (.aload 0, 0, 0), (.getfield 0, 9, 4), (.isub, 0, 0), (.goto_w 0, 6, 0)]),
  (66, [(.ireturn, 0, 0)])]
def zB_Tp_here : List (Nat × List zEnt) := [(0, [(.aload 0, 0, 0), (.getfield 0, 9, 3), (.aload 0, 0, 0), (.getfield 0, 9, 2), (.if_icmp .ge 0, 3, 0), (.goto_w 0, 1, 0)]),
  (11, [(.aload 0, 0, 0), (.getfield 0, 9, 0), (.aload 0, 0, 0), (.getfield 0, 9, 3), (.invokestatic 0, 105, 0), (.iconst (32), 0, 0), (.if_icmp .ne 0, 3, 0), (.goto_w 0, 2, 0)]),
  (27, [(.aload 0, 0, 0), (.dup, 0, 0), (.getfield 0, 9, 3), (.iconst (1), 0, 0), (.iadd, 0, 0), (.putfield 0, 9, 3), (.goto 0, 0, 0)]),
  (40, [(.aload 0, 0, 0), (.getfield 0, 9, 3), (.aload 0, 0, 0), (.getfield 0, 9, 2), (.if_icmp .ge 0, 5, 0), (.goto_w 0, 4, 0)]),
  (51, [(.aload 0, 0, 0), (.getfield 0, 9, 0), (.aload 0, 0, 0), (.getfield 0, 9, 3), (.invokestatic 0, 105, 0), (.goto 0, 6, 0)]),
  (65, [(.iconst (-1), 0, 0), (.goto_w 0, 6, 0)]),
  (66, [(.ireturn, 0, 0)])]
def zB_Tp_refuse : List (Nat × List zEnt) := [(0, [(.aload 0, 0, 0), (.aload 0, 0, 0), (.getfield 0, 9, 3), (.putfield 0, 9, 4), (.iconst (0), 0, 0), (.ireturn, 0, 0)])]
def zB_Tp_take : List (Nat × List zEnt) := [(0, [(.aload 0, 0, 0), (.invokevirtual 0, 77, 0), (.iload 1, 0, 0), (.if_icmp .eq 0, 2, 0), (.goto_w 0, 1, 0)]),
  (8, [(.aload 0, 0, 0), (.invokevirtual 0, 78, 0), (.ireturn, 0, 0)]),
  (13, [(.aload 0, 0, 0), (.dup, 0, 0), (.getfield 0, 9, 3), (.iconst (1), 0, 0), (.iadd, 0, 0), (.putfield 0, 9, 3), (.iconst (1), 0, 0), (.ireturn, 0, 0)])]
def zB_Tp_readForm : List (Nat × List zEnt) := [(0, [(.aload 0, 0, 0), (.invokevirtual 0, 77, 0), (.istore 2, 0, 0), (.iload 1, 0, 0), (.iconst (24), 0, 0), (.if_icmp .ge 0, 2, 0), (.goto_w 0, 1, 0)]),
  (11, [(.aload 0, 0, 0), (.getfield 0, 9, 1), (.getfield 0, 1, 0), (.iconst (24), 0, 0), (.if_icmp .lt 0, 3, 0), (.goto_w 0, 2, 0)]),
  (23, [(.aload 0, 0, 0), (.invokevirtual 0, 78, 0), (.ireturn, 0, 0)]),
  (28, [(.iload 2, 0, 0), (.iconst (84), 0, 0), (.if_icmp .eq 0, 6, 0), (.goto_w 0, 4, 0)]),
  (34, [(.iload 2, 0, 0), (.iconst (97), 0, 0), (.if_icmp .lt 0, 10, 0), (.goto_w 0, 5, 0)]),
  (40, [(.iload 2, 0, 0), (.iconst (104), 0, 0), (.if_icmp .gt 0, 10, 0), (.goto_w 0, 6, 0)]),
  (46, [(.aload 0, 0, 0), (.dup, 0, 0), (.getfield 0, 9, 3), (.iconst (1), 0, 0), (.iadd, 0, 0), (.putfield 0, 9, 3), (.aload 0, 0, 0), (.getfield 0, 9, 1), (.aload 0, 0, 0), (.getfield 0, 9, 1), (.iconst (0), 0, 0), (.invokevirtual 0, 4, 0), (.iload 2, 0, 0), (.iconst (84), 0, 0), (.if_icmp .ne 0, 8, 0), (.goto_w 0, 7, 0)]),
  (74, [(.iconst (0), 0, 0), (.goto 0, 9, 0)]),
  (78, [(.iconst (1), 0, 0), (.goto_w 0, 9, 0)]),
  (79, [(.iload 2, 0, 0), (.iconst (97), 0, 0), (.isub, 0, 0), (.iconst (0), 0, 0), (.invokevirtual 0, 5, 0), (.iconst (1), 0, 0), (.ireturn, 0, 0)]),
  (89, [(.iload 2, 0, 0), (.iconst (33), 0, 0), (.if_icmp .eq 0, 14, 0), (.goto_w 0, 11, 0)]),
  (95, [(.iload 2, 0, 0), (.iconst (40), 0, 0), (.if_icmp .eq 0, 14, 0), (.goto_w 0, 12, 0)]),
  (101, [(.iload 2, 0, 0), (.iconst (60), 0, 0), (.if_icmp .eq 0, 14, 0), (.goto_w 0, 13, 0)]),
  (107, [(.aload 0, 0, 0), (.invokevirtual 0, 78, 0), (.ireturn, 0, 0)]),
  (112, [(.aload 0, 0, 0), (.dup, 0, 0), (.getfield 0, 9, 3), (.iconst (1), 0, 0), (.iadd, 0, 0), (.putfield 0, 9, 3), (.aload 0, 0, 0), (.getfield 0, 9, 1), (.iconst (0), 0, 0), (.invokevirtual 0, 4, 0), (.istore 3, 0, 0), (.iload 2, 0, 0), (.iconst (33), 0, 0), (.if_icmp .ne 0, 16, 0), (.goto_w 0, 15, 0)]),
  (137, [(.aload 0, 0, 0), (.getfield 0, 9, 1), (.iload 3, 0, 0), (.iconst (2), 0, 0), (.iload 3, 0, 0), (.iconst (1), 0, 0), (.iadd, 0, 0), (.iconst (0), 0, 0), (.invokevirtual 0, 5, 0), (.aload 0, 0, 0), (.iload 1, 0, 0), (.iconst (1), 0, 0), (.iadd, 0, 0), (.invokevirtual 0, 80, 0), (.ireturn, 0, 0)]),
  (158, [(.iload 2, 0, 0), (.iconst (40), 0, 0), (.if_icmp .ne 0, 18, 0), (.goto_w 0, 17, 0)]),
  (164, [(.aload 0, 0, 0), (.iload 3, 0, 0), (.iconst (0), 0, 0), (.iload 1, 0, 0), (.invokevirtual 0, 83, 0), (.goto 0, 22, 0)]),
  (174, [(.aload 0, 0, 0), (.iload 3, 0, 0), (.invokevirtual 0, 81, 0), (.ifCond .eq 0, 21, 0), (.goto_w 0, 19, 0)]),
  (182, [(.aload 0, 0, 0), (.iload 3, 0, 0), (.iload 1, 0, 0), (.invokevirtual 0, 82, 0), (.ifCond .eq 0, 21, 0), (.goto_w 0, 20, 0)]),
  (191, [(.iconst (1), 0, 0), (.goto 0, 22, 0)]),
  (195, [(.iconst (0), 0, 0), (.goto_w 0, 22, 0)]),
  (196, [(.ireturn, 0, 0)])]
def zB_Tp_readGroup : List (Nat × List zEnt) := [(0, [(.iconst (0), 0, 0), (.istore 2, 0, 0), (.iconst (0), 0, 0), (.istore 3, 0, 0), (.iconst (0), 0, 0), (.istore 4, 0, 0), (.goto_w 0, 1, 0)]),
  (7, [(.iload 4, 0, 0), (.iconst (4), 0, 0), (.if_icmp .ge 0, 6, 0), (.goto_w 0, 2, 0)]),
  (13, [(.aload 0, 0, 0), (.invokevirtual 0, 77, 0), (.iconst (48), 0, 0), (.isub, 0, 0), (.istore 5, 0, 0), (.iload 5, 0, 0), (.iload 3, 0, 0), (.if_icmp .lt 0, 6, 0), (.goto_w 0, 3, 0)]),
  (28, [(.iload 5, 0, 0), (.aload 0, 0, 0), (.getfield 0, 9, 5), (.if_icmp .lt 0, 5, 0), (.goto_w 0, 4, 0)]),
  (37, [(.goto 0, 6, 0)]),
  (40, [(.iload 2, 0, 0), (.iconst (1), 0, 0), (.iload 5, 0, 0), (.ishl, 0, 0), (.ior, 0, 0), (.istore 2, 0, 0), (.iload 5, 0, 0), (.iconst (1), 0, 0), (.iadd, 0, 0), (.istore 3, 0, 0), (.aload 0, 0, 0), (.dup, 0, 0), (.getfield 0, 9, 3), (.iconst (1), 0, 0), (.iadd, 0, 0), (.putfield 0, 9, 3), (.iinc 4 (1), 0, 0), (.goto 0, 1, 0)]),
  (68, [(.aload 0, 0, 0), (.getfield 0, 9, 1), (.getfield 0, 1, 5), (.iload 1, 0, 0), (.iload 2, 0, 0), (.invokestatic 0, 106, 0), (.aload 0, 0, 0), (.iconst (62), 0, 0), (.invokevirtual 0, 79, 0), (.ireturn, 0, 0)])]
def zB_Tp_readLaw : List (Nat × List zEnt) := [(0, [(.aload 0, 0, 0), (.invokevirtual 0, 77, 0), (.istore 3, 0, 0), (.iload 3, 0, 0), (.invokestatic 0, 84, 0), (.istore 4, 0, 0), (.iload 4, 0, 0), (.ifCond .ge 0, 2, 0), (.goto_w 0, 1, 0)]),
  (16, [(.aload 0, 0, 0), (.invokevirtual 0, 78, 0), (.ireturn, 0, 0)]),
  (21, [(.aload 0, 0, 0), (.dup, 0, 0), (.getfield 0, 9, 3), (.iconst (1), 0, 0), (.iadd, 0, 0), (.putfield 0, 9, 3), (.iload 4, 0, 0), (.iconst (8), 0, 0), (.if_icmp .ne 0, 4, 0), (.goto_w 0, 3, 0)]),
  (38, [(.aload 0, 0, 0), (.iload 1, 0, 0), (.iconst (1), 0, 0), (.iload 2, 0, 0), (.invokevirtual 0, 83, 0), (.ireturn, 0, 0)]),
  (46, [(.aload 0, 0, 0), (.getfield 0, 9, 1), (.iload 1, 0, 0), (.iload 4, 0, 0), (.iload 1, 0, 0), (.iconst (1), 0, 0), (.iadd, 0, 0), (.iconst (0), 0, 0), (.invokevirtual 0, 5, 0), (.aload 0, 0, 0), (.iload 2, 0, 0), (.iconst (1), 0, 0), (.iadd, 0, 0), (.invokevirtual 0, 80, 0), (.ireturn, 0, 0)])]
def zB_Tp_readPair : List (Nat × List zEnt) := [(0, [(.aload 0, 0, 0), (.iload 3, 0, 0), (.iconst (1), 0, 0), (.iadd, 0, 0), (.invokevirtual 0, 80, 0), (.ifCond .ne 0, 2, 0), (.goto_w 0, 1, 0)]),
  (10, [(.iconst (0), 0, 0), (.ireturn, 0, 0)]),
  (12, [(.aload 0, 0, 0), (.invokevirtual 0, 77, 0), (.invokestatic 0, 85, 0), (.istore 4, 0, 0), (.iload 4, 0, 0), (.ifCond .lt 0, 7, 0), (.goto_w 0, 3, 0)]),
  (26, [(.iload 2, 0, 0), (.iload 4, 0, 0), (.iconst (8), 0, 0), (.if_icmp .ne 0, 5, 0), (.goto_w 0, 4, 0)]),
  (34, [(.iconst (1), 0, 0), (.goto 0, 6, 0)]),
  (38, [(.iconst (0), 0, 0), (.goto_w 0, 6, 0)]),
  (39, [(.if_icmp .eq 0, 8, 0), (.goto_w 0, 7, 0)]),
  (42, [(.aload 0, 0, 0), (.invokevirtual 0, 78, 0), (.ireturn, 0, 0)]),
  (47, [(.aload 0, 0, 0), (.dup, 0, 0), (.getfield 0, 9, 3), (.iconst (1), 0, 0), (.iadd, 0, 0), (.putfield 0, 9, 3), (.aload 0, 0, 0), (.getfield 0, 9, 1), (.iload 1, 0, 0), (.iload 4, 0, 0), (.iload 1, 0, 0), (.iconst (1), 0, 0), (.iadd, 0, 0), (.aload 0, 0, 0), (.getfield 0, 9, 1), (.getfield 0, 1, 0), (.invokevirtual 0, 5, 0), (.aload 0, 0, 0), (.iload 3, 0, 0), (.iconst (1), 0, 0), (.iadd, 0, 0), (.invokevirtual 0, 80, 0), (.ifCond .eq 0, 11, 0), (.goto_w 0, 9, 0)]),
  (87, [(.aload 0, 0, 0), (.iconst (41), 0, 0), (.invokevirtual 0, 79, 0), (.ifCond .eq 0, 11, 0), (.goto_w 0, 10, 0)]),
  (96, [(.iconst (1), 0, 0), (.goto 0, 12, 0)]),
  (100, [(.iconst (0), 0, 0), (.goto_w 0, 12, 0)]),
  (101, [(.ireturn, 0, 0)])]
def zB_Tp_lawKind : List (Nat × List zEnt) := [(0, [(.iload 0, 0, 0), (.lookupswitch 6 #[(40, 5), (70, 3), (71, 2), (73, 4), (88, 1)], 0, 0)]),
  (52, [(.iconst (5), 0, 0), (.ireturn, 0, 0)]),
  (54, [(.iconst (6), 0, 0), (.ireturn, 0, 0)]),
  (57, [(.iconst (7), 0, 0), (.ireturn, 0, 0)]),
  (60, [(.iconst (9), 0, 0), (.ireturn, 0, 0)]),
  (63, [(.iconst (8), 0, 0), (.ireturn, 0, 0)]),
  (66, [(.iconst (-1), 0, 0), (.ireturn, 0, 0)])]
def zB_Tp_pairKind : List (Nat × List zEnt) := [(0, [(.iload 0, 0, 0), (.lookupswitch 4 #[(38, 1), (85, 3), (124, 2)], 0, 0)]),
  (36, [(.iconst (3), 0, 0), (.ireturn, 0, 0)]),
  (38, [(.iconst (4), 0, 0), (.ireturn, 0, 0)]),
  (40, [(.iconst (8), 0, 0), (.ireturn, 0, 0)]),
  (43, [(.iconst (-1), 0, 0), (.ireturn, 0, 0)])]
def zB_FN_init : List (Nat × List zEnt) := [(0, [(.aload 0, 0, 0), (.nop, 0, 0), (.new 0, 5, 0), (.dup, 0, 0), (.invokevirtual 0, 27, 0), (.astore 1, 0, 0), (.new 0, 1, 0), (.dup, 0, 0), (.invokevirtual 0, 1, 0), (.astore 2, 0, 0), (.new 0, 8, 0), (.dup, 0, 0), (.aload 1, 0, 0), (.invokevirtual 0, 66, 0), (.astore 3, 0, 0), (.new 0, 3, 0), (.dup, 0, 0), (.aload 1, 0, 0), (.aload 2, 0, 0), (.aload 3, 0, 0), (.invokevirtual 0, 17, 0), (.astore 4, 0, 0), (.aload 0, 0, 0), (.aload 1, 0, 0), (.putfield 0, 10, 0), (.aload 0, 0, 0), (.aload 2, 0, 0), (.putfield 0, 10, 1), (.aload 0, 0, 0), (.new 0, 9, 0), (.dup, 0, 0), (.invokevirtual 0, 73, 0), (.putfield 0, 10, 2), (.aload 0, 0, 0), (.aload 4, 0, 0), (.putfield 0, 10, 3), (.aload 0, 0, 0), (.new 0, 6, 0), (.dup, 0, 0), (.aload 1, 0, 0), (.aload 2, 0, 0), (.aload 3, 0, 0), (.aload 4, 0, 0), (.invokevirtual 0, 46, 0), (.putfield 0, 10, 4), (.aload 0, 0, 0), (.new 0, 0, 0), (.dup, 0, 0), (.aload 1, 0, 0), (.aload 3, 0, 0), (.invokevirtual 0, 0, 0), (.putfield 0, 10, 5), (.aload 0, 0, 0), (.new 0, 4, 0), (.dup, 0, 0), (.aload 1, 0, 0), (.invokevirtual 0, 26, 0), (.putfield 0, 10, 6), (.aload 0, 0, 0), (.new 0, 2, 0), (.dup, 0, 0), (.aload 1, 0, 0), (.invokevirtual 0, 15, 0), (.putfield 0, 10, 7), (.aload 0, 0, 0), (.new 0, 7, 0), (.dup, 0, 0), (.invokevirtual 0, 57, 0), (.putfield 0, 10, 8), (.return_, 0, 0)])]
def zB_FN_net : List (Nat × List zEnt) := [(0, [(.iload 1, 0, 0), (.iconst (2), 0, 0), (.if_icmp .lt 0, 4, 0), (.goto_w 0, 1, 0)]),
  (5, [(.iload 1, 0, 0), (.iconst (12), 0, 0), (.if_icmp .gt 0, 4, 0), (.goto_w 0, 2, 0)]),
  (11, [(.iload 2, 0, 0), (.iconst (1), 0, 0), (.if_icmp .lt 0, 4, 0), (.goto_w 0, 3, 0)]),
  (16, [(.iload 2, 0, 0), (.iconst (4), 0, 0), (.if_icmp .le 0, 5, 0), (.goto_w 0, 4, 0)]),
  (21, [(.iconst (-1), 0, 0), (.ireturn, 0, 0)]),
  (23, [(.aload 0, 0, 0), (.getfield 0, 10, 0), (.iload 1, 0, 0), (.iload 2, 0, 0), (.invokevirtual 0, 28, 0), (.aload 0, 0, 0), (.getfield 0, 10, 1), (.invokevirtual 0, 2, 0), (.aload 0, 0, 0), (.getfield 0, 10, 6), (.iconst (-1), 0, 0), (.putfield 0, 4, 1), (.aload 0, 0, 0), (.getfield 0, 10, 7), (.invokevirtual 0, 16, 0), (.aload 0, 0, 0), (.getfield 0, 10, 4), (.invokevirtual 0, 53, 0), (.iconst (1), 0, 0), (.ireturn, 0, 0)])]
def zB_FN_moves : List (Nat × List zEnt) := [(0, [(.aload 0, 0, 0), (.getfield 0, 10, 0), (.iload 1, 0, 0), (.invokevirtual 0, 30, 0), (.ifCond .eq 0, 4, 0), (.goto_w 0, 1, 0)]),
  (11, [(.aload 0, 0, 0), (.getfield 0, 10, 0), (.iload 2, 0, 0), (.invokevirtual 0, 31, 0), (.ifCond .eq 0, 4, 0), (.goto_w 0, 2, 0)]),
  (22, [(.iload 3, 0, 0), (.iconst (1), 0, 0), (.if_icmp .lt 0, 4, 0), (.goto_w 0, 3, 0)]),
  (27, [(.iload 3, 0, 0), (.iconst (3), 0, 0), (.if_icmp .le 0, 5, 0), (.goto_w 0, 4, 0)]),
  (32, [(.iconst (-1), 0, 0), (.ireturn, 0, 0)]),
  (34, [(.aload 0, 0, 0), (.getfield 0, 10, 0), (.iload 1, 0, 0), (.iload 2, 0, 0), (.iload 3, 0, 0), (.invokevirtual 0, 39, 0), (.ireturn, 0, 0)])]
def zB_FN_joint : List (Nat × List zEnt) := [(0, [(.aload 0, 0, 0), (.getfield 0, 10, 0), (.iload 1, 0, 0), (.invokevirtual 0, 30, 0), (.ifCond .eq 0, 2, 0), (.goto_w 0, 1, 0)]),
  (11, [(.aload 0, 0, 0), (.getfield 0, 10, 0), (.iload 2, 0, 0), (.invokevirtual 0, 32, 0), (.ifCond .ne 0, 3, 0), (.goto_w 0, 2, 0)]),
  (22, [(.iconst (-1), 0, 0), (.ireturn, 0, 0)]),
  (24, [(.aload 0, 0, 0), (.getfield 0, 10, 0), (.iload 1, 0, 0), (.iload 2, 0, 0), (.invokevirtual 0, 43, 0), (.ireturn, 0, 0)])]
def zB_FN_step : List (Nat × List zEnt) := [(0, [(.aload 0, 0, 0), (.getfield 0, 10, 0), (.iload 1, 0, 0), (.iload 2, 0, 0), (.invokevirtual 0, 34, 0), (.ifCond .eq 0, 2, 0), (.goto_w 0, 1, 0)]),
  (12, [(.aload 0, 0, 0), (.getfield 0, 10, 0), (.iload 3, 0, 0), (.invokevirtual 0, 30, 0), (.ifCond .ne 0, 3, 0), (.goto_w 0, 2, 0)]),
  (23, [(.iconst (-1), 0, 0), (.ireturn, 0, 0)]),
  (25, [(.aload 0, 0, 0), (.getfield 0, 10, 0), (.iload 1, 0, 0), (.iload 2, 0, 0), (.iload 3, 0, 0), (.invokevirtual 0, 40, 0), (.ireturn, 0, 0)])]
def zB_FN_letters : List (Nat × List zEnt) := [(0, [(.aload 0, 0, 0), (.getfield 0, 10, 0), (.iload 1, 0, 0), (.invokevirtual 0, 30, 0), (.ifCond .eq 0, 3, 0), (.goto_w 0, 1, 0)]),
  (11, [(.iload 2, 0, 0), (.ifCond .lt 0, 3, 0), (.goto_w 0, 2, 0)]),
  (15, [(.iload 2, 0, 0), (.iconst (256), 0, 0), (.if_icmp .lt 0, 4, 0), (.goto_w 0, 3, 0)]),
  (22, [(.iconst (-1), 0, 0), (.ireturn, 0, 0)]),
  (24, [(.aload 0, 0, 0), (.getfield 0, 10, 0), (.iload 1, 0, 0), (.iload 2, 0, 0), (.invokevirtual 0, 41, 0), (.ireturn, 0, 0)])]
def zB_FN_price : List (Nat × List zEnt) := [(0, [(.aload 0, 0, 0), (.getfield 0, 10, 0), (.iload 1, 0, 0), (.iload 2, 0, 0), (.iload 3, 0, 0), (.invokevirtual 0, 33, 0), (.ifCond .eq 0, 3, 0), (.goto_w 0, 1, 0)]),
  (13, [(.iload 4, 0, 0), (.ifCond .lt 0, 3, 0), (.goto_w 0, 2, 0)]),
  (18, [(.iload 4, 0, 0), (.iconst (9), 0, 0), (.if_icmp .le 0, 4, 0), (.goto_w 0, 3, 0)]),
  (25, [(.iconst (-1), 0, 0), (.ireturn, 0, 0)]),
  (27, [(.aload 0, 0, 0), (.getfield 0, 10, 0), (.getfield 0, 5, 5), (.iload 1, 0, 0), (.iconst (4), 0, 0), (.imul, 0, 0), (.iload 2, 0, 0), (.iadd, 0, 0), (.iconst (3), 0, 0), (.imul, 0, 0), (.iload 3, 0, 0), (.iadd, 0, 0), (.iload 4, 0, 0), (.invokestatic 0, 107, 0), (.ireturn, 0, 0)])]
def zB_FN_type : List (Nat × List zEnt) := [(0, [(.iload 3, 0, 0), (.iconst (1), 0, 0), (.if_icmp .lt 0, 2, 0), (.goto_w 0, 1, 0)]),
  (5, [(.iload 3, 0, 0), (.iconst (8), 0, 0), (.if_icmp .le 0, 3, 0), (.goto_w 0, 2, 0)]),
  (11, [(.iconst (-1), 0, 0), (.ireturn, 0, 0)]),
  (13, [(.aload 0, 0, 0), (.getfield 0, 10, 2), (.lload 1, 0, 0), (.iload 3, 0, 0), (.invokevirtual 0, 74, 0), (.ireturn, 0, 0)])]
def zB_FN_form : List (Nat × List zEnt) := [(0, [(.aload 0, 0, 0), (.getfield 0, 10, 2), (.aload 0, 0, 0), (.getfield 0, 10, 0), (.getfield 0, 5, 1), (.invokevirtual 0, 76, 0), (.istore 1, 0, 0), (.iload 1, 0, 0), (.ifCond .eq 0, 2, 0), (.goto_w 0, 1, 0)]),
  (19, [(.iload 1, 0, 0), (.ireturn, 0, 0)]),
  (21, [(.aload 0, 0, 0), (.getfield 0, 10, 1), (.aload 0, 0, 0), (.getfield 0, 10, 2), (.getfield 0, 9, 1), (.invokevirtual 0, 6, 0), (.aload 0, 0, 0), (.getfield 0, 10, 1), (.getfield 0, 1, 0), (.ireturn, 0, 0)])]
def zB_FN_holds : List (Nat × List zEnt) := [(0, [(.aload 0, 0, 0), (.getfield 0, 10, 3), (.invokevirtual 0, 19, 0), (.aload 0, 0, 0), (.getfield 0, 10, 3), (.invokevirtual 0, 18, 0), (.ireturn, 0, 0)])]
def zB_FN_part : List (Nat × List zEnt) := [(0, [(.iload 1, 0, 0), (.ifCond .lt 0, 2, 0), (.goto_w 0, 1, 0)]),
  (4, [(.iload 1, 0, 0), (.aload 0, 0, 0), (.getfield 0, 10, 1), (.getfield 0, 1, 0), (.if_icmp .lt 0, 3, 0), (.goto_w 0, 2, 0)]),
  (15, [(.iconst (-1), 0, 0), (.ireturn, 0, 0)]),
  (17, [(.aload 0, 0, 0), (.getfield 0, 10, 3), (.invokevirtual 0, 19, 0), (.aload 0, 0, 0), (.getfield 0, 10, 3), (.getfield 0, 3, 3), (.iload 1, 0, 0), (.invokestatic 0, 105, 0), (.ireturn, 0, 0)])]
def zB_FN_round : List (Nat × List zEnt) := [(0, [(.aload 0, 0, 0), (.getfield 0, 10, 0), (.iload 1, 0, 0), (.invokevirtual 0, 30, 0), (.ifCond .ne 0, 2, 0), (.goto_w 0, 1, 0)]),
  (11, [(.iconst (-1), 0, 0), (.ireturn, 0, 0)]),
  (13, [(.aload 0, 0, 0), (.getfield 0, 10, 1), (.invokevirtual 0, 13, 0), (.ifCond .ne 0, 4, 0), (.goto_w 0, 3, 0)]),
  (23, [(.iconst (-2), 0, 0), (.ireturn, 0, 0)]),
  (26, [(.aload 0, 0, 0), (.getfield 0, 10, 3), (.invokevirtual 0, 19, 0), (.aload 0, 0, 0), (.getfield 0, 10, 3), (.invokevirtual 0, 18, 0), (.iload 1, 0, 0), (.invokestatic 0, 108, 0), (.ifCond .eq 0, 6, 0), (.goto_w 0, 5, 0)]),
  (47, [(.aload 0, 0, 0), (.getfield 0, 10, 3), (.getfield 0, 3, 4), (.iload 1, 0, 0), (.invokestatic 0, 105, 0), (.goto 0, 7, 0)]),
  (61, [(.iconst (-4), 0, 0), (.goto_w 0, 7, 0)]),
  (63, [(.ireturn, 0, 0)])]
def zB_FN_plan : List (Nat × List zEnt) := [(0, [(.aload 0, 0, 0), (.getfield 0, 10, 0), (.iload 1, 0, 0), (.invokevirtual 0, 30, 0), (.ifCond .ne 0, 2, 0), (.goto_w 0, 1, 0)]),
  (11, [(.iconst (-1), 0, 0), (.ireturn, 0, 0)]),
  (13, [(.aload 0, 0, 0), (.getfield 0, 10, 1), (.invokevirtual 0, 12, 0), (.ifCond .ne 0, 4, 0), (.goto_w 0, 3, 0)]),
  (23, [(.iconst (-2), 0, 0), (.ireturn, 0, 0)]),
  (26, [(.aload 0, 0, 0), (.getfield 0, 10, 3), (.invokevirtual 0, 19, 0), (.aload 0, 0, 0), (.getfield 0, 10, 4), (.iload 1, 0, 0), (.invokevirtual 0, 47, 0), (.ireturn, 0, 0)])]
def zB_FN_answer : List (Nat × List zEnt) := [(0, [(.aload 0, 0, 0), (.getfield 0, 10, 0), (.iload 1, 0, 0), (.invokevirtual 0, 30, 0), (.ifCond .ne 0, 2, 0), (.goto_w 0, 1, 0)]),
  (11, [(.iconst (-1), 0, 0), (.ireturn, 0, 0)]),
  (13, [(.aload 0, 0, 0), (.getfield 0, 10, 1), (.invokevirtual 0, 12, 0), (.ifCond .ne 0, 4, 0), (.goto_w 0, 3, 0)]),
  (23, [(.iconst (-2), 0, 0), (.ireturn, 0, 0)]),
  (26, [(.iload 2, 0, 0), (.ifCond .lt 0, 6, 0), (.goto_w 0, 5, 0)]),
  (30, [(.iload 2, 0, 0), (.aload 0, 0, 0), (.getfield 0, 10, 0), (.iload 1, 0, 0), (.aload 0, 0, 0), (.getfield 0, 10, 1), (.iconst (0), 0, 0), (.invokevirtual 0, 10, 0), (.invokevirtual 0, 43, 0), (.if_icmp .lt 0, 7, 0), (.goto_w 0, 6, 0)]),
  (50, [(.iconst (-1), 0, 0), (.ireturn, 0, 0)]),
  (52, [(.aload 0, 0, 0), (.getfield 0, 10, 3), (.invokevirtual 0, 19, 0), (.aload 0, 0, 0), (.getfield 0, 10, 4), (.iload 1, 0, 0), (.iload 2, 0, 0), (.invokevirtual 0, 49, 0), (.ireturn, 0, 0)])]
def zB_FN_toll : List (Nat × List zEnt) := [(0, [(.aload 0, 0, 0), (.getfield 0, 10, 0), (.iload 1, 0, 0), (.invokevirtual 0, 30, 0), (.ifCond .ne 0, 2, 0), (.goto_w 0, 1, 0)]),
  (11, [(.iconst (-1), 0, 0), (.ireturn, 0, 0)]),
  (13, [(.aload 0, 0, 0), (.getfield 0, 10, 1), (.invokevirtual 0, 14, 0), (.ifCond .ne 0, 4, 0), (.goto_w 0, 3, 0)]),
  (23, [(.iconst (-2), 0, 0), (.ireturn, 0, 0)]),
  (26, [(.aload 0, 0, 0), (.getfield 0, 10, 3), (.invokevirtual 0, 19, 0), (.aload 0, 0, 0), (.getfield 0, 10, 3), (.invokevirtual 0, 18, 0), (.iload 1, 0, 0), (.invokestatic 0, 108, 0), (.ifCond .eq 0, 6, 0), (.goto_w 0, 5, 0)]),
  (47, [(.aload 0, 0, 0), (.getfield 0, 10, 4), (.iload 1, 0, 0), (.invokevirtual 0, 50, 0), (.goto 0, 7, 0)]),
  (58, [(.iconst (-4), 0, 0), (.goto_w 0, 7, 0)]),
  (60, [(.ireturn, 0, 0)])]
def zB_FN_walk : List (Nat × List zEnt) := [(0, [(.aload 0, 0, 0), (.getfield 0, 10, 0), (.iload 1, 0, 0), (.invokevirtual 0, 30, 0), (.ifCond .eq 0, 4, 0), (.goto_w 0, 1, 0)]),
  (11, [(.aload 0, 0, 0), (.getfield 0, 10, 8), (.iload 2, 0, 0), (.iload 3, 0, 0), (.invokevirtual 0, 58, 0), (.ifCond .eq 0, 4, 0), (.goto_w 0, 2, 0)]),
  (23, [(.iload 5, 0, 0), (.ifCond .lt 0, 4, 0), (.goto_w 0, 3, 0)]),
  (28, [(.iload 5, 0, 0), (.iconst (40), 0, 0), (.if_icmp .le 0, 5, 0), (.goto_w 0, 4, 0)]),
  (35, [(.iconst (-1), 0, 0), (.ireturn, 0, 0)]),
  (37, [(.aload 0, 0, 0), (.getfield 0, 10, 8), (.iload 2, 0, 0), (.iload 3, 0, 0), (.iload 4, 0, 0), (.iload 5, 0, 0), (.invokevirtual 0, 61, 0), (.istore 6, 0, 0), (.iload 6, 0, 0), (.ifCond .eq 0, 7, 0), (.goto_w 0, 6, 0)]),
  (57, [(.iload 6, 0, 0), (.ireturn, 0, 0)]),
  (60, [(.aload 0, 0, 0), (.getfield 0, 10, 1), (.invokevirtual 0, 12, 0), (.ifCond .eq 0, 9, 0), (.goto_w 0, 8, 0)]),
  (70, [(.aload 0, 0, 0), (.getfield 0, 10, 8), (.iload 2, 0, 0), (.iload 4, 0, 0), (.iload 5, 0, 0), (.invokevirtual 0, 65, 0), (.ifCond .eq 0, 10, 0), (.goto_w 0, 9, 0)]),
  (85, [(.iconst (-2), 0, 0), (.ireturn, 0, 0)]),
  (88, [(.aload 0, 0, 0), (.getfield 0, 10, 3), (.invokevirtual 0, 19, 0), (.aload 0, 0, 0), (.getfield 0, 10, 4), (.iload 1, 0, 0), (.invokevirtual 0, 54, 0), (.iconst (0), 0, 0), (.istore 7, 0, 0), (.goto_w 0, 11, 0)]),
  (106, [(.iload 7, 0, 0), (.iload 5, 0, 0), (.if_icmp .ge 0, 13, 0), (.goto_w 0, 12, 0)]),
  (113, [(.aload 0, 0, 0), (.getfield 0, 10, 4), (.aload 0, 0, 0), (.getfield 0, 10, 8), (.iload 2, 0, 0), (.iload 4, 0, 0), (.iload 7, 0, 0), (.iadd, 0, 0), (.invokevirtual 0, 63, 0), (.invokevirtual 0, 55, 0), (.iinc 7 (1), 0, 0), (.goto 0, 11, 0)]),
  (139, [(.aload 0, 0, 0), (.getfield 0, 10, 4), (.iload 5, 0, 0), (.invokevirtual 0, 56, 0), (.ireturn, 0, 0)])]
def zB_FN_walked : List (Nat × List zEnt) := [(0, [(.aload 0, 0, 0), (.getfield 0, 10, 4), (.iload 1, 0, 0), (.invokevirtual 0, 56, 0), (.ireturn, 0, 0)])]
def zB_FN_sheet : List (Nat × List zEnt) := [(0, [(.aload 0, 0, 0), (.getfield 0, 10, 8), (.iload 1, 0, 0), (.iload 2, 0, 0), (.invokevirtual 0, 58, 0), (.ifCond .eq 0, 2, 0), (.goto_w 0, 1, 0)]),
  (12, [(.iload 3, 0, 0), (.iconst (81), 0, 0), (.if_icmp .le 0, 3, 0), (.goto_w 0, 2, 0)]),
  (18, [(.iconst (-1), 0, 0), (.ireturn, 0, 0)]),
  (20, [(.iload 3, 0, 0), (.ifCond .ge 0, 5, 0), (.goto_w 0, 4, 0)]),
  (24, [(.iconst (-14), 0, 0), (.ireturn, 0, 0)]),
  (27, [(.aload 0, 0, 0), (.getfield 0, 10, 8), (.iload 1, 0, 0), (.iload 2, 0, 0), (.iload 3, 0, 0), (.invokevirtual 0, 62, 0), (.iload 3, 0, 0), (.ireturn, 0, 0)])]
def zB_FN_item : List (Nat × List zEnt) := [(0, [(.aload 0, 0, 0), (.getfield 0, 10, 8), (.iload 1, 0, 0), (.iload 2, 0, 0), (.invokevirtual 0, 58, 0), (.ifCond .ne 0, 2, 0), (.goto_w 0, 1, 0)]),
  (12, [(.iconst (-1), 0, 0), (.ireturn, 0, 0)]),
  (14, [(.aload 0, 0, 0), (.getfield 0, 10, 8), (.iload 1, 0, 0), (.iload 2, 0, 0), (.iload 3, 0, 0), (.iconst (1), 0, 0), (.invokevirtual 0, 61, 0), (.istore 5, 0, 0), (.iload 5, 0, 0), (.ifCond .eq 0, 4, 0), (.goto_w 0, 3, 0)]),
  (32, [(.iload 5, 0, 0), (.ireturn, 0, 0)]),
  (35, [(.aload 0, 0, 0), (.getfield 0, 10, 8), (.iload 1, 0, 0), (.iload 3, 0, 0), (.iload 4, 0, 0), (.invokevirtual 0, 64, 0), (.iconst (1), 0, 0), (.ireturn, 0, 0)])]
def zB_FN_at : List (Nat × List zEnt) := [(0, [(.iload 1, 0, 0), (.ifCond .lt 0, 3, 0), (.goto_w 0, 1, 0)]),
  (4, [(.iload 1, 0, 0), (.aload 0, 0, 0), (.arraylength, 0, 0), (.if_icmp .ge 0, 3, 0), (.goto_w 0, 2, 0)]),
  (10, [(.aload 0, 0, 0), (.iload 1, 0, 0), (.iaload, 0, 0), (.goto 0, 4, 0)]),
  (16, [(.iconst (0), 0, 0), (.goto_w 0, 4, 0)]),
  (17, [(.ireturn, 0, 0)])]
def zB_FN_put : List (Nat × List zEnt) := [(0, [(.iload 1, 0, 0), (.ifCond .lt 0, 3, 0), (.goto_w 0, 1, 0)]),
  (4, [(.iload 1, 0, 0), (.aload 0, 0, 0), (.arraylength, 0, 0), (.if_icmp .ge 0, 3, 0), (.goto_w 0, 2, 0)]),
  (10, [(.aload 0, 0, 0), (.iload 1, 0, 0), (.iload 2, 0, 0), (.iastore, 0, 0), (.goto_w 0, 3, 0)]),
  (14, [(.return_, 0, 0)])]
def zB_FN_swap : List (Nat × List zEnt) := [(0, [(.aload 0, 0, 0), (.iload 1, 0, 0), (.invokestatic 0, 105, 0), (.istore 3, 0, 0), (.aload 0, 0, 0), (.iload 1, 0, 0), (.iload 2, 0, 0), (.invokestatic 0, 106, 0), (.iload 3, 0, 0), (.ireturn, 0, 0)])]
def zB_FN_has : List (Nat × List zEnt) := [(0, [(.iload 0, 0, 0), (.iload 1, 0, 0), (.ishr, 0, 0), (.iconst (1), 0, 0), (.iand, 0, 0), (.ifCond .eq 0, 2, 0), (.goto_w 0, 1, 0)]),
  (8, [(.iconst (1), 0, 0), (.goto 0, 3, 0)]),
  (12, [(.iconst (0), 0, 0), (.goto_w 0, 3, 0)]),
  (13, [(.ireturn, 0, 0)])]
def zB_FN_over : List (Nat × List zEnt) := [(0, [(.iload 1, 0, 0), (.iconst (1), 0, 0), (.if_icmp .ge 0, 2, 0), (.goto_w 0, 1, 0)]),
  (5, [(.iconst (0), 0, 0), (.goto 0, 3, 0)]),
  (9, [(.iload 0, 0, 0), (.iload 1, 0, 0), (.idiv, 0, 0), (.goto_w 0, 3, 0)]),
  (12, [(.ireturn, 0, 0)])]
def zB_FN_rest : List (Nat × List zEnt) := [(0, [(.iload 1, 0, 0), (.iconst (1), 0, 0), (.if_icmp .ge 0, 2, 0), (.goto_w 0, 1, 0)]),
  (5, [(.iconst (0), 0, 0), (.goto 0, 3, 0)]),
  (9, [(.iload 0, 0, 0), (.iload 1, 0, 0), (.irem, 0, 0), (.goto_w 0, 3, 0)]),
  (12, [(.ireturn, 0, 0)])]
def zB_JA_fill : List (Nat × List zEnt) := [(0, [(.iconst (0), 0, 0), (.istore 2, 0, 0), (.aload 0, 0, 0), (.arraylength, 0, 0), (.istore 3, 0, 0), (.goto_w 0, 1, 0)]),
  (5, [(.iload 2, 0, 0), (.iload 3, 0, 0), (.if_icmp .ge 0, 3, 0), (.goto_w 0, 2, 0)]),
  (10, [(.aload 0, 0, 0), (.iload 2, 0, 0), (.iload 1, 0, 0), (.iastore, 0, 0), (.iinc 2 (1), 0, 0), (.goto 0, 1, 0)]),
  (20, [(.return_, 0, 0)])]
def zB_LW_cell : List (Nat × List zEnt) := [(0, [(.iload 1, 0, 0), (.aload 0, 0, 0), (.arraylength, 0, 0), (.if_icmp .ge 0, 2, 0), (.goto_w 0, 1, 0)]),
  (6, [(.aload 0, 0, 0), (.iload 1, 0, 0), (.iaload, 0, 0), (.goto 0, 3, 0)]),
  (12, [(.iconst (15485957), 0, 0), (.iload 1, 0, 0), (.imul, 0, 0), (.iconst (107), 0, 0), (.iadd, 0, 0), (.goto_w 0, 3, 0)]),
  (19, [(.iconst (2147483647), 0, 0), (.iand, 0, 0), (.ireturn, 0, 0)])]
def zB_LW_lays : List (Nat × List zEnt) := [(0, [(.iconst (2), 0, 0), (.aload 1, 0, 0), (.iconst (0), 0, 0), (.invokestatic 0, 112, 0), (.iconst (7), 0, 0), (.irem, 0, 0), (.iadd, 0, 0), (.istore 2, 0, 0), (.iconst (1), 0, 0), (.aload 1, 0, 0), (.iconst (0), 0, 0), (.invokestatic 0, 112, 0), (.iconst (4), 0, 0), (.ishr, 0, 0), (.iconst (3), 0, 0), (.irem, 0, 0), (.iadd, 0, 0), (.istore 3, 0, 0), (.aload 0, 0, 0), (.iload 2, 0, 0), (.iload 3, 0, 0), (.invokevirtual 0, 87, 0), (.istore 4, 0, 0), (.iconst (0), 0, 0), (.istore 5, 0, 0), (.goto_w 0, 1, 0)]),
  (34, [(.iload 5, 0, 0), (.iload 2, 0, 0), (.if_icmp .ge 0, 9, 0), (.goto_w 0, 2, 0)]),
  (40, [(.iconst (0), 0, 0), (.istore 6, 0, 0), (.goto_w 0, 3, 0)]),
  (43, [(.iload 6, 0, 0), (.iload 3, 0, 0), (.if_icmp .ge 0, 5, 0), (.goto_w 0, 4, 0)]),
  (49, [(.aload 0, 0, 0), (.iload 5, 0, 0), (.iload 6, 0, 0), (.iconst (1), 0, 0), (.aload 1, 0, 0), (.iconst (1), 0, 0), (.iload 5, 0, 0), (.iadd, 0, 0), (.invokestatic 0, 112, 0), (.iconst (2), 0, 0), (.iload 6, 0, 0), (.imul, 0, 0), (.ishr, 0, 0), (.iconst (3), 0, 0), (.irem, 0, 0), (.iadd, 0, 0), (.invokevirtual 0, 88, 0), (.istore 4, 0, 0), (.iinc 6 (1), 0, 0), (.goto 0, 3, 0)]),
  (82, [(.aload 0, 0, 0), (.iload 5, 0, 0), (.aload 1, 0, 0), (.iconst (1), 0, 0), (.iload 5, 0, 0), (.iadd, 0, 0), (.invokestatic 0, 112, 0), (.iconst (8), 0, 0), (.ishr, 0, 0), (.iconst (15), 0, 0), (.iand, 0, 0), (.invokevirtual 0, 91, 0), (.istore 4, 0, 0), (.aload 0, 0, 0), (.iload 5, 0, 0), (.iconst (1), 0, 0), (.iload 3, 0, 0), (.ishl, 0, 0), (.iconst (1), 0, 0), (.isub, 0, 0), (.invokevirtual 0, 89, 0), (.istore 6, 0, 0), (.iconst (0), 0, 0), (.istore 7, 0, 0), (.goto_w 0, 6, 0)]),
  (120, [(.iload 7, 0, 0), (.iload 6, 0, 0), (.if_icmp .ge 0, 8, 0), (.goto_w 0, 7, 0)]),
  (127, [(.aload 0, 0, 0), (.iload 5, 0, 0), (.iload 7, 0, 0), (.aload 1, 0, 0), (.iconst (1), 0, 0), (.iload 5, 0, 0), (.iadd, 0, 0), (.invokestatic 0, 112, 0), (.iload 7, 0, 0), (.iconst (20), 0, 0), (.irem, 0, 0), (.ishr, 0, 0), (.iconst (13), 0, 0), (.irem, 0, 0), (.iload 7, 0, 0), (.iconst (3), 0, 0), (.iadd, 0, 0), (.imul, 0, 0), (.iload 2, 0, 0), (.irem, 0, 0), (.invokevirtual 0, 90, 0), (.istore 4, 0, 0), (.iinc 7 (1), 0, 0), (.goto 0, 6, 0)]),
  (167, [(.iinc 5 (1), 0, 0), (.goto 0, 1, 0)]),
  (173, [(.return_, 0, 0)])]
def zB_LW_statesOf : List (Nat × List zEnt) := [(0, [(.iconst (2), 0, 0), (.aload 0, 0, 0), (.iconst (0), 0, 0), (.invokestatic 0, 112, 0), (.iconst (7), 0, 0), (.irem, 0, 0), (.iadd, 0, 0), (.ireturn, 0, 0)])]
def zB_LW_playersOf : List (Nat × List zEnt) := [(0, [(.iconst (1), 0, 0), (.aload 0, 0, 0), (.iconst (0), 0, 0), (.invokestatic 0, 112, 0), (.iconst (4), 0, 0), (.ishr, 0, 0), (.iconst (3), 0, 0), (.irem, 0, 0), (.iadd, 0, 0), (.ireturn, 0, 0)])]
def zB_LW_group : List (Nat × List zEnt) := [(0, [(.aload 0, 0, 0), (.sipush (60), 0, 0), (.iconst (1), 0, 0), (.invokevirtual 0, 93, 0), (.ifCond .le 0, 2, 0), (.goto_w 0, 1, 0)]),
  (11, [(.iconst (1), 0, 0), (.goto 0, 3, 0)]),
  (15, [(.iconst (0), 0, 0), (.goto_w 0, 3, 0)]),
  (16, [(.istore 2, 0, 0), (.iconst (0), 0, 0), (.istore 3, 0, 0), (.goto_w 0, 4, 0)]),
  (19, [(.iload 3, 0, 0), (.iconst (4), 0, 0), (.if_icmp .ge 0, 11, 0), (.goto_w 0, 5, 0)]),
  (24, [(.iload 2, 0, 0), (.ifCond .eq 0, 9, 0), (.goto_w 0, 6, 0)]),
  (28, [(.iload 1, 0, 0), (.iload 3, 0, 0), (.ishr, 0, 0), (.iconst (1), 0, 0), (.iand, 0, 0), (.ifCond .eq 0, 8, 0), (.goto_w 0, 7, 0)]),
  (36, [(.aload 0, 0, 0), (.sipush (48), 0, 0), (.iload 3, 0, 0), (.i2l, 0, 0), (.ladd, 0, 0), (.iconst (1), 0, 0), (.invokevirtual 0, 93, 0), (.ifCond .le 0, 9, 0), (.goto_w 0, 8, 0)]),
  (50, [(.iconst (1), 0, 0), (.goto 0, 10, 0)]),
  (54, [(.iconst (0), 0, 0), (.goto_w 0, 10, 0)]),
  (55, [(.istore 2, 0, 0), (.iinc 3 (1), 0, 0), (.goto 0, 4, 0)]),
  (62, [(.iload 2, 0, 0), (.ifCond .eq 0, 14, 0), (.goto_w 0, 12, 0)]),
  (66, [(.aload 0, 0, 0), (.sipush (62), 0, 0), (.iconst (1), 0, 0), (.invokevirtual 0, 93, 0), (.ifCond .le 0, 14, 0), (.goto_w 0, 13, 0)]),
  (77, [(.iconst (1), 0, 0), (.goto 0, 15, 0)]),
  (81, [(.iconst (0), 0, 0), (.goto_w 0, 15, 0)]),
  (82, [(.ireturn, 0, 0)])]
def zB_LW_outermost : List (Nat × List zEnt) := [(0, [(.aload 0, 0, 0), (.iload 1, 0, 0), (.invokestatic 0, 116, 0), (.istore 3, 0, 0), (.iload 3, 0, 0), (.ifCond .eq 0, 17, 0), (.goto_w 0, 1, 0)]),
  (10, [(.iload 2, 0, 0), (.iconst (4), 0, 0), (.if_icmp .ne 0, 4, 0), (.goto_w 0, 2, 0)]),
  (15, [(.aload 0, 0, 0), (.sipush (173431677481), 0, 0), (.iconst (5), 0, 0), (.invokevirtual 0, 93, 0), (.ifCond .le 0, 17, 0), (.goto_w 0, 3, 0)]),
  (26, [(.goto 0, 12, 0)]),
  (29, [(.aload 0, 0, 0), (.iload 2, 0, 0), (.ifCond .ne 0, 6, 0), (.goto_w 0, 5, 0)]),
  (34, [(.sipush (22625), 0, 0), (.goto 0, 11, 0)]),
  (40, [(.iload 2, 0, 0), (.iconst (1), 0, 0), (.if_icmp .ne 0, 8, 0), (.goto_w 0, 7, 0)]),
  (45, [(.sipush (18273), 0, 0), (.goto 0, 11, 0)]),
  (51, [(.iload 2, 0, 0), (.iconst (2), 0, 0), (.if_icmp .ne 0, 10, 0), (.goto_w 0, 9, 0)]),
  (56, [(.sipush (18017), 0, 0), (.goto 0, 11, 0)]),
  (62, [(.sipush (18785), 0, 0), (.goto_w 0, 11, 0)]),
  (65, [(.iconst (2), 0, 0), (.invokevirtual 0, 93, 0), (.ifCond .le 0, 17, 0), (.goto_w 0, 12, 0)]),
  (72, [(.aload 0, 0, 0), (.invokevirtual 0, 94, 0), (.iload 2, 0, 0), (.iconst (4), 0, 0), (.if_icmp .ne 0, 14, 0), (.goto_w 0, 13, 0)]),
  (81, [(.iconst (3), 0, 0), (.goto 0, 15, 0)]),
  (85, [(.iconst (2), 0, 0), (.goto_w 0, 15, 0)]),
  (86, [(.if_icmp .ne 0, 17, 0), (.goto_w 0, 16, 0)]),
  (89, [(.iconst (1), 0, 0), (.goto 0, 18, 0)]),
  (93, [(.iconst (0), 0, 0), (.goto_w 0, 18, 0)]),
  (94, [(.ireturn, 0, 0)])]
def zB_LW_law : List (Nat × List zEnt) := [(0, [(.new 0, 10, 0), (.dup, 0, 0), (.invokevirtual 0, 86, 0), (.astore 1, 0, 0), (.aload 1, 0, 0), (.aload 0, 0, 0), (.invokestatic 0, 113, 0), (.aload 0, 0, 0), (.invokestatic 0, 114, 0), (.istore 2, 0, 0), (.aload 0, 0, 0), (.invokestatic 0, 115, 0), (.istore 3, 0, 0), (.aload 0, 0, 0), (.iconst (9), 0, 0), (.invokestatic 0, 112, 0), (.iconst (3), 0, 0), (.ishr, 0, 0), (.iconst (1), 0, 0), (.iload 3, 0, 0), (.ishl, 0, 0), (.iconst (1), 0, 0), (.isub, 0, 0), (.iand, 0, 0), (.istore 4, 0, 0), (.aload 0, 0, 0), (.iconst (10), 0, 0), (.invokestatic 0, 112, 0), (.iconst (5), 0, 0), (.irem, 0, 0), (.istore 5, 0, 0), (.aload 1, 0, 0), (.iload 4, 0, 0), (.iload 5, 0, 0), (.invokestatic 0, 117, 0), (.ifCond .eq 0, 3, 0), (.goto_w 0, 1, 0)]),
  (60, [(.aload 1, 0, 0), (.iconst (1), 0, 0), (.iconst (1), 0, 0), (.iconst (40), 0, 0), (.invokevirtual 0, 103, 0), (.iconst (40), 0, 0), (.if_icmp .ne 0, 3, 0), (.goto_w 0, 2, 0)]),
  (73, [(.iconst (1), 0, 0), (.goto 0, 4, 0)]),
  (77, [(.iconst (0), 0, 0), (.goto_w 0, 4, 0)]),
  (78, [(.istore 6, 0, 0), (.iconst (0), 0, 0), (.istore 7, 0, 0), (.goto_w 0, 5, 0)]),
  (83, [(.iload 7, 0, 0), (.iload 2, 0, 0), (.if_icmp .ge 0, 18, 0), (.goto_w 0, 6, 0)]),
  (89, [(.iload 6, 0, 0), (.ifCond .eq 0, 18, 0), (.goto_w 0, 7, 0)]),
  (94, [(.iconst (0), 0, 0), (.istore 8, 0, 0), (.goto_w 0, 8, 0)]),
  (97, [(.iload 8, 0, 0), (.iload 3, 0, 0), (.if_icmp .ge 0, 17, 0), (.goto_w 0, 9, 0)]),
  (103, [(.iconst (0), 0, 0), (.istore 9, 0, 0), (.goto_w 0, 10, 0)]),
  (106, [(.iload 9, 0, 0), (.aload 1, 0, 0), (.iload 7, 0, 0), (.iconst (1), 0, 0), (.iload 8, 0, 0), (.ishl, 0, 0), (.invokevirtual 0, 89, 0), (.if_icmp .ge 0, 16, 0), (.goto_w 0, 11, 0)]),
  (121, [(.iload 6, 0, 0), (.ifCond .eq 0, 14, 0), (.goto_w 0, 12, 0)]),
  (126, [(.aload 1, 0, 0), (.iload 7, 0, 0), (.iload 8, 0, 0), (.iload 9, 0, 0), (.aload 0, 0, 0), (.iconst (11), 0, 0), (.iload 7, 0, 0), (.iadd, 0, 0), (.invokestatic 0, 112, 0), (.iconst (3), 0, 0), (.iload 8, 0, 0), (.iload 9, 0, 0), (.iadd, 0, 0), (.imul, 0, 0), (.ishr, 0, 0), (.iconst (10), 0, 0), (.irem, 0, 0), (.invokevirtual 0, 92, 0), (.ifCond .ne 0, 14, 0), (.goto_w 0, 13, 0)]),
  (159, [(.iconst (1), 0, 0), (.goto 0, 15, 0)]),
  (163, [(.iconst (0), 0, 0), (.goto_w 0, 15, 0)]),
  (164, [(.istore 6, 0, 0), (.iinc 9 (1), 0, 0), (.goto 0, 10, 0)]),
  (172, [(.iinc 8 (1), 0, 0), (.goto 0, 8, 0)]),
  (178, [(.iinc 7 (1), 0, 0), (.goto 0, 5, 0)]),
  (184, [(.iconst (0), 0, 0), (.istore 7, 0, 0), (.goto_w 0, 19, 0)]),
  (187, [(.iload 7, 0, 0), (.iconst (40), 0, 0), (.if_icmp .ge 0, 25, 0), (.goto_w 0, 20, 0)]),
  (194, [(.iload 6, 0, 0), (.ifCond .eq 0, 25, 0), (.goto_w 0, 21, 0)]),
  (199, [(.aload 1, 0, 0), (.iconst (1), 0, 0), (.iconst (1), 0, 0), (.iload 7, 0, 0), (.aload 0, 0, 0), (.iconst (20), 0, 0), (.iload 7, 0, 0), (.iconst (10), 0, 0), (.irem, 0, 0), (.iadd, 0, 0), (.invokestatic 0, 112, 0), (.iload 7, 0, 0), (.iconst (10), 0, 0), (.idiv, 0, 0), (.ishr, 0, 0), (.invokevirtual 0, 104, 0), (.iconst (1), 0, 0), (.if_icmp .ne 0, 23, 0), (.goto_w 0, 22, 0)]),
  (229, [(.iconst (1), 0, 0), (.goto 0, 24, 0)]),
  (233, [(.iconst (0), 0, 0), (.goto_w 0, 24, 0)]),
  (234, [(.istore 6, 0, 0), (.iinc 7 (1), 0, 0), (.goto 0, 19, 0)]),
  (242, [(.aload 1, 0, 0), (.invokevirtual 0, 95, 0), (.istore 7, 0, 0), (.aload 1, 0, 0), (.iconst (1), 0, 0), (.invokevirtual 0, 96, 0), (.istore 8, 0, 0), (.iload 5, 0, 0), (.iconst (4), 0, 0), (.if_icmp .ne 0, 27, 0), (.goto_w 0, 26, 0)]),
  (261, [(.aload 1, 0, 0), (.iconst (2), 0, 0), (.invokevirtual 0, 96, 0), (.goto 0, 28, 0)]),
  (269, [(.iload 8, 0, 0), (.goto_w 0, 28, 0)]),
  (271, [(.istore 9, 0, 0), (.iconst (0), 0, 0), (.istore 10, 0, 0), (.goto_w 0, 29, 0)]),
  (276, [(.iload 10, 0, 0), (.iload 2, 0, 0), (.if_icmp .ge 0, 113, 0), (.goto_w 0, 30, 0)]),
  (282, [(.iload 6, 0, 0), (.ifCond .eq 0, 113, 0), (.goto_w 0, 31, 0)]),
  (287, [(.aload 1, 0, 0), (.iload 10, 0, 0), (.iconst (1), 0, 0), (.iconst (1), 0, 0), (.iconst (0), 0, 0), (.iconst (40), 0, 0), (.invokevirtual 0, 101, 0), (.istore 11, 0, 0), (.iload 11, 0, 0), (.ifCond .lt 0, 37, 0), (.goto_w 0, 32, 0)]),
  (305, [(.iload 11, 0, 0), (.iload 2, 0, 0), (.if_icmp .ge 0, 37, 0), (.goto_w 0, 33, 0)]),
  (311, [(.aload 1, 0, 0), (.iconst (0), 0, 0), (.invokevirtual 0, 102, 0), (.iload 10, 0, 0), (.if_icmp .ne 0, 37, 0), (.goto_w 0, 34, 0)]),
  (321, [(.aload 1, 0, 0), (.iconst (40), 0, 0), (.invokevirtual 0, 102, 0), (.iload 11, 0, 0), (.if_icmp .ne 0, 37, 0), (.goto_w 0, 35, 0)]),
  (332, [(.aload 1, 0, 0), (.iconst (41), 0, 0), (.invokevirtual 0, 102, 0), (.iconst (-1), 0, 0), (.if_icmp .ne 0, 37, 0), (.goto_w 0, 36, 0)]),
  (342, [(.iconst (1), 0, 0), (.goto 0, 38, 0)]),
  (346, [(.iconst (0), 0, 0), (.goto_w 0, 38, 0)]),
  (347, [(.istore 6, 0, 0), (.iload 7, 0, 0), (.iload 10, 0, 0), (.ishr, 0, 0), (.iconst (1), 0, 0), (.iand, 0, 0), (.iconst (1), 0, 0), (.if_icmp .ne 0, 40, 0), (.goto_w 0, 39, 0)]),
  (360, [(.iconst (1), 0, 0), (.goto 0, 41, 0)]),
  (364, [(.iconst (0), 0, 0), (.goto_w 0, 41, 0)]),
  (365, [(.istore 12, 0, 0), (.iload 12, 0, 0), (.ifCond .ne 0, 59, 0), (.goto_w 0, 42, 0)]),
  (372, [(.iconst (0), 0, 0), (.istore 13, 0, 0), (.goto_w 0, 43, 0)]),
  (375, [(.iload 13, 0, 0), (.aload 1, 0, 0), (.iload 10, 0, 0), (.iload 4, 0, 0), (.invokevirtual 0, 89, 0), (.if_icmp .ge 0, 54, 0), (.goto_w 0, 44, 0)]),
  (388, [(.iload 6, 0, 0), (.ifCond .eq 0, 54, 0), (.goto_w 0, 45, 0)]),
  (393, [(.iload 5, 0, 0), (.iconst (1), 0, 0), (.if_icmp .ne 0, 47, 0), (.goto_w 0, 46, 0)]),
  (399, [(.iload 8, 0, 0), (.iload 10, 0, 0), (.ishr, 0, 0), (.iconst (1), 0, 0), (.iand, 0, 0), (.ifCond .eq 0, 51, 0), (.goto_w 0, 47, 0)]),
  (409, [(.aload 1, 0, 0), (.iload 10, 0, 0), (.iload 13, 0, 0), (.invokevirtual 0, 99, 0), (.ifCond .ge 0, 51, 0), (.goto_w 0, 48, 0)]),
  (420, [(.iload 5, 0, 0), (.iconst (4), 0, 0), (.if_icmp .ne 0, 50, 0), (.goto_w 0, 49, 0)]),
  (426, [(.iload 8, 0, 0), (.iload 10, 0, 0), (.ishr, 0, 0), (.iconst (1), 0, 0), (.iand, 0, 0), (.ifCond .eq 0, 51, 0), (.goto_w 0, 50, 0)]),
  (436, [(.iload 5, 0, 0), (.iconst (3), 0, 0), (.if_icmp .ne 0, 52, 0), (.goto_w 0, 51, 0)]),
  (442, [(.iconst (1), 0, 0), (.goto 0, 53, 0)]),
  (446, [(.iconst (0), 0, 0), (.goto_w 0, 53, 0)]),
  (447, [(.istore 6, 0, 0), (.iinc 13 (1), 0, 0), (.goto 0, 43, 0)]),
  (455, [(.iload 6, 0, 0), (.ifCond .eq 0, 57, 0), (.goto_w 0, 55, 0)]),
  (460, [(.aload 1, 0, 0), (.iload 10, 0, 0), (.invokevirtual 0, 98, 0), (.iconst (-4), 0, 0), (.if_icmp .ne 0, 57, 0), (.goto_w 0, 56, 0)]),
  (471, [(.iconst (1), 0, 0), (.goto 0, 58, 0)]),
  (475, [(.iconst (0), 0, 0), (.goto_w 0, 58, 0)]),
  (476, [(.istore 6, 0, 0), (.goto 0, 112, 0)]),
  (481, [(.iload 5, 0, 0), (.ifCond .ne 0, 65, 0), (.goto_w 0, 60, 0)]),
  (486, [(.iload 8, 0, 0), (.aload 1, 0, 0), (.iconst (1), 0, 0), (.invokevirtual 0, 102, 0), (.ishr, 0, 0), (.iconst (1), 0, 0), (.iand, 0, 0), (.iconst (1), 0, 0), (.if_icmp .ne 0, 63, 0), (.goto_w 0, 61, 0)]),
  (500, [(.aload 1, 0, 0), (.iload 10, 0, 0), (.invokevirtual 0, 97, 0), (.iconst (-2), 0, 0), (.if_icmp .ne 0, 63, 0), (.goto_w 0, 62, 0)]),
  (511, [(.iconst (1), 0, 0), (.goto 0, 64, 0)]),
  (515, [(.iconst (0), 0, 0), (.goto_w 0, 64, 0)]),
  (516, [(.istore 6, 0, 0), (.goto 0, 112, 0)]),
  (521, [(.iload 5, 0, 0), (.iconst (1), 0, 0), (.if_icmp .ne 0, 74, 0), (.goto_w 0, 66, 0)]),
  (527, [(.iconst (0), 0, 0), (.istore 13, 0, 0), (.goto_w 0, 67, 0)]),
  (530, [(.iload 13, 0, 0), (.iconst (40), 0, 0), (.if_icmp .gt 0, 73, 0), (.goto_w 0, 68, 0)]),
  (537, [(.iload 6, 0, 0), (.ifCond .eq 0, 73, 0), (.goto_w 0, 69, 0)]),
  (542, [(.iload 8, 0, 0), (.aload 1, 0, 0), (.iload 13, 0, 0), (.invokevirtual 0, 102, 0), (.ishr, 0, 0), (.iload 7, 0, 0), (.aload 1, 0, 0), (.iload 13, 0, 0), (.invokevirtual 0, 102, 0), (.ishr, 0, 0), (.iand, 0, 0), (.iconst (1), 0, 0), (.iand, 0, 0), (.iconst (1), 0, 0), (.if_icmp .ne 0, 71, 0), (.goto_w 0, 70, 0)]),
  (567, [(.iconst (1), 0, 0), (.goto 0, 72, 0)]),
  (571, [(.iconst (0), 0, 0), (.goto_w 0, 72, 0)]),
  (572, [(.istore 6, 0, 0), (.iinc 13 (1), 0, 0), (.goto 0, 67, 0)]),
  (580, [(.goto 0, 112, 0)]),
  (583, [(.iload 5, 0, 0), (.iconst (3), 0, 0), (.if_icmp .ne 0, 90, 0), (.goto_w 0, 75, 0)]),
  (589, [(.iconst (0), 0, 0), (.istore 13, 0, 0), (.iconst (0), 0, 0), (.istore 14, 0, 0), (.goto_w 0, 76, 0)]),
  (595, [(.iload 14, 0, 0), (.iconst (40), 0, 0), (.if_icmp .gt 0, 89, 0), (.goto_w 0, 77, 0)]),
  (602, [(.iload 6, 0, 0), (.ifCond .eq 0, 89, 0), (.goto_w 0, 78, 0)]),
  (607, [(.aload 1, 0, 0), (.iload 14, 0, 0), (.invokevirtual 0, 102, 0), (.istore 15, 0, 0), (.iload 8, 0, 0), (.iload 15, 0, 0), (.ishr, 0, 0), (.iconst (1), 0, 0), (.iand, 0, 0), (.iconst (1), 0, 0), (.if_icmp .ne 0, 80, 0), (.goto_w 0, 79, 0)]),
  (626, [(.iconst (0), 0, 0), (.goto 0, 81, 0)]),
  (630, [(.iload 13, 0, 0), (.iconst (1), 0, 0), (.iadd, 0, 0), (.goto_w 0, 81, 0)]),
  (634, [(.istore 13, 0, 0), (.iload 7, 0, 0), (.iload 15, 0, 0), (.ishr, 0, 0), (.iconst (1), 0, 0), (.iand, 0, 0), (.iconst (1), 0, 0), (.if_icmp .ne 0, 87, 0), (.goto_w 0, 82, 0)]),
  (647, [(.iload 13, 0, 0), (.iload 2, 0, 0), (.if_icmp .gt 0, 87, 0), (.goto_w 0, 83, 0)]),
  (653, [(.iload 14, 0, 0), (.iconst (40), 0, 0), (.if_icmp .eq 0, 86, 0), (.goto_w 0, 84, 0)]),
  (660, [(.aload 1, 0, 0), (.iload 15, 0, 0), (.invokevirtual 0, 97, 0), (.ifCond .eq 0, 86, 0), (.goto_w 0, 85, 0)]),
  (669, [(.aload 1, 0, 0), (.aload 1, 0, 0), (.iload 14, 0, 0), (.iconst (1), 0, 0), (.iadd, 0, 0), (.invokevirtual 0, 102, 0), (.invokevirtual 0, 97, 0), (.aload 1, 0, 0), (.iload 15, 0, 0), (.invokevirtual 0, 97, 0), (.if_icmp .ge 0, 87, 0), (.goto_w 0, 86, 0)]),
  (690, [(.iconst (1), 0, 0), (.goto 0, 88, 0)]),
  (694, [(.iconst (0), 0, 0), (.goto_w 0, 88, 0)]),
  (695, [(.istore 6, 0, 0), (.iinc 14 (1), 0, 0), (.goto 0, 76, 0)]),
  (703, [(.goto 0, 112, 0)]),
  (706, [(.iconst (0), 0, 0), (.istore 13, 0, 0), (.goto_w 0, 91, 0)]),
  (709, [(.iload 6, 0, 0), (.ifCond .eq 0, 102, 0), (.goto_w 0, 92, 0)]),
  (714, [(.aload 1, 0, 0), (.aload 1, 0, 0), (.iload 13, 0, 0), (.invokevirtual 0, 102, 0), (.invokevirtual 0, 97, 0), (.ifCond .le 0, 102, 0), (.goto_w 0, 93, 0)]),
  (727, [(.aload 1, 0, 0), (.iload 13, 0, 0), (.invokevirtual 0, 102, 0), (.istore 14, 0, 0), (.aload 1, 0, 0), (.iload 13, 0, 0), (.iconst (1), 0, 0), (.iadd, 0, 0), (.invokevirtual 0, 102, 0), (.istore 15, 0, 0), (.iload 13, 0, 0), (.iload 2, 0, 0), (.if_icmp .ge 0, 100, 0), (.goto_w 0, 94, 0)]),
  (751, [(.iload 7, 0, 0), (.iload 14, 0, 0), (.ishr, 0, 0), (.iconst (1), 0, 0), (.iand, 0, 0), (.iconst (1), 0, 0), (.if_icmp .ne 0, 100, 0), (.goto_w 0, 95, 0)]),
  (762, [(.aload 1, 0, 0), (.iload 15, 0, 0), (.invokevirtual 0, 97, 0), (.ifCond .lt 0, 100, 0), (.goto_w 0, 96, 0)]),
  (771, [(.aload 1, 0, 0), (.iload 15, 0, 0), (.invokevirtual 0, 97, 0), (.aload 1, 0, 0), (.iload 14, 0, 0), (.invokevirtual 0, 97, 0), (.if_icmp .ge 0, 100, 0), (.goto_w 0, 97, 0)]),
  (786, [(.iload 5, 0, 0), (.iconst (2), 0, 0), (.if_icmp .eq 0, 99, 0), (.goto_w 0, 98, 0)]),
  (792, [(.iload 8, 0, 0), (.iload 14, 0, 0), (.ishr, 0, 0), (.iconst (1), 0, 0), (.iand, 0, 0), (.iconst (1), 0, 0), (.if_icmp .ne 0, 100, 0), (.goto_w 0, 99, 0)]),
  (803, [(.iconst (1), 0, 0), (.goto 0, 101, 0)]),
  (807, [(.iconst (0), 0, 0), (.goto_w 0, 101, 0)]),
  (808, [(.istore 6, 0, 0), (.iinc 13 (1), 0, 0), (.goto 0, 91, 0)]),
  (816, [(.iload 6, 0, 0), (.ifCond .eq 0, 110, 0), (.goto_w 0, 103, 0)]),
  (821, [(.iload 9, 0, 0), (.aload 1, 0, 0), (.iload 13, 0, 0), (.invokevirtual 0, 102, 0), (.ishr, 0, 0), (.iconst (1), 0, 0), (.iand, 0, 0), (.iconst (1), 0, 0), (.if_icmp .ne 0, 110, 0), (.goto_w 0, 104, 0)]),
  (836, [(.iload 13, 0, 0), (.aload 1, 0, 0), (.iload 10, 0, 0), (.invokevirtual 0, 97, 0), (.if_icmp .gt 0, 110, 0), (.goto_w 0, 105, 0)]),
  (847, [(.aload 1, 0, 0), (.iload 10, 0, 0), (.invokevirtual 0, 100, 0), (.ifCond .lt 0, 110, 0), (.goto_w 0, 106, 0)]),
  (856, [(.aload 1, 0, 0), (.iload 10, 0, 0), (.invokevirtual 0, 97, 0), (.ifCond .gt 0, 108, 0), (.goto_w 0, 107, 0)]),
  (865, [(.aload 1, 0, 0), (.iload 10, 0, 0), (.invokevirtual 0, 100, 0), (.ifCond .ne 0, 110, 0), (.goto_w 0, 108, 0)]),
  (874, [(.aload 1, 0, 0), (.iload 10, 0, 0), (.invokevirtual 0, 100, 0), (.iconst (9), 0, 0), (.iload 3, 0, 0), (.imul, 0, 0), (.iload 2, 0, 0), (.imul, 0, 0), (.if_icmp .gt 0, 110, 0), (.goto_w 0, 109, 0)]),
  (889, [(.iconst (1), 0, 0), (.goto 0, 111, 0)]),
  (893, [(.iconst (0), 0, 0), (.goto_w 0, 111, 0)]),
  (894, [(.istore 6, 0, 0), (.goto_w 0, 112, 0)]),
  (896, [(.iinc 10 (1), 0, 0), (.goto 0, 29, 0)]),
  (902, [(.iload 6, 0, 0), (.ireturn, 0, 0)])]
def zBs : List (List (Nat × List zEnt)) := [zB_Bl_init, zB_Fo_init, zB_Fo_becomeTrue, zB_Fo_clear, zB_Fo_add, zB_Fo_set, zB_Fo_become, zB_Fo_kind, zB_Fo_left, zB_Fo_right, zB_Fo_group, zB_Fo_isLaw, zB_Fo_isOfGroup, zB_Fo_hasRounds, zB_Fo_hasToll, zB_Go_init, zB_Go_forget, zB_La_init, zB_La_whole, zB_La_refresh, zB_La_judge, zB_La_always, zB_La_until, zB_La_mark, zB_La_again, zB_La_ahead, zB_Lo_init, zB_Ne_init, zB_Ne_begin, zB_Ne_leadBack, zB_Ne_hasState, zB_Ne_hasPlayer, zB_Ne_hasGroup, zB_Ne_hasMove, zB_Ne_hasJoint, zB_Ne_everyone, zB_Ne_everywhere, zB_Ne_movesOf, zB_Ne_target, zB_Ne_changeMoves, zB_Ne_changeTarget, zB_Ne_changeLetters, zB_Ne_bearing, zB_Ne_ways, zB_Ne_together, zB_Ne_sumOfPrices, zB_Pl_init, zB_Pl_move, zB_Pl_aim, zB_Pl_hinder, zB_Pl_leastSum, zB_Pl_cheapest, zB_Pl_worst, zB_Pl_forget, zB_Pl_startWalk, zB_Pl_goOn, zB_Pl_behind, zB_Sh_init, zB_Sh_hasPlace, zB_Sh_isEmptyPlace, zB_Sh_hasItems, zB_Sh_wrong, zB_Sh_start, zB_Sh_read, zB_Sh_write, zB_Sh_hasBelowZero, zB_Ta_init, zB_Ta_prepare, zB_Ta_fill, zB_Ta_share, zB_Ta_endsOf, zB_Ta_leastInto, zB_Ta_forcing, zB_Tp_init, zB_Tp_add, zB_Tp_byteOf, zB_Tp_understand, zB_Tp_here, zB_Tp_refuse, zB_Tp_take, zB_Tp_readForm, zB_Tp_readGroup, zB_Tp_readLaw, zB_Tp_readPair, zB_Tp_lawKind, zB_Tp_pairKind, zB_FN_init, zB_FN_net, zB_FN_moves, zB_FN_joint, zB_FN_step, zB_FN_letters, zB_FN_price, zB_FN_type, zB_FN_form, zB_FN_holds, zB_FN_part, zB_FN_round, zB_FN_plan, zB_FN_answer, zB_FN_toll, zB_FN_walk, zB_FN_walked, zB_FN_sheet, zB_FN_item, zB_FN_at, zB_FN_put, zB_FN_swap, zB_FN_has, zB_FN_over, zB_FN_rest, zB_JA_fill, zB_LW_cell, zB_LW_lays, zB_LW_statesOf, zB_LW_playersOf, zB_LW_group, zB_LW_outermost, zB_LW_law]
def zMI : List (MethodName × ByteArray × Nat × Option FieldType × Nat × Nat × Bool × Bool) := [
  (yX0_init, cX0_init, 3, none, 0, 2, false, true),
  (yX1_init, cX1_init, 1, none, 1, 0, false, true),
  (yX1_becomeTrue, cX1_becomeTrue, 1, none, 1, 0, false, false),
  (yX1_clear, cX1_clear, 1, none, 1, 0, false, false),
  (yX1_add, cX1_add, 3, some .int, 1, 1, false, false),
  (yX1_set, cX1_set, 5, none, 1, 4, false, false),
  (yX1_become, cX1_become, 3, none, 1, 1, false, false),
  (yX1_kind, cX1_kind, 2, some .int, 1, 1, false, false),
  (yX1_left, cX1_left, 2, some .int, 1, 1, false, false),
  (yX1_right, cX1_right, 2, some .int, 1, 1, false, false),
  (yX1_group, cX1_group, 2, some .int, 1, 1, false, false),
  (yX1_isLaw, cX1_isLaw, 2, some .boolean, 1, 1, false, false),
  (yX1_isOfGroup, cX1_isOfGroup, 1, some .boolean, 1, 0, false, false),
  (yX1_hasRounds, cX1_hasRounds, 1, some .boolean, 1, 0, false, false),
  (yX1_hasToll, cX1_hasToll, 1, some .boolean, 1, 0, false, false),
  (yX2_init, cX2_init, 2, none, 2, 1, false, true),
  (yX2_forget, cX2_forget, 1, none, 2, 0, false, false),
  (yX3_init, cX3_init, 4, none, 3, 3, false, true),
  (yX3_whole, cX3_whole, 1, some .int, 3, 0, false, false),
  (yX3_refresh, cX3_refresh, 2, none, 3, 0, false, false),
  (yX3_judge, cX3_judge, 5, some .int, 3, 1, false, false),
  (yX3_always, cX3_always, 4, some .int, 3, 1, false, false),
  (yX3_until, cX3_until, 6, some .int, 3, 2, false, false),
  (yX3_mark, cX3_mark, 4, none, 3, 2, false, false),
  (yX3_again, cX3_again, 5, some .int, 3, 1, false, false),
  (yX3_ahead, cX3_ahead, 4, some .int, 3, 1, false, false),
  (yX4_init, cX4_init, 2, none, 4, 1, false, true),
  (yX5_init, cX5_init, 1, none, 5, 0, false, true),
  (yX5_begin, cX5_begin, 5, none, 5, 2, false, false),
  (yX5_leadBack, cX5_leadBack, 3, none, 5, 1, false, false),
  (yX5_hasState, cX5_hasState, 2, some .boolean, 5, 1, false, false),
  (yX5_hasPlayer, cX5_hasPlayer, 2, some .boolean, 5, 1, false, false),
  (yX5_hasGroup, cX5_hasGroup, 2, some .boolean, 5, 1, false, false),
  (yX5_hasMove, cX5_hasMove, 4, some .boolean, 5, 3, false, false),
  (yX5_hasJoint, cX5_hasJoint, 3, some .boolean, 5, 2, false, false),
  (yX5_everyone, cX5_everyone, 1, some .int, 5, 0, false, false),
  (yX5_everywhere, cX5_everywhere, 1, some .int, 5, 0, false, false),
  (yX5_movesOf, cX5_movesOf, 3, some .int, 5, 2, false, false),
  (yX5_target, cX5_target, 3, some .int, 5, 2, false, false),
  (yX5_changeMoves, cX5_changeMoves, 4, some .int, 5, 3, false, false),
  (yX5_changeTarget, cX5_changeTarget, 4, some .int, 5, 3, false, false),
  (yX5_changeLetters, cX5_changeLetters, 3, some .int, 5, 2, false, false),
  (yX5_bearing, cX5_bearing, 4, some .int, 5, 1, false, false),
  (yX5_ways, cX5_ways, 5, some .int, 5, 2, false, false),
  (yX5_together, cX5_together, 11, some .int, 5, 4, false, false),
  (yX5_sumOfPrices, cX5_sumOfPrices, 8, some .int, 5, 3, false, false),
  (yX6_init, cX6_init, 5, none, 6, 4, false, true),
  (yX6_move, cX6_move, 3, some .int, 6, 1, false, false),
  (yX6_aim, cX6_aim, 3, some .int, 6, 1, false, false),
  (yX6_hinder, cX6_hinder, 7, some .int, 6, 2, false, false),
  (yX6_leastSum, cX6_leastSum, 4, some .int, 6, 1, false, false),
  (yX6_cheapest, cX6_cheapest, 6, some .int, 6, 1, false, false),
  (yX6_worst, cX6_worst, 4, some .int, 6, 1, false, false),
  (yX6_forget, cX6_forget, 1, none, 6, 0, false, false),
  (yX6_startWalk, cX6_startWalk, 2, none, 6, 1, false, false),
  (yX6_goOn, cX6_goOn, 6, none, 6, 1, false, false),
  (yX6_behind, cX6_behind, 2, some .int, 6, 1, false, false),
  (yX7_init, cX7_init, 1, none, 7, 0, false, true),
  (yX7_hasPlace, cX7_hasPlace, 3, some .boolean, 7, 2, false, false),
  (yX7_isEmptyPlace, cX7_isEmptyPlace, 2, some .boolean, 7, 1, false, false),
  (yX7_hasItems, cX7_hasItems, 5, some .boolean, 7, 3, false, false),
  (yX7_wrong, cX7_wrong, 5, some .int, 7, 4, false, false),
  (yX7_start, cX7_start, 5, none, 7, 3, false, false),
  (yX7_read, cX7_read, 3, some .int, 7, 2, false, false),
  (yX7_write, cX7_write, 4, none, 7, 3, false, false),
  (yX7_hasBelowZero, cX7_hasBelowZero, 5, some .boolean, 7, 3, false, false),
  (yX8_init, cX8_init, 2, none, 8, 1, false, true),
  (yX8_prepare, cX8_prepare, 3, none, 8, 1, false, false),
  (yX8_fill, cX8_fill, 5, none, 8, 1, false, false),
  (yX8_share, cX8_share, 8, some .int, 8, 1, false, false),
  (yX8_endsOf, cX8_endsOf, 3, some .int, 8, 2, false, false),
  (yX8_leastInto, cX8_leastInto, 5, some .int, 8, 2, false, false),
  (yX8_forcing, cX8_forcing, 5, some .int, 8, 2, false, false),
  (yX9_init, cX9_init, 1, none, 9, 0, false, true),
  (yX9_add, cX9_add, 6, some .int, 9, 2, false, false),
  (yX9_byteOf, cX9_byteOf, 3, some .int, 9, 2, true, false),
  (yX9_understand, cX9_understand, 2, some .int, 9, 1, false, false),
  (yX9_here, cX9_here, 1, some .int, 9, 0, false, false),
  (yX9_refuse, cX9_refuse, 1, some .boolean, 9, 0, false, false),
  (yX9_take, cX9_take, 2, some .boolean, 9, 1, false, false),
  (yX9_readForm, cX9_readForm, 4, some .boolean, 9, 1, false, false),
  (yX9_readGroup, cX9_readGroup, 6, some .boolean, 9, 1, false, false),
  (yX9_readLaw, cX9_readLaw, 5, some .boolean, 9, 2, false, false),
  (yX9_readPair, cX9_readPair, 5, some .boolean, 9, 3, false, false),
  (yX9_lawKind, cX9_lawKind, 1, some .int, 9, 1, true, false),
  (yX9_pairKind, cX9_pairKind, 1, some .int, 9, 1, true, false),
  (yX10_init, cX10_init, 5, none, 10, 0, false, true),
  (yX10_net, cX10_net, 3, some .int, 10, 2, false, false),
  (yX10_moves, cX10_moves, 4, some .int, 10, 3, false, false),
  (yX10_joint, cX10_joint, 3, some .int, 10, 2, false, false),
  (yX10_step, cX10_step, 4, some .int, 10, 3, false, false),
  (yX10_letters, cX10_letters, 3, some .int, 10, 2, false, false),
  (yX10_price, cX10_price, 5, some .int, 10, 4, false, false),
  (yX10_type, cX10_type, 4, some .int, 10, 2, false, false),
  (yX10_form, cX10_form, 2, some .int, 10, 0, false, false),
  (yX10_holds, cX10_holds, 1, some .int, 10, 0, false, false),
  (yX10_part, cX10_part, 2, some .int, 10, 1, false, false),
  (yX10_round, cX10_round, 2, some .int, 10, 1, false, false),
  (yX10_plan, cX10_plan, 2, some .int, 10, 1, false, false),
  (yX10_answer, cX10_answer, 3, some .int, 10, 2, false, false),
  (yX10_toll, cX10_toll, 2, some .int, 10, 1, false, false),
  (yX10_walk, cX10_walk, 8, some .int, 10, 5, false, false),
  (yX10_walked, cX10_walked, 2, some .int, 10, 1, false, false),
  (yX10_sheet, cX10_sheet, 4, some .int, 10, 3, false, false),
  (yX10_item, cX10_item, 6, some .int, 10, 4, false, false),
  (yX10_at, cX10_at, 2, some .int, 10, 2, true, false),
  (yX10_put, cX10_put, 3, none, 10, 3, true, false),
  (yX10_swap, cX10_swap, 4, some .int, 10, 3, true, false),
  (yX10_has, cX10_has, 2, some .boolean, 10, 2, true, false),
  (yX10_over, cX10_over, 2, some .int, 10, 2, true, false),
  (yX10_rest, cX10_rest, 2, some .int, 10, 2, true, false),
  (yJ7_fill_53178, cJ7_fill_53178, 4, none, 14, 2, true, false),
  (yL_cell, cL_cell, 2, some .int, 12, 2, true, false),
  (yL_lays, cL_lays, 8, none, 12, 2, true, false),
  (yL_statesOf, cL_statesOf, 1, some .int, 12, 1, true, false),
  (yL_playersOf, cL_playersOf, 1, some .int, 12, 1, true, false),
  (yL_group, cL_group, 4, some .boolean, 12, 2, true, false),
  (yL_outermost, cL_outermost, 4, some .boolean, 12, 3, true, false),
  (yL_law, cL_law, 16, some .boolean, 12, 1, true, false)]
def zCN : List String := [RX0, RX1, RX2, RX3, RX4, RX5, RX6, RX7, RX8, RX9, RX10, RX11, RL, RJ9, RJ7]
def zFTy : List (List Nat) := [[3, 3, 3, 3, 3, 0, 0, 0, 0], [0, 0, 3, 3, 3, 3], [3, 3, 3], [3, 3, 3, 3, 3, 0, 0], [3, 0, 1, 1, 3, 3, 3, 3], [0, 0, 0, 3, 3, 3, 3, 3, 3], [3, 3, 3, 3, 3, 3, 0], [3, 3, 3], [3, 3, 3, 3, 0, 0], [3, 3, 0, 0, 0, 0], [3, 3, 3, 3, 3, 3, 3, 3, 3]]
/-- own class, index, class, slot, place of the word in tables_1 -/
def zFT : List (Nat × Nat × Nat × Nat × Nat) := [(0, 9, 0, 2, 248), (0, 15, 0, 3, 249), (0, 18, 0, 4, 250), (0, 21, 0, 0, 246), (0, 25, 0, 1, 247), (1, 9, 1, 2, 108), (1, 15, 1, 3, 109), (1, 18, 1, 4, 110), (1, 21, 1, 5, 111), (1, 38, 1, 0, 102), (1, 42, 1, 1, 106), (2, 9, 2, 1, 308), (2, 15, 2, 2, 309), (2, 18, 2, 0, 307), (3, 9, 3, 3, 161), (3, 15, 3, 4, 164), (3, 18, 3, 5, 167), (3, 22, 3, 6, 168), (3, 25, 3, 0, 158), (3, 29, 3, 1, 159), (3, 33, 3, 2, 160), (3, 41, 5, 2, 51), (3, 46, 1, 1, 107), (3, 49, 1, 0, 103), (3, 110, 5, 0, 45), (4, 9, 4, 1, 277), (4, 15, 4, 4, 279), (4, 19, 4, 5, 280), (4, 22, 4, 6, 281), (4, 25, 4, 7, 282), (4, 29, 4, 0, 276), (5, 9, 5, 3, 52), (5, 15, 5, 4, 53), (5, 18, 5, 5, 54), (5, 21, 5, 6, 56), (5, 24, 5, 7, 57), (5, 27, 5, 8, 58), (5, 34, 5, 0, 42), (5, 38, 5, 1, 46), (5, 55, 5, 2, 50), (6, 9, 6, 4, 222), (6, 15, 6, 5, 223), (6, 18, 6, 0, 218), (6, 22, 6, 1, 219), (6, 26, 6, 2, 220), (6, 30, 6, 3, 221), (6, 54, 3, 4, 165), (6, 66, 3, 3, 162), (6, 98, 5, 0, 44), (6, 105, 8, 2, 135), (6, 125, 6, 6, 224), (7, 9, 7, 0, 324), (7, 15, 7, 1, 325), (7, 18, 7, 2, 326), (8, 9, 8, 1, 133), (8, 15, 8, 2, 134), (8, 18, 8, 3, 136), (8, 21, 8, 4, 137), (8, 25, 8, 5, 138), (8, 28, 8, 0, 132), (8, 32, 5, 2, 49), (8, 41, 5, 0, 43), (8, 65, 5, 1, 47), (9, 9, 9, 0, 192), (9, 18, 9, 1, 193), (9, 26, 9, 2, 195), (9, 34, 9, 5, 198), (9, 37, 9, 3, 196), (9, 40, 9, 4, 197), (9, 62, 1, 0, 104), (9, 84, 1, 5, 112), (10, 23, 10, 0, 334), (10, 29, 10, 1, 335), (10, 36, 10, 2, 336), (10, 40, 10, 3, 337), (10, 49, 10, 4, 338), (10, 58, 10, 5, 339), (10, 65, 10, 6, 340), (10, 72, 10, 7, 341), (10, 79, 10, 8, 342), (10, 90, 4, 1, 278), (10, 141, 5, 5, 55), (10, 162, 5, 1, 48), (10, 169, 9, 1, 194), (10, 176, 1, 0, 105), (10, 185, 3, 3, 163), (10, 205, 3, 4, 166)]
/-- own class, index, method, kind (0 virtual, 1 static, 2 special), nest, place -/
def zCT : List (Nat × Nat × Nat × Nat × Nat × Nat) := [(1, 24, 2, 0, 0, 85), (1, 27, 3, 0, 0, 89), (1, 30, 4, 0, 0, 93), (1, 34, 5, 0, 0, 98), (1, 45, 106, 1, 1, 97), (1, 49, 10, 0, 0, 805), (1, 52, 7, 0, 0, 422), (1, 55, 8, 0, 0, 806), (1, 58, 9, 0, 0, 807), (1, 61, 105, 1, 1, 426), (1, 65, 11, 0, 0, 526), (2, 22, 111, 1, 0, 687), (3, 37, 105, 1, 1, 461), (3, 52, 11, 0, 0, 418), (3, 56, 10, 0, 0, 427), (3, 60, 67, 0, 0, 431), (3, 66, 20, 0, 0, 453), (3, 69, 106, 1, 1, 492), (3, 73, 8, 0, 0, 457), (3, 76, 9, 0, 0, 462), (3, 79, 36, 0, 0, 466), (3, 83, 7, 0, 0, 470), (3, 86, 42, 0, 0, 471), (3, 89, 72, 0, 0, 475), (3, 93, 21, 0, 0, 483), (3, 96, 22, 0, 0, 487), (3, 99, 24, 0, 0, 497), (3, 102, 108, 1, 1, 491), (3, 106, 23, 0, 0, 493), (5, 30, 28, 0, 0, 28), (5, 41, 111, 1, 0, 32), (5, 47, 29, 0, 0, 35), (5, 51, 106, 1, 1, 39), (5, 58, 35, 0, 0, 374), (5, 65, 30, 0, 0, 400), (5, 69, 31, 0, 0, 401), (5, 72, 37, 0, 0, 385), (5, 76, 43, 0, 0, 718), (5, 79, 105, 1, 1, 389), (5, 83, 107, 1, 1, 701), (5, 87, 108, 1, 1, 382), (5, 91, 110, 1, 1, 561), (5, 94, 109, 1, 1, 564), (6, 34, 18, 0, 0, 531), (6, 40, 108, 1, 1, 532), (6, 44, 48, 0, 0, 533), (6, 48, 71, 0, 0, 544), (6, 57, 105, 1, 1, 537), (6, 61, 7, 0, 0, 538), (6, 69, 8, 0, 0, 539), (6, 72, 25, 0, 0, 540), (6, 75, 10, 0, 0, 554), (6, 78, 35, 0, 0, 555), (6, 83, 43, 0, 0, 556), (6, 86, 44, 0, 0, 557), (6, 90, 38, 0, 0, 567), (6, 94, 106, 1, 1, 581), (6, 102, 51, 0, 0, 582), (6, 107, 45, 0, 0, 586), (6, 111, 70, 0, 0, 590), (6, 114, 52, 0, 0, 594), (6, 128, 110, 1, 1, 642), (6, 131, 47, 0, 0, 643), (7, 21, 111, 1, 0, 323), (7, 27, 105, 1, 1, 620), (7, 31, 59, 0, 0, 616), (7, 35, 60, 0, 0, 621), (7, 39, 106, 1, 1, 660), (7, 43, 63, 0, 0, 629), (8, 35, 111, 1, 0, 435), (8, 44, 68, 0, 0, 436), (8, 47, 43, 0, 0, 440), (8, 50, 106, 1, 1, 441), (8, 54, 69, 0, 0, 442), (8, 58, 105, 1, 1, 447), (8, 62, 38, 0, 0, 449), (8, 68, 37, 0, 0, 446), (8, 71, 108, 1, 1, 448), (8, 75, 71, 0, 0, 479), (9, 17, 1, 2, 0, 191), (9, 22, 75, 1, 0, 744), (9, 30, 106, 1, 1, 747), (9, 43, 3, 0, 0, 763), (9, 46, 80, 0, 0, 764), (9, 50, 77, 0, 0, 768), (9, 54, 78, 0, 0, 773), (9, 58, 105, 1, 1, 772), (9, 65, 4, 0, 0, 777), (9, 69, 5, 0, 0, 778), (9, 73, 83, 0, 0, 779), (9, 77, 81, 0, 0, 790), (9, 80, 82, 0, 0, 794), (9, 87, 79, 0, 0, 786), (9, 90, 84, 1, 0, 798), (9, 93, 85, 1, 0, 783), (10, 9, 27, 2, 0, 24), (10, 12, 1, 2, 0, 81), (10, 15, 66, 2, 0, 128), (10, 20, 17, 2, 0, 154), (10, 35, 73, 2, 1, 186), (10, 46, 46, 2, 0, 214), (10, 55, 0, 2, 0, 242), (10, 64, 26, 2, 0, 272), (10, 71, 15, 2, 0, 303), (10, 78, 57, 2, 0, 319), (10, 83, 28, 0, 0, 681), (10, 87, 2, 0, 0, 682), (10, 94, 16, 0, 0, 683), (10, 97, 53, 0, 0, 688), (10, 98, 30, 0, 0, 366), (10, 102, 31, 0, 0, 696), (10, 105, 39, 0, 0, 697), (10, 109, 32, 0, 0, 370), (10, 112, 43, 0, 0, 378), (10, 116, 34, 0, 0, 714), (10, 120, 40, 0, 0, 719), (10, 126, 41, 0, 0, 706), (10, 133, 107, 1, 0, 405), (10, 137, 33, 0, 0, 396), (10, 144, 58, 0, 0, 608), (10, 151, 61, 0, 0, 612), (10, 155, 63, 0, 0, 637), (10, 158, 74, 0, 0, 740), (10, 165, 76, 0, 0, 759), (10, 172, 6, 0, 0, 801), (10, 179, 19, 0, 0, 414), (10, 182, 18, 0, 0, 501), (10, 188, 105, 1, 0, 408), (10, 198, 13, 0, 0, 513), (10, 202, 108, 1, 0, 517), (10, 208, 12, 0, 0, 522), (10, 211, 47, 0, 0, 527), (10, 214, 10, 0, 0, 549), (10, 217, 49, 0, 0, 550), (10, 220, 14, 0, 0, 572), (10, 223, 50, 0, 0, 576), (10, 226, 65, 0, 0, 625), (10, 229, 54, 0, 0, 633), (10, 233, 55, 0, 0, 638), (10, 236, 56, 0, 0, 644), (10, 317, 62, 0, 0, 656), (10, 326, 64, 0, 0, 665), (10, 338, 106, 1, 0, 409), (12, 9, 112, 1, 0, 669), (12, 15, 87, 0, 0, 677), (12, 21, 88, 0, 0, 692), (12, 25, 91, 0, 0, 702), (12, 28, 89, 0, 0, 362), (12, 31, 90, 0, 0, 710), (12, 36, 93, 0, 0, 736), (12, 44, 116, 1, 0, 732), (12, 58, 94, 0, 0, 755), (12, 62, 86, 2, 0, 16), (12, 63, 113, 1, 0, 674), (12, 67, 114, 1, 0, 723), (12, 71, 115, 1, 0, 726), (12, 74, 117, 1, 0, 729), (12, 78, 103, 0, 0, 652), (12, 81, 92, 0, 0, 392), (12, 85, 104, 0, 0, 661), (12, 88, 95, 0, 0, 410), (12, 91, 96, 0, 0, 505), (12, 95, 101, 0, 0, 604), (12, 99, 102, 0, 0, 648), (12, 102, 99, 0, 0, 545), (12, 105, 98, 0, 0, 518), (12, 108, 97, 0, 0, 509), (12, 111, 100, 0, 0, 568)]
def zKT : List (Nat × Nat × Int × Nat) := [(6, 93, 1000000, 580), (12, 7, 15485957, 672), (12, 8, 2147483647, 673)]
def zKL : List (Nat × Nat × Int × Nat) := [(12, 34, 60, 735), (12, 40, 48, 748), (12, 42, 62, 749), (12, 48, 173431677481, 750), (12, 50, 22625, 751), (12, 52, 18273, 752), (12, 54, 18017, 753), (12, 56, 18785, 754)]
def zNT : List (Nat × Nat × Nat × Nat × Nat × Nat) := [(9, 15, 1, 190, 80, 4), (10, 7, 5, 22, 23, 2), (10, 10, 1, 79, 80, 4), (10, 13, 8, 126, 127, 5), (10, 18, 3, 152, 153, 6), (10, 33, 9, 184, 185, 7), (10, 44, 6, 212, 213, 8), (10, 53, 0, 240, 241, 9), (10, 62, 4, 270, 271, 10), (10, 69, 2, 301, 302, 11), (10, 76, 7, 317, 318, 12), (12, 16, 10, 14, 15, 1)]
def zOT : List (Nat × Nat × Nat) := [(0, 3, 245), (1, 3, 84), (2, 3, 306), (3, 3, 157), (4, 3, 275), (5, 3, 27), (6, 3, 217), (7, 3, 322), (8, 3, 131), (9, 3, 189), (10, 1, 19)]
def zAT : List (Nat × Nat × Nat) := []
/-- own class, index, which of Math (0 max, 1 min, 2 min of longs), place -/
def zMT : List (Nat × Nat × Nat × Nat) := [(6, 117, 1, 601), (6, 122, 0, 598)]
def zST : List (Nat × Nat × Nat) := []
def zMP : List (Nat × Nat × Nat × Nat) := [(262, 27, 261, 0), (101, 22, 100, 0), (106, 22, 104, 105), (110, 22, 108, 109), (114, 22, 112, 113), (119, 22, 117, 118), (822, 22, 820, 821), (443, 22, 441, 442), (478, 22, 476, 477), (483, 22, 481, 482), (448, 22, 446, 447), (439, 22, 437, 438), (543, 22, 541, 542), (534, 22, 532, 533), (593, 22, 591, 592), (323, 29, 322, 0), (704, 29, 702, 703), (174, 24, 173, 0), (522, 24, 520, 521), (435, 24, 433, 434), (474, 24, 473, 3), (504, 24, 503, 4), (508, 24, 507, 5), (514, 24, 513, 6), (518, 24, 517, 7), (561, 24, 559, 560), (292, 28, 291, 0), (44, 20, 43, 0), (49, 20, 47, 48), (56, 20, 55, 0), (387, 20, 385, 386), (422, 20, 420, 421), (391, 20, 389, 390), (417, 20, 415, 416), (735, 20, 733, 734), (395, 20, 393, 394), (487, 20, 485, 486), (406, 20, 404, 405), (470, 20, 468, 469), (718, 20, 716, 717), (740, 20, 738, 739), (727, 20, 725, 726), (492, 20, 490, 491), (399, 20, 397, 398), (578, 20, 576, 577), (607, 20, 605, 606), (234, 26, 233, 0), (548, 26, 546, 547), (554, 26, 553, 8), (571, 26, 569, 570), (597, 26, 595, 596), (603, 26, 602, 9), (615, 26, 614, 10), (709, 26, 707, 708), (654, 26, 652, 653), (659, 26, 657, 658), (665, 26, 663, 664), (339, 30, 338, 0), (629, 30, 627, 628), (637, 30, 635, 636), (642, 30, 640, 641), (633, 30, 631, 632), (677, 30, 675, 676), (650, 30, 648, 649), (686, 30, 684, 685), (646, 30, 644, 645), (148, 23, 147, 0), (452, 23, 450, 451), (457, 23, 456, 1), (463, 23, 462, 2), (611, 23, 609, 610), (500, 23, 498, 499), (496, 23, 494, 495), (206, 25, 205, 0), (761, 25, 759, 760), (764, 25, 763, 0), (780, 25, 778, 779), (789, 25, 788, 12), (794, 25, 793, 13), (807, 25, 806, 15), (785, 25, 784, 11), (811, 25, 810, 16), (815, 25, 814, 17), (800, 25, 799, 14), (818, 25, 817, 0), (803, 25, 802, 0), (36, 19, 35, 0), (698, 19, 696, 697), (713, 19, 711, 712), (383, 19, 381, 382), (731, 19, 729, 730), (723, 19, 721, 722), (413, 19, 411, 412), (757, 19, 755, 756), (776, 19, 774, 775), (431, 19, 429, 430), (526, 19, 524, 525), (530, 19, 528, 529), (539, 19, 537, 538), (566, 19, 564, 565), (589, 19, 587, 588), (625, 19, 623, 624), (669, 19, 667, 668), (673, 19, 671, 672), (682, 19, 680, 681), (409, 19, 408, 0), (59, 19, 58, 0), (425, 19, 424, 0), (402, 19, 401, 0), (584, 19, 583, 0), (581, 19, 580, 0), (52, 21, 51, 0), (689, 18, 688, 0), (694, 18, 693, 0), (743, 18, 742, 0), (746, 18, 745, 0), (752, 18, 751, 0), (749, 18, 748, 0), (0, 0, 0, 0)]
def zVK : List Bool := [false, false, true, true, true, true, true, true, true, true, true, true, true, true, true, false, true, false, true, true, true, true, true, true, true, true, false, false, true, true, true, true, true, true, true, true, true, true, true, true, true, true, true, true, true, true, false, true, true, true, true, true, true, true, true, true, true, false, true, true, true, true, true, true, true, true, false, true, true, true, true, true, true, false, true, false, true, true, true, true, true, true, true, true, false, false, false, true, true, true, true, true, true, true, true, true, true, true, true, true, true, true, true, true, true, false, false, false, false, false, false, false, false, false, false, false, false, false, false]
