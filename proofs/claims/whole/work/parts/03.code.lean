/-! the code of each method, its instructions with their targets, laid by wip/whole/gen.py -/
abbrev zEnt : Type := Instr × Nat × Nat
abbrev i_Bl_init : Nat := 0
abbrev i_Bl_prepare : Nat := 1
abbrev i_Bl_want : Nat := 2
abbrev i_Bl_fit : Nat := 3
abbrev i_Bl_search : Nat := 4
abbrev i_Bl_advance : Nat := 5
abbrev i_Bl_does : Nat := 6
abbrev i_Bl_spread : Nat := 7
abbrev i_Bl_endsBy : Nat := 8
abbrev i_Bl_endsOfAll : Nat := 9
abbrev i_Bl_staying : Nat := 10
abbrev i_Bl_sure : Nat := 11
abbrev i_Fo_init : Nat := 12
abbrev i_Fo_becomeTrue : Nat := 13
abbrev i_Fo_clear : Nat := 14
abbrev i_Fo_add : Nat := 15
abbrev i_Fo_set : Nat := 16
abbrev i_Fo_become : Nat := 17
abbrev i_Fo_kind : Nat := 18
abbrev i_Fo_left : Nat := 19
abbrev i_Fo_right : Nat := 20
abbrev i_Fo_group : Nat := 21
abbrev i_Fo_isLaw : Nat := 22
abbrev i_Fo_isOfGroup : Nat := 23
abbrev i_Fo_hasRounds : Nat := 24
abbrev i_Fo_hasToll : Nat := 25
abbrev i_Go_init : Nat := 26
abbrev i_Go_forget : Nat := 27
abbrev i_Go_passed : Nat := 28
abbrev i_Go_meeting : Nat := 29
abbrev i_Go_isStable : Nat := 30
abbrev i_Go_couldMeet : Nat := 31
abbrev i_Go_search : Nat := 32
abbrev i_Go_advance : Nat := 33
abbrev i_La_init : Nat := 34
abbrev i_La_whole : Nat := 35
abbrev i_La_refresh : Nat := 36
abbrev i_La_judge : Nat := 37
abbrev i_La_always : Nat := 38
abbrev i_La_until : Nat := 39
abbrev i_La_mark : Nat := 40
abbrev i_La_again : Nat := 41
abbrev i_La_ahead : Nat := 42
abbrev i_La_fewestMore : Nat := 43
abbrev i_Lo_init : Nat := 44
abbrev i_Lo_weigh : Nat := 45
abbrev i_Lo_countAll : Nat := 46
abbrev i_Lo_coming : Nat := 47
abbrev i_Lo_countInto : Nat := 48
abbrev i_Lo_line : Nat := 49
abbrev i_Lo_write : Nat := 50
abbrev i_Lo_solve : Nat := 51
abbrev i_Lo_clearBelow : Nat := 52
abbrev i_Lo_cell : Nat := 53
abbrev i_Lo_setCell : Nat := 54
abbrev i_Lo_shorten : Nat := 55
abbrev i_Ne_init : Nat := 56
abbrev i_Ne_begin : Nat := 57
abbrev i_Ne_leadBack : Nat := 58
abbrev i_Ne_hasState : Nat := 59
abbrev i_Ne_hasPlayer : Nat := 60
abbrev i_Ne_hasGroup : Nat := 61
abbrev i_Ne_hasSet : Nat := 62
abbrev i_Ne_hasMove : Nat := 63
abbrev i_Ne_hasJoint : Nat := 64
abbrev i_Ne_everyone : Nat := 65
abbrev i_Ne_everywhere : Nat := 66
abbrev i_Ne_movesOf : Nat := 67
abbrev i_Ne_heapOf : Nat := 68
abbrev i_Ne_target : Nat := 69
abbrev i_Ne_changeMoves : Nat := 70
abbrev i_Ne_changeTarget : Nat := 71
abbrev i_Ne_changeLetters : Nat := 72
abbrev i_Ne_bearing : Nat := 73
abbrev i_Ne_ways : Nat := 74
abbrev i_Ne_together : Nat := 75
abbrev i_Ne_leastInto : Nat := 76
abbrev i_Ne_sumOfPrices : Nat := 77
abbrev i_Ne_leastMoves : Nat := 78
abbrev i_Ne_next : Nat := 79
abbrev i_Ne_allPlans : Nat := 80
abbrev i_Pl_init : Nat := 81
abbrev i_Pl_move : Nat := 82
abbrev i_Pl_aim : Nat := 83
abbrev i_Pl_hinder : Nat := 84
abbrev i_Pl_leastSum : Nat := 85
abbrev i_Pl_cheapest : Nat := 86
abbrev i_Pl_worst : Nat := 87
abbrev i_Pl_forget : Nat := 88
abbrev i_Pl_startWalk : Nat := 89
abbrev i_Pl_goOn : Nat := 90
abbrev i_Pl_behind : Nat := 91
abbrev i_Sh_init : Nat := 92
abbrev i_Sh_hasPlace : Nat := 93
abbrev i_Sh_isEmptyPlace : Nat := 94
abbrev i_Sh_hasItems : Nat := 95
abbrev i_Sh_wrong : Nat := 96
abbrev i_Sh_start : Nat := 97
abbrev i_Sh_empty : Nat := 98
abbrev i_Sh_read : Nat := 99
abbrev i_Sh_write : Nat := 100
abbrev i_Sh_hasBelowZero : Nat := 101
abbrev i_Ta_init : Nat := 102
abbrev i_Ta_prepare : Nat := 103
abbrev i_Ta_fill : Nat := 104
abbrev i_Ta_share : Nat := 105
abbrev i_Ta_endsOf : Nat := 106
abbrev i_Ta_leastInto : Nat := 107
abbrev i_Ta_forcing : Nat := 108
abbrev i_Tp_init : Nat := 109
abbrev i_Tp_add : Nat := 110
abbrev i_Tp_byteOf : Nat := 111
abbrev i_Tp_understand : Nat := 112
abbrev i_Tp_here : Nat := 113
abbrev i_Tp_refuse : Nat := 114
abbrev i_Tp_take : Nat := 115
abbrev i_Tp_readForm : Nat := 116
abbrev i_Tp_readGroup : Nat := 117
abbrev i_Tp_readLaw : Nat := 118
abbrev i_Tp_readPair : Nat := 119
abbrev i_Tp_lawKind : Nat := 120
abbrev i_Tp_pairKind : Nat := 121
abbrev i_FN_init : Nat := 122
abbrev i_FN_net : Nat := 123
abbrev i_FN_moves : Nat := 124
abbrev i_FN_joint : Nat := 125
abbrev i_FN_step : Nat := 126
abbrev i_FN_leads : Nat := 127
abbrev i_FN_letters : Nat := 128
abbrev i_FN_heap : Nat := 129
abbrev i_FN_price : Nat := 130
abbrev i_FN_steps : Nat := 131
abbrev i_FN_type : Nat := 132
abbrev i_FN_form : Nat := 133
abbrev i_FN_holds : Nat := 134
abbrev i_FN_part : Nat := 135
abbrev i_FN_force : Nat := 136
abbrev i_FN_round : Nat := 137
abbrev i_FN_plan : Nat := 138
abbrev i_FN_answer : Nat := 139
abbrev i_FN_toll : Nat := 140
abbrev i_FN_walk : Nat := 141
abbrev i_FN_walked : Nat := 142
abbrev i_FN_blind : Nat := 143
abbrev i_FN_blindMove : Nat := 144
abbrev i_FN_findRow : Nat := 145
abbrev i_FN_choose : Nat := 146
abbrev i_FN_lot : Nat := 147
abbrev i_FN_chance : Nat := 148
abbrev i_FN_goal : Nat := 149
abbrev i_FN_content : Nat := 150
abbrev i_FN_stable : Nat := 151
abbrev i_FN_settle : Nat := 152
abbrev i_FN_helpers : Nat := 153
abbrev i_FN_count : Nat := 154
abbrev i_FN_sheet : Nat := 155
abbrev i_FN_drop : Nat := 156
abbrev i_FN_item : Nat := 157
abbrev i_FN_copy : Nat := 158
abbrev i_FN_at : Nat := 159
abbrev i_FN_put : Nat := 160
abbrev i_FN_swap : Nat := 161
abbrev i_FN_has : Nat := 162
abbrev i_FN_lowest : Nat := 163
abbrev i_FN_over : Nat := 164
abbrev i_FN_rest : Nat := 165
abbrev i_Md_in : Nat := 166
abbrev i_Md_init : Nat := 167
abbrev i_Md_begins : Nat := 168
abbrev i_Md_net : Nat := 169
abbrev i_Md_isState : Nat := 170
abbrev i_Md_isPlayer : Nat := 171
abbrev i_Md_isSet : Nat := 172
abbrev i_Md_isGroup : Nat := 173
abbrev i_Md_moves : Nat := 174
abbrev i_Md_jointOf : Nat := 175
abbrev i_Md_everybody : Nat := 176
abbrev i_Md_joint : Nat := 177
abbrev i_Md_isMove : Nat := 178
abbrev i_Md_step : Nat := 179
abbrev i_Md_leads : Nat := 180
abbrev i_Md_letters : Nat := 181
abbrev i_Md_heap : Nat := 182
abbrev i_Md_price : Nat := 183
abbrev i_Md_leadsBy : Nat := 184
abbrev i_Md_others : Nat := 185
abbrev i_Md_forces : Nat := 186
abbrev i_Md_force : Nat := 187
abbrev i_Md_type : Nat := 188
abbrev i_Md_next : Nat := 189
abbrev i_Md_needs : Nat := 190
abbrev i_Md_opens : Nat := 191
abbrev i_Md_group : Nat := 192
abbrev i_Md_isWhole : Nat := 193
abbrev i_Md_closes : Nat := 194
abbrev i_Md_form : Nat := 195
abbrev i_Md_whole : Nat := 196
abbrev i_Md_forcing : Nat := 197
abbrev i_Md_until : Nat := 198
abbrev i_Md_always : Nat := 199
abbrev i_Md_again : Nat := 200
abbrev i_Md_heldOf : Nat := 201
abbrev i_Md_tell : Nat := 202
abbrev i_Md_holds : Nat := 203
abbrev i_Md_part : Nat := 204
abbrev i_Md_isOfGroup : Nat := 205
abbrev i_Md_hasRounds : Nat := 206
abbrev i_Md_round : Nat := 207
abbrev i_Md_aim : Nat := 208
abbrev i_Md_planOf : Nat := 209
abbrev i_Md_plan : Nat := 210
abbrev i_Md_answer : Nat := 211
abbrev i_Md_sumOf : Nat := 212
abbrev i_Md_tollBy : Nat := 213
abbrev i_Md_toll : Nat := 214
abbrev i_Md_isSheet : Nat := 215
abbrev i_Md_isLane : Nat := 216
abbrev i_Md_finds : Nat := 217
abbrev i_Md_walk : Nat := 218
abbrev i_Md_walked : Nat := 219
abbrev i_Md_steps : Nat := 220
abbrev i_Md_mostOf : Nat := 221
abbrev i_Md_lays : Nat := 222
abbrev i_Md_digitOf : Nat := 223
abbrev i_Md_countsUp : Nat := 224
abbrev i_Md_links : Nat := 225
abbrev i_Md_surely : Nat := 226
abbrev i_Md_stays : Nat := 227
abbrev i_Md_does : Nat := 228
abbrev i_Md_fits : Nat := 229
abbrev i_Md_seeks : Nat := 230
abbrev i_Md_blind : Nat := 231
abbrev i_Md_blindMove : Nat := 232
abbrev i_Md_choose : Nat := 233
abbrev i_Md_lot : Nat := 234
abbrev i_Md_leadsWith : Nat := 235
abbrev i_Md_lotMany : Nat := 236
abbrev i_Md_common : Nat := 237
abbrev i_Md_coming : Nat := 238
abbrev i_Md_equations : Nat := 239
abbrev i_Md_shorten : Nat := 240
abbrev i_Md_swap : Nat := 241
abbrev i_Md_solve : Nat := 242
abbrev i_Md_chance : Nat := 243
abbrev i_Md_goal : Nat := 244
abbrev i_Md_way : Nat := 245
abbrev i_Md_contentOf : Nat := 246
abbrev i_Md_content : Nat := 247
abbrev i_Md_alone : Nat := 248
abbrev i_Md_isStable : Nat := 249
abbrev i_Md_stable : Nat := 250
abbrev i_Md_plansOfAll : Nat := 251
abbrev i_Md_plansUp : Nat := 252
abbrev i_Md_settle : Nat := 253
abbrev i_Md_many : Nat := 254
abbrev i_Md_isAhead : Nat := 255
abbrev i_Md_helpers : Nat := 256
abbrev i_Md_count : Nat := 257
abbrev i_Md_sheet : Nat := 258
abbrev i_Md_drop : Nat := 259
abbrev i_Md_item : Nat := 260
abbrev i_Md_copy : Nat := 261
abbrev i_JI_bitCount : Nat := 262
abbrev i_JA_fill : Nat := 263
abbrev i_LW_law : Nat := 264
def zB_Bl_init : List (Nat × List zEnt) := [(0, [(.aload 0, 0, 0), (.nop, 0, 0), (.aload 0, 0, 0), (.iconst (48), 0, 0), (.newarray .int, 0, 0), (.putfield 0, 0, 2), (.aload 0, 0, 0), (.iconst (48), 0, 0), (.newarray .int, 0, 0), (.putfield 0, 0, 3), (.aload 0, 0, 0), (.iconst (12), 0, 0), (.newarray .int, 0, 0), (.putfield 0, 0, 4), (.aload 0, 0, 0), (.aload 1, 0, 0), (.putfield 0, 0, 0), (.aload 0, 0, 0), (.aload 2, 0, 0), (.putfield 0, 0, 1), (.return_, 0, 0)])]
def zB_Bl_prepare : List (Nat × List zEnt) := [(0, [(.aload 0, 0, 0), (.iload 1, 0, 0), (.putfield 0, 0, 5), (.iconst (1), 0, 0), (.istore 2, 0, 0), (.iconst (0), 0, 0), (.istore 3, 0, 0), (.goto_w 0, 1, 0)]),
  (9, [(.iload 3, 0, 0), (.iconst (4), 0, 0), (.if_icmp .ge 0, 10, 0), (.goto_w 0, 2, 0)]),
  (14, [(.iconst (0), 0, 0), (.istore 4, 0, 0), (.goto_w 0, 3, 0)]),
  (17, [(.iload 4, 0, 0), (.iconst (12), 0, 0), (.if_icmp .ge 0, 9, 0), (.goto_w 0, 4, 0)]),
  (24, [(.iload 3, 0, 0), (.aload 0, 0, 0), (.getfield 0, 0, 0), (.getfield 0, 5, 1), (.if_icmp .ge 0, 7, 0), (.goto_w 0, 5, 0)]),
  (35, [(.aload 0, 0, 0), (.getfield 0, 0, 5), (.iload 3, 0, 0), (.invokestatic 0, 162, 0), (.ifCond .eq 0, 7, 0), (.goto_w 0, 6, 0)]),
  (46, [(.aload 0, 0, 0), (.getfield 0, 0, 0), (.iload 3, 0, 0), (.iload 4, 0, 0), (.invokevirtual 0, 78, 0), (.goto 0, 8, 0)]),
  (59, [(.iconst (0), 0, 0), (.goto_w 0, 8, 0)]),
  (60, [(.istore 5, 0, 0), (.aload 0, 0, 0), (.getfield 0, 0, 3), (.iload 3, 0, 0), (.iconst (12), 0, 0), (.imul, 0, 0), (.iload 4, 0, 0), (.iadd, 0, 0), (.iload 5, 0, 0), (.invokestatic 0, 160, 0), (.iload 2, 0, 0), (.iload 5, 0, 0), (.iconst (1), 0, 0), (.fadd, 0, 0), (.imul, 0, 0), (.iconst (5001), 0, 0), (.fsub, 0, 0), (.istore 2, 0, 0), (.iinc 4 (1), 0, 0), (.goto 0, 3, 0)]),
  (99, [(.iinc 3 (1), 0, 0), (.goto 0, 1, 0)]),
  (105, [(.iload 2, 0, 0), (.ireturn, 0, 0)])]
def zB_Bl_want : List (Nat × List zEnt) := [(0, [(.aload 0, 0, 0), (.iload 1, 0, 0), (.putfield 0, 0, 6), (.aload 0, 0, 0), (.iload 2, 0, 0), (.putfield 0, 0, 7), (.aload 0, 0, 0), (.iload 3, 0, 0), (.putfield 0, 0, 8), (.return_, 0, 0)])]
def zB_Bl_fit : List (Nat × List zEnt) := [(0, [(.iconst (1), 0, 0), (.iload 1, 0, 0), (.ishl, 0, 0), (.istore 2, 0, 0), (.iconst (0), 0, 0), (.istore 3, 0, 0), (.goto_w 0, 1, 0)]),
  (6, [(.iload 3, 0, 0), (.aload 0, 0, 0), (.getfield 0, 0, 0), (.getfield 0, 5, 1), (.if_icmp .ge 0, 9, 0), (.goto_w 0, 2, 0)]),
  (17, [(.iconst (0), 0, 0), (.istore 4, 0, 0), (.goto_w 0, 3, 0)]),
  (20, [(.iload 4, 0, 0), (.aload 0, 0, 0), (.getfield 0, 0, 0), (.getfield 0, 5, 0), (.if_icmp .ge 0, 8, 0), (.goto_w 0, 4, 0)]),
  (32, [(.aload 0, 0, 0), (.getfield 0, 0, 5), (.iload 3, 0, 0), (.invokestatic 0, 162, 0), (.ifCond .eq 0, 7, 0), (.goto_w 0, 5, 0)]),
  (43, [(.aload 0, 0, 0), (.getfield 0, 0, 0), (.iload 3, 0, 0), (.iload 4, 0, 0), (.invokevirtual 0, 68, 0), (.aload 0, 0, 0), (.getfield 0, 0, 0), (.iload 3, 0, 0), (.iload 1, 0, 0), (.invokevirtual 0, 68, 0), (.if_icmp .ne 0, 7, 0), (.goto_w 0, 6, 0)]),
  (65, [(.iload 2, 0, 0), (.iconst (1), 0, 0), (.iload 4, 0, 0), (.ishl, 0, 0), (.ior, 0, 0), (.istore 2, 0, 0), (.goto_w 0, 7, 0)]),
  (72, [(.iinc 4 (1), 0, 0), (.goto 0, 3, 0)]),
  (78, [(.iinc 3 (1), 0, 0), (.goto 0, 1, 0)]),
  (84, [(.iload 2, 0, 0), (.ireturn, 0, 0)])]
def zB_Bl_search : List (Nat × List zEnt) := [(0, [(.aload 0, 0, 0), (.getfield 0, 0, 2), (.iconst (0), 0, 0), (.invokestatic 0, 263, 0), (.iconst (0), 0, 0), (.istore 2, 0, 0), (.goto_w 0, 1, 0)]),
  (10, [(.iload 2, 0, 0), (.iconst (5000), 0, 0), (.if_icmp .ge 0, 7, 0), (.goto_w 0, 2, 0)]),
  (17, [(.aload 0, 0, 0), (.iload 1, 0, 0), (.invokevirtual 0, 6, 0), (.ifCond .eq 0, 4, 0), (.goto_w 0, 3, 0)]),
  (25, [(.iconst (1), 0, 0), (.ireturn, 0, 0)]),
  (27, [(.aload 0, 0, 0), (.invokevirtual 0, 5, 0), (.ifCond .ne 0, 6, 0), (.goto_w 0, 5, 0)]),
  (34, [(.iconst (0), 0, 0), (.ireturn, 0, 0)]),
  (36, [(.iinc 2 (1), 0, 0), (.goto 0, 1, 0)]),
  (42, [(.iconst (0), 0, 0), (.ireturn, 0, 0)])]
def zB_Bl_advance : List (Nat × List zEnt) := [(0, [(.iconst (47), 0, 0), (.istore 1, 0, 0), (.goto_w 0, 1, 0)]),
  (3, [(.iload 1, 0, 0), (.ifCond .lt 0, 5, 0), (.goto_w 0, 2, 0)]),
  (7, [(.aload 0, 0, 0), (.getfield 0, 0, 2), (.iload 1, 0, 0), (.invokestatic 0, 159, 0), (.iconst (1), 0, 0), (.iadd, 0, 0), (.aload 0, 0, 0), (.getfield 0, 0, 3), (.iload 1, 0, 0), (.invokestatic 0, 159, 0), (.if_icmp .ge 0, 4, 0), (.goto_w 0, 3, 0)]),
  (28, [(.aload 0, 0, 0), (.getfield 0, 0, 2), (.iload 1, 0, 0), (.aload 0, 0, 0), (.getfield 0, 0, 2), (.iload 1, 0, 0), (.invokestatic 0, 159, 0), (.iconst (1), 0, 0), (.iadd, 0, 0), (.invokestatic 0, 160, 0), (.iconst (1), 0, 0), (.ireturn, 0, 0)]),
  (48, [(.aload 0, 0, 0), (.getfield 0, 0, 2), (.iload 1, 0, 0), (.iconst (0), 0, 0), (.invokestatic 0, 160, 0), (.iinc 1 (-1), 0, 0), (.goto 0, 1, 0)]),
  (63, [(.iconst (0), 0, 0), (.ireturn, 0, 0)])]
def zB_Bl_does : List (Nat × List zEnt) := [(0, [(.aload 0, 0, 0), (.iload 1, 0, 0), (.invokevirtual 0, 7, 0), (.istore 2, 0, 0), (.aload 0, 0, 0), (.getfield 0, 0, 6), (.tableswitch 17 (5) (9) #[1, 5, 17, 13, 9], 0, 0)]),
  (44, [(.aload 0, 0, 0), (.iload 1, 0, 0), (.invokevirtual 0, 9, 0), (.aload 0, 0, 0), (.getfield 0, 0, 7), (.iconst (-1), 0, 0), (.ixor, 0, 0), (.iand, 0, 0), (.ifCond .ne 0, 3, 0), (.goto_w 0, 2, 0)]),
  (59, [(.iconst (1), 0, 0), (.goto 0, 4, 0)]),
  (63, [(.iconst (0), 0, 0), (.goto_w 0, 4, 0)]),
  (64, [(.ireturn, 0, 0)]),
  (65, [(.iload 2, 0, 0), (.aload 0, 0, 0), (.getfield 0, 0, 7), (.iconst (-1), 0, 0), (.ixor, 0, 0), (.iand, 0, 0), (.ifCond .ne 0, 7, 0), (.goto_w 0, 6, 0)]),
  (76, [(.iconst (1), 0, 0), (.goto 0, 8, 0)]),
  (80, [(.iconst (0), 0, 0), (.goto_w 0, 8, 0)]),
  (81, [(.ireturn, 0, 0)]),
  (82, [(.aload 0, 0, 0), (.iload 2, 0, 0), (.aload 0, 0, 0), (.getfield 0, 0, 7), (.iconst (-1), 0, 0), (.ixor, 0, 0), (.iand, 0, 0), (.invokevirtual 0, 10, 0), (.ifCond .ne 0, 11, 0), (.goto_w 0, 10, 0)]),
  (97, [(.iconst (1), 0, 0), (.goto 0, 12, 0)]),
  (101, [(.iconst (0), 0, 0), (.goto_w 0, 12, 0)]),
  (102, [(.ireturn, 0, 0)]),
  (103, [(.iload 1, 0, 0), (.aload 0, 0, 0), (.iload 2, 0, 0), (.aload 0, 0, 0), (.getfield 0, 0, 7), (.iand, 0, 0), (.aload 0, 0, 0), (.getfield 0, 0, 8), (.invokevirtual 0, 11, 0), (.iconst (-1), 0, 0), (.ixor, 0, 0), (.iand, 0, 0), (.ifCond .ne 0, 15, 0), (.goto_w 0, 14, 0)]),
  (124, [(.iconst (1), 0, 0), (.goto 0, 16, 0)]),
  (128, [(.iconst (0), 0, 0), (.goto_w 0, 16, 0)]),
  (129, [(.ireturn, 0, 0)]),
  (130, [(.iload 1, 0, 0), (.aload 0, 0, 0), (.iload 2, 0, 0), (.aload 0, 0, 0), (.getfield 0, 0, 7), (.invokevirtual 0, 11, 0), (.iconst (-1), 0, 0), (.ixor, 0, 0), (.iand, 0, 0), (.ifCond .ne 0, 19, 0), (.goto_w 0, 18, 0)]),
  (146, [(.iconst (1), 0, 0), (.goto 0, 20, 0)]),
  (150, [(.iconst (0), 0, 0), (.goto_w 0, 20, 0)]),
  (151, [(.ireturn, 0, 0)])]
def zB_Bl_spread : List (Nat × List zEnt) := [(0, [(.iload 1, 0, 0), (.istore 2, 0, 0), (.iload 1, 0, 0), (.istore 3, 0, 0), (.iconst (0), 0, 0), (.istore 4, 0, 0), (.goto_w 0, 1, 0)]),
  (7, [(.iload 4, 0, 0), (.iconst (12), 0, 0), (.if_icmp .ge 0, 4, 0), (.goto_w 0, 2, 0)]),
  (14, [(.iload 3, 0, 0), (.ifCond .eq 0, 4, 0), (.goto_w 0, 3, 0)]),
  (18, [(.iload 3, 0, 0), (.invokestatic 0, 163, 0), (.istore 5, 0, 0), (.aload 0, 0, 0), (.iload 5, 0, 0), (.invokevirtual 0, 8, 0), (.istore 6, 0, 0), (.aload 0, 0, 0), (.getfield 0, 0, 4), (.iload 5, 0, 0), (.iload 6, 0, 0), (.invokestatic 0, 160, 0), (.iload 3, 0, 0), (.iconst (1), 0, 0), (.iload 5, 0, 0), (.ishl, 0, 0), (.iconst (-1), 0, 0), (.ixor, 0, 0), (.iand, 0, 0), (.iload 6, 0, 0), (.iload 2, 0, 0), (.iconst (-1), 0, 0), (.ixor, 0, 0), (.iand, 0, 0), (.ior, 0, 0), (.istore 3, 0, 0), (.iload 2, 0, 0), (.iload 6, 0, 0), (.ior, 0, 0), (.istore 2, 0, 0), (.iinc 4 (1), 0, 0), (.goto 0, 1, 0)]),
  (70, [(.iload 2, 0, 0), (.ireturn, 0, 0)])]
def zB_Bl_endsBy : List (Nat × List zEnt) := [(0, [(.iconst (0), 0, 0), (.istore 2, 0, 0), (.iconst (0), 0, 0), (.istore 3, 0, 0), (.goto_w 0, 1, 0)]),
  (4, [(.iload 3, 0, 0), (.aload 0, 0, 0), (.getfield 0, 0, 0), (.getfield 0, 5, 1), (.if_icmp .ge 0, 5, 0), (.goto_w 0, 2, 0)]),
  (15, [(.aload 0, 0, 0), (.getfield 0, 0, 5), (.iload 3, 0, 0), (.invokestatic 0, 162, 0), (.ifCond .eq 0, 4, 0), (.goto_w 0, 3, 0)]),
  (26, [(.aload 0, 0, 0), (.getfield 0, 0, 2), (.iload 3, 0, 0), (.iconst (12), 0, 0), (.imul, 0, 0), (.aload 0, 0, 0), (.getfield 0, 0, 0), (.getfield 0, 5, 8), (.iload 3, 0, 0), (.iconst (12), 0, 0), (.imul, 0, 0), (.iload 1, 0, 0), (.iadd, 0, 0), (.invokestatic 0, 159, 0), (.iadd, 0, 0), (.invokestatic 0, 159, 0), (.istore 4, 0, 0), (.iload 2, 0, 0), (.aload 0, 0, 0), (.getfield 0, 0, 0), (.getfield 0, 5, 3), (.iload 1, 0, 0), (.iconst (4), 0, 0), (.imul, 0, 0), (.iload 3, 0, 0), (.iadd, 0, 0), (.invokestatic 0, 159, 0), (.imul, 0, 0), (.iload 4, 0, 0), (.iadd, 0, 0), (.istore 2, 0, 0), (.goto_w 0, 4, 0)]),
  (77, [(.iinc 3 (1), 0, 0), (.goto 0, 1, 0)]),
  (83, [(.aload 0, 0, 0), (.getfield 0, 0, 1), (.getfield 0, 8, 1), (.iload 1, 0, 0), (.iconst (81), 0, 0), (.imul, 0, 0), (.iload 2, 0, 0), (.iadd, 0, 0), (.invokestatic 0, 159, 0), (.ireturn, 0, 0)])]
def zB_Bl_endsOfAll : List (Nat × List zEnt) := [(0, [(.iconst (0), 0, 0), (.istore 2, 0, 0), (.iconst (0), 0, 0), (.istore 3, 0, 0), (.goto_w 0, 1, 0)]),
  (4, [(.iload 3, 0, 0), (.aload 0, 0, 0), (.getfield 0, 0, 0), (.getfield 0, 5, 0), (.if_icmp .ge 0, 5, 0), (.goto_w 0, 2, 0)]),
  (15, [(.iload 1, 0, 0), (.iload 3, 0, 0), (.invokestatic 0, 162, 0), (.ifCond .eq 0, 4, 0), (.goto_w 0, 3, 0)]),
  (23, [(.iload 2, 0, 0), (.aload 0, 0, 0), (.getfield 0, 0, 4), (.iload 3, 0, 0), (.invokestatic 0, 159, 0), (.ior, 0, 0), (.istore 2, 0, 0), (.goto_w 0, 4, 0)]),
  (34, [(.iinc 3 (1), 0, 0), (.goto 0, 1, 0)]),
  (40, [(.iload 2, 0, 0), (.ireturn, 0, 0)])]
def zB_Bl_staying : List (Nat × List zEnt) := [(0, [(.iload 1, 0, 0), (.istore 2, 0, 0), (.iconst (0), 0, 0), (.istore 3, 0, 0), (.goto_w 0, 1, 0)]),
  (4, [(.iload 3, 0, 0), (.iconst (12), 0, 0), (.if_icmp .ge 0, 9, 0), (.goto_w 0, 2, 0)]),
  (10, [(.iconst (0), 0, 0), (.istore 4, 0, 0), (.goto_w 0, 3, 0)]),
  (13, [(.iload 4, 0, 0), (.aload 0, 0, 0), (.getfield 0, 0, 0), (.getfield 0, 5, 0), (.if_icmp .ge 0, 8, 0), (.goto_w 0, 4, 0)]),
  (25, [(.iload 2, 0, 0), (.iload 4, 0, 0), (.invokestatic 0, 162, 0), (.ifCond .eq 0, 7, 0), (.goto_w 0, 5, 0)]),
  (34, [(.aload 0, 0, 0), (.getfield 0, 0, 4), (.iload 4, 0, 0), (.invokestatic 0, 159, 0), (.iload 2, 0, 0), (.iand, 0, 0), (.ifCond .ne 0, 7, 0), (.goto_w 0, 6, 0)]),
  (48, [(.iload 2, 0, 0), (.iconst (1), 0, 0), (.iload 4, 0, 0), (.ishl, 0, 0), (.iconst (-1), 0, 0), (.ixor, 0, 0), (.iand, 0, 0), (.istore 2, 0, 0), (.goto_w 0, 7, 0)]),
  (57, [(.iinc 4 (1), 0, 0), (.goto 0, 3, 0)]),
  (63, [(.iinc 3 (1), 0, 0), (.goto 0, 1, 0)]),
  (69, [(.iload 2, 0, 0), (.ireturn, 0, 0)])]
def zB_Bl_sure : List (Nat × List zEnt) := [(0, [(.iload 2, 0, 0), (.istore 3, 0, 0), (.iconst (0), 0, 0), (.istore 4, 0, 0), (.goto_w 0, 1, 0)]),
  (5, [(.iload 4, 0, 0), (.iconst (12), 0, 0), (.if_icmp .ge 0, 9, 0), (.goto_w 0, 2, 0)]),
  (12, [(.iconst (0), 0, 0), (.istore 5, 0, 0), (.goto_w 0, 3, 0)]),
  (15, [(.iload 5, 0, 0), (.aload 0, 0, 0), (.getfield 0, 0, 0), (.getfield 0, 5, 0), (.if_icmp .ge 0, 8, 0), (.goto_w 0, 4, 0)]),
  (27, [(.iload 1, 0, 0), (.iload 5, 0, 0), (.invokestatic 0, 162, 0), (.ifCond .eq 0, 7, 0), (.goto_w 0, 5, 0)]),
  (36, [(.aload 0, 0, 0), (.getfield 0, 0, 4), (.iload 5, 0, 0), (.invokestatic 0, 159, 0), (.iload 3, 0, 0), (.iconst (-1), 0, 0), (.ixor, 0, 0), (.iand, 0, 0), (.ifCond .ne 0, 7, 0), (.goto_w 0, 6, 0)]),
  (52, [(.iload 3, 0, 0), (.iconst (1), 0, 0), (.iload 5, 0, 0), (.ishl, 0, 0), (.ior, 0, 0), (.istore 3, 0, 0), (.goto_w 0, 7, 0)]),
  (59, [(.iinc 5 (1), 0, 0), (.goto 0, 3, 0)]),
  (65, [(.iinc 4 (1), 0, 0), (.goto 0, 1, 0)]),
  (71, [(.iload 3, 0, 0), (.ireturn, 0, 0)])]
def zB_Fo_init : List (Nat × List zEnt) := [(0, [(.aload 0, 0, 0), (.nop, 0, 0), (.aload 0, 0, 0), (.iconst (24), 0, 0), (.newarray .int, 0, 0), (.putfield 0, 1, 2), (.aload 0, 0, 0), (.iconst (24), 0, 0), (.newarray .int, 0, 0), (.putfield 0, 1, 3), (.aload 0, 0, 0), (.iconst (24), 0, 0), (.newarray .int, 0, 0), (.putfield 0, 1, 4), (.aload 0, 0, 0), (.iconst (24), 0, 0), (.newarray .int, 0, 0), (.putfield 0, 1, 5), (.aload 0, 0, 0), (.invokevirtual 0, 13, 0), (.return_, 0, 0)])]
def zB_Fo_becomeTrue : List (Nat × List zEnt) := [(0, [(.aload 0, 0, 0), (.invokevirtual 0, 14, 0), (.aload 0, 0, 0), (.aload 0, 0, 0), (.iconst (0), 0, 0), (.invokevirtual 0, 15, 0), (.iconst (0), 0, 0), (.iconst (0), 0, 0), (.iconst (0), 0, 0), (.invokevirtual 0, 16, 0), (.return_, 0, 0)])]
def zB_Fo_clear : List (Nat × List zEnt) := [(0, [(.aload 0, 0, 0), (.iconst (0), 0, 0), (.putfield 0, 1, 0), (.aload 0, 0, 0), (.dup, 0, 0), (.getfield 0, 1, 1), (.iconst (1), 0, 0), (.iadd, 0, 0), (.putfield 0, 1, 1), (.return_, 0, 0)])]
def zB_Fo_add : List (Nat × List zEnt) := [(0, [(.aload 0, 0, 0), (.getfield 0, 1, 0), (.istore 2, 0, 0), (.aload 0, 0, 0), (.getfield 0, 1, 5), (.iload 2, 0, 0), (.iload 1, 0, 0), (.invokestatic 0, 160, 0), (.aload 0, 0, 0), (.dup, 0, 0), (.getfield 0, 1, 0), (.iconst (1), 0, 0), (.iadd, 0, 0), (.putfield 0, 1, 0), (.iload 2, 0, 0), (.ireturn, 0, 0)])]
def zB_Fo_set : List (Nat × List zEnt) := [(0, [(.aload 0, 0, 0), (.getfield 0, 1, 2), (.iload 1, 0, 0), (.iload 2, 0, 0), (.invokestatic 0, 160, 0), (.aload 0, 0, 0), (.getfield 0, 1, 3), (.iload 1, 0, 0), (.iload 3, 0, 0), (.invokestatic 0, 160, 0), (.aload 0, 0, 0), (.getfield 0, 1, 4), (.iload 1, 0, 0), (.iload 4, 0, 0), (.invokestatic 0, 160, 0), (.return_, 0, 0)])]
def zB_Fo_become : List (Nat × List zEnt) := [(0, [(.aload 0, 0, 0), (.invokevirtual 0, 14, 0), (.iconst (0), 0, 0), (.istore 2, 0, 0), (.goto_w 0, 1, 0)]),
  (6, [(.iload 2, 0, 0), (.aload 1, 0, 0), (.getfield 0, 1, 0), (.if_icmp .ge 0, 3, 0), (.goto_w 0, 2, 0)]),
  (14, [(.aload 0, 0, 0), (.aload 0, 0, 0), (.aload 1, 0, 0), (.iload 2, 0, 0), (.invokevirtual 0, 21, 0), (.invokevirtual 0, 15, 0), (.aload 1, 0, 0), (.iload 2, 0, 0), (.invokevirtual 0, 18, 0), (.aload 1, 0, 0), (.iload 2, 0, 0), (.invokevirtual 0, 19, 0), (.aload 1, 0, 0), (.iload 2, 0, 0), (.invokevirtual 0, 20, 0), (.invokevirtual 0, 16, 0), (.iinc 2 (1), 0, 0), (.goto 0, 1, 0)]),
  (48, [(.return_, 0, 0)])]
def zB_Fo_kind : List (Nat × List zEnt) := [(0, [(.aload 0, 0, 0), (.getfield 0, 1, 2), (.iload 1, 0, 0), (.invokestatic 0, 159, 0), (.ireturn, 0, 0)])]
def zB_Fo_left : List (Nat × List zEnt) := [(0, [(.aload 0, 0, 0), (.getfield 0, 1, 3), (.iload 1, 0, 0), (.invokestatic 0, 159, 0), (.ireturn, 0, 0)])]
def zB_Fo_right : List (Nat × List zEnt) := [(0, [(.aload 0, 0, 0), (.getfield 0, 1, 4), (.iload 1, 0, 0), (.invokestatic 0, 159, 0), (.ireturn, 0, 0)])]
def zB_Fo_group : List (Nat × List zEnt) := [(0, [(.aload 0, 0, 0), (.getfield 0, 1, 5), (.iload 1, 0, 0), (.invokestatic 0, 159, 0), (.ireturn, 0, 0)])]
def zB_Fo_isLaw : List (Nat × List zEnt) := [(0, [(.aload 0, 0, 0), (.iload 1, 0, 0), (.invokevirtual 0, 18, 0), (.iconst (5), 0, 0), (.if_icmp .lt 0, 2, 0), (.goto_w 0, 1, 0)]),
  (9, [(.iconst (1), 0, 0), (.goto 0, 3, 0)]),
  (13, [(.iconst (0), 0, 0), (.goto_w 0, 3, 0)]),
  (14, [(.ireturn, 0, 0)])]
def zB_Fo_isOfGroup : List (Nat × List zEnt) := [(0, [(.aload 0, 0, 0), (.iconst (0), 0, 0), (.invokevirtual 0, 22, 0), (.ireturn, 0, 0)])]
def zB_Fo_hasRounds : List (Nat × List zEnt) := [(0, [(.aload 0, 0, 0), (.iconst (0), 0, 0), (.invokevirtual 0, 18, 0), (.iconst (7), 0, 0), (.if_icmp .lt 0, 2, 0), (.goto_w 0, 1, 0)]),
  (10, [(.iconst (1), 0, 0), (.goto 0, 3, 0)]),
  (14, [(.iconst (0), 0, 0), (.goto_w 0, 3, 0)]),
  (15, [(.ireturn, 0, 0)])]
def zB_Fo_hasToll : List (Nat × List zEnt) := [(0, [(.aload 0, 0, 0), (.iconst (0), 0, 0), (.invokevirtual 0, 18, 0), (.iconst (7), 0, 0), (.if_icmp .eq 0, 2, 0), (.goto_w 0, 1, 0)]),
  (10, [(.aload 0, 0, 0), (.iconst (0), 0, 0), (.invokevirtual 0, 18, 0), (.iconst (8), 0, 0), (.if_icmp .ne 0, 3, 0), (.goto_w 0, 2, 0)]),
  (20, [(.iconst (1), 0, 0), (.goto 0, 4, 0)]),
  (24, [(.iconst (0), 0, 0), (.goto_w 0, 4, 0)]),
  (25, [(.ireturn, 0, 0)])]
def zB_Go_init : List (Nat × List zEnt) := [(0, [(.aload 0, 0, 0), (.nop, 0, 0), (.aload 0, 0, 0), (.iconst (4), 0, 0), (.newarray .int, 0, 0), (.putfield 0, 2, 1), (.aload 0, 0, 0), (.iconst (48), 0, 0), (.newarray .int, 0, 0), (.putfield 0, 2, 2), (.aload 0, 0, 0), (.aload 1, 0, 0), (.putfield 0, 2, 0), (.return_, 0, 0)])]
def zB_Go_forget : List (Nat × List zEnt) := [(0, [(.aload 0, 0, 0), (.getfield 0, 2, 1), (.iconst (0), 0, 0), (.invokestatic 0, 263, 0), (.return_, 0, 0)])]
def zB_Go_passed : List (Nat × List zEnt) := [(0, [(.iconst (0), 0, 0), (.istore 3, 0, 0), (.iload 2, 0, 0), (.istore 4, 0, 0), (.iconst (0), 0, 0), (.istore 5, 0, 0), (.goto_w 0, 1, 0)]),
  (8, [(.iload 5, 0, 0), (.iconst (12), 0, 0), (.if_icmp .ge 0, 4, 0), (.goto_w 0, 2, 0)]),
  (15, [(.iload 3, 0, 0), (.iload 4, 0, 0), (.invokestatic 0, 162, 0), (.ifCond .ne 0, 4, 0), (.goto_w 0, 3, 0)]),
  (24, [(.iload 3, 0, 0), (.iconst (1), 0, 0), (.iload 4, 0, 0), (.ishl, 0, 0), (.ior, 0, 0), (.istore 3, 0, 0), (.aload 0, 0, 0), (.getfield 0, 2, 0), (.aload 1, 0, 0), (.iload 4, 0, 0), (.iconst (-1), 0, 0), (.iconst (0), 0, 0), (.invokevirtual 0, 79, 0), (.istore 4, 0, 0), (.iinc 5 (1), 0, 0), (.goto 0, 1, 0)]),
  (51, [(.iload 3, 0, 0), (.ireturn, 0, 0)])]
def zB_Go_meeting : List (Nat × List zEnt) := [(0, [(.iconst (0), 0, 0), (.istore 2, 0, 0), (.iconst (0), 0, 0), (.istore 3, 0, 0), (.goto_w 0, 1, 0)]),
  (4, [(.iload 3, 0, 0), (.aload 0, 0, 0), (.getfield 0, 2, 0), (.getfield 0, 5, 1), (.if_icmp .ge 0, 5, 0), (.goto_w 0, 2, 0)]),
  (15, [(.aload 0, 0, 0), (.getfield 0, 2, 1), (.iload 3, 0, 0), (.invokestatic 0, 159, 0), (.iload 1, 0, 0), (.iand, 0, 0), (.ifCond .eq 0, 4, 0), (.goto_w 0, 3, 0)]),
  (28, [(.iload 2, 0, 0), (.iconst (1), 0, 0), (.iload 3, 0, 0), (.ishl, 0, 0), (.ior, 0, 0), (.istore 2, 0, 0), (.goto_w 0, 4, 0)]),
  (34, [(.iinc 3 (1), 0, 0), (.goto 0, 1, 0)]),
  (40, [(.iload 2, 0, 0), (.ireturn, 0, 0)])]
def zB_Go_isStable : List (Nat × List zEnt) := [(0, [(.aload 0, 0, 0), (.aload 0, 0, 0), (.aload 1, 0, 0), (.iload 2, 0, 0), (.invokevirtual 0, 28, 0), (.invokevirtual 0, 29, 0), (.istore 3, 0, 0), (.iconst (0), 0, 0), (.istore 4, 0, 0), (.goto_w 0, 1, 0)]),
  (14, [(.iload 4, 0, 0), (.aload 0, 0, 0), (.getfield 0, 2, 0), (.getfield 0, 5, 1), (.if_icmp .ge 0, 7, 0), (.goto_w 0, 2, 0)]),
  (26, [(.iload 3, 0, 0), (.iload 4, 0, 0), (.invokestatic 0, 162, 0), (.ifCond .ne 0, 6, 0), (.goto_w 0, 3, 0)]),
  (35, [(.aload 0, 0, 0), (.getfield 0, 2, 1), (.iload 4, 0, 0), (.invokestatic 0, 159, 0), (.ifCond .eq 0, 6, 0), (.goto_w 0, 4, 0)]),
  (47, [(.aload 0, 0, 0), (.aload 1, 0, 0), (.iload 2, 0, 0), (.iload 4, 0, 0), (.invokevirtual 0, 31, 0), (.ifCond .eq 0, 6, 0), (.goto_w 0, 5, 0)]),
  (58, [(.iconst (0), 0, 0), (.ireturn, 0, 0)]),
  (60, [(.iinc 4 (1), 0, 0), (.goto 0, 1, 0)]),
  (66, [(.iconst (1), 0, 0), (.ireturn, 0, 0)])]
def zB_Go_couldMeet : List (Nat × List zEnt) := [(0, [(.iconst (1), 0, 0), (.iload 2, 0, 0), (.ishl, 0, 0), (.istore 4, 0, 0), (.iload 4, 0, 0), (.istore 5, 0, 0), (.iconst (0), 0, 0), (.istore 6, 0, 0), (.goto_w 0, 1, 0)]),
  (12, [(.iload 6, 0, 0), (.iconst (12), 0, 0), (.if_icmp .ge 0, 7, 0), (.goto_w 0, 2, 0)]),
  (19, [(.iload 5, 0, 0), (.ifCond .eq 0, 7, 0), (.goto_w 0, 3, 0)]),
  (24, [(.iload 5, 0, 0), (.invokestatic 0, 163, 0), (.istore 7, 0, 0), (.iload 5, 0, 0), (.iconst (1), 0, 0), (.iload 7, 0, 0), (.ishl, 0, 0), (.iconst (-1), 0, 0), (.ixor, 0, 0), (.iand, 0, 0), (.istore 5, 0, 0), (.aload 0, 0, 0), (.getfield 0, 2, 0), (.iload 7, 0, 0), (.iload 3, 0, 0), (.invokevirtual 0, 67, 0), (.istore 8, 0, 0), (.iconst (0), 0, 0), (.istore 9, 0, 0), (.goto_w 0, 4, 0)]),
  (57, [(.iload 9, 0, 0), (.iload 8, 0, 0), (.if_icmp .ge 0, 6, 0), (.goto_w 0, 5, 0)]),
  (64, [(.iconst (1), 0, 0), (.aload 0, 0, 0), (.getfield 0, 2, 0), (.aload 1, 0, 0), (.iload 7, 0, 0), (.iload 3, 0, 0), (.iload 9, 0, 0), (.invokevirtual 0, 79, 0), (.ishl, 0, 0), (.istore 10, 0, 0), (.iload 5, 0, 0), (.iload 10, 0, 0), (.iload 4, 0, 0), (.iconst (-1), 0, 0), (.ixor, 0, 0), (.iand, 0, 0), (.ior, 0, 0), (.istore 5, 0, 0), (.iload 4, 0, 0), (.iload 10, 0, 0), (.ior, 0, 0), (.istore 4, 0, 0), (.iinc 9 (1), 0, 0), (.goto 0, 4, 0)]),
  (106, [(.iinc 6 (1), 0, 0), (.goto 0, 1, 0)]),
  (112, [(.iload 4, 0, 0), (.aload 0, 0, 0), (.getfield 0, 2, 1), (.iload 3, 0, 0), (.invokestatic 0, 159, 0), (.iand, 0, 0), (.ifCond .eq 0, 9, 0), (.goto_w 0, 8, 0)]),
  (126, [(.iconst (1), 0, 0), (.goto 0, 10, 0)]),
  (130, [(.iconst (0), 0, 0), (.goto_w 0, 10, 0)]),
  (131, [(.ireturn, 0, 0)])]
def zB_Go_search : List (Nat × List zEnt) := [(0, [(.aload 0, 0, 0), (.getfield 0, 2, 2), (.iconst (0), 0, 0), (.invokestatic 0, 263, 0), (.iconst (0), 0, 0), (.istore 2, 0, 0), (.goto_w 0, 1, 0)]),
  (10, [(.iload 2, 0, 0), (.iconst (20000), 0, 0), (.if_icmp .ge 0, 7, 0), (.goto_w 0, 2, 0)]),
  (17, [(.aload 0, 0, 0), (.aload 0, 0, 0), (.getfield 0, 2, 2), (.iload 1, 0, 0), (.invokevirtual 0, 30, 0), (.ifCond .eq 0, 4, 0), (.goto_w 0, 3, 0)]),
  (29, [(.iconst (1), 0, 0), (.ireturn, 0, 0)]),
  (31, [(.aload 0, 0, 0), (.invokevirtual 0, 33, 0), (.ifCond .ne 0, 6, 0), (.goto_w 0, 5, 0)]),
  (38, [(.iconst (0), 0, 0), (.ireturn, 0, 0)]),
  (40, [(.iinc 2 (1), 0, 0), (.goto 0, 1, 0)]),
  (46, [(.iconst (0), 0, 0), (.ireturn, 0, 0)])]
def zB_Go_advance : List (Nat × List zEnt) := [(0, [(.aload 0, 0, 0), (.getfield 0, 2, 0), (.getfield 0, 5, 1), (.iconst (1), 0, 0), (.isub, 0, 0), (.istore 1, 0, 0), (.goto_w 0, 1, 0)]),
  (10, [(.iload 1, 0, 0), (.ifCond .lt 0, 8, 0), (.goto_w 0, 2, 0)]),
  (14, [(.aload 0, 0, 0), (.getfield 0, 2, 0), (.getfield 0, 5, 0), (.iconst (1), 0, 0), (.isub, 0, 0), (.istore 2, 0, 0), (.goto_w 0, 3, 0)]),
  (24, [(.iload 2, 0, 0), (.ifCond .lt 0, 7, 0), (.goto_w 0, 4, 0)]),
  (28, [(.iload 2, 0, 0), (.iconst (4), 0, 0), (.imul, 0, 0), (.iload 1, 0, 0), (.iadd, 0, 0), (.istore 3, 0, 0), (.aload 0, 0, 0), (.getfield 0, 2, 2), (.iload 3, 0, 0), (.invokestatic 0, 159, 0), (.iconst (1), 0, 0), (.iadd, 0, 0), (.aload 0, 0, 0), (.getfield 0, 2, 0), (.iload 2, 0, 0), (.iload 1, 0, 0), (.invokevirtual 0, 67, 0), (.if_icmp .ge 0, 6, 0), (.goto_w 0, 5, 0)]),
  (56, [(.aload 0, 0, 0), (.getfield 0, 2, 2), (.iload 3, 0, 0), (.aload 0, 0, 0), (.getfield 0, 2, 2), (.iload 3, 0, 0), (.invokestatic 0, 159, 0), (.iconst (1), 0, 0), (.iadd, 0, 0), (.invokestatic 0, 160, 0), (.iconst (1), 0, 0), (.ireturn, 0, 0)]),
  (76, [(.aload 0, 0, 0), (.getfield 0, 2, 2), (.iload 3, 0, 0), (.iconst (0), 0, 0), (.invokestatic 0, 160, 0), (.iinc 2 (-1), 0, 0), (.goto 0, 3, 0)]),
  (91, [(.iinc 1 (-1), 0, 0), (.goto 0, 1, 0)]),
  (97, [(.iconst (0), 0, 0), (.ireturn, 0, 0)])]
def zB_La_init : List (Nat × List zEnt) := [(0, [(.aload 0, 0, 0), (.nop, 0, 0), (.aload 0, 0, 0), (.iconst (24), 0, 0), (.newarray .int, 0, 0), (.putfield 0, 3, 3), (.aload 0, 0, 0), (.iconst (12), 0, 0), (.newarray .int, 0, 0), (.putfield 0, 3, 4), (.aload 0, 0, 0), (.iconst (-1), 0, 0), (.putfield 0, 3, 5), (.aload 0, 0, 0), (.iconst (-1), 0, 0), (.putfield 0, 3, 6), (.aload 0, 0, 0), (.aload 1, 0, 0), (.putfield 0, 3, 0), (.aload 0, 0, 0), (.aload 2, 0, 0), (.putfield 0, 3, 1), (.aload 0, 0, 0), (.aload 3, 0, 0), (.putfield 0, 3, 2), (.return_, 0, 0)])]
def zB_La_whole : List (Nat × List zEnt) := [(0, [(.aload 0, 0, 0), (.getfield 0, 3, 3), (.iconst (0), 0, 0), (.invokestatic 0, 159, 0), (.ireturn, 0, 0)])]
def zB_La_refresh : List (Nat × List zEnt) := [(0, [(.aload 0, 0, 0), (.getfield 0, 3, 5), (.aload 0, 0, 0), (.getfield 0, 3, 0), (.getfield 0, 5, 2), (.if_icmp .ne 0, 2, 0), (.goto_w 0, 1, 0)]),
  (14, [(.aload 0, 0, 0), (.getfield 0, 3, 6), (.aload 0, 0, 0), (.getfield 0, 3, 1), (.getfield 0, 1, 1), (.if_icmp .eq 0, 8, 0), (.goto_w 0, 2, 0)]),
  (28, [(.aload 0, 0, 0), (.getfield 0, 3, 1), (.getfield 0, 1, 0), (.iconst (1), 0, 0), (.isub, 0, 0), (.istore 1, 0, 0), (.goto_w 0, 3, 0)]),
  (38, [(.iload 1, 0, 0), (.ifCond .lt 0, 7, 0), (.goto_w 0, 4, 0)]),
  (42, [(.aload 0, 0, 0), (.getfield 0, 3, 1), (.iload 1, 0, 0), (.invokevirtual 0, 22, 0), (.ifCond .eq 0, 6, 0), (.goto_w 0, 5, 0)]),
  (53, [(.aload 0, 0, 0), (.getfield 0, 3, 2), (.aload 0, 0, 0), (.getfield 0, 3, 1), (.iload 1, 0, 0), (.invokevirtual 0, 21, 0), (.invokevirtual 0, 103, 0), (.goto_w 0, 6, 0)]),
  (68, [(.aload 0, 0, 0), (.getfield 0, 3, 3), (.iload 1, 0, 0), (.aload 0, 0, 0), (.iload 1, 0, 0), (.invokevirtual 0, 37, 0), (.invokestatic 0, 160, 0), (.iinc 1 (-1), 0, 0), (.goto 0, 3, 0)]),
  (87, [(.aload 0, 0, 0), (.aload 0, 0, 0), (.getfield 0, 3, 0), (.getfield 0, 5, 2), (.putfield 0, 3, 5), (.aload 0, 0, 0), (.aload 0, 0, 0), (.getfield 0, 3, 1), (.getfield 0, 1, 1), (.putfield 0, 3, 6), (.goto_w 0, 8, 0)]),
  (109, [(.return_, 0, 0)])]
def zB_La_judge : List (Nat × List zEnt) := [(0, [(.aload 0, 0, 0), (.getfield 0, 3, 3), (.aload 0, 0, 0), (.getfield 0, 3, 1), (.iload 1, 0, 0), (.invokevirtual 0, 19, 0), (.invokestatic 0, 159, 0), (.istore 2, 0, 0), (.aload 0, 0, 0), (.getfield 0, 3, 3), (.aload 0, 0, 0), (.getfield 0, 3, 1), (.iload 1, 0, 0), (.invokevirtual 0, 20, 0), (.invokestatic 0, 159, 0), (.istore 3, 0, 0), (.aload 0, 0, 0), (.getfield 0, 3, 0), (.invokevirtual 0, 66, 0), (.istore 4, 0, 0), (.aload 0, 0, 0), (.getfield 0, 3, 1), (.iload 1, 0, 0), (.invokevirtual 0, 18, 0), (.tableswitch 10 (0) (8) #[1, 2, 3, 4, 5, 6, 7, 8, 9], 0, 0)]),
  (100, [(.iload 4, 0, 0), (.ireturn, 0, 0)]),
  (103, [(.aload 0, 0, 0), (.getfield 0, 3, 0), (.aload 0, 0, 0), (.getfield 0, 3, 1), (.iload 1, 0, 0), (.invokevirtual 0, 19, 0), (.invokevirtual 0, 73, 0), (.ireturn, 0, 0)]),
  (119, [(.iload 4, 0, 0), (.iload 2, 0, 0), (.iconst (-1), 0, 0), (.ixor, 0, 0), (.iand, 0, 0), (.ireturn, 0, 0)]),
  (126, [(.iload 2, 0, 0), (.iload 3, 0, 0), (.iand, 0, 0), (.ireturn, 0, 0)]),
  (130, [(.iload 2, 0, 0), (.iload 3, 0, 0), (.ior, 0, 0), (.ireturn, 0, 0)]),
  (134, [(.aload 0, 0, 0), (.getfield 0, 3, 2), (.iload 4, 0, 0), (.iload 2, 0, 0), (.invokevirtual 0, 108, 0), (.ireturn, 0, 0)]),
  (145, [(.aload 0, 0, 0), (.iload 2, 0, 0), (.invokevirtual 0, 38, 0), (.ireturn, 0, 0)]),
  (151, [(.aload 0, 0, 0), (.iload 4, 0, 0), (.iload 2, 0, 0), (.invokevirtual 0, 39, 0), (.ireturn, 0, 0)]),
  (159, [(.aload 0, 0, 0), (.iload 2, 0, 0), (.iload 3, 0, 0), (.invokevirtual 0, 39, 0), (.ireturn, 0, 0)]),
  (166, [(.aload 0, 0, 0), (.iload 2, 0, 0), (.invokevirtual 0, 41, 0), (.ireturn, 0, 0)])]
def zB_La_always : List (Nat × List zEnt) := [(0, [(.iload 1, 0, 0), (.istore 2, 0, 0), (.iconst (0), 0, 0), (.istore 3, 0, 0), (.goto_w 0, 1, 0)]),
  (4, [(.iload 3, 0, 0), (.iconst (12), 0, 0), (.if_icmp .ge 0, 3, 0), (.goto_w 0, 2, 0)]),
  (10, [(.aload 0, 0, 0), (.getfield 0, 3, 2), (.iload 2, 0, 0), (.iload 2, 0, 0), (.invokevirtual 0, 108, 0), (.istore 2, 0, 0), (.iinc 3 (1), 0, 0), (.goto 0, 1, 0)]),
  (26, [(.iload 2, 0, 0), (.ireturn, 0, 0)])]
def zB_La_until : List (Nat × List zEnt) := [(0, [(.iload 2, 0, 0), (.istore 3, 0, 0), (.iconst (0), 0, 0), (.istore 4, 0, 0), (.goto_w 0, 1, 0)]),
  (5, [(.iload 4, 0, 0), (.iconst (12), 0, 0), (.if_icmp .ge 0, 6, 0), (.goto_w 0, 2, 0)]),
  (12, [(.aload 0, 0, 0), (.getfield 0, 3, 4), (.iload 4, 0, 0), (.iload 2, 0, 0), (.iload 4, 0, 0), (.invokestatic 0, 162, 0), (.ifCond .eq 0, 4, 0), (.goto_w 0, 3, 0)]),
  (27, [(.iconst (0), 0, 0), (.goto 0, 5, 0)]),
  (31, [(.iconst (-1), 0, 0), (.goto_w 0, 5, 0)]),
  (32, [(.invokestatic 0, 160, 0), (.iinc 4 (1), 0, 0), (.goto 0, 1, 0)]),
  (41, [(.iconst (1), 0, 0), (.istore 4, 0, 0), (.goto_w 0, 7, 0)]),
  (44, [(.iload 4, 0, 0), (.iconst (12), 0, 0), (.if_icmp .gt 0, 11, 0), (.goto_w 0, 8, 0)]),
  (51, [(.aload 0, 0, 0), (.getfield 0, 3, 2), (.iload 1, 0, 0), (.iload 3, 0, 0), (.iconst (-1), 0, 0), (.ixor, 0, 0), (.iand, 0, 0), (.iload 3, 0, 0), (.invokevirtual 0, 108, 0), (.istore 5, 0, 0), (.iload 5, 0, 0), (.ifCond .ne 0, 10, 0), (.goto_w 0, 9, 0)]),
  (71, [(.goto 0, 11, 0)]),
  (74, [(.aload 0, 0, 0), (.iload 5, 0, 0), (.iload 4, 0, 0), (.invokevirtual 0, 40, 0), (.iload 3, 0, 0), (.iload 5, 0, 0), (.ior, 0, 0), (.istore 3, 0, 0), (.iinc 4 (1), 0, 0), (.goto 0, 7, 0)]),
  (93, [(.iload 3, 0, 0), (.ireturn, 0, 0)])]
def zB_La_mark : List (Nat × List zEnt) := [(0, [(.iconst (0), 0, 0), (.istore 3, 0, 0), (.goto_w 0, 1, 0)]),
  (2, [(.iload 3, 0, 0), (.iconst (12), 0, 0), (.if_icmp .ge 0, 5, 0), (.goto_w 0, 2, 0)]),
  (8, [(.iload 1, 0, 0), (.iload 3, 0, 0), (.invokestatic 0, 162, 0), (.ifCond .eq 0, 4, 0), (.goto_w 0, 3, 0)]),
  (16, [(.aload 0, 0, 0), (.getfield 0, 3, 4), (.iload 3, 0, 0), (.iload 2, 0, 0), (.invokestatic 0, 160, 0), (.goto_w 0, 4, 0)]),
  (25, [(.iinc 3 (1), 0, 0), (.goto 0, 1, 0)]),
  (31, [(.return_, 0, 0)])]
def zB_La_again : List (Nat × List zEnt) := [(0, [(.aload 0, 0, 0), (.getfield 0, 3, 0), (.invokevirtual 0, 66, 0), (.istore 2, 0, 0), (.iconst (0), 0, 0), (.istore 3, 0, 0), (.goto_w 0, 1, 0)]),
  (10, [(.iload 3, 0, 0), (.iconst (12), 0, 0), (.if_icmp .gt 0, 5, 0), (.goto_w 0, 2, 0)]),
  (16, [(.aload 0, 0, 0), (.aload 0, 0, 0), (.getfield 0, 3, 0), (.invokevirtual 0, 66, 0), (.aload 0, 0, 0), (.getfield 0, 3, 2), (.iload 1, 0, 0), (.iload 2, 0, 0), (.invokevirtual 0, 108, 0), (.invokevirtual 0, 39, 0), (.istore 4, 0, 0), (.iload 4, 0, 0), (.iload 2, 0, 0), (.if_icmp .ne 0, 4, 0), (.goto_w 0, 3, 0)]),
  (44, [(.goto 0, 5, 0)]),
  (47, [(.iload 4, 0, 0), (.istore 2, 0, 0), (.iinc 3 (1), 0, 0), (.goto 0, 1, 0)]),
  (56, [(.iload 2, 0, 0), (.ireturn, 0, 0)])]
def zB_La_ahead : List (Nat × List zEnt) := [(0, [(.iconst (0), 0, 0), (.istore 2, 0, 0), (.iconst (0), 0, 0), (.istore 3, 0, 0), (.goto_w 0, 1, 0)]),
  (4, [(.iload 3, 0, 0), (.aload 0, 0, 0), (.getfield 0, 3, 0), (.getfield 0, 5, 0), (.if_icmp .ge 0, 6, 0), (.goto_w 0, 2, 0)]),
  (15, [(.aload 0, 0, 0), (.getfield 0, 3, 4), (.iload 3, 0, 0), (.invokestatic 0, 159, 0), (.ifCond .lt 0, 5, 0), (.goto_w 0, 3, 0)]),
  (26, [(.aload 0, 0, 0), (.getfield 0, 3, 4), (.iload 3, 0, 0), (.invokestatic 0, 159, 0), (.iload 1, 0, 0), (.if_icmp .ge 0, 5, 0), (.goto_w 0, 4, 0)]),
  (38, [(.iload 2, 0, 0), (.iconst (1), 0, 0), (.iload 3, 0, 0), (.ishl, 0, 0), (.ior, 0, 0), (.istore 2, 0, 0), (.goto_w 0, 5, 0)]),
  (44, [(.iinc 3 (1), 0, 0), (.goto 0, 1, 0)]),
  (50, [(.iload 2, 0, 0), (.ireturn, 0, 0)])]
def zB_La_fewestMore : List (Nat × List zEnt) := [(0, [(.iconst (-4), 0, 0), (.istore 2, 0, 0), (.aload 0, 0, 0), (.getfield 0, 3, 1), (.iconst (0), 0, 0), (.invokevirtual 0, 21, 0), (.istore 3, 0, 0), (.iconst (0), 0, 0), (.istore 4, 0, 0), (.goto_w 0, 1, 0)]),
  (15, [(.iload 4, 0, 0), (.getstatic 0, 0, 0), (.arraylength, 0, 0), (.if_icmp .ge 0, 10, 0), (.goto_w 0, 2, 0)]),
  (24, [(.iload 2, 0, 0), (.iconst (-4), 0, 0), (.if_icmp .ne 0, 10, 0), (.goto_w 0, 3, 0)]),
  (30, [(.getstatic 0, 0, 0), (.iload 4, 0, 0), (.invokestatic 0, 159, 0), (.istore 5, 0, 0), (.aload 0, 0, 0), (.getfield 0, 3, 0), (.iload 5, 0, 0), (.invokevirtual 0, 61, 0), (.ifCond .eq 0, 9, 0), (.goto_w 0, 4, 0)]),
  (52, [(.iload 5, 0, 0), (.iload 3, 0, 0), (.iand, 0, 0), (.ifCond .ne 0, 9, 0), (.goto_w 0, 5, 0)]),
  (59, [(.aload 0, 0, 0), (.getfield 0, 3, 2), (.iload 3, 0, 0), (.iload 5, 0, 0), (.ior, 0, 0), (.invokevirtual 0, 103, 0), (.aload 0, 0, 0), (.iconst (0), 0, 0), (.invokevirtual 0, 37, 0), (.iload 1, 0, 0), (.invokestatic 0, 162, 0), (.ifCond .eq 0, 7, 0), (.goto_w 0, 6, 0)]),
  (82, [(.iload 5, 0, 0), (.goto 0, 8, 0)]),
  (87, [(.iconst (-4), 0, 0), (.goto_w 0, 8, 0)]),
  (89, [(.istore 2, 0, 0), (.goto_w 0, 9, 0)]),
  (90, [(.iinc 4 (1), 0, 0), (.goto 0, 1, 0)]),
  (96, [(.aload 0, 0, 0), (.iconst (-1), 0, 0), (.putfield 0, 3, 5), (.iload 2, 0, 0), (.ireturn, 0, 0)])]
def zB_Lo_init : List (Nat × List zEnt) := [(0, [(.aload 0, 0, 0), (.nop, 0, 0), (.aload 0, 0, 0), (.iconst (-1), 0, 0), (.putfield 0, 4, 1), (.aload 0, 0, 0), (.iconst (144), 0, 0), (.newarray .int, 0, 0), (.putfield 0, 4, 4), (.aload 0, 0, 0), (.iconst (12), 0, 0), (.newarray .int, 0, 0), (.putfield 0, 4, 5), (.aload 0, 0, 0), (.iconst (12), 0, 0), (.newarray .int, 0, 0), (.putfield 0, 4, 6), (.aload 0, 0, 0), (.iconst (156), 0, 0), (.newarray .long, 0, 0), (.putfield 0, 4, 7), (.aload 0, 0, 0), (.aload 1, 0, 0), (.putfield 0, 4, 0), (.return_, 0, 0)])]
def zB_Lo_weigh : List (Nat × List zEnt) := [(0, [(.aload 0, 0, 0), (.iload 2, 0, 0), (.iload 1, 0, 0), (.invokestatic 0, 162, 0), (.ifCond .eq 0, 2, 0), (.goto_w 0, 1, 0)]),
  (9, [(.sipush (1), 0, 0), (.goto 0, 3, 0)]),
  (13, [(.sipush (0), 0, 0), (.goto_w 0, 3, 0)]),
  (14, [(.putfield 0, 4, 2), (.aload 0, 0, 0), (.sipush (1), 0, 0), (.putfield 0, 4, 3), (.aload 0, 0, 0), (.getfield 0, 4, 2), (.sipush (1), 0, 0), (.lcmp, 0, 0), (.ifCond .ne 0, 5, 0), (.goto_w 0, 4, 0)]),
  (31, [(.return_, 0, 0)]),
  (32, [(.aload 0, 0, 0), (.invokevirtual 0, 46, 0), (.aload 0, 0, 0), (.iload 2, 0, 0), (.invokevirtual 0, 47, 0), (.iload 2, 0, 0), (.iconst (-1), 0, 0), (.ixor, 0, 0), (.iand, 0, 0), (.istore 3, 0, 0), (.iload 3, 0, 0), (.iload 1, 0, 0), (.invokestatic 0, 162, 0), (.ifCond .eq 0, 7, 0), (.goto_w 0, 6, 0)]),
  (54, [(.aload 0, 0, 0), (.iload 3, 0, 0), (.iload 1, 0, 0), (.invokevirtual 0, 49, 0), (.istore 4, 0, 0), (.aload 0, 0, 0), (.iload 4, 0, 0), (.iload 2, 0, 0), (.invokevirtual 0, 50, 0), (.aload 0, 0, 0), (.iload 4, 0, 0), (.invokevirtual 0, 51, 0), (.aload 0, 0, 0), (.aload 0, 0, 0), (.iload 4, 0, 0), (.iconst (1), 0, 0), (.isub, 0, 0), (.iload 4, 0, 0), (.invokevirtual 0, 53, 0), (.putfield 0, 4, 2), (.aload 0, 0, 0), (.aload 0, 0, 0), (.iload 4, 0, 0), (.iconst (1), 0, 0), (.isub, 0, 0), (.iload 4, 0, 0), (.iconst (1), 0, 0), (.isub, 0, 0), (.invokevirtual 0, 53, 0), (.putfield 0, 4, 3), (.aload 0, 0, 0), (.invokevirtual 0, 55, 0), (.goto_w 0, 7, 0)]),
  (109, [(.return_, 0, 0)])]
def zB_Lo_countAll : List (Nat × List zEnt) := [(0, [(.aload 0, 0, 0), (.getfield 0, 4, 4), (.iconst (0), 0, 0), (.invokestatic 0, 263, 0), (.iconst (0), 0, 0), (.istore 1, 0, 0), (.goto_w 0, 1, 0)]),
  (10, [(.iload 1, 0, 0), (.aload 0, 0, 0), (.getfield 0, 4, 0), (.getfield 0, 5, 0), (.if_icmp .ge 0, 9, 0), (.goto_w 0, 2, 0)]),
  (21, [(.aload 0, 0, 0), (.getfield 0, 4, 1), (.ifCond .ge 0, 4, 0), (.goto_w 0, 3, 0)]),
  (28, [(.iconst (1), 0, 0), (.goto 0, 5, 0)]),
  (32, [(.aload 0, 0, 0), (.getfield 0, 4, 0), (.iload 1, 0, 0), (.aload 0, 0, 0), (.getfield 0, 4, 1), (.invokevirtual 0, 67, 0), (.goto_w 0, 5, 0)]),
  (44, [(.istore 2, 0, 0), (.aload 0, 0, 0), (.getfield 0, 4, 5), (.iload 1, 0, 0), (.iload 2, 0, 0), (.invokestatic 0, 160, 0), (.iconst (0), 0, 0), (.istore 3, 0, 0), (.goto_w 0, 6, 0)]),
  (56, [(.iload 3, 0, 0), (.iload 2, 0, 0), (.if_icmp .ge 0, 8, 0), (.goto_w 0, 7, 0)]),
  (61, [(.iload 1, 0, 0), (.iconst (12), 0, 0), (.imul, 0, 0), (.aload 0, 0, 0), (.getfield 0, 4, 0), (.aload 0, 0, 0), (.getfield 0, 4, 0), (.getfield 0, 5, 4), (.iload 1, 0, 0), (.aload 0, 0, 0), (.getfield 0, 4, 1), (.iload 3, 0, 0), (.invokevirtual 0, 79, 0), (.iadd, 0, 0), (.istore 4, 0, 0), (.aload 0, 0, 0), (.getfield 0, 4, 4), (.iload 4, 0, 0), (.aload 0, 0, 0), (.getfield 0, 4, 4), (.iload 4, 0, 0), (.invokestatic 0, 159, 0), (.iconst (1), 0, 0), (.iadd, 0, 0), (.invokestatic 0, 160, 0), (.iinc 3 (1), 0, 0), (.goto 0, 6, 0)]),
  (114, [(.iinc 1 (1), 0, 0), (.goto 0, 1, 0)]),
  (120, [(.return_, 0, 0)])]
def zB_Lo_coming : List (Nat × List zEnt) := [(0, [(.iload 1, 0, 0), (.istore 2, 0, 0), (.iconst (0), 0, 0), (.istore 3, 0, 0), (.goto_w 0, 1, 0)]),
  (4, [(.iload 3, 0, 0), (.iconst (12), 0, 0), (.if_icmp .ge 0, 8, 0), (.goto_w 0, 2, 0)]),
  (10, [(.iconst (0), 0, 0), (.istore 4, 0, 0), (.goto_w 0, 3, 0)]),
  (13, [(.iload 4, 0, 0), (.aload 0, 0, 0), (.getfield 0, 4, 0), (.getfield 0, 5, 0), (.if_icmp .ge 0, 7, 0), (.goto_w 0, 4, 0)]),
  (25, [(.aload 0, 0, 0), (.iload 4, 0, 0), (.iload 2, 0, 0), (.invokevirtual 0, 48, 0), (.ifCond .le 0, 6, 0), (.goto_w 0, 5, 0)]),
  (35, [(.iload 2, 0, 0), (.iconst (1), 0, 0), (.iload 4, 0, 0), (.ishl, 0, 0), (.ior, 0, 0), (.istore 2, 0, 0), (.goto_w 0, 6, 0)]),
  (42, [(.iinc 4 (1), 0, 0), (.goto 0, 3, 0)]),
  (48, [(.iinc 3 (1), 0, 0), (.goto 0, 1, 0)]),
  (54, [(.iload 2, 0, 0), (.ireturn, 0, 0)])]
def zB_Lo_countInto : List (Nat × List zEnt) := [(0, [(.iconst (0), 0, 0), (.istore 3, 0, 0), (.iconst (0), 0, 0), (.istore 4, 0, 0), (.goto_w 0, 1, 0)]),
  (5, [(.iload 4, 0, 0), (.aload 0, 0, 0), (.getfield 0, 4, 0), (.getfield 0, 5, 0), (.if_icmp .ge 0, 5, 0), (.goto_w 0, 2, 0)]),
  (17, [(.iload 2, 0, 0), (.iload 4, 0, 0), (.invokestatic 0, 162, 0), (.ifCond .eq 0, 4, 0), (.goto_w 0, 3, 0)]),
  (26, [(.iload 3, 0, 0), (.aload 0, 0, 0), (.getfield 0, 4, 4), (.iload 1, 0, 0), (.iconst (12), 0, 0), (.imul, 0, 0), (.iload 4, 0, 0), (.iadd, 0, 0), (.invokestatic 0, 159, 0), (.iadd, 0, 0), (.istore 3, 0, 0), (.goto_w 0, 4, 0)]),
  (43, [(.iinc 4 (1), 0, 0), (.goto 0, 1, 0)]),
  (49, [(.iload 3, 0, 0), (.ireturn, 0, 0)])]
def zB_Lo_line : List (Nat × List zEnt) := [(0, [(.iconst (0), 0, 0), (.istore 3, 0, 0), (.iconst (0), 0, 0), (.istore 4, 0, 0), (.goto_w 0, 1, 0)]),
  (5, [(.iload 4, 0, 0), (.aload 0, 0, 0), (.getfield 0, 4, 0), (.getfield 0, 5, 0), (.if_icmp .ge 0, 6, 0), (.goto_w 0, 2, 0)]),
  (17, [(.iload 1, 0, 0), (.iload 4, 0, 0), (.invokestatic 0, 162, 0), (.ifCond .eq 0, 5, 0), (.goto_w 0, 3, 0)]),
  (26, [(.iload 4, 0, 0), (.iload 2, 0, 0), (.if_icmp .eq 0, 5, 0), (.goto_w 0, 4, 0)]),
  (32, [(.aload 0, 0, 0), (.getfield 0, 4, 6), (.iload 3, 0, 0), (.iload 4, 0, 0), (.invokestatic 0, 160, 0), (.iinc 3 (1), 0, 0), (.goto_w 0, 5, 0)]),
  (45, [(.iinc 4 (1), 0, 0), (.goto 0, 1, 0)]),
  (51, [(.aload 0, 0, 0), (.getfield 0, 4, 6), (.iload 3, 0, 0), (.iload 2, 0, 0), (.invokestatic 0, 160, 0), (.iload 3, 0, 0), (.iconst (1), 0, 0), (.iadd, 0, 0), (.ireturn, 0, 0)])]
def zB_Lo_write : List (Nat × List zEnt) := [(0, [(.iconst (0), 0, 0), (.istore 3, 0, 0), (.goto_w 0, 1, 0)]),
  (2, [(.iload 3, 0, 0), (.iload 1, 0, 0), (.if_icmp .ge 0, 9, 0), (.goto_w 0, 2, 0)]),
  (7, [(.aload 0, 0, 0), (.getfield 0, 4, 6), (.iload 3, 0, 0), (.invokestatic 0, 159, 0), (.istore 4, 0, 0), (.iconst (0), 0, 0), (.istore 5, 0, 0), (.goto_w 0, 3, 0)]),
  (20, [(.iload 5, 0, 0), (.iload 1, 0, 0), (.if_icmp .ge 0, 8, 0), (.goto_w 0, 4, 0)]),
  (26, [(.iload 3, 0, 0), (.iload 5, 0, 0), (.if_icmp .ne 0, 6, 0), (.goto_w 0, 5, 0)]),
  (32, [(.aload 0, 0, 0), (.getfield 0, 4, 5), (.iload 4, 0, 0), (.invokestatic 0, 159, 0), (.goto 0, 7, 0)]),
  (44, [(.iconst (0), 0, 0), (.goto_w 0, 7, 0)]),
  (45, [(.istore 6, 0, 0), (.aload 0, 0, 0), (.iload 3, 0, 0), (.iload 5, 0, 0), (.iload 6, 0, 0), (.aload 0, 0, 0), (.getfield 0, 4, 4), (.iload 4, 0, 0), (.iconst (12), 0, 0), (.imul, 0, 0), (.aload 0, 0, 0), (.getfield 0, 4, 6), (.iload 5, 0, 0), (.invokestatic 0, 159, 0), (.iadd, 0, 0), (.invokestatic 0, 159, 0), (.isub, 0, 0), (.i2l, 0, 0), (.invokevirtual 0, 54, 0), (.iinc 5 (1), 0, 0), (.goto 0, 3, 0)]),
  (86, [(.aload 0, 0, 0), (.iload 3, 0, 0), (.iload 1, 0, 0), (.aload 0, 0, 0), (.iload 4, 0, 0), (.iload 2, 0, 0), (.invokevirtual 0, 48, 0), (.i2l, 0, 0), (.invokevirtual 0, 54, 0), (.iinc 3 (1), 0, 0), (.goto 0, 1, 0)]),
  (106, [(.return_, 0, 0)])]
def zB_Lo_solve : List (Nat × List zEnt) := [(0, [(.sipush (1), 0, 0), (.lstore 2, 0, 0), (.iconst (0), 0, 0), (.istore 4, 0, 0), (.goto_w 0, 1, 0)]),
  (5, [(.iload 4, 0, 0), (.iconst (1), 0, 0), (.iadd, 0, 0), (.iload 1, 0, 0), (.if_icmp .ge 0, 6, 0), (.goto_w 0, 2, 0)]),
  (13, [(.iload 4, 0, 0), (.iconst (1), 0, 0), (.iadd, 0, 0), (.istore 5, 0, 0), (.goto_w 0, 3, 0)]),
  (19, [(.iload 5, 0, 0), (.iload 1, 0, 0), (.if_icmp .ge 0, 5, 0), (.goto_w 0, 4, 0)]),
  (25, [(.aload 0, 0, 0), (.iload 5, 0, 0), (.iload 4, 0, 0), (.iload 1, 0, 0), (.lload 2, 0, 0), (.invokevirtual 0, 52, 0), (.iinc 5 (1), 0, 0), (.goto 0, 3, 0)]),
  (41, [(.aload 0, 0, 0), (.iload 4, 0, 0), (.iload 4, 0, 0), (.invokevirtual 0, 53, 0), (.lstore 2, 0, 0), (.iinc 4 (1), 0, 0), (.goto 0, 1, 0)]),
  (56, [(.return_, 0, 0)])]
def zB_Lo_clearBelow : List (Nat × List zEnt) := [(0, [(.aload 0, 0, 0), (.iload 1, 0, 0), (.iload 2, 0, 0), (.invokevirtual 0, 53, 0), (.lstore 6, 0, 0), (.iload 2, 0, 0), (.istore 8, 0, 0), (.goto_w 0, 1, 0)]),
  (11, [(.iload 8, 0, 0), (.iload 3, 0, 0), (.if_icmp .gt 0, 6, 0), (.goto_w 0, 2, 0)]),
  (17, [(.aload 0, 0, 0), (.iload 2, 0, 0), (.iload 2, 0, 0), (.invokevirtual 0, 53, 0), (.aload 0, 0, 0), (.iload 1, 0, 0), (.iload 8, 0, 0), (.invokevirtual 0, 53, 0), (.lmul, 0, 0), (.lload 6, 0, 0), (.aload 0, 0, 0), (.iload 2, 0, 0), (.iload 8, 0, 0), (.invokevirtual 0, 53, 0), (.lmul, 0, 0), (.lsub, 0, 0), (.lstore 9, 0, 0), (.aload 0, 0, 0), (.iload 1, 0, 0), (.iload 8, 0, 0), (.lload 4, 0, 0), (.sipush (0), 0, 0), (.lcmp, 0, 0), (.ifCond .ne 0, 4, 0), (.goto_w 0, 3, 0)]),
  (55, [(.sipush (0), 0, 0), (.goto 0, 5, 0)]),
  (59, [(.lload 9, 0, 0), (.lload 4, 0, 0), (.ldiv, 0, 0), (.goto_w 0, 5, 0)]),
  (64, [(.invokevirtual 0, 54, 0), (.iinc 8 (1), 0, 0), (.goto 0, 1, 0)]),
  (73, [(.return_, 0, 0)])]
def zB_Lo_cell : List (Nat × List zEnt) := [(0, [(.iload 1, 0, 0), (.iconst (13), 0, 0), (.imul, 0, 0), (.iload 2, 0, 0), (.iadd, 0, 0), (.istore 3, 0, 0), (.iload 3, 0, 0), (.ifCond .lt 0, 3, 0), (.goto_w 0, 1, 0)]),
  (11, [(.iload 3, 0, 0), (.aload 0, 0, 0), (.getfield 0, 4, 7), (.arraylength, 0, 0), (.if_icmp .ge 0, 3, 0), (.goto_w 0, 2, 0)]),
  (20, [(.aload 0, 0, 0), (.getfield 0, 4, 7), (.iload 3, 0, 0), (.laload, 0, 0), (.goto 0, 4, 0)]),
  (29, [(.sipush (0), 0, 0), (.goto_w 0, 4, 0)]),
  (30, [(.lreturn, 0, 0)])]
def zB_Lo_setCell : List (Nat × List zEnt) := [(0, [(.iload 1, 0, 0), (.iconst (13), 0, 0), (.imul, 0, 0), (.iload 2, 0, 0), (.iadd, 0, 0), (.istore 5, 0, 0), (.iload 5, 0, 0), (.ifCond .lt 0, 3, 0), (.goto_w 0, 1, 0)]),
  (13, [(.iload 5, 0, 0), (.aload 0, 0, 0), (.getfield 0, 4, 7), (.arraylength, 0, 0), (.if_icmp .ge 0, 3, 0), (.goto_w 0, 2, 0)]),
  (23, [(.aload 0, 0, 0), (.getfield 0, 4, 7), (.iload 5, 0, 0), (.lload 3, 0, 0), (.lastore, 0, 0), (.goto_w 0, 3, 0)]),
  (31, [(.return_, 0, 0)])]
def zB_Lo_shorten : List (Nat × List zEnt) := [(0, [(.aload 0, 0, 0), (.getfield 0, 4, 3), (.lstore 1, 0, 0), (.aload 0, 0, 0), (.getfield 0, 4, 2), (.lstore 3, 0, 0), (.iconst (0), 0, 0), (.istore 5, 0, 0), (.goto_w 0, 1, 0)]),
  (13, [(.iload 5, 0, 0), (.iconst (1000), 0, 0), (.if_icmp .ge 0, 4, 0), (.goto_w 0, 2, 0)]),
  (21, [(.lload 3, 0, 0), (.sipush (0), 0, 0), (.lcmp, 0, 0), (.ifCond .eq 0, 4, 0), (.goto_w 0, 3, 0)]),
  (27, [(.lload 1, 0, 0), (.lload 3, 0, 0), (.lrem, 0, 0), (.lstore 6, 0, 0), (.lload 3, 0, 0), (.lstore 1, 0, 0), (.lload 6, 0, 0), (.lstore 3, 0, 0), (.iinc 5 (1), 0, 0), (.goto 0, 1, 0)]),
  (43, [(.lload 1, 0, 0), (.sipush (0), 0, 0), (.lcmp, 0, 0), (.ifCond .eq 0, 6, 0), (.goto_w 0, 5, 0)]),
  (49, [(.aload 0, 0, 0), (.dup, 0, 0), (.getfield 0, 4, 2), (.lload 1, 0, 0), (.ldiv, 0, 0), (.putfield 0, 4, 2), (.aload 0, 0, 0), (.dup, 0, 0), (.getfield 0, 4, 3), (.lload 1, 0, 0), (.ldiv, 0, 0), (.putfield 0, 4, 3), (.goto_w 0, 6, 0)]),
  (69, [(.return_, 0, 0)])]
def zB_Ne_init : List (Nat × List zEnt) := [(0, [(.aload 0, 0, 0), (.nop, 0, 0), (.aload 0, 0, 0), (.iconst (48), 0, 0), (.newarray .int, 0, 0), (.putfield 0, 5, 3), (.aload 0, 0, 0), (.iconst (48), 0, 0), (.newarray .int, 0, 0), (.putfield 0, 5, 4), (.aload 0, 0, 0), (.iconst (144), 0, 0), (.newarray .int, 0, 0), (.putfield 0, 5, 5), (.aload 0, 0, 0), (.iconst (972), 0, 0), (.newarray .int, 0, 0), (.putfield 0, 5, 6), (.aload 0, 0, 0), (.iconst (12), 0, 0), (.newarray .int, 0, 0), (.putfield 0, 5, 7), (.aload 0, 0, 0), (.iconst (48), 0, 0), (.newarray .int, 0, 0), (.putfield 0, 5, 8), (.aload 0, 0, 0), (.iconst (4), 0, 0), (.iconst (2), 0, 0), (.invokevirtual 0, 57, 0), (.return_, 0, 0)])]
def zB_Ne_begin : List (Nat × List zEnt) := [(0, [(.aload 0, 0, 0), (.iload 1, 0, 0), (.putfield 0, 5, 0), (.aload 0, 0, 0), (.iload 2, 0, 0), (.putfield 0, 5, 1), (.aload 0, 0, 0), (.getfield 0, 5, 3), (.iconst (1), 0, 0), (.invokestatic 0, 263, 0), (.aload 0, 0, 0), (.getfield 0, 5, 7), (.iconst (0), 0, 0), (.invokestatic 0, 263, 0), (.iconst (0), 0, 0), (.istore 3, 0, 0), (.goto_w 0, 1, 0)]),
  (28, [(.iload 3, 0, 0), (.iconst (12), 0, 0), (.if_icmp .ge 0, 6, 0), (.goto_w 0, 2, 0)]),
  (34, [(.aload 0, 0, 0), (.iload 3, 0, 0), (.invokevirtual 0, 58, 0), (.iconst (0), 0, 0), (.istore 4, 0, 0), (.goto_w 0, 3, 0)]),
  (42, [(.iload 4, 0, 0), (.iconst (4), 0, 0), (.if_icmp .ge 0, 5, 0), (.goto_w 0, 4, 0)]),
  (48, [(.aload 0, 0, 0), (.getfield 0, 5, 8), (.iload 4, 0, 0), (.iconst (12), 0, 0), (.imul, 0, 0), (.iload 3, 0, 0), (.iadd, 0, 0), (.iload 3, 0, 0), (.invokestatic 0, 160, 0), (.iinc 4 (1), 0, 0), (.goto 0, 3, 0)]),
  (69, [(.iinc 3 (1), 0, 0), (.goto 0, 1, 0)]),
  (75, [(.aload 0, 0, 0), (.dup, 0, 0), (.getfield 0, 5, 2), (.iconst (1), 0, 0), (.iadd, 0, 0), (.putfield 0, 5, 2), (.return_, 0, 0)])]
def zB_Ne_leadBack : List (Nat × List zEnt) := [(0, [(.iconst (0), 0, 0), (.istore 2, 0, 0), (.goto_w 0, 1, 0)]),
  (2, [(.iload 2, 0, 0), (.iconst (81), 0, 0), (.if_icmp .ge 0, 3, 0), (.goto_w 0, 2, 0)]),
  (8, [(.aload 0, 0, 0), (.getfield 0, 5, 6), (.iload 1, 0, 0), (.iconst (81), 0, 0), (.imul, 0, 0), (.iload 2, 0, 0), (.iadd, 0, 0), (.iload 1, 0, 0), (.invokestatic 0, 160, 0), (.iinc 2 (1), 0, 0), (.goto 0, 1, 0)]),
  (28, [(.iconst (0), 0, 0), (.istore 2, 0, 0), (.goto_w 0, 4, 0)]),
  (30, [(.iload 2, 0, 0), (.iconst (4), 0, 0), (.if_icmp .ge 0, 6, 0), (.goto_w 0, 5, 0)]),
  (35, [(.aload 0, 0, 0), (.getfield 0, 5, 4), (.iload 1, 0, 0), (.iconst (4), 0, 0), (.imul, 0, 0), (.iload 2, 0, 0), (.iadd, 0, 0), (.iconst (0), 0, 0), (.invokestatic 0, 160, 0), (.iinc 2 (1), 0, 0), (.goto 0, 4, 0)]),
  (54, [(.iconst (0), 0, 0), (.istore 2, 0, 0), (.goto_w 0, 7, 0)]),
  (56, [(.iload 2, 0, 0), (.iconst (12), 0, 0), (.if_icmp .ge 0, 9, 0), (.goto_w 0, 8, 0)]),
  (62, [(.aload 0, 0, 0), (.getfield 0, 5, 5), (.iload 1, 0, 0), (.iconst (4), 0, 0), (.imul, 0, 0), (.iconst (3), 0, 0), (.imul, 0, 0), (.iload 2, 0, 0), (.iadd, 0, 0), (.iconst (0), 0, 0), (.invokestatic 0, 160, 0), (.iinc 2 (1), 0, 0), (.goto 0, 7, 0)]),
  (83, [(.return_, 0, 0)])]
def zB_Ne_hasState : List (Nat × List zEnt) := [(0, [(.iload 1, 0, 0), (.ifCond .lt 0, 3, 0), (.goto_w 0, 1, 0)]),
  (4, [(.iload 1, 0, 0), (.aload 0, 0, 0), (.getfield 0, 5, 0), (.if_icmp .ge 0, 3, 0), (.goto_w 0, 2, 0)]),
  (12, [(.iconst (1), 0, 0), (.goto 0, 4, 0)]),
  (16, [(.iconst (0), 0, 0), (.goto_w 0, 4, 0)]),
  (17, [(.ireturn, 0, 0)])]
def zB_Ne_hasPlayer : List (Nat × List zEnt) := [(0, [(.iload 1, 0, 0), (.ifCond .lt 0, 3, 0), (.goto_w 0, 1, 0)]),
  (4, [(.iload 1, 0, 0), (.aload 0, 0, 0), (.getfield 0, 5, 1), (.if_icmp .ge 0, 3, 0), (.goto_w 0, 2, 0)]),
  (12, [(.iconst (1), 0, 0), (.goto 0, 4, 0)]),
  (16, [(.iconst (0), 0, 0), (.goto_w 0, 4, 0)]),
  (17, [(.ireturn, 0, 0)])]
def zB_Ne_hasGroup : List (Nat × List zEnt) := [(0, [(.iload 1, 0, 0), (.ifCond .lt 0, 3, 0), (.goto_w 0, 1, 0)]),
  (4, [(.iload 1, 0, 0), (.aload 0, 0, 0), (.invokevirtual 0, 65, 0), (.if_icmp .gt 0, 3, 0), (.goto_w 0, 2, 0)]),
  (12, [(.iconst (1), 0, 0), (.goto 0, 4, 0)]),
  (16, [(.iconst (0), 0, 0), (.goto_w 0, 4, 0)]),
  (17, [(.ireturn, 0, 0)])]
def zB_Ne_hasSet : List (Nat × List zEnt) := [(0, [(.iload 1, 0, 0), (.ifCond .lt 0, 3, 0), (.goto_w 0, 1, 0)]),
  (4, [(.iload 1, 0, 0), (.aload 0, 0, 0), (.invokevirtual 0, 66, 0), (.if_icmp .gt 0, 3, 0), (.goto_w 0, 2, 0)]),
  (12, [(.iconst (1), 0, 0), (.goto 0, 4, 0)]),
  (16, [(.iconst (0), 0, 0), (.goto_w 0, 4, 0)]),
  (17, [(.ireturn, 0, 0)])]
def zB_Ne_hasMove : List (Nat × List zEnt) := [(0, [(.aload 0, 0, 0), (.iload 1, 0, 0), (.invokevirtual 0, 59, 0), (.ifCond .eq 0, 5, 0), (.goto_w 0, 1, 0)]),
  (8, [(.aload 0, 0, 0), (.iload 2, 0, 0), (.invokevirtual 0, 60, 0), (.ifCond .eq 0, 5, 0), (.goto_w 0, 2, 0)]),
  (16, [(.iload 3, 0, 0), (.ifCond .lt 0, 5, 0), (.goto_w 0, 3, 0)]),
  (20, [(.iload 3, 0, 0), (.aload 0, 0, 0), (.iload 1, 0, 0), (.iload 2, 0, 0), (.invokevirtual 0, 67, 0), (.if_icmp .ge 0, 5, 0), (.goto_w 0, 4, 0)]),
  (30, [(.iconst (1), 0, 0), (.goto 0, 6, 0)]),
  (34, [(.iconst (0), 0, 0), (.goto_w 0, 6, 0)]),
  (35, [(.ireturn, 0, 0)])]
def zB_Ne_hasJoint : List (Nat × List zEnt) := [(0, [(.aload 0, 0, 0), (.iload 1, 0, 0), (.invokevirtual 0, 59, 0), (.ifCond .eq 0, 4, 0), (.goto_w 0, 1, 0)]),
  (8, [(.iload 2, 0, 0), (.ifCond .lt 0, 4, 0), (.goto_w 0, 2, 0)]),
  (12, [(.iload 2, 0, 0), (.aload 0, 0, 0), (.iload 1, 0, 0), (.aload 0, 0, 0), (.invokevirtual 0, 65, 0), (.invokevirtual 0, 74, 0), (.if_icmp .ge 0, 4, 0), (.goto_w 0, 3, 0)]),
  (25, [(.iconst (1), 0, 0), (.goto 0, 5, 0)]),
  (29, [(.iconst (0), 0, 0), (.goto_w 0, 5, 0)]),
  (30, [(.ireturn, 0, 0)])]
def zB_Ne_everyone : List (Nat × List zEnt) := [(0, [(.iconst (1), 0, 0), (.aload 0, 0, 0), (.getfield 0, 5, 1), (.ishl, 0, 0), (.iconst (1), 0, 0), (.isub, 0, 0), (.ireturn, 0, 0)])]
def zB_Ne_everywhere : List (Nat × List zEnt) := [(0, [(.iconst (1), 0, 0), (.aload 0, 0, 0), (.getfield 0, 5, 0), (.ishl, 0, 0), (.iconst (1), 0, 0), (.isub, 0, 0), (.ireturn, 0, 0)])]
def zB_Ne_movesOf : List (Nat × List zEnt) := [(0, [(.aload 0, 0, 0), (.getfield 0, 5, 3), (.iload 1, 0, 0), (.iconst (4), 0, 0), (.imul, 0, 0), (.iload 2, 0, 0), (.iadd, 0, 0), (.invokestatic 0, 159, 0), (.ireturn, 0, 0)])]
def zB_Ne_heapOf : List (Nat × List zEnt) := [(0, [(.aload 0, 0, 0), (.getfield 0, 5, 8), (.iload 1, 0, 0), (.iconst (12), 0, 0), (.imul, 0, 0), (.iload 2, 0, 0), (.iadd, 0, 0), (.invokestatic 0, 159, 0), (.ireturn, 0, 0)])]
def zB_Ne_target : List (Nat × List zEnt) := [(0, [(.aload 0, 0, 0), (.getfield 0, 5, 6), (.iload 1, 0, 0), (.iconst (81), 0, 0), (.imul, 0, 0), (.iload 2, 0, 0), (.iadd, 0, 0), (.invokestatic 0, 159, 0), (.ireturn, 0, 0)])]
def zB_Ne_changeMoves : List (Nat × List zEnt) := [(0, [(.aload 0, 0, 0), (.dup, 0, 0), (.getfield 0, 5, 2), (.iconst (1), 0, 0), (.iadd, 0, 0), (.putfield 0, 5, 2), (.aload 0, 0, 0), (.iload 1, 0, 0), (.invokevirtual 0, 58, 0), (.aload 0, 0, 0), (.getfield 0, 5, 3), (.iload 1, 0, 0), (.iconst (4), 0, 0), (.imul, 0, 0), (.iload 2, 0, 0), (.iadd, 0, 0), (.iload 3, 0, 0), (.invokestatic 0, 161, 0), (.ireturn, 0, 0)])]
def zB_Ne_changeTarget : List (Nat × List zEnt) := [(0, [(.aload 0, 0, 0), (.dup, 0, 0), (.getfield 0, 5, 2), (.iconst (1), 0, 0), (.iadd, 0, 0), (.putfield 0, 5, 2), (.aload 0, 0, 0), (.getfield 0, 5, 6), (.iload 1, 0, 0), (.iconst (81), 0, 0), (.imul, 0, 0), (.iload 2, 0, 0), (.iadd, 0, 0), (.iload 3, 0, 0), (.invokestatic 0, 161, 0), (.ireturn, 0, 0)])]
def zB_Ne_changeLetters : List (Nat × List zEnt) := [(0, [(.aload 0, 0, 0), (.dup, 0, 0), (.getfield 0, 5, 2), (.iconst (1), 0, 0), (.iadd, 0, 0), (.putfield 0, 5, 2), (.aload 0, 0, 0), (.getfield 0, 5, 7), (.iload 1, 0, 0), (.iload 2, 0, 0), (.invokestatic 0, 161, 0), (.ireturn, 0, 0)])]
def zB_Ne_bearing : List (Nat × List zEnt) := [(0, [(.iconst (0), 0, 0), (.istore 2, 0, 0), (.iconst (0), 0, 0), (.istore 3, 0, 0), (.goto_w 0, 1, 0)]),
  (4, [(.iload 3, 0, 0), (.aload 0, 0, 0), (.getfield 0, 5, 0), (.if_icmp .ge 0, 5, 0), (.goto_w 0, 2, 0)]),
  (12, [(.aload 0, 0, 0), (.getfield 0, 5, 7), (.iload 3, 0, 0), (.invokestatic 0, 159, 0), (.iload 1, 0, 0), (.invokestatic 0, 162, 0), (.ifCond .eq 0, 4, 0), (.goto_w 0, 3, 0)]),
  (27, [(.iload 2, 0, 0), (.iconst (1), 0, 0), (.iload 3, 0, 0), (.ishl, 0, 0), (.ior, 0, 0), (.istore 2, 0, 0), (.goto_w 0, 4, 0)]),
  (33, [(.iinc 3 (1), 0, 0), (.goto 0, 1, 0)]),
  (39, [(.iload 2, 0, 0), (.ireturn, 0, 0)])]
def zB_Ne_ways : List (Nat × List zEnt) := [(0, [(.iconst (1), 0, 0), (.istore 3, 0, 0), (.iconst (0), 0, 0), (.istore 4, 0, 0), (.goto_w 0, 1, 0)]),
  (5, [(.iload 4, 0, 0), (.aload 0, 0, 0), (.getfield 0, 5, 1), (.if_icmp .ge 0, 5, 0), (.goto_w 0, 2, 0)]),
  (14, [(.iload 2, 0, 0), (.iload 4, 0, 0), (.invokestatic 0, 162, 0), (.ifCond .eq 0, 4, 0), (.goto_w 0, 3, 0)]),
  (23, [(.iload 3, 0, 0), (.aload 0, 0, 0), (.iload 1, 0, 0), (.iload 4, 0, 0), (.invokevirtual 0, 67, 0), (.imul, 0, 0), (.istore 3, 0, 0), (.goto_w 0, 4, 0)]),
  (33, [(.iinc 4 (1), 0, 0), (.goto 0, 1, 0)]),
  (39, [(.iload 3, 0, 0), (.ireturn, 0, 0)])]
def zB_Ne_together : List (Nat × List zEnt) := [(0, [(.iload 3, 0, 0), (.istore 5, 0, 0), (.iload 4, 0, 0), (.istore 6, 0, 0), (.iconst (0), 0, 0), (.istore 7, 0, 0), (.iconst (1), 0, 0), (.istore 8, 0, 0), (.aload 0, 0, 0), (.getfield 0, 5, 1), (.iconst (1), 0, 0), (.isub, 0, 0), (.istore 9, 0, 0), (.goto_w 0, 1, 0)]),
  (21, [(.iload 9, 0, 0), (.ifCond .lt 0, 6, 0), (.goto_w 0, 2, 0)]),
  (26, [(.aload 0, 0, 0), (.iload 1, 0, 0), (.iload 9, 0, 0), (.invokevirtual 0, 67, 0), (.istore 10, 0, 0), (.iload 2, 0, 0), (.iload 9, 0, 0), (.invokestatic 0, 162, 0), (.ifCond .eq 0, 4, 0), (.goto_w 0, 3, 0)]),
  (44, [(.iload 7, 0, 0), (.iload 5, 0, 0), (.iload 10, 0, 0), (.invokestatic 0, 165, 0), (.iload 8, 0, 0), (.imul, 0, 0), (.iadd, 0, 0), (.istore 7, 0, 0), (.iload 5, 0, 0), (.iload 10, 0, 0), (.invokestatic 0, 164, 0), (.istore 5, 0, 0), (.goto 0, 5, 0)]),
  (71, [(.iload 7, 0, 0), (.iload 6, 0, 0), (.iload 10, 0, 0), (.invokestatic 0, 165, 0), (.iload 8, 0, 0), (.imul, 0, 0), (.iadd, 0, 0), (.istore 7, 0, 0), (.iload 6, 0, 0), (.iload 10, 0, 0), (.invokestatic 0, 164, 0), (.istore 6, 0, 0), (.goto_w 0, 5, 0)]),
  (95, [(.iload 8, 0, 0), (.iload 10, 0, 0), (.imul, 0, 0), (.istore 8, 0, 0), (.iinc 9 (-1), 0, 0), (.goto 0, 1, 0)]),
  (108, [(.iload 7, 0, 0), (.ireturn, 0, 0)])]
def zB_Ne_leastInto : List (Nat × List zEnt) := [(0, [(.aload 0, 0, 0), (.iload 1, 0, 0), (.iload 2, 0, 0), (.invokevirtual 0, 74, 0), (.istore 4, 0, 0), (.aload 0, 0, 0), (.iload 1, 0, 0), (.aload 0, 0, 0), (.invokevirtual 0, 65, 0), (.iload 2, 0, 0), (.iconst (-1), 0, 0), (.ixor, 0, 0), (.iand, 0, 0), (.invokevirtual 0, 74, 0), (.istore 5, 0, 0), (.iconst (0), 0, 0), (.istore 6, 0, 0), (.goto_w 0, 1, 0)]),
  (26, [(.iload 6, 0, 0), (.iload 4, 0, 0), (.if_icmp .ge 0, 10, 0), (.goto_w 0, 2, 0)]),
  (33, [(.iconst (0), 0, 0), (.istore 7, 0, 0), (.iconst (0), 0, 0), (.istore 8, 0, 0), (.goto_w 0, 3, 0)]),
  (39, [(.iload 8, 0, 0), (.iload 5, 0, 0), (.if_icmp .ge 0, 7, 0), (.goto_w 0, 4, 0)]),
  (46, [(.iload 3, 0, 0), (.aload 0, 0, 0), (.iload 1, 0, 0), (.aload 0, 0, 0), (.iload 1, 0, 0), (.iload 2, 0, 0), (.iload 6, 0, 0), (.iload 8, 0, 0), (.invokevirtual 0, 75, 0), (.invokevirtual 0, 69, 0), (.invokestatic 0, 162, 0), (.ifCond .eq 0, 6, 0), (.goto_w 0, 5, 0)]),
  (68, [(.iinc 7 (1), 0, 0), (.goto_w 0, 6, 0)]),
  (71, [(.iinc 8 (1), 0, 0), (.goto 0, 3, 0)]),
  (77, [(.iload 7, 0, 0), (.iload 5, 0, 0), (.if_icmp .ne 0, 9, 0), (.goto_w 0, 8, 0)]),
  (84, [(.iload 6, 0, 0), (.ireturn, 0, 0)]),
  (87, [(.iinc 6 (1), 0, 0), (.goto 0, 1, 0)]),
  (93, [(.iconst (-1), 0, 0), (.ireturn, 0, 0)])]
def zB_Ne_sumOfPrices : List (Nat × List zEnt) := [(0, [(.iload 3, 0, 0), (.istore 4, 0, 0), (.iconst (0), 0, 0), (.istore 5, 0, 0), (.aload 0, 0, 0), (.getfield 0, 5, 1), (.iconst (1), 0, 0), (.isub, 0, 0), (.istore 6, 0, 0), (.goto_w 0, 1, 0)]),
  (14, [(.iload 6, 0, 0), (.ifCond .lt 0, 5, 0), (.goto_w 0, 2, 0)]),
  (19, [(.iload 2, 0, 0), (.iload 6, 0, 0), (.invokestatic 0, 162, 0), (.ifCond .eq 0, 4, 0), (.goto_w 0, 3, 0)]),
  (28, [(.aload 0, 0, 0), (.iload 1, 0, 0), (.iload 6, 0, 0), (.invokevirtual 0, 67, 0), (.istore 7, 0, 0), (.iload 5, 0, 0), (.aload 0, 0, 0), (.getfield 0, 5, 5), (.iload 1, 0, 0), (.iconst (4), 0, 0), (.imul, 0, 0), (.iload 6, 0, 0), (.iadd, 0, 0), (.iconst (3), 0, 0), (.imul, 0, 0), (.iload 4, 0, 0), (.iload 7, 0, 0), (.invokestatic 0, 165, 0), (.iadd, 0, 0), (.invokestatic 0, 159, 0), (.iadd, 0, 0), (.istore 5, 0, 0), (.iload 4, 0, 0), (.iload 7, 0, 0), (.invokestatic 0, 164, 0), (.istore 4, 0, 0), (.goto_w 0, 4, 0)]),
  (74, [(.iinc 6 (-1), 0, 0), (.goto 0, 1, 0)]),
  (80, [(.iload 5, 0, 0), (.ireturn, 0, 0)])]
def zB_Ne_leastMoves : List (Nat × List zEnt) := [(0, [(.iconst (0), 0, 0), (.istore 3, 0, 0), (.iconst (0), 0, 0), (.istore 4, 0, 0), (.goto_w 0, 1, 0)]),
  (5, [(.iload 4, 0, 0), (.aload 0, 0, 0), (.getfield 0, 5, 0), (.if_icmp .ge 0, 7, 0), (.goto_w 0, 2, 0)]),
  (14, [(.aload 0, 0, 0), (.iload 1, 0, 0), (.iload 4, 0, 0), (.invokevirtual 0, 68, 0), (.iload 2, 0, 0), (.if_icmp .ne 0, 6, 0), (.goto_w 0, 3, 0)]),
  (25, [(.iload 3, 0, 0), (.ifCond .eq 0, 5, 0), (.goto_w 0, 4, 0)]),
  (29, [(.aload 0, 0, 0), (.iload 4, 0, 0), (.iload 1, 0, 0), (.invokevirtual 0, 67, 0), (.iload 3, 0, 0), (.if_icmp .ge 0, 6, 0), (.goto_w 0, 5, 0)]),
  (40, [(.aload 0, 0, 0), (.iload 4, 0, 0), (.iload 1, 0, 0), (.invokevirtual 0, 67, 0), (.istore 3, 0, 0), (.goto_w 0, 6, 0)]),
  (48, [(.iinc 4 (1), 0, 0), (.goto 0, 1, 0)]),
  (54, [(.iload 3, 0, 0), (.ireturn, 0, 0)])]
def zB_Ne_next : List (Nat × List zEnt) := [(0, [(.iconst (0), 0, 0), (.istore 5, 0, 0), (.iconst (0), 0, 0), (.istore 6, 0, 0), (.goto_w 0, 1, 0)]),
  (6, [(.iload 6, 0, 0), (.aload 0, 0, 0), (.getfield 0, 5, 1), (.if_icmp .ge 0, 6, 0), (.goto_w 0, 2, 0)]),
  (15, [(.iload 6, 0, 0), (.iload 3, 0, 0), (.if_icmp .ne 0, 4, 0), (.goto_w 0, 3, 0)]),
  (21, [(.iload 4, 0, 0), (.goto 0, 5, 0)]),
  (26, [(.aload 1, 0, 0), (.iload 2, 0, 0), (.iconst (4), 0, 0), (.imul, 0, 0), (.iload 6, 0, 0), (.iadd, 0, 0), (.invokestatic 0, 159, 0), (.goto_w 0, 5, 0)]),
  (36, [(.istore 7, 0, 0), (.iload 5, 0, 0), (.aload 0, 0, 0), (.iload 2, 0, 0), (.iload 6, 0, 0), (.invokevirtual 0, 67, 0), (.imul, 0, 0), (.iload 7, 0, 0), (.iadd, 0, 0), (.istore 5, 0, 0), (.iinc 6 (1), 0, 0), (.goto 0, 1, 0)]),
  (59, [(.aload 0, 0, 0), (.iload 2, 0, 0), (.iload 5, 0, 0), (.invokevirtual 0, 69, 0), (.ireturn, 0, 0)])]
def zB_Ne_allPlans : List (Nat × List zEnt) := [(0, [(.sipush (1), 0, 0), (.lstore 1, 0, 0), (.iconst (0), 0, 0), (.istore 3, 0, 0), (.goto_w 0, 1, 0)]),
  (4, [(.iload 3, 0, 0), (.aload 0, 0, 0), (.getfield 0, 5, 0), (.if_icmp .ge 0, 3, 0), (.goto_w 0, 2, 0)]),
  (12, [(.lload 1, 0, 0), (.aload 0, 0, 0), (.iload 3, 0, 0), (.aload 0, 0, 0), (.invokevirtual 0, 65, 0), (.invokevirtual 0, 74, 0), (.i2l, 0, 0), (.lmul, 0, 0), (.sipush (2000000000), 0, 0), (.dsub, 0, 0), (.lstore 1, 0, 0), (.iinc 3 (1), 0, 0), (.goto 0, 1, 0)]),
  (37, [(.lload 1, 0, 0), (.l2i, 0, 0), (.ireturn, 0, 0)])]
def zB_Pl_init : List (Nat × List zEnt) := [(0, [(.aload 0, 0, 0), (.nop, 0, 0), (.aload 0, 0, 0), (.iconst (12), 0, 0), (.newarray .int, 0, 0), (.putfield 0, 6, 4), (.aload 0, 0, 0), (.iconst (41), 0, 0), (.newarray .int, 0, 0), (.putfield 0, 6, 5), (.aload 0, 0, 0), (.aload 1, 0, 0), (.putfield 0, 6, 0), (.aload 0, 0, 0), (.aload 2, 0, 0), (.putfield 0, 6, 1), (.aload 0, 0, 0), (.aload 3, 0, 0), (.putfield 0, 6, 2), (.aload 0, 0, 0), (.aload 4, 0, 0), (.putfield 0, 6, 3), (.return_, 0, 0)])]
def zB_Pl_move : List (Nat × List zEnt) := [(0, [(.aload 0, 0, 0), (.getfield 0, 6, 3), (.invokevirtual 0, 35, 0), (.iload 1, 0, 0), (.invokestatic 0, 162, 0), (.ifCond .ne 0, 2, 0), (.goto_w 0, 1, 0)]),
  (14, [(.iconst (-4), 0, 0), (.ireturn, 0, 0)]),
  (17, [(.aload 0, 0, 0), (.getfield 0, 6, 2), (.iload 1, 0, 0), (.aload 0, 0, 0), (.iload 1, 0, 0), (.invokevirtual 0, 83, 0), (.invokevirtual 0, 107, 0), (.istore 2, 0, 0), (.iload 2, 0, 0), (.ifCond .ge 0, 4, 0), (.goto_w 0, 3, 0)]),
  (35, [(.iconst (-4), 0, 0), (.goto 0, 5, 0)]),
  (40, [(.iload 2, 0, 0), (.goto_w 0, 5, 0)]),
  (41, [(.ireturn, 0, 0)])]
def zB_Pl_aim : List (Nat × List zEnt) := [(0, [(.aload 0, 0, 0), (.getfield 0, 6, 3), (.getfield 0, 3, 4), (.iload 1, 0, 0), (.invokestatic 0, 159, 0), (.istore 2, 0, 0), (.aload 0, 0, 0), (.getfield 0, 6, 1), (.iconst (0), 0, 0), (.invokevirtual 0, 18, 0), (.tableswitch 7 (5) (9) #[1, 2, 7, 7, 3], 0, 0)]),
  (56, [(.aload 0, 0, 0), (.getfield 0, 6, 3), (.getfield 0, 3, 3), (.aload 0, 0, 0), (.getfield 0, 6, 1), (.iconst (0), 0, 0), (.invokevirtual 0, 19, 0), (.invokestatic 0, 159, 0), (.ireturn, 0, 0)]),
  (75, [(.aload 0, 0, 0), (.getfield 0, 6, 3), (.invokevirtual 0, 35, 0), (.ireturn, 0, 0)]),
  (83, [(.iload 2, 0, 0), (.ifCond .ne 0, 5, 0), (.goto_w 0, 4, 0)]),
  (87, [(.aload 0, 0, 0), (.getfield 0, 6, 3), (.invokevirtual 0, 35, 0), (.goto 0, 6, 0)]),
  (97, [(.aload 0, 0, 0), (.getfield 0, 6, 3), (.iload 2, 0, 0), (.invokevirtual 0, 42, 0), (.goto_w 0, 6, 0)]),
  (105, [(.ireturn, 0, 0)]),
  (106, [(.aload 0, 0, 0), (.getfield 0, 6, 3), (.iload 2, 0, 0), (.invokevirtual 0, 42, 0), (.ireturn, 0, 0)])]
def zB_Pl_hinder : List (Nat × List zEnt) := [(0, [(.aload 0, 0, 0), (.getfield 0, 6, 1), (.iconst (0), 0, 0), (.invokevirtual 0, 21, 0), (.istore 3, 0, 0), (.aload 0, 0, 0), (.getfield 0, 6, 1), (.iconst (0), 0, 0), (.invokevirtual 0, 18, 0), (.iconst (5), 0, 0), (.if_icmp .ne 0, 2, 0), (.goto_w 0, 1, 0)]),
  (21, [(.aload 0, 0, 0), (.getfield 0, 6, 3), (.getfield 0, 3, 3), (.aload 0, 0, 0), (.getfield 0, 6, 1), (.iconst (0), 0, 0), (.invokevirtual 0, 19, 0), (.invokestatic 0, 159, 0), (.goto 0, 3, 0)]),
  (42, [(.aload 0, 0, 0), (.getfield 0, 6, 3), (.invokevirtual 0, 35, 0), (.goto_w 0, 3, 0)]),
  (49, [(.istore 4, 0, 0), (.aload 0, 0, 0), (.getfield 0, 6, 0), (.iload 1, 0, 0), (.aload 0, 0, 0), (.getfield 0, 6, 0), (.invokevirtual 0, 65, 0), (.iload 3, 0, 0), (.iconst (-1), 0, 0), (.ixor, 0, 0), (.iand, 0, 0), (.invokevirtual 0, 74, 0), (.istore 5, 0, 0), (.iconst (0), 0, 0), (.istore 6, 0, 0), (.goto_w 0, 4, 0)]),
  (75, [(.iload 6, 0, 0), (.iload 5, 0, 0), (.if_icmp .ge 0, 8, 0), (.goto_w 0, 5, 0)]),
  (82, [(.iload 4, 0, 0), (.aload 0, 0, 0), (.getfield 0, 6, 0), (.iload 1, 0, 0), (.aload 0, 0, 0), (.getfield 0, 6, 0), (.iload 1, 0, 0), (.iload 3, 0, 0), (.iload 2, 0, 0), (.iload 6, 0, 0), (.invokevirtual 0, 75, 0), (.invokevirtual 0, 69, 0), (.invokestatic 0, 162, 0), (.ifCond .ne 0, 7, 0), (.goto_w 0, 6, 0)]),
  (110, [(.iload 6, 0, 0), (.ireturn, 0, 0)]),
  (113, [(.iinc 6 (1), 0, 0), (.goto 0, 4, 0)]),
  (119, [(.iconst (-4), 0, 0), (.ireturn, 0, 0)])]
def zB_Pl_leastSum : List (Nat × List zEnt) := [(0, [(.iconst (0), 0, 0), (.istore 2, 0, 0), (.goto_w 0, 1, 0)]),
  (2, [(.iload 2, 0, 0), (.iconst (12), 0, 0), (.if_icmp .ge 0, 3, 0), (.goto_w 0, 2, 0)]),
  (8, [(.aload 0, 0, 0), (.getfield 0, 6, 4), (.iload 2, 0, 0), (.iconst (1000000), 0, 0), (.invokestatic 0, 160, 0), (.iinc 2 (1), 0, 0), (.goto 0, 1, 0)]),
  (24, [(.iconst (0), 0, 0), (.istore 2, 0, 0), (.goto_w 0, 4, 0)]),
  (26, [(.iload 2, 0, 0), (.aload 0, 0, 0), (.getfield 0, 6, 0), (.getfield 0, 5, 0), (.if_icmp .gt 0, 14, 0), (.goto_w 0, 5, 0)]),
  (37, [(.iconst (0), 0, 0), (.istore 3, 0, 0), (.goto_w 0, 6, 0)]),
  (39, [(.iload 3, 0, 0), (.aload 0, 0, 0), (.getfield 0, 6, 0), (.getfield 0, 5, 0), (.if_icmp .ge 0, 13, 0), (.goto_w 0, 7, 0)]),
  (50, [(.aload 0, 0, 0), (.getfield 0, 6, 3), (.invokevirtual 0, 35, 0), (.iload 3, 0, 0), (.invokestatic 0, 162, 0), (.ifCond .eq 0, 12, 0), (.goto_w 0, 8, 0)]),
  (64, [(.aload 0, 0, 0), (.getfield 0, 6, 4), (.iload 3, 0, 0), (.aload 0, 0, 0), (.getfield 0, 6, 3), (.getfield 0, 3, 4), (.iload 3, 0, 0), (.invokestatic 0, 159, 0), (.ifCond .ne 0, 10, 0), (.goto_w 0, 9, 0)]),
  (83, [(.iconst (0), 0, 0), (.goto 0, 11, 0)]),
  (87, [(.aload 0, 0, 0), (.iload 3, 0, 0), (.invokevirtual 0, 86, 0), (.goto_w 0, 11, 0)]),
  (92, [(.invokestatic 0, 160, 0), (.goto_w 0, 12, 0)]),
  (95, [(.iinc 3 (1), 0, 0), (.goto 0, 6, 0)]),
  (101, [(.iinc 2 (1), 0, 0), (.goto 0, 4, 0)]),
  (107, [(.aload 0, 0, 0), (.getfield 0, 6, 4), (.iload 1, 0, 0), (.invokestatic 0, 159, 0), (.ireturn, 0, 0)])]
def zB_Pl_cheapest : List (Nat × List zEnt) := [(0, [(.iconst (1000000), 0, 0), (.istore 2, 0, 0), (.aload 0, 0, 0), (.getfield 0, 6, 2), (.getfield 0, 8, 2), (.iload 1, 0, 0), (.invokestatic 0, 159, 0), (.istore 3, 0, 0), (.iconst (0), 0, 0), (.istore 4, 0, 0), (.goto_w 0, 1, 0)]),
  (18, [(.iload 4, 0, 0), (.iload 3, 0, 0), (.if_icmp .ge 0, 3, 0), (.goto_w 0, 2, 0)]),
  (24, [(.aload 0, 0, 0), (.getfield 0, 6, 0), (.iload 1, 0, 0), (.aload 0, 0, 0), (.getfield 0, 6, 1), (.iconst (0), 0, 0), (.invokevirtual 0, 21, 0), (.iload 4, 0, 0), (.invokevirtual 0, 77, 0), (.aload 0, 0, 0), (.aload 0, 0, 0), (.getfield 0, 6, 2), (.iload 1, 0, 0), (.iload 4, 0, 0), (.invokevirtual 0, 106, 0), (.invokevirtual 0, 87, 0), (.iadd, 0, 0), (.istore 5, 0, 0), (.iload 2, 0, 0), (.iload 5, 0, 0), (.fsub, 0, 0), (.istore 2, 0, 0), (.iinc 4 (1), 0, 0), (.goto 0, 1, 0)]),
  (72, [(.iload 2, 0, 0), (.ireturn, 0, 0)])]
def zB_Pl_worst : List (Nat × List zEnt) := [(0, [(.iconst (0), 0, 0), (.istore 2, 0, 0), (.iconst (0), 0, 0), (.istore 3, 0, 0), (.goto_w 0, 1, 0)]),
  (4, [(.iload 3, 0, 0), (.aload 0, 0, 0), (.getfield 0, 6, 0), (.getfield 0, 5, 0), (.if_icmp .ge 0, 5, 0), (.goto_w 0, 2, 0)]),
  (15, [(.iload 1, 0, 0), (.iload 3, 0, 0), (.invokestatic 0, 162, 0), (.ifCond .eq 0, 4, 0), (.goto_w 0, 3, 0)]),
  (23, [(.iload 2, 0, 0), (.aload 0, 0, 0), (.getfield 0, 6, 4), (.iload 3, 0, 0), (.invokestatic 0, 159, 0), (.fadd, 0, 0), (.istore 2, 0, 0), (.goto_w 0, 4, 0)]),
  (36, [(.iinc 3 (1), 0, 0), (.goto 0, 1, 0)]),
  (42, [(.iload 2, 0, 0), (.ireturn, 0, 0)])]
def zB_Pl_forget : List (Nat × List zEnt) := [(0, [(.aload 0, 0, 0), (.iconst (0), 0, 0), (.putfield 0, 6, 6), (.return_, 0, 0)])]
def zB_Pl_startWalk : List (Nat × List zEnt) := [(0, [(.aload 0, 0, 0), (.getfield 0, 6, 5), (.iconst (0), 0, 0), (.iload 1, 0, 0), (.invokestatic 0, 160, 0), (.aload 0, 0, 0), (.iconst (1), 0, 0), (.putfield 0, 6, 6), (.return_, 0, 0)])]
def zB_Pl_goOn : List (Nat × List zEnt) := [(0, [(.aload 0, 0, 0), (.getfield 0, 6, 5), (.aload 0, 0, 0), (.getfield 0, 6, 6), (.iconst (1), 0, 0), (.isub, 0, 0), (.invokestatic 0, 159, 0), (.istore 2, 0, 0), (.aload 0, 0, 0), (.getfield 0, 6, 1), (.iconst (0), 0, 0), (.invokevirtual 0, 21, 0), (.istore 3, 0, 0), (.iload 1, 0, 0), (.aload 0, 0, 0), (.getfield 0, 6, 0), (.iload 2, 0, 0), (.aload 0, 0, 0), (.getfield 0, 6, 0), (.invokevirtual 0, 65, 0), (.iload 3, 0, 0), (.iconst (-1), 0, 0), (.ixor, 0, 0), (.iand, 0, 0), (.invokevirtual 0, 74, 0), (.invokestatic 0, 165, 0), (.istore 4, 0, 0), (.aload 0, 0, 0), (.iload 2, 0, 0), (.invokevirtual 0, 82, 0), (.iconst (0), 0, 0), (.fadd, 0, 0), (.istore 5, 0, 0), (.aload 0, 0, 0), (.getfield 0, 6, 5), (.aload 0, 0, 0), (.getfield 0, 6, 6), (.aload 0, 0, 0), (.getfield 0, 6, 0), (.iload 2, 0, 0), (.aload 0, 0, 0), (.getfield 0, 6, 0), (.iload 2, 0, 0), (.iload 3, 0, 0), (.iload 5, 0, 0), (.iload 4, 0, 0), (.invokevirtual 0, 75, 0), (.invokevirtual 0, 69, 0), (.invokestatic 0, 160, 0), (.aload 0, 0, 0), (.dup, 0, 0), (.getfield 0, 6, 6), (.iconst (1), 0, 0), (.iadd, 0, 0), (.putfield 0, 6, 6), (.return_, 0, 0)])]
def zB_Pl_behind : List (Nat × List zEnt) := [(0, [(.iload 1, 0, 0), (.ifCond .lt 0, 3, 0), (.goto_w 0, 1, 0)]),
  (4, [(.iload 1, 0, 0), (.aload 0, 0, 0), (.getfield 0, 6, 6), (.if_icmp .ge 0, 3, 0), (.goto_w 0, 2, 0)]),
  (12, [(.aload 0, 0, 0), (.getfield 0, 6, 5), (.iload 1, 0, 0), (.invokestatic 0, 159, 0), (.goto 0, 4, 0)]),
  (23, [(.iconst (-1), 0, 0), (.goto_w 0, 4, 0)]),
  (24, [(.ireturn, 0, 0)])]
def zB_Sh_init : List (Nat × List zEnt) := [(0, [(.aload 0, 0, 0), (.nop, 0, 0), (.aload 0, 0, 0), (.iconst (4), 0, 0), (.newarray .int, 0, 0), (.putfield 0, 7, 0), (.aload 0, 0, 0), (.iconst (4), 0, 0), (.newarray .int, 0, 0), (.putfield 0, 7, 1), (.aload 0, 0, 0), (.iconst (324), 0, 0), (.newarray .int, 0, 0), (.putfield 0, 7, 2), (.aload 0, 0, 0), (.getfield 0, 7, 0), (.iconst (-1), 0, 0), (.invokestatic 0, 263, 0), (.return_, 0, 0)])]
def zB_Sh_hasPlace : List (Nat × List zEnt) := [(0, [(.iload 1, 0, 0), (.ifCond .lt 0, 5, 0), (.goto_w 0, 1, 0)]),
  (4, [(.iload 1, 0, 0), (.iconst (4), 0, 0), (.if_icmp .ge 0, 5, 0), (.goto_w 0, 2, 0)]),
  (9, [(.iload 2, 0, 0), (.ifCond .lt 0, 5, 0), (.goto_w 0, 3, 0)]),
  (13, [(.iload 2, 0, 0), (.iconst (3), 0, 0), (.if_icmp .ge 0, 5, 0), (.goto_w 0, 4, 0)]),
  (18, [(.iconst (1), 0, 0), (.goto 0, 6, 0)]),
  (22, [(.iconst (0), 0, 0), (.goto_w 0, 6, 0)]),
  (23, [(.ireturn, 0, 0)])]
def zB_Sh_isEmptyPlace : List (Nat × List zEnt) := [(0, [(.aload 0, 0, 0), (.getfield 0, 7, 0), (.iload 1, 0, 0), (.invokestatic 0, 159, 0), (.iconst (-1), 0, 0), (.if_icmp .ne 0, 2, 0), (.goto_w 0, 1, 0)]),
  (12, [(.iconst (1), 0, 0), (.goto 0, 3, 0)]),
  (16, [(.iconst (0), 0, 0), (.goto_w 0, 3, 0)]),
  (17, [(.ireturn, 0, 0)])]
def zB_Sh_hasItems : List (Nat × List zEnt) := [(0, [(.aload 0, 0, 0), (.getfield 0, 7, 1), (.iload 1, 0, 0), (.invokestatic 0, 159, 0), (.istore 4, 0, 0), (.iload 3, 0, 0), (.ifCond .lt 0, 5, 0), (.goto_w 0, 1, 0)]),
  (14, [(.iload 2, 0, 0), (.ifCond .lt 0, 5, 0), (.goto_w 0, 2, 0)]),
  (18, [(.iload 2, 0, 0), (.iload 4, 0, 0), (.if_icmp .gt 0, 5, 0), (.goto_w 0, 3, 0)]),
  (24, [(.iload 3, 0, 0), (.iload 4, 0, 0), (.iload 2, 0, 0), (.isub, 0, 0), (.if_icmp .gt 0, 5, 0), (.goto_w 0, 4, 0)]),
  (32, [(.iconst (1), 0, 0), (.goto 0, 6, 0)]),
  (36, [(.iconst (0), 0, 0), (.goto_w 0, 6, 0)]),
  (37, [(.ireturn, 0, 0)])]
def zB_Sh_wrong : List (Nat × List zEnt) := [(0, [(.aload 0, 0, 0), (.iload 1, 0, 0), (.invokevirtual 0, 94, 0), (.ifCond .eq 0, 2, 0), (.goto_w 0, 1, 0)]),
  (8, [(.iconst (-11), 0, 0), (.ireturn, 0, 0)]),
  (11, [(.aload 0, 0, 0), (.getfield 0, 7, 0), (.iload 1, 0, 0), (.invokestatic 0, 159, 0), (.iload 2, 0, 0), (.if_icmp .eq 0, 4, 0), (.goto_w 0, 3, 0)]),
  (23, [(.iconst (-12), 0, 0), (.ireturn, 0, 0)]),
  (26, [(.aload 0, 0, 0), (.iload 1, 0, 0), (.iload 3, 0, 0), (.iload 4, 0, 0), (.invokevirtual 0, 95, 0), (.ifCond .eq 0, 6, 0), (.goto_w 0, 5, 0)]),
  (37, [(.iconst (0), 0, 0), (.goto 0, 7, 0)]),
  (41, [(.iconst (-13), 0, 0), (.goto_w 0, 7, 0)]),
  (43, [(.ireturn, 0, 0)])]
def zB_Sh_start : List (Nat × List zEnt) := [(0, [(.aload 0, 0, 0), (.getfield 0, 7, 0), (.iload 1, 0, 0), (.iload 2, 0, 0), (.invokestatic 0, 160, 0), (.aload 0, 0, 0), (.getfield 0, 7, 1), (.iload 1, 0, 0), (.iload 3, 0, 0), (.invokestatic 0, 160, 0), (.iconst (0), 0, 0), (.istore 4, 0, 0), (.goto_w 0, 1, 0)]),
  (21, [(.iload 4, 0, 0), (.iconst (81), 0, 0), (.if_icmp .ge 0, 3, 0), (.goto_w 0, 2, 0)]),
  (28, [(.aload 0, 0, 0), (.getfield 0, 7, 2), (.iload 1, 0, 0), (.iconst (81), 0, 0), (.imul, 0, 0), (.iload 4, 0, 0), (.iadd, 0, 0), (.iconst (0), 0, 0), (.invokestatic 0, 160, 0), (.iinc 4 (1), 0, 0), (.goto 0, 1, 0)]),
  (49, [(.return_, 0, 0)])]
def zB_Sh_empty : List (Nat × List zEnt) := [(0, [(.aload 0, 0, 0), (.getfield 0, 7, 0), (.iload 1, 0, 0), (.iconst (-1), 0, 0), (.invokestatic 0, 160, 0), (.aload 0, 0, 0), (.getfield 0, 7, 1), (.iload 1, 0, 0), (.invokestatic 0, 159, 0), (.ireturn, 0, 0)])]
def zB_Sh_read : List (Nat × List zEnt) := [(0, [(.aload 0, 0, 0), (.getfield 0, 7, 2), (.iload 1, 0, 0), (.iconst (81), 0, 0), (.imul, 0, 0), (.iload 2, 0, 0), (.iadd, 0, 0), (.invokestatic 0, 159, 0), (.ireturn, 0, 0)])]
def zB_Sh_write : List (Nat × List zEnt) := [(0, [(.aload 0, 0, 0), (.getfield 0, 7, 2), (.iload 1, 0, 0), (.iconst (81), 0, 0), (.imul, 0, 0), (.iload 2, 0, 0), (.iadd, 0, 0), (.aload 0, 0, 0), (.getfield 0, 7, 0), (.iload 1, 0, 0), (.invokestatic 0, 159, 0), (.ifCond .ne 0, 2, 0), (.goto_w 0, 1, 0)]),
  (21, [(.iload 3, 0, 0), (.i2b, 0, 0), (.goto 0, 3, 0)]),
  (26, [(.iload 3, 0, 0), (.goto_w 0, 3, 0)]),
  (27, [(.invokestatic 0, 160, 0), (.return_, 0, 0)])]
def zB_Sh_hasBelowZero : List (Nat × List zEnt) := [(0, [(.iconst (0), 0, 0), (.istore 4, 0, 0), (.goto_w 0, 1, 0)]),
  (3, [(.iload 4, 0, 0), (.iload 3, 0, 0), (.if_icmp .ge 0, 5, 0), (.goto_w 0, 2, 0)]),
  (9, [(.aload 0, 0, 0), (.iload 1, 0, 0), (.iload 2, 0, 0), (.iload 4, 0, 0), (.iadd, 0, 0), (.invokevirtual 0, 99, 0), (.ifCond .ge 0, 4, 0), (.goto_w 0, 3, 0)]),
  (21, [(.iconst (1), 0, 0), (.ireturn, 0, 0)]),
  (23, [(.iinc 4 (1), 0, 0), (.goto 0, 1, 0)]),
  (29, [(.iconst (0), 0, 0), (.ireturn, 0, 0)])]
def zB_Ta_init : List (Nat × List zEnt) := [(0, [(.aload 0, 0, 0), (.nop, 0, 0), (.aload 0, 0, 0), (.iconst (972), 0, 0), (.newarray .int, 0, 0), (.putfield 0, 8, 1), (.aload 0, 0, 0), (.iconst (12), 0, 0), (.newarray .int, 0, 0), (.putfield 0, 8, 2), (.aload 0, 0, 0), (.iconst (81), 0, 0), (.newarray .int, 0, 0), (.putfield 0, 8, 3), (.aload 0, 0, 0), (.iconst (-1), 0, 0), (.putfield 0, 8, 4), (.aload 0, 0, 0), (.iconst (-1), 0, 0), (.putfield 0, 8, 5), (.aload 0, 0, 0), (.aload 1, 0, 0), (.putfield 0, 8, 0), (.return_, 0, 0)])]
def zB_Ta_prepare : List (Nat × List zEnt) := [(0, [(.iload 1, 0, 0), (.aload 0, 0, 0), (.getfield 0, 8, 4), (.if_icmp .ne 0, 3, 0), (.goto_w 0, 1, 0)]),
  (8, [(.aload 0, 0, 0), (.getfield 0, 8, 5), (.aload 0, 0, 0), (.getfield 0, 8, 0), (.getfield 0, 5, 2), (.if_icmp .ne 0, 3, 0), (.goto_w 0, 2, 0)]),
  (22, [(.return_, 0, 0)]),
  (23, [(.aload 0, 0, 0), (.iload 1, 0, 0), (.putfield 0, 8, 4), (.aload 0, 0, 0), (.aload 0, 0, 0), (.getfield 0, 8, 0), (.getfield 0, 5, 2), (.putfield 0, 8, 5), (.aload 0, 0, 0), (.getfield 0, 8, 1), (.iconst (0), 0, 0), (.invokestatic 0, 263, 0), (.iconst (0), 0, 0), (.istore 2, 0, 0), (.goto_w 0, 4, 0)]),
  (49, [(.iload 2, 0, 0), (.aload 0, 0, 0), (.getfield 0, 8, 0), (.getfield 0, 5, 0), (.if_icmp .ge 0, 6, 0), (.goto_w 0, 5, 0)]),
  (60, [(.aload 0, 0, 0), (.iload 2, 0, 0), (.invokevirtual 0, 104, 0), (.iinc 2 (1), 0, 0), (.goto 0, 4, 0)]),
  (71, [(.return_, 0, 0)])]
def zB_Ta_fill : List (Nat × List zEnt) := [(0, [(.aload 0, 0, 0), (.getfield 0, 8, 2), (.iload 1, 0, 0), (.aload 0, 0, 0), (.getfield 0, 8, 0), (.iload 1, 0, 0), (.aload 0, 0, 0), (.getfield 0, 8, 4), (.invokevirtual 0, 74, 0), (.invokestatic 0, 160, 0), (.aload 0, 0, 0), (.iload 1, 0, 0), (.invokevirtual 0, 105, 0), (.istore 2, 0, 0), (.iconst (0), 0, 0), (.istore 3, 0, 0), (.goto_w 0, 1, 0)]),
  (28, [(.iload 3, 0, 0), (.iload 2, 0, 0), (.if_icmp .ge 0, 3, 0), (.goto_w 0, 2, 0)]),
  (33, [(.iload 1, 0, 0), (.iconst (81), 0, 0), (.imul, 0, 0), (.aload 0, 0, 0), (.getfield 0, 8, 3), (.iload 3, 0, 0), (.invokestatic 0, 159, 0), (.iadd, 0, 0), (.istore 4, 0, 0), (.aload 0, 0, 0), (.getfield 0, 8, 1), (.iload 4, 0, 0), (.aload 0, 0, 0), (.getfield 0, 8, 1), (.iload 4, 0, 0), (.invokestatic 0, 159, 0), (.iconst (1), 0, 0), (.aload 0, 0, 0), (.getfield 0, 8, 0), (.iload 1, 0, 0), (.iload 3, 0, 0), (.invokevirtual 0, 69, 0), (.ishl, 0, 0), (.ior, 0, 0), (.invokestatic 0, 160, 0), (.iinc 3 (1), 0, 0), (.goto 0, 1, 0)]),
  (84, [(.return_, 0, 0)])]
def zB_Ta_share : List (Nat × List zEnt) := [(0, [(.iconst (1), 0, 0), (.istore 2, 0, 0), (.aload 0, 0, 0), (.getfield 0, 8, 3), (.iconst (0), 0, 0), (.iconst (0), 0, 0), (.invokestatic 0, 160, 0), (.iconst (0), 0, 0), (.istore 3, 0, 0), (.goto_w 0, 1, 0)]),
  (13, [(.iload 3, 0, 0), (.aload 0, 0, 0), (.getfield 0, 8, 0), (.getfield 0, 5, 1), (.if_icmp .ge 0, 12, 0), (.goto_w 0, 2, 0)]),
  (24, [(.aload 0, 0, 0), (.getfield 0, 8, 0), (.iload 1, 0, 0), (.iload 3, 0, 0), (.invokevirtual 0, 67, 0), (.istore 4, 0, 0), (.iload 2, 0, 0), (.iconst (1), 0, 0), (.isub, 0, 0), (.istore 5, 0, 0), (.goto_w 0, 3, 0)]),
  (40, [(.iload 5, 0, 0), (.ifCond .lt 0, 11, 0), (.goto_w 0, 4, 0)]),
  (45, [(.aload 0, 0, 0), (.getfield 0, 8, 3), (.iload 5, 0, 0), (.invokestatic 0, 159, 0), (.istore 6, 0, 0), (.iconst (0), 0, 0), (.istore 7, 0, 0), (.goto_w 0, 5, 0)]),
  (59, [(.iload 7, 0, 0), (.iload 4, 0, 0), (.if_icmp .ge 0, 10, 0), (.goto_w 0, 6, 0)]),
  (66, [(.aload 0, 0, 0), (.getfield 0, 8, 3), (.iload 5, 0, 0), (.iload 4, 0, 0), (.imul, 0, 0), (.iload 7, 0, 0), (.iadd, 0, 0), (.aload 0, 0, 0), (.getfield 0, 8, 4), (.iload 3, 0, 0), (.invokestatic 0, 162, 0), (.ifCond .eq 0, 8, 0), (.goto_w 0, 7, 0)]),
  (89, [(.iload 6, 0, 0), (.iload 4, 0, 0), (.imul, 0, 0), (.iload 7, 0, 0), (.iadd, 0, 0), (.goto 0, 9, 0)]),
  (100, [(.iload 6, 0, 0), (.goto_w 0, 9, 0)]),
  (102, [(.invokestatic 0, 160, 0), (.iinc 7 (1), 0, 0), (.goto 0, 5, 0)]),
  (111, [(.iinc 5 (-1), 0, 0), (.goto 0, 3, 0)]),
  (117, [(.iload 2, 0, 0), (.iload 4, 0, 0), (.imul, 0, 0), (.istore 2, 0, 0), (.iinc 3 (1), 0, 0), (.goto 0, 1, 0)]),
  (128, [(.iload 2, 0, 0), (.ireturn, 0, 0)])]
def zB_Ta_endsOf : List (Nat × List zEnt) := [(0, [(.aload 0, 0, 0), (.getfield 0, 8, 1), (.iload 1, 0, 0), (.iconst (81), 0, 0), (.imul, 0, 0), (.iload 2, 0, 0), (.iadd, 0, 0), (.invokestatic 0, 159, 0), (.ireturn, 0, 0)])]
def zB_Ta_leastInto : List (Nat × List zEnt) := [(0, [(.aload 0, 0, 0), (.getfield 0, 8, 2), (.iload 1, 0, 0), (.invokestatic 0, 159, 0), (.istore 3, 0, 0), (.iconst (0), 0, 0), (.istore 4, 0, 0), (.goto_w 0, 1, 0)]),
  (12, [(.iload 4, 0, 0), (.iload 3, 0, 0), (.if_icmp .ge 0, 5, 0), (.goto_w 0, 2, 0)]),
  (18, [(.aload 0, 0, 0), (.getfield 0, 8, 1), (.iload 1, 0, 0), (.iconst (81), 0, 0), (.imul, 0, 0), (.iload 4, 0, 0), (.iadd, 0, 0), (.invokestatic 0, 159, 0), (.iload 2, 0, 0), (.iconst (-1), 0, 0), (.ixor, 0, 0), (.iand, 0, 0), (.ifCond .ne 0, 4, 0), (.goto_w 0, 3, 0)]),
  (39, [(.iload 4, 0, 0), (.ireturn, 0, 0)]),
  (42, [(.iinc 4 (1), 0, 0), (.goto 0, 1, 0)]),
  (48, [(.iconst (-1), 0, 0), (.ireturn, 0, 0)])]
def zB_Ta_forcing : List (Nat × List zEnt) := [(0, [(.iconst (0), 0, 0), (.istore 3, 0, 0), (.iconst (0), 0, 0), (.istore 4, 0, 0), (.goto_w 0, 1, 0)]),
  (5, [(.iload 4, 0, 0), (.aload 0, 0, 0), (.getfield 0, 8, 0), (.getfield 0, 5, 0), (.if_icmp .ge 0, 6, 0), (.goto_w 0, 2, 0)]),
  (17, [(.iload 1, 0, 0), (.iload 4, 0, 0), (.invokestatic 0, 162, 0), (.ifCond .eq 0, 5, 0), (.goto_w 0, 3, 0)]),
  (26, [(.aload 0, 0, 0), (.iload 4, 0, 0), (.iload 2, 0, 0), (.invokevirtual 0, 107, 0), (.ifCond .lt 0, 5, 0), (.goto_w 0, 4, 0)]),
  (36, [(.iload 3, 0, 0), (.iconst (1), 0, 0), (.iload 4, 0, 0), (.ishl, 0, 0), (.ior, 0, 0), (.istore 3, 0, 0), (.goto_w 0, 5, 0)]),
  (43, [(.iinc 4 (1), 0, 0), (.goto 0, 1, 0)]),
  (49, [(.iload 3, 0, 0), (.ireturn, 0, 0)])]
def zB_Tp_init : List (Nat × List zEnt) := [(0, [(.aload 0, 0, 0), (.nop, 0, 0), (.aload 0, 0, 0), (.iconst (100), 0, 0), (.newarray .int, 0, 0), (.putfield 0, 9, 0), (.aload 0, 0, 0), (.new 0, 1, 0), (.dup, 0, 0), (.invokevirtual 0, 12, 0), (.putfield 0, 9, 1), (.return_, 0, 0)])]
def zB_Tp_add : List (Nat × List zEnt) := [(0, [(.iconst (0), 0, 0), (.istore 4, 0, 0), (.goto_w 0, 1, 0)]),
  (3, [(.iload 4, 0, 0), (.iload 3, 0, 0), (.if_icmp .ge 0, 6, 0), (.goto_w 0, 2, 0)]),
  (9, [(.lload 1, 0, 0), (.iload 4, 0, 0), (.invokestatic 0, 111, 0), (.istore 5, 0, 0), (.iload 5, 0, 0), (.iconst (32), 0, 0), (.if_icmp .lt 0, 4, 0), (.goto_w 0, 3, 0)]),
  (24, [(.iload 5, 0, 0), (.iconst (126), 0, 0), (.if_icmp .le 0, 5, 0), (.goto_w 0, 4, 0)]),
  (31, [(.iconst (-1), 0, 0), (.ireturn, 0, 0)]),
  (33, [(.iinc 4 (1), 0, 0), (.goto 0, 1, 0)]),
  (39, [(.iload 3, 0, 0), (.iconst (100), 0, 0), (.aload 0, 0, 0), (.getfield 0, 9, 2), (.isub, 0, 0), (.if_icmp .le 0, 8, 0), (.goto_w 0, 7, 0)]),
  (50, [(.iconst (-3), 0, 0), (.ireturn, 0, 0)]),
  (53, [(.iload 3, 0, 0), (.iconst (1), 0, 0), (.isub, 0, 0), (.istore 4, 0, 0), (.goto_w 0, 9, 0)]),
  (58, [(.iload 4, 0, 0), (.ifCond .lt 0, 11, 0), (.goto_w 0, 10, 0)]),
  (63, [(.aload 0, 0, 0), (.getfield 0, 9, 0), (.aload 0, 0, 0), (.getfield 0, 9, 2), (.lload 1, 0, 0), (.iload 4, 0, 0), (.invokestatic 0, 111, 0), (.invokestatic 0, 160, 0), (.aload 0, 0, 0), (.dup, 0, 0), (.getfield 0, 9, 2), (.iconst (1), 0, 0), (.iadd, 0, 0), (.putfield 0, 9, 2), (.iinc 4 (-1), 0, 0), (.goto 0, 9, 0)]),
  (96, [(.aload 0, 0, 0), (.getfield 0, 9, 2), (.ireturn, 0, 0)])]
def zB_Tp_byteOf : List (Nat × List zEnt) := [(0, [(.lload 0, 0, 0), (.iconst (8), 0, 0), (.iload 2, 0, 0), (.imul, 0, 0), (.lshr, 0, 0), (.l2i, 0, 0), (.iconst (255), 0, 0), (.iand, 0, 0), (.ireturn, 0, 0)])]
def zB_Tp_understand : List (Nat × List zEnt) := [(0, [(.aload 0, 0, 0), (.iload 1, 0, 0), (.putfield 0, 9, 5), (.aload 0, 0, 0), (.iconst (0), 0, 0), (.putfield 0, 9, 3), (.aload 0, 0, 0), (.iconst (-1), 0, 0), (.putfield 0, 9, 4), (.aload 0, 0, 0), (.getfield 0, 9, 1), (.invokevirtual 0, 14, 0), (.aload 0, 0, 0), (.iconst (0), 0, 0), (.invokevirtual 0, 116, 0), (.ifCond .eq 0, 3, 0), (.goto_w 0, 1, 0)]),
  (30, [(.aload 0, 0, 0), (.invokevirtual 0, 113, 0), (.iconst (-1), 0, 0), (.if_icmp .eq 0, 3, 0), (.goto_w 0, 2, 0)]),
  (38, [(.aload 0, 0, 0), (.invokevirtual 0, 114, 0), (.pop, 0, 0), (.goto_w 0, 3, 0)]),
  (43, [(.aload 0, 0, 0), (.iconst (0), 0, 0), (.putfield 0, 9, 2), (.aload 0, 0, 0), (.getfield 0, 9, 4), (.ifCond .ge 0, 5, 0), (.goto_w 0, 4, 0)]),
  (55, [(.iconst (0), 0, 0), (.goto 0, 6, 0)]),
  (59, [(.iconst (-20), 0, 0), (.aload 0, 0, 0), (.getfield 0, 9, 4), (.isub, 0, 0), (.goto_w 0, 6, 0)]),
  (66, [(.ireturn, 0, 0)])]
def zB_Tp_here : List (Nat × List zEnt) := [(0, [(.aload 0, 0, 0), (.getfield 0, 9, 3), (.aload 0, 0, 0), (.getfield 0, 9, 2), (.if_icmp .ge 0, 3, 0), (.goto_w 0, 1, 0)]),
  (11, [(.aload 0, 0, 0), (.getfield 0, 9, 0), (.aload 0, 0, 0), (.getfield 0, 9, 3), (.invokestatic 0, 159, 0), (.iconst (32), 0, 0), (.if_icmp .ne 0, 3, 0), (.goto_w 0, 2, 0)]),
  (27, [(.aload 0, 0, 0), (.dup, 0, 0), (.getfield 0, 9, 3), (.iconst (1), 0, 0), (.iadd, 0, 0), (.putfield 0, 9, 3), (.goto 0, 0, 0)]),
  (40, [(.aload 0, 0, 0), (.getfield 0, 9, 3), (.aload 0, 0, 0), (.getfield 0, 9, 2), (.if_icmp .ge 0, 5, 0), (.goto_w 0, 4, 0)]),
  (51, [(.aload 0, 0, 0), (.getfield 0, 9, 0), (.aload 0, 0, 0), (.getfield 0, 9, 3), (.invokestatic 0, 159, 0), (.goto 0, 6, 0)]),
  (65, [(.iconst (-1), 0, 0), (.goto_w 0, 6, 0)]),
  (66, [(.ireturn, 0, 0)])]
def zB_Tp_refuse : List (Nat × List zEnt) := [(0, [(.aload 0, 0, 0), (.aload 0, 0, 0), (.getfield 0, 9, 3), (.putfield 0, 9, 4), (.iconst (0), 0, 0), (.ireturn, 0, 0)])]
def zB_Tp_take : List (Nat × List zEnt) := [(0, [(.aload 0, 0, 0), (.invokevirtual 0, 113, 0), (.iload 1, 0, 0), (.if_icmp .eq 0, 2, 0), (.goto_w 0, 1, 0)]),
  (8, [(.aload 0, 0, 0), (.invokevirtual 0, 114, 0), (.ireturn, 0, 0)]),
  (13, [(.aload 0, 0, 0), (.dup, 0, 0), (.getfield 0, 9, 3), (.iconst (1), 0, 0), (.iadd, 0, 0), (.putfield 0, 9, 3), (.iconst (1), 0, 0), (.ireturn, 0, 0)])]
def zB_Tp_readForm : List (Nat × List zEnt) := [(0, [(.aload 0, 0, 0), (.invokevirtual 0, 113, 0), (.istore 2, 0, 0), (.iload 1, 0, 0), (.iconst (24), 0, 0), (.if_icmp .ge 0, 2, 0), (.goto_w 0, 1, 0)]),
  (11, [(.aload 0, 0, 0), (.getfield 0, 9, 1), (.getfield 0, 1, 0), (.iconst (24), 0, 0), (.if_icmp .lt 0, 3, 0), (.goto_w 0, 2, 0)]),
  (23, [(.aload 0, 0, 0), (.invokevirtual 0, 114, 0), (.ireturn, 0, 0)]),
  (28, [(.iload 2, 0, 0), (.iconst (84), 0, 0), (.if_icmp .eq 0, 6, 0), (.goto_w 0, 4, 0)]),
  (34, [(.iload 2, 0, 0), (.iconst (97), 0, 0), (.if_icmp .lt 0, 10, 0), (.goto_w 0, 5, 0)]),
  (40, [(.iload 2, 0, 0), (.iconst (104), 0, 0), (.if_icmp .gt 0, 10, 0), (.goto_w 0, 6, 0)]),
  (46, [(.aload 0, 0, 0), (.dup, 0, 0), (.getfield 0, 9, 3), (.iconst (1), 0, 0), (.iadd, 0, 0), (.putfield 0, 9, 3), (.aload 0, 0, 0), (.getfield 0, 9, 1), (.aload 0, 0, 0), (.getfield 0, 9, 1), (.iconst (0), 0, 0), (.invokevirtual 0, 15, 0), (.iload 2, 0, 0), (.iconst (84), 0, 0), (.if_icmp .ne 0, 8, 0), (.goto_w 0, 7, 0)]),
  (74, [(.iconst (0), 0, 0), (.goto 0, 9, 0)]),
  (78, [(.iconst (1), 0, 0), (.goto_w 0, 9, 0)]),
  (79, [(.iload 2, 0, 0), (.iconst (97), 0, 0), (.isub, 0, 0), (.iconst (0), 0, 0), (.invokevirtual 0, 16, 0), (.iconst (1), 0, 0), (.ireturn, 0, 0)]),
  (89, [(.iload 2, 0, 0), (.iconst (33), 0, 0), (.if_icmp .eq 0, 14, 0), (.goto_w 0, 11, 0)]),
  (95, [(.iload 2, 0, 0), (.iconst (40), 0, 0), (.if_icmp .eq 0, 14, 0), (.goto_w 0, 12, 0)]),
  (101, [(.iload 2, 0, 0), (.iconst (60), 0, 0), (.if_icmp .eq 0, 14, 0), (.goto_w 0, 13, 0)]),
  (107, [(.aload 0, 0, 0), (.invokevirtual 0, 114, 0), (.ireturn, 0, 0)]),
  (112, [(.aload 0, 0, 0), (.dup, 0, 0), (.getfield 0, 9, 3), (.iconst (1), 0, 0), (.iadd, 0, 0), (.putfield 0, 9, 3), (.aload 0, 0, 0), (.getfield 0, 9, 1), (.iconst (0), 0, 0), (.invokevirtual 0, 15, 0), (.istore 3, 0, 0), (.iload 2, 0, 0), (.iconst (33), 0, 0), (.if_icmp .ne 0, 16, 0), (.goto_w 0, 15, 0)]),
  (137, [(.aload 0, 0, 0), (.getfield 0, 9, 1), (.iload 3, 0, 0), (.iconst (2), 0, 0), (.iload 3, 0, 0), (.iconst (1), 0, 0), (.iadd, 0, 0), (.iconst (0), 0, 0), (.invokevirtual 0, 16, 0), (.aload 0, 0, 0), (.iload 1, 0, 0), (.iconst (1), 0, 0), (.iadd, 0, 0), (.invokevirtual 0, 116, 0), (.ireturn, 0, 0)]),
  (158, [(.iload 2, 0, 0), (.iconst (40), 0, 0), (.if_icmp .ne 0, 18, 0), (.goto_w 0, 17, 0)]),
  (164, [(.aload 0, 0, 0), (.iload 3, 0, 0), (.iconst (0), 0, 0), (.iload 1, 0, 0), (.invokevirtual 0, 119, 0), (.goto 0, 22, 0)]),
  (174, [(.aload 0, 0, 0), (.iload 3, 0, 0), (.invokevirtual 0, 117, 0), (.ifCond .eq 0, 21, 0), (.goto_w 0, 19, 0)]),
  (182, [(.aload 0, 0, 0), (.iload 3, 0, 0), (.iload 1, 0, 0), (.invokevirtual 0, 118, 0), (.ifCond .eq 0, 21, 0), (.goto_w 0, 20, 0)]),
  (191, [(.iconst (1), 0, 0), (.goto 0, 22, 0)]),
  (195, [(.iconst (0), 0, 0), (.goto_w 0, 22, 0)]),
  (196, [(.ireturn, 0, 0)])]
def zB_Tp_readGroup : List (Nat × List zEnt) := [(0, [(.iconst (0), 0, 0), (.istore 2, 0, 0), (.iconst (0), 0, 0), (.istore 3, 0, 0), (.iconst (0), 0, 0), (.istore 4, 0, 0), (.goto_w 0, 1, 0)]),
  (7, [(.iload 4, 0, 0), (.iconst (4), 0, 0), (.if_icmp .ge 0, 6, 0), (.goto_w 0, 2, 0)]),
  (13, [(.aload 0, 0, 0), (.invokevirtual 0, 113, 0), (.iconst (48), 0, 0), (.isub, 0, 0), (.istore 5, 0, 0), (.iload 5, 0, 0), (.iload 3, 0, 0), (.if_icmp .lt 0, 6, 0), (.goto_w 0, 3, 0)]),
  (28, [(.iload 5, 0, 0), (.aload 0, 0, 0), (.getfield 0, 9, 5), (.if_icmp .lt 0, 5, 0), (.goto_w 0, 4, 0)]),
  (37, [(.goto 0, 6, 0)]),
  (40, [(.iload 2, 0, 0), (.iconst (1), 0, 0), (.iload 5, 0, 0), (.ishl, 0, 0), (.ior, 0, 0), (.istore 2, 0, 0), (.iload 5, 0, 0), (.iconst (1), 0, 0), (.iadd, 0, 0), (.istore 3, 0, 0), (.aload 0, 0, 0), (.dup, 0, 0), (.getfield 0, 9, 3), (.iconst (1), 0, 0), (.iadd, 0, 0), (.putfield 0, 9, 3), (.iinc 4 (1), 0, 0), (.goto 0, 1, 0)]),
  (68, [(.aload 0, 0, 0), (.getfield 0, 9, 1), (.getfield 0, 1, 5), (.iload 1, 0, 0), (.iload 2, 0, 0), (.invokestatic 0, 160, 0), (.aload 0, 0, 0), (.iconst (62), 0, 0), (.invokevirtual 0, 115, 0), (.ireturn, 0, 0)])]
def zB_Tp_readLaw : List (Nat × List zEnt) := [(0, [(.aload 0, 0, 0), (.invokevirtual 0, 113, 0), (.istore 3, 0, 0), (.iload 3, 0, 0), (.invokestatic 0, 120, 0), (.istore 4, 0, 0), (.iload 4, 0, 0), (.ifCond .ge 0, 2, 0), (.goto_w 0, 1, 0)]),
  (16, [(.aload 0, 0, 0), (.invokevirtual 0, 114, 0), (.ireturn, 0, 0)]),
  (21, [(.aload 0, 0, 0), (.dup, 0, 0), (.getfield 0, 9, 3), (.iconst (1), 0, 0), (.iadd, 0, 0), (.putfield 0, 9, 3), (.iload 4, 0, 0), (.iconst (8), 0, 0), (.if_icmp .ne 0, 4, 0), (.goto_w 0, 3, 0)]),
  (38, [(.aload 0, 0, 0), (.iload 1, 0, 0), (.iconst (1), 0, 0), (.iload 2, 0, 0), (.invokevirtual 0, 119, 0), (.ireturn, 0, 0)]),
  (46, [(.aload 0, 0, 0), (.getfield 0, 9, 1), (.iload 1, 0, 0), (.iload 4, 0, 0), (.iload 1, 0, 0), (.iconst (1), 0, 0), (.iadd, 0, 0), (.iconst (0), 0, 0), (.invokevirtual 0, 16, 0), (.aload 0, 0, 0), (.iload 2, 0, 0), (.iconst (1), 0, 0), (.iadd, 0, 0), (.invokevirtual 0, 116, 0), (.ireturn, 0, 0)])]
def zB_Tp_readPair : List (Nat × List zEnt) := [(0, [(.aload 0, 0, 0), (.iload 3, 0, 0), (.iconst (1), 0, 0), (.iadd, 0, 0), (.invokevirtual 0, 116, 0), (.ifCond .ne 0, 2, 0), (.goto_w 0, 1, 0)]),
  (10, [(.iconst (0), 0, 0), (.ireturn, 0, 0)]),
  (12, [(.aload 0, 0, 0), (.invokevirtual 0, 113, 0), (.invokestatic 0, 121, 0), (.istore 4, 0, 0), (.iload 4, 0, 0), (.ifCond .lt 0, 7, 0), (.goto_w 0, 3, 0)]),
  (26, [(.iload 2, 0, 0), (.iload 4, 0, 0), (.iconst (8), 0, 0), (.if_icmp .ne 0, 5, 0), (.goto_w 0, 4, 0)]),
  (34, [(.iconst (1), 0, 0), (.goto 0, 6, 0)]),
  (38, [(.iconst (0), 0, 0), (.goto_w 0, 6, 0)]),
  (39, [(.if_icmp .eq 0, 8, 0), (.goto_w 0, 7, 0)]),
  (42, [(.aload 0, 0, 0), (.invokevirtual 0, 114, 0), (.ireturn, 0, 0)]),
  (47, [(.aload 0, 0, 0), (.dup, 0, 0), (.getfield 0, 9, 3), (.iconst (1), 0, 0), (.iadd, 0, 0), (.putfield 0, 9, 3), (.aload 0, 0, 0), (.getfield 0, 9, 1), (.iload 1, 0, 0), (.iload 4, 0, 0), (.iload 1, 0, 0), (.iconst (1), 0, 0), (.iadd, 0, 0), (.aload 0, 0, 0), (.getfield 0, 9, 1), (.getfield 0, 1, 0), (.invokevirtual 0, 16, 0), (.aload 0, 0, 0), (.iload 3, 0, 0), (.iconst (1), 0, 0), (.iadd, 0, 0), (.invokevirtual 0, 116, 0), (.ifCond .eq 0, 11, 0), (.goto_w 0, 9, 0)]),
  (87, [(.aload 0, 0, 0), (.iconst (41), 0, 0), (.invokevirtual 0, 115, 0), (.ifCond .eq 0, 11, 0), (.goto_w 0, 10, 0)]),
  (96, [(.iconst (1), 0, 0), (.goto 0, 12, 0)]),
  (100, [(.iconst (0), 0, 0), (.goto_w 0, 12, 0)]),
  (101, [(.ireturn, 0, 0)])]
def zB_Tp_lawKind : List (Nat × List zEnt) := [(0, [(.iload 0, 0, 0), (.lookupswitch 6 #[(40, 5), (70, 3), (71, 2), (73, 4), (88, 1)], 0, 0)]),
  (52, [(.iconst (5), 0, 0), (.ireturn, 0, 0)]),
  (54, [(.iconst (6), 0, 0), (.ireturn, 0, 0)]),
  (57, [(.iconst (7), 0, 0), (.ireturn, 0, 0)]),
  (60, [(.iconst (9), 0, 0), (.ireturn, 0, 0)]),
  (63, [(.iconst (8), 0, 0), (.ireturn, 0, 0)]),
  (66, [(.iconst (-1), 0, 0), (.ireturn, 0, 0)])]
def zB_Tp_pairKind : List (Nat × List zEnt) := [(0, [(.iload 0, 0, 0), (.lookupswitch 4 #[(38, 1), (85, 3), (124, 2)], 0, 0)]),
  (36, [(.iconst (3), 0, 0), (.ireturn, 0, 0)]),
  (38, [(.iconst (4), 0, 0), (.ireturn, 0, 0)]),
  (40, [(.iconst (8), 0, 0), (.ireturn, 0, 0)]),
  (43, [(.iconst (-1), 0, 0), (.ireturn, 0, 0)])]
def zB_FN_init : List (Nat × List zEnt) := [(0, [(.aload 0, 0, 0), (.nop, 0, 0), (.new 0, 5, 0), (.dup, 0, 0), (.invokevirtual 0, 56, 0), (.astore 1, 0, 0), (.new 0, 1, 0), (.dup, 0, 0), (.invokevirtual 0, 12, 0), (.astore 2, 0, 0), (.new 0, 8, 0), (.dup, 0, 0), (.aload 1, 0, 0), (.invokevirtual 0, 102, 0), (.astore 3, 0, 0), (.new 0, 3, 0), (.dup, 0, 0), (.aload 1, 0, 0), (.aload 2, 0, 0), (.aload 3, 0, 0), (.invokevirtual 0, 34, 0), (.astore 4, 0, 0), (.aload 0, 0, 0), (.aload 1, 0, 0), (.putfield 0, 10, 0), (.aload 0, 0, 0), (.aload 2, 0, 0), (.putfield 0, 10, 1), (.aload 0, 0, 0), (.new 0, 9, 0), (.dup, 0, 0), (.invokevirtual 0, 109, 0), (.putfield 0, 10, 2), (.aload 0, 0, 0), (.aload 4, 0, 0), (.putfield 0, 10, 3), (.aload 0, 0, 0), (.new 0, 6, 0), (.dup, 0, 0), (.aload 1, 0, 0), (.aload 2, 0, 0), (.aload 3, 0, 0), (.aload 4, 0, 0), (.invokevirtual 0, 81, 0), (.putfield 0, 10, 4), (.aload 0, 0, 0), (.new 0, 0, 0), (.dup, 0, 0), (.aload 1, 0, 0), (.aload 3, 0, 0), (.invokevirtual 0, 0, 0), (.putfield 0, 10, 5), (.aload 0, 0, 0), (.new 0, 4, 0), (.dup, 0, 0), (.aload 1, 0, 0), (.invokevirtual 0, 44, 0), (.putfield 0, 10, 6), (.aload 0, 0, 0), (.new 0, 2, 0), (.dup, 0, 0), (.aload 1, 0, 0), (.invokevirtual 0, 26, 0), (.putfield 0, 10, 7), (.aload 0, 0, 0), (.new 0, 7, 0), (.dup, 0, 0), (.invokevirtual 0, 92, 0), (.putfield 0, 10, 8), (.return_, 0, 0)])]
def zB_FN_net : List (Nat × List zEnt) := [(0, [(.iload 1, 0, 0), (.iconst (2), 0, 0), (.if_icmp .lt 0, 4, 0), (.goto_w 0, 1, 0)]),
  (5, [(.iload 1, 0, 0), (.iconst (12), 0, 0), (.if_icmp .gt 0, 4, 0), (.goto_w 0, 2, 0)]),
  (11, [(.iload 2, 0, 0), (.iconst (1), 0, 0), (.if_icmp .lt 0, 4, 0), (.goto_w 0, 3, 0)]),
  (16, [(.iload 2, 0, 0), (.iconst (4), 0, 0), (.if_icmp .le 0, 5, 0), (.goto_w 0, 4, 0)]),
  (21, [(.iconst (-1), 0, 0), (.ireturn, 0, 0)]),
  (23, [(.aload 0, 0, 0), (.getfield 0, 10, 0), (.iload 1, 0, 0), (.iload 2, 0, 0), (.invokevirtual 0, 57, 0), (.aload 0, 0, 0), (.getfield 0, 10, 1), (.invokevirtual 0, 13, 0), (.aload 0, 0, 0), (.getfield 0, 10, 6), (.iconst (-1), 0, 0), (.putfield 0, 4, 1), (.aload 0, 0, 0), (.getfield 0, 10, 7), (.invokevirtual 0, 27, 0), (.aload 0, 0, 0), (.getfield 0, 10, 4), (.invokevirtual 0, 88, 0), (.iconst (1), 0, 0), (.ireturn, 0, 0)])]
def zB_FN_moves : List (Nat × List zEnt) := [(0, [(.aload 0, 0, 0), (.getfield 0, 10, 0), (.iload 1, 0, 0), (.invokevirtual 0, 59, 0), (.ifCond .eq 0, 4, 0), (.goto_w 0, 1, 0)]),
  (11, [(.aload 0, 0, 0), (.getfield 0, 10, 0), (.iload 2, 0, 0), (.invokevirtual 0, 60, 0), (.ifCond .eq 0, 4, 0), (.goto_w 0, 2, 0)]),
  (22, [(.iload 3, 0, 0), (.iconst (1), 0, 0), (.if_icmp .lt 0, 4, 0), (.goto_w 0, 3, 0)]),
  (27, [(.iload 3, 0, 0), (.iconst (3), 0, 0), (.if_icmp .le 0, 5, 0), (.goto_w 0, 4, 0)]),
  (32, [(.iconst (-1), 0, 0), (.ireturn, 0, 0)]),
  (34, [(.aload 0, 0, 0), (.getfield 0, 10, 0), (.iload 1, 0, 0), (.iload 2, 0, 0), (.iload 3, 0, 0), (.invokevirtual 0, 70, 0), (.ireturn, 0, 0)])]
def zB_FN_joint : List (Nat × List zEnt) := [(0, [(.aload 0, 0, 0), (.getfield 0, 10, 0), (.iload 1, 0, 0), (.invokevirtual 0, 59, 0), (.ifCond .eq 0, 2, 0), (.goto_w 0, 1, 0)]),
  (11, [(.aload 0, 0, 0), (.getfield 0, 10, 0), (.iload 2, 0, 0), (.invokevirtual 0, 61, 0), (.ifCond .ne 0, 3, 0), (.goto_w 0, 2, 0)]),
  (22, [(.iconst (-1), 0, 0), (.ireturn, 0, 0)]),
  (24, [(.aload 0, 0, 0), (.getfield 0, 10, 0), (.iload 1, 0, 0), (.iload 2, 0, 0), (.invokevirtual 0, 74, 0), (.ireturn, 0, 0)])]
def zB_FN_step : List (Nat × List zEnt) := [(0, [(.aload 0, 0, 0), (.getfield 0, 10, 0), (.iload 1, 0, 0), (.iload 2, 0, 0), (.invokevirtual 0, 64, 0), (.ifCond .eq 0, 2, 0), (.goto_w 0, 1, 0)]),
  (12, [(.aload 0, 0, 0), (.getfield 0, 10, 0), (.iload 3, 0, 0), (.invokevirtual 0, 59, 0), (.ifCond .ne 0, 3, 0), (.goto_w 0, 2, 0)]),
  (23, [(.iconst (-1), 0, 0), (.ireturn, 0, 0)]),
  (25, [(.aload 0, 0, 0), (.getfield 0, 10, 0), (.iload 1, 0, 0), (.iload 2, 0, 0), (.iload 3, 0, 0), (.invokevirtual 0, 71, 0), (.ireturn, 0, 0)])]
def zB_FN_leads : List (Nat × List zEnt) := [(0, [(.aload 0, 0, 0), (.getfield 0, 10, 0), (.iload 1, 0, 0), (.iload 2, 0, 0), (.invokevirtual 0, 64, 0), (.ifCond .ne 0, 2, 0), (.goto_w 0, 1, 0)]),
  (12, [(.iconst (-1), 0, 0), (.ireturn, 0, 0)]),
  (14, [(.aload 0, 0, 0), (.getfield 0, 10, 0), (.iload 1, 0, 0), (.iload 2, 0, 0), (.invokevirtual 0, 69, 0), (.ireturn, 0, 0)])]
def zB_FN_letters : List (Nat × List zEnt) := [(0, [(.aload 0, 0, 0), (.getfield 0, 10, 0), (.iload 1, 0, 0), (.invokevirtual 0, 59, 0), (.ifCond .eq 0, 3, 0), (.goto_w 0, 1, 0)]),
  (11, [(.iload 2, 0, 0), (.ifCond .lt 0, 3, 0), (.goto_w 0, 2, 0)]),
  (15, [(.iload 2, 0, 0), (.iconst (256), 0, 0), (.if_icmp .lt 0, 4, 0), (.goto_w 0, 3, 0)]),
  (22, [(.iconst (-1), 0, 0), (.ireturn, 0, 0)]),
  (24, [(.aload 0, 0, 0), (.getfield 0, 10, 0), (.iload 1, 0, 0), (.iload 2, 0, 0), (.invokevirtual 0, 72, 0), (.ireturn, 0, 0)])]
def zB_FN_heap : List (Nat × List zEnt) := [(0, [(.aload 0, 0, 0), (.getfield 0, 10, 0), (.iload 1, 0, 0), (.invokevirtual 0, 60, 0), (.ifCond .eq 0, 4, 0), (.goto_w 0, 1, 0)]),
  (11, [(.aload 0, 0, 0), (.getfield 0, 10, 0), (.iload 2, 0, 0), (.invokevirtual 0, 59, 0), (.ifCond .eq 0, 4, 0), (.goto_w 0, 2, 0)]),
  (22, [(.iload 3, 0, 0), (.ifCond .lt 0, 4, 0), (.goto_w 0, 3, 0)]),
  (26, [(.iload 3, 0, 0), (.iconst (12), 0, 0), (.if_icmp .lt 0, 5, 0), (.goto_w 0, 4, 0)]),
  (32, [(.iconst (-1), 0, 0), (.ireturn, 0, 0)]),
  (34, [(.aload 0, 0, 0), (.getfield 0, 10, 0), (.getfield 0, 5, 8), (.iload 1, 0, 0), (.iconst (12), 0, 0), (.imul, 0, 0), (.iload 2, 0, 0), (.iadd, 0, 0), (.iload 3, 0, 0), (.invokestatic 0, 161, 0), (.ireturn, 0, 0)])]
def zB_FN_price : List (Nat × List zEnt) := [(0, [(.aload 0, 0, 0), (.getfield 0, 10, 0), (.iload 1, 0, 0), (.iload 2, 0, 0), (.iload 3, 0, 0), (.invokevirtual 0, 63, 0), (.ifCond .eq 0, 3, 0), (.goto_w 0, 1, 0)]),
  (13, [(.iload 4, 0, 0), (.ifCond .lt 0, 3, 0), (.goto_w 0, 2, 0)]),
  (18, [(.iload 4, 0, 0), (.iconst (9), 0, 0), (.if_icmp .le 0, 4, 0), (.goto_w 0, 3, 0)]),
  (25, [(.iconst (-1), 0, 0), (.ireturn, 0, 0)]),
  (27, [(.aload 0, 0, 0), (.getfield 0, 10, 0), (.getfield 0, 5, 5), (.iload 1, 0, 0), (.iconst (4), 0, 0), (.imul, 0, 0), (.iload 2, 0, 0), (.iadd, 0, 0), (.iconst (3), 0, 0), (.imul, 0, 0), (.iload 3, 0, 0), (.iadd, 0, 0), (.iload 4, 0, 0), (.invokestatic 0, 161, 0), (.ireturn, 0, 0)])]
def zB_FN_steps : List (Nat × List zEnt) := [(0, [(.aload 0, 0, 0), (.getfield 0, 10, 0), (.iload 1, 0, 0), (.invokevirtual 0, 59, 0), (.ifCond .eq 0, 5, 0), (.goto_w 0, 1, 0)]),
  (11, [(.aload 0, 0, 0), (.getfield 0, 10, 8), (.iload 2, 0, 0), (.iload 3, 0, 0), (.invokevirtual 0, 93, 0), (.ifCond .eq 0, 5, 0), (.goto_w 0, 2, 0)]),
  (23, [(.iload 5, 0, 0), (.ifCond .lt 0, 5, 0), (.goto_w 0, 3, 0)]),
  (28, [(.iload 5, 0, 0), (.iconst (81), 0, 0), (.if_icmp .gt 0, 5, 0), (.goto_w 0, 4, 0)]),
  (35, [(.iload 5, 0, 0), (.aload 0, 0, 0), (.getfield 0, 10, 0), (.iload 1, 0, 0), (.aload 0, 0, 0), (.getfield 0, 10, 0), (.invokevirtual 0, 65, 0), (.invokevirtual 0, 74, 0), (.if_icmp .le 0, 6, 0), (.goto_w 0, 5, 0)]),
  (55, [(.iconst (-1), 0, 0), (.ireturn, 0, 0)]),
  (57, [(.aload 0, 0, 0), (.getfield 0, 10, 8), (.iload 2, 0, 0), (.iload 3, 0, 0), (.iload 4, 0, 0), (.iload 5, 0, 0), (.invokevirtual 0, 96, 0), (.istore 6, 0, 0), (.iload 6, 0, 0), (.ifCond .eq 0, 8, 0), (.goto_w 0, 7, 0)]),
  (77, [(.iload 6, 0, 0), (.ireturn, 0, 0)]),
  (80, [(.iconst (0), 0, 0), (.istore 7, 0, 0), (.goto_w 0, 9, 0)]),
  (83, [(.iload 7, 0, 0), (.iload 5, 0, 0), (.if_icmp .ge 0, 13, 0), (.goto_w 0, 10, 0)]),
  (90, [(.aload 0, 0, 0), (.getfield 0, 10, 0), (.aload 0, 0, 0), (.getfield 0, 10, 8), (.iload 2, 0, 0), (.iload 4, 0, 0), (.iload 7, 0, 0), (.iadd, 0, 0), (.invokevirtual 0, 99, 0), (.invokevirtual 0, 59, 0), (.ifCond .ne 0, 12, 0), (.goto_w 0, 11, 0)]),
  (113, [(.iconst (-2), 0, 0), (.ireturn, 0, 0)]),
  (116, [(.iinc 7 (1), 0, 0), (.goto 0, 9, 0)]),
  (122, [(.iconst (0), 0, 0), (.istore 7, 0, 0), (.goto_w 0, 14, 0)]),
  (125, [(.iload 7, 0, 0), (.iload 5, 0, 0), (.if_icmp .ge 0, 16, 0), (.goto_w 0, 15, 0)]),
  (132, [(.aload 0, 0, 0), (.getfield 0, 10, 0), (.iload 1, 0, 0), (.iload 7, 0, 0), (.aload 0, 0, 0), (.getfield 0, 10, 8), (.iload 2, 0, 0), (.iload 4, 0, 0), (.iload 7, 0, 0), (.iadd, 0, 0), (.invokevirtual 0, 99, 0), (.invokevirtual 0, 71, 0), (.pop, 0, 0), (.iinc 7 (1), 0, 0), (.goto 0, 14, 0)]),
  (162, [(.iload 5, 0, 0), (.ireturn, 0, 0)])]
def zB_FN_type : List (Nat × List zEnt) := [(0, [(.iload 3, 0, 0), (.iconst (1), 0, 0), (.if_icmp .lt 0, 2, 0), (.goto_w 0, 1, 0)]),
  (5, [(.iload 3, 0, 0), (.iconst (8), 0, 0), (.if_icmp .le 0, 3, 0), (.goto_w 0, 2, 0)]),
  (11, [(.iconst (-1), 0, 0), (.ireturn, 0, 0)]),
  (13, [(.aload 0, 0, 0), (.getfield 0, 10, 2), (.lload 1, 0, 0), (.iload 3, 0, 0), (.invokevirtual 0, 110, 0), (.ireturn, 0, 0)])]
def zB_FN_form : List (Nat × List zEnt) := [(0, [(.aload 0, 0, 0), (.getfield 0, 10, 2), (.aload 0, 0, 0), (.getfield 0, 10, 0), (.getfield 0, 5, 1), (.invokevirtual 0, 112, 0), (.istore 1, 0, 0), (.iload 1, 0, 0), (.ifCond .eq 0, 2, 0), (.goto_w 0, 1, 0)]),
  (19, [(.iload 1, 0, 0), (.ireturn, 0, 0)]),
  (21, [(.aload 0, 0, 0), (.getfield 0, 10, 1), (.aload 0, 0, 0), (.getfield 0, 10, 2), (.getfield 0, 9, 1), (.invokevirtual 0, 17, 0), (.aload 0, 0, 0), (.getfield 0, 10, 1), (.getfield 0, 1, 0), (.ireturn, 0, 0)])]
def zB_FN_holds : List (Nat × List zEnt) := [(0, [(.aload 0, 0, 0), (.getfield 0, 10, 3), (.invokevirtual 0, 36, 0), (.aload 0, 0, 0), (.getfield 0, 10, 3), (.invokevirtual 0, 35, 0), (.ireturn, 0, 0)])]
def zB_FN_part : List (Nat × List zEnt) := [(0, [(.iload 1, 0, 0), (.ifCond .lt 0, 2, 0), (.goto_w 0, 1, 0)]),
  (4, [(.iload 1, 0, 0), (.aload 0, 0, 0), (.getfield 0, 10, 1), (.getfield 0, 1, 0), (.if_icmp .lt 0, 3, 0), (.goto_w 0, 2, 0)]),
  (15, [(.iconst (-1), 0, 0), (.ireturn, 0, 0)]),
  (17, [(.aload 0, 0, 0), (.getfield 0, 10, 3), (.invokevirtual 0, 36, 0), (.aload 0, 0, 0), (.getfield 0, 10, 3), (.getfield 0, 3, 3), (.iload 1, 0, 0), (.invokestatic 0, 159, 0), (.ireturn, 0, 0)])]
def zB_FN_force : List (Nat × List zEnt) := [(0, [(.aload 0, 0, 0), (.getfield 0, 10, 0), (.iload 1, 0, 0), (.invokevirtual 0, 59, 0), (.ifCond .eq 0, 3, 0), (.goto_w 0, 1, 0)]),
  (11, [(.aload 0, 0, 0), (.getfield 0, 10, 0), (.iload 2, 0, 0), (.invokevirtual 0, 61, 0), (.ifCond .eq 0, 3, 0), (.goto_w 0, 2, 0)]),
  (22, [(.aload 0, 0, 0), (.getfield 0, 10, 0), (.iload 3, 0, 0), (.invokevirtual 0, 62, 0), (.ifCond .ne 0, 4, 0), (.goto_w 0, 3, 0)]),
  (33, [(.iconst (-1), 0, 0), (.ireturn, 0, 0)]),
  (35, [(.aload 0, 0, 0), (.getfield 0, 10, 0), (.iload 1, 0, 0), (.iload 2, 0, 0), (.iload 3, 0, 0), (.invokevirtual 0, 76, 0), (.ifCond .lt 0, 6, 0), (.goto_w 0, 5, 0)]),
  (48, [(.iconst (1), 0, 0), (.goto 0, 7, 0)]),
  (52, [(.iconst (0), 0, 0), (.goto_w 0, 7, 0)]),
  (53, [(.ireturn, 0, 0)])]
def zB_FN_round : List (Nat × List zEnt) := [(0, [(.aload 0, 0, 0), (.getfield 0, 10, 0), (.iload 1, 0, 0), (.invokevirtual 0, 59, 0), (.ifCond .ne 0, 2, 0), (.goto_w 0, 1, 0)]),
  (11, [(.iconst (-1), 0, 0), (.ireturn, 0, 0)]),
  (13, [(.aload 0, 0, 0), (.getfield 0, 10, 1), (.invokevirtual 0, 24, 0), (.ifCond .ne 0, 4, 0), (.goto_w 0, 3, 0)]),
  (23, [(.iconst (-2), 0, 0), (.ireturn, 0, 0)]),
  (26, [(.aload 0, 0, 0), (.getfield 0, 10, 3), (.invokevirtual 0, 36, 0), (.aload 0, 0, 0), (.getfield 0, 10, 3), (.invokevirtual 0, 35, 0), (.iload 1, 0, 0), (.invokestatic 0, 162, 0), (.ifCond .eq 0, 6, 0), (.goto_w 0, 5, 0)]),
  (47, [(.aload 0, 0, 0), (.getfield 0, 10, 3), (.getfield 0, 3, 4), (.iload 1, 0, 0), (.invokestatic 0, 159, 0), (.goto 0, 7, 0)]),
  (61, [(.iconst (-4), 0, 0), (.goto_w 0, 7, 0)]),
  (63, [(.ireturn, 0, 0)])]
def zB_FN_plan : List (Nat × List zEnt) := [(0, [(.aload 0, 0, 0), (.getfield 0, 10, 0), (.iload 1, 0, 0), (.invokevirtual 0, 59, 0), (.ifCond .ne 0, 2, 0), (.goto_w 0, 1, 0)]),
  (11, [(.iconst (-1), 0, 0), (.ireturn, 0, 0)]),
  (13, [(.aload 0, 0, 0), (.getfield 0, 10, 1), (.invokevirtual 0, 23, 0), (.ifCond .ne 0, 4, 0), (.goto_w 0, 3, 0)]),
  (23, [(.iconst (-2), 0, 0), (.ireturn, 0, 0)]),
  (26, [(.aload 0, 0, 0), (.getfield 0, 10, 3), (.invokevirtual 0, 36, 0), (.aload 0, 0, 0), (.getfield 0, 10, 4), (.iload 1, 0, 0), (.invokevirtual 0, 82, 0), (.ireturn, 0, 0)])]
def zB_FN_answer : List (Nat × List zEnt) := [(0, [(.aload 0, 0, 0), (.getfield 0, 10, 0), (.iload 1, 0, 0), (.invokevirtual 0, 59, 0), (.ifCond .ne 0, 2, 0), (.goto_w 0, 1, 0)]),
  (11, [(.iconst (-1), 0, 0), (.ireturn, 0, 0)]),
  (13, [(.aload 0, 0, 0), (.getfield 0, 10, 1), (.invokevirtual 0, 23, 0), (.ifCond .ne 0, 4, 0), (.goto_w 0, 3, 0)]),
  (23, [(.iconst (-2), 0, 0), (.ireturn, 0, 0)]),
  (26, [(.iload 2, 0, 0), (.ifCond .lt 0, 6, 0), (.goto_w 0, 5, 0)]),
  (30, [(.iload 2, 0, 0), (.aload 0, 0, 0), (.getfield 0, 10, 0), (.iload 1, 0, 0), (.aload 0, 0, 0), (.getfield 0, 10, 1), (.iconst (0), 0, 0), (.invokevirtual 0, 21, 0), (.invokevirtual 0, 74, 0), (.if_icmp .lt 0, 7, 0), (.goto_w 0, 6, 0)]),
  (50, [(.iconst (-1), 0, 0), (.ireturn, 0, 0)]),
  (52, [(.aload 0, 0, 0), (.getfield 0, 10, 3), (.invokevirtual 0, 36, 0), (.aload 0, 0, 0), (.getfield 0, 10, 4), (.iload 1, 0, 0), (.iload 2, 0, 0), (.invokevirtual 0, 84, 0), (.ireturn, 0, 0)])]
def zB_FN_toll : List (Nat × List zEnt) := [(0, [(.aload 0, 0, 0), (.getfield 0, 10, 0), (.iload 1, 0, 0), (.invokevirtual 0, 59, 0), (.ifCond .ne 0, 2, 0), (.goto_w 0, 1, 0)]),
  (11, [(.iconst (-1), 0, 0), (.ireturn, 0, 0)]),
  (13, [(.aload 0, 0, 0), (.getfield 0, 10, 1), (.invokevirtual 0, 25, 0), (.ifCond .ne 0, 4, 0), (.goto_w 0, 3, 0)]),
  (23, [(.iconst (-2), 0, 0), (.ireturn, 0, 0)]),
  (26, [(.aload 0, 0, 0), (.getfield 0, 10, 3), (.invokevirtual 0, 36, 0), (.aload 0, 0, 0), (.getfield 0, 10, 3), (.invokevirtual 0, 35, 0), (.iload 1, 0, 0), (.invokestatic 0, 162, 0), (.ifCond .eq 0, 6, 0), (.goto_w 0, 5, 0)]),
  (47, [(.aload 0, 0, 0), (.getfield 0, 10, 4), (.iload 1, 0, 0), (.invokevirtual 0, 85, 0), (.goto 0, 7, 0)]),
  (58, [(.iconst (-4), 0, 0), (.goto_w 0, 7, 0)]),
  (60, [(.ireturn, 0, 0)])]
def zB_FN_walk : List (Nat × List zEnt) := [(0, [(.aload 0, 0, 0), (.getfield 0, 10, 0), (.iload 1, 0, 0), (.invokevirtual 0, 59, 0), (.ifCond .eq 0, 4, 0), (.goto_w 0, 1, 0)]),
  (11, [(.aload 0, 0, 0), (.getfield 0, 10, 8), (.iload 2, 0, 0), (.iload 3, 0, 0), (.invokevirtual 0, 93, 0), (.ifCond .eq 0, 4, 0), (.goto_w 0, 2, 0)]),
  (23, [(.iload 5, 0, 0), (.ifCond .lt 0, 4, 0), (.goto_w 0, 3, 0)]),
  (28, [(.iload 5, 0, 0), (.iconst (40), 0, 0), (.if_icmp .le 0, 5, 0), (.goto_w 0, 4, 0)]),
  (35, [(.iconst (-1), 0, 0), (.ireturn, 0, 0)]),
  (37, [(.aload 0, 0, 0), (.getfield 0, 10, 8), (.iload 2, 0, 0), (.iload 3, 0, 0), (.iload 4, 0, 0), (.iload 5, 0, 0), (.invokevirtual 0, 96, 0), (.istore 6, 0, 0), (.iload 6, 0, 0), (.ifCond .eq 0, 7, 0), (.goto_w 0, 6, 0)]),
  (57, [(.iload 6, 0, 0), (.ireturn, 0, 0)]),
  (60, [(.aload 0, 0, 0), (.getfield 0, 10, 1), (.invokevirtual 0, 23, 0), (.ifCond .eq 0, 9, 0), (.goto_w 0, 8, 0)]),
  (70, [(.aload 0, 0, 0), (.getfield 0, 10, 8), (.iload 2, 0, 0), (.iload 4, 0, 0), (.iload 5, 0, 0), (.invokevirtual 0, 101, 0), (.ifCond .eq 0, 10, 0), (.goto_w 0, 9, 0)]),
  (85, [(.iconst (-2), 0, 0), (.ireturn, 0, 0)]),
  (88, [(.aload 0, 0, 0), (.getfield 0, 10, 3), (.invokevirtual 0, 36, 0), (.aload 0, 0, 0), (.getfield 0, 10, 4), (.iload 1, 0, 0), (.invokevirtual 0, 89, 0), (.iconst (0), 0, 0), (.istore 7, 0, 0), (.goto_w 0, 11, 0)]),
  (106, [(.iload 7, 0, 0), (.iload 5, 0, 0), (.if_icmp .ge 0, 13, 0), (.goto_w 0, 12, 0)]),
  (113, [(.aload 0, 0, 0), (.getfield 0, 10, 4), (.aload 0, 0, 0), (.getfield 0, 10, 8), (.iload 2, 0, 0), (.iload 4, 0, 0), (.iload 7, 0, 0), (.iadd, 0, 0), (.invokevirtual 0, 99, 0), (.invokevirtual 0, 90, 0), (.iinc 7 (1), 0, 0), (.goto 0, 11, 0)]),
  (139, [(.aload 0, 0, 0), (.getfield 0, 10, 4), (.iload 5, 0, 0), (.invokevirtual 0, 91, 0), (.ireturn, 0, 0)])]
def zB_FN_walked : List (Nat × List zEnt) := [(0, [(.aload 0, 0, 0), (.getfield 0, 10, 4), (.iload 1, 0, 0), (.invokevirtual 0, 91, 0), (.ireturn, 0, 0)])]
def zB_FN_blind : List (Nat × List zEnt) := [(0, [(.aload 0, 0, 0), (.getfield 0, 10, 0), (.iload 1, 0, 0), (.invokevirtual 0, 59, 0), (.ifCond .ne 0, 2, 0), (.goto_w 0, 1, 0)]),
  (11, [(.iconst (-1), 0, 0), (.ireturn, 0, 0)]),
  (13, [(.aload 0, 0, 0), (.getfield 0, 10, 1), (.invokevirtual 0, 23, 0), (.ifCond .ne 0, 4, 0), (.goto_w 0, 3, 0)]),
  (23, [(.iconst (-2), 0, 0), (.ireturn, 0, 0)]),
  (26, [(.aload 0, 0, 0), (.getfield 0, 10, 3), (.invokevirtual 0, 36, 0), (.aload 0, 0, 0), (.iload 1, 0, 0), (.invokevirtual 0, 145, 0), (.istore 2, 0, 0), (.iload 2, 0, 0), (.iconst (-4), 0, 0), (.if_icmp .ne 0, 6, 0), (.goto_w 0, 5, 0)]),
  (45, [(.iconst (0), 0, 0), (.goto 0, 7, 0)]),
  (49, [(.iload 2, 0, 0), (.goto_w 0, 7, 0)]),
  (50, [(.ireturn, 0, 0)])]
def zB_FN_blindMove : List (Nat × List zEnt) := [(0, [(.aload 0, 0, 0), (.getfield 0, 10, 0), (.iload 1, 0, 0), (.invokevirtual 0, 59, 0), (.ifCond .eq 0, 4, 0), (.goto_w 0, 1, 0)]),
  (11, [(.aload 0, 0, 0), (.getfield 0, 10, 0), (.iload 2, 0, 0), (.invokevirtual 0, 60, 0), (.ifCond .eq 0, 4, 0), (.goto_w 0, 2, 0)]),
  (22, [(.iload 3, 0, 0), (.ifCond .lt 0, 4, 0), (.goto_w 0, 3, 0)]),
  (26, [(.iload 3, 0, 0), (.iconst (12), 0, 0), (.if_icmp .lt 0, 5, 0), (.goto_w 0, 4, 0)]),
  (32, [(.iconst (-1), 0, 0), (.ireturn, 0, 0)]),
  (34, [(.aload 0, 0, 0), (.getfield 0, 10, 1), (.invokevirtual 0, 23, 0), (.ifCond .ne 0, 7, 0), (.goto_w 0, 6, 0)]),
  (44, [(.iconst (-2), 0, 0), (.ireturn, 0, 0)]),
  (47, [(.aload 0, 0, 0), (.getfield 0, 10, 1), (.iconst (0), 0, 0), (.invokevirtual 0, 21, 0), (.iload 2, 0, 0), (.invokestatic 0, 162, 0), (.ifCond .eq 0, 9, 0), (.goto_w 0, 8, 0)]),
  (62, [(.aload 0, 0, 0), (.getfield 0, 10, 0), (.iload 2, 0, 0), (.iload 3, 0, 0), (.invokevirtual 0, 78, 0), (.ifCond .ne 0, 10, 0), (.goto_w 0, 9, 0)]),
  (74, [(.iconst (-1), 0, 0), (.ireturn, 0, 0)]),
  (76, [(.aload 0, 0, 0), (.getfield 0, 10, 3), (.invokevirtual 0, 36, 0), (.aload 0, 0, 0), (.iload 1, 0, 0), (.invokevirtual 0, 145, 0), (.istore 4, 0, 0), (.iload 4, 0, 0), (.iconst (1), 0, 0), (.if_icmp .ne 0, 12, 0), (.goto_w 0, 11, 0)]),
  (96, [(.aload 0, 0, 0), (.getfield 0, 10, 5), (.getfield 0, 0, 2), (.iload 2, 0, 0), (.iconst (12), 0, 0), (.imul, 0, 0), (.iload 3, 0, 0), (.iadd, 0, 0), (.invokestatic 0, 159, 0), (.goto 0, 13, 0)]),
  (115, [(.iload 4, 0, 0), (.goto_w 0, 13, 0)]),
  (117, [(.ireturn, 0, 0)])]
def zB_FN_findRow : List (Nat × List zEnt) := [(0, [(.aload 0, 0, 0), (.getfield 0, 10, 1), (.iconst (0), 0, 0), (.invokevirtual 0, 21, 0), (.istore 2, 0, 0), (.aload 0, 0, 0), (.getfield 0, 10, 5), (.iload 2, 0, 0), (.invokevirtual 0, 1, 0), (.iconst (5000), 0, 0), (.if_icmp .le 0, 2, 0), (.goto_w 0, 1, 0)]),
  (23, [(.iconst (-5), 0, 0), (.ireturn, 0, 0)]),
  (26, [(.aload 0, 0, 0), (.getfield 0, 10, 3), (.getfield 0, 3, 3), (.aload 0, 0, 0), (.getfield 0, 10, 1), (.iconst (0), 0, 0), (.invokevirtual 0, 19, 0), (.invokestatic 0, 159, 0), (.istore 3, 0, 0), (.aload 0, 0, 0), (.getfield 0, 10, 3), (.getfield 0, 3, 3), (.aload 0, 0, 0), (.getfield 0, 10, 1), (.iconst (0), 0, 0), (.invokevirtual 0, 20, 0), (.invokestatic 0, 159, 0), (.istore 4, 0, 0), (.aload 0, 0, 0), (.getfield 0, 10, 5), (.aload 0, 0, 0), (.getfield 0, 10, 1), (.iconst (0), 0, 0), (.invokevirtual 0, 18, 0), (.iload 3, 0, 0), (.iload 4, 0, 0), (.invokevirtual 0, 2, 0), (.aload 0, 0, 0), (.getfield 0, 10, 5), (.aload 0, 0, 0), (.getfield 0, 10, 5), (.iload 1, 0, 0), (.invokevirtual 0, 3, 0), (.invokevirtual 0, 4, 0), (.ifCond .eq 0, 4, 0), (.goto_w 0, 3, 0)]),
  (101, [(.iconst (1), 0, 0), (.goto 0, 5, 0)]),
  (105, [(.iconst (-4), 0, 0), (.goto_w 0, 5, 0)]),
  (107, [(.ireturn, 0, 0)])]
def zB_FN_choose : List (Nat × List zEnt) := [(0, [(.aload 0, 0, 0), (.getfield 0, 10, 0), (.iload 2, 0, 0), (.iload 1, 0, 0), (.iload 3, 0, 0), (.invokevirtual 0, 63, 0), (.ifCond .ne 0, 2, 0), (.goto_w 0, 1, 0)]),
  (13, [(.iconst (-1), 0, 0), (.ireturn, 0, 0)]),
  (15, [(.aload 0, 0, 0), (.getfield 0, 10, 0), (.getfield 0, 5, 4), (.iload 2, 0, 0), (.iconst (4), 0, 0), (.imul, 0, 0), (.iload 1, 0, 0), (.iadd, 0, 0), (.iload 3, 0, 0), (.invokestatic 0, 161, 0), (.ireturn, 0, 0)])]
def zB_FN_lot : List (Nat × List zEnt) := [(0, [(.iload 1, 0, 0), (.iconst (-1), 0, 0), (.if_icmp .eq 0, 3, 0), (.goto_w 0, 1, 0)]),
  (5, [(.aload 0, 0, 0), (.getfield 0, 10, 0), (.iload 1, 0, 0), (.invokevirtual 0, 60, 0), (.ifCond .ne 0, 3, 0), (.goto_w 0, 2, 0)]),
  (16, [(.iconst (-11), 0, 0), (.ireturn, 0, 0)]),
  (19, [(.aload 0, 0, 0), (.getfield 0, 10, 6), (.getfield 0, 4, 1), (.istore 2, 0, 0), (.aload 0, 0, 0), (.getfield 0, 10, 6), (.iload 1, 0, 0), (.putfield 0, 4, 1), (.iload 2, 0, 0), (.ireturn, 0, 0)])]
def zB_FN_chance : List (Nat × List zEnt) := [(0, [(.aload 0, 0, 0), (.getfield 0, 10, 0), (.iload 1, 0, 0), (.invokevirtual 0, 59, 0), (.ifCond .eq 0, 3, 0), (.goto_w 0, 1, 0)]),
  (11, [(.iload 2, 0, 0), (.ifCond .lt 0, 3, 0), (.goto_w 0, 2, 0)]),
  (15, [(.iload 2, 0, 0), (.iconst (1), 0, 0), (.if_icmp .le 0, 4, 0), (.goto_w 0, 3, 0)]),
  (20, [(.sipush (-1), 0, 0), (.lreturn, 0, 0)]),
  (24, [(.aload 0, 0, 0), (.getfield 0, 10, 3), (.invokevirtual 0, 36, 0), (.aload 0, 0, 0), (.getfield 0, 10, 6), (.iload 1, 0, 0), (.aload 0, 0, 0), (.getfield 0, 10, 3), (.invokevirtual 0, 35, 0), (.invokevirtual 0, 45, 0), (.iload 2, 0, 0), (.ifCond .ne 0, 6, 0), (.goto_w 0, 5, 0)]),
  (50, [(.aload 0, 0, 0), (.getfield 0, 10, 6), (.getfield 0, 4, 2), (.goto 0, 7, 0)]),
  (60, [(.aload 0, 0, 0), (.getfield 0, 10, 6), (.getfield 0, 4, 3), (.goto_w 0, 7, 0)]),
  (67, [(.lreturn, 0, 0)])]
def zB_FN_goal : List (Nat × List zEnt) := [(0, [(.aload 0, 0, 0), (.getfield 0, 10, 0), (.iload 1, 0, 0), (.invokevirtual 0, 60, 0), (.ifCond .eq 0, 2, 0), (.goto_w 0, 1, 0)]),
  (11, [(.aload 0, 0, 0), (.getfield 0, 10, 0), (.iload 2, 0, 0), (.invokevirtual 0, 62, 0), (.ifCond .ne 0, 3, 0), (.goto_w 0, 2, 0)]),
  (22, [(.iconst (-1), 0, 0), (.ireturn, 0, 0)]),
  (24, [(.aload 0, 0, 0), (.getfield 0, 10, 7), (.getfield 0, 2, 1), (.iload 1, 0, 0), (.iload 2, 0, 0), (.invokestatic 0, 161, 0), (.ireturn, 0, 0)])]
def zB_FN_content : List (Nat × List zEnt) := [(0, [(.aload 0, 0, 0), (.getfield 0, 10, 0), (.iload 1, 0, 0), (.invokevirtual 0, 59, 0), (.ifCond .ne 0, 2, 0), (.goto_w 0, 1, 0)]),
  (11, [(.iconst (-1), 0, 0), (.ireturn, 0, 0)]),
  (13, [(.aload 0, 0, 0), (.getfield 0, 10, 7), (.aload 0, 0, 0), (.getfield 0, 10, 7), (.aload 0, 0, 0), (.getfield 0, 10, 0), (.getfield 0, 5, 4), (.iload 1, 0, 0), (.invokevirtual 0, 28, 0), (.invokevirtual 0, 29, 0), (.ireturn, 0, 0)])]
def zB_FN_stable : List (Nat × List zEnt) := [(0, [(.aload 0, 0, 0), (.getfield 0, 10, 0), (.iload 1, 0, 0), (.invokevirtual 0, 59, 0), (.ifCond .ne 0, 2, 0), (.goto_w 0, 1, 0)]),
  (11, [(.iconst (-1), 0, 0), (.ireturn, 0, 0)]),
  (13, [(.aload 0, 0, 0), (.getfield 0, 10, 7), (.aload 0, 0, 0), (.getfield 0, 10, 0), (.getfield 0, 5, 4), (.iload 1, 0, 0), (.invokevirtual 0, 30, 0), (.ifCond .eq 0, 4, 0), (.goto_w 0, 3, 0)]),
  (31, [(.iconst (1), 0, 0), (.goto 0, 5, 0)]),
  (35, [(.iconst (0), 0, 0), (.goto_w 0, 5, 0)]),
  (36, [(.ireturn, 0, 0)])]
def zB_FN_settle : List (Nat × List zEnt) := [(0, [(.aload 0, 0, 0), (.getfield 0, 10, 0), (.iload 1, 0, 0), (.invokevirtual 0, 59, 0), (.ifCond .ne 0, 2, 0), (.goto_w 0, 1, 0)]),
  (11, [(.iconst (-1), 0, 0), (.ireturn, 0, 0)]),
  (13, [(.aload 0, 0, 0), (.getfield 0, 10, 0), (.invokevirtual 0, 80, 0), (.iconst (20000), 0, 0), (.if_icmp .le 0, 4, 0), (.goto_w 0, 3, 0)]),
  (26, [(.iconst (-5), 0, 0), (.ireturn, 0, 0)]),
  (29, [(.aload 0, 0, 0), (.getfield 0, 10, 7), (.iload 1, 0, 0), (.invokevirtual 0, 32, 0), (.ifCond .ne 0, 6, 0), (.goto_w 0, 5, 0)]),
  (40, [(.iconst (-4), 0, 0), (.ireturn, 0, 0)]),
  (43, [(.aload 0, 0, 0), (.getfield 0, 10, 7), (.getfield 0, 2, 2), (.iconst (0), 0, 0), (.aload 0, 0, 0), (.getfield 0, 10, 0), (.getfield 0, 5, 4), (.iconst (0), 0, 0), (.iconst (48), 0, 0), (.swap, 0, 0), (.aload 0, 0, 0), (.getfield 0, 10, 7), (.aload 0, 0, 0), (.getfield 0, 10, 7), (.aload 0, 0, 0), (.getfield 0, 10, 0), (.getfield 0, 5, 4), (.iload 1, 0, 0), (.invokevirtual 0, 28, 0), (.invokevirtual 0, 29, 0), (.ireturn, 0, 0)])]
def zB_FN_helpers : List (Nat × List zEnt) := [(0, [(.aload 0, 0, 0), (.getfield 0, 10, 0), (.iload 1, 0, 0), (.invokevirtual 0, 59, 0), (.ifCond .ne 0, 2, 0), (.goto_w 0, 1, 0)]),
  (11, [(.iconst (-1), 0, 0), (.ireturn, 0, 0)]),
  (13, [(.aload 0, 0, 0), (.getfield 0, 10, 1), (.invokevirtual 0, 23, 0), (.ifCond .ne 0, 4, 0), (.goto_w 0, 3, 0)]),
  (23, [(.iconst (-2), 0, 0), (.ireturn, 0, 0)]),
  (26, [(.aload 0, 0, 0), (.getfield 0, 10, 3), (.invokevirtual 0, 36, 0), (.aload 0, 0, 0), (.getfield 0, 10, 3), (.iload 1, 0, 0), (.invokevirtual 0, 43, 0), (.ireturn, 0, 0)])]
def zB_FN_count : List (Nat × List zEnt) := [(0, [(.iload 1, 0, 0), (.tableswitch 5 (0) (3) #[1, 2, 3, 4], 0, 0)]),
  (32, [(.aload 0, 0, 0), (.getfield 0, 10, 0), (.getfield 0, 5, 0), (.ireturn, 0, 0)]),
  (40, [(.aload 0, 0, 0), (.getfield 0, 10, 0), (.getfield 0, 5, 1), (.ireturn, 0, 0)]),
  (48, [(.aload 0, 0, 0), (.getfield 0, 10, 1), (.getfield 0, 1, 0), (.ireturn, 0, 0)]),
  (56, [(.aload 0, 0, 0), (.getfield 0, 10, 0), (.invokevirtual 0, 80, 0), (.ireturn, 0, 0)]),
  (64, [(.iconst (-1), 0, 0), (.ireturn, 0, 0)])]
def zB_FN_sheet : List (Nat × List zEnt) := [(0, [(.aload 0, 0, 0), (.getfield 0, 10, 8), (.iload 1, 0, 0), (.iload 2, 0, 0), (.invokevirtual 0, 93, 0), (.ifCond .eq 0, 2, 0), (.goto_w 0, 1, 0)]),
  (12, [(.iload 3, 0, 0), (.iconst (81), 0, 0), (.if_icmp .le 0, 3, 0), (.goto_w 0, 2, 0)]),
  (18, [(.iconst (-1), 0, 0), (.ireturn, 0, 0)]),
  (20, [(.iload 3, 0, 0), (.ifCond .ge 0, 5, 0), (.goto_w 0, 4, 0)]),
  (24, [(.iconst (-14), 0, 0), (.ireturn, 0, 0)]),
  (27, [(.aload 0, 0, 0), (.getfield 0, 10, 8), (.iload 1, 0, 0), (.iload 2, 0, 0), (.iload 3, 0, 0), (.invokevirtual 0, 97, 0), (.iload 3, 0, 0), (.ireturn, 0, 0)])]
def zB_FN_drop : List (Nat × List zEnt) := [(0, [(.aload 0, 0, 0), (.getfield 0, 10, 8), (.iload 1, 0, 0), (.iconst (0), 0, 0), (.invokevirtual 0, 93, 0), (.ifCond .ne 0, 2, 0), (.goto_w 0, 1, 0)]),
  (12, [(.iconst (-1), 0, 0), (.ireturn, 0, 0)]),
  (14, [(.aload 0, 0, 0), (.getfield 0, 10, 8), (.iload 1, 0, 0), (.invokevirtual 0, 94, 0), (.ifCond .eq 0, 4, 0), (.goto_w 0, 3, 0)]),
  (25, [(.iconst (-11), 0, 0), (.ireturn, 0, 0)]),
  (28, [(.aload 0, 0, 0), (.getfield 0, 10, 8), (.iload 1, 0, 0), (.invokevirtual 0, 98, 0), (.ireturn, 0, 0)])]
def zB_FN_item : List (Nat × List zEnt) := [(0, [(.aload 0, 0, 0), (.getfield 0, 10, 8), (.iload 1, 0, 0), (.iload 2, 0, 0), (.invokevirtual 0, 93, 0), (.ifCond .ne 0, 2, 0), (.goto_w 0, 1, 0)]),
  (12, [(.iconst (-1), 0, 0), (.ireturn, 0, 0)]),
  (14, [(.aload 0, 0, 0), (.getfield 0, 10, 8), (.iload 1, 0, 0), (.iload 2, 0, 0), (.iload 3, 0, 0), (.iconst (1), 0, 0), (.invokevirtual 0, 96, 0), (.istore 5, 0, 0), (.iload 5, 0, 0), (.ifCond .eq 0, 4, 0), (.goto_w 0, 3, 0)]),
  (32, [(.iload 5, 0, 0), (.ireturn, 0, 0)]),
  (35, [(.aload 0, 0, 0), (.getfield 0, 10, 8), (.iload 1, 0, 0), (.iload 3, 0, 0), (.iload 4, 0, 0), (.invokevirtual 0, 100, 0), (.iconst (1), 0, 0), (.ireturn, 0, 0)])]
def zB_FN_copy : List (Nat × List zEnt) := [(0, [(.aload 0, 0, 0), (.getfield 0, 10, 8), (.iload 1, 0, 0), (.iconst (0), 0, 0), (.invokevirtual 0, 93, 0), (.ifCond .eq 0, 2, 0), (.goto_w 0, 1, 0)]),
  (12, [(.aload 0, 0, 0), (.getfield 0, 10, 8), (.iload 3, 0, 0), (.iconst (0), 0, 0), (.invokevirtual 0, 93, 0), (.ifCond .ne 0, 3, 0), (.goto_w 0, 2, 0)]),
  (24, [(.iconst (-1), 0, 0), (.ireturn, 0, 0)]),
  (26, [(.aload 0, 0, 0), (.getfield 0, 10, 8), (.iload 1, 0, 0), (.invokevirtual 0, 94, 0), (.ifCond .ne 0, 5, 0), (.goto_w 0, 4, 0)]),
  (37, [(.aload 0, 0, 0), (.getfield 0, 10, 8), (.iload 3, 0, 0), (.invokevirtual 0, 94, 0), (.ifCond .eq 0, 6, 0), (.goto_w 0, 5, 0)]),
  (48, [(.iconst (-11), 0, 0), (.ireturn, 0, 0)]),
  (51, [(.aload 0, 0, 0), (.getfield 0, 10, 8), (.getfield 0, 7, 0), (.iload 1, 0, 0), (.invokestatic 0, 159, 0), (.aload 0, 0, 0), (.getfield 0, 10, 8), (.getfield 0, 7, 0), (.iload 3, 0, 0), (.invokestatic 0, 159, 0), (.if_icmp .eq 0, 8, 0), (.goto_w 0, 7, 0)]),
  (76, [(.iconst (-12), 0, 0), (.ireturn, 0, 0)]),
  (79, [(.aload 0, 0, 0), (.getfield 0, 10, 8), (.iload 1, 0, 0), (.iload 2, 0, 0), (.iload 5, 0, 0), (.invokevirtual 0, 95, 0), (.ifCond .eq 0, 10, 0), (.goto_w 0, 9, 0)]),
  (93, [(.aload 0, 0, 0), (.getfield 0, 10, 8), (.iload 3, 0, 0), (.iload 4, 0, 0), (.iload 5, 0, 0), (.invokevirtual 0, 95, 0), (.ifCond .ne 0, 11, 0), (.goto_w 0, 10, 0)]),
  (108, [(.iconst (-13), 0, 0), (.ireturn, 0, 0)]),
  (111, [(.aload 0, 0, 0), (.getfield 0, 10, 8), (.getfield 0, 7, 2), (.iload 1, 0, 0), (.iconst (81), 0, 0), (.imul, 0, 0), (.iload 2, 0, 0), (.iadd, 0, 0), (.aload 0, 0, 0), (.getfield 0, 10, 8), (.getfield 0, 7, 2), (.iload 3, 0, 0), (.iconst (81), 0, 0), (.imul, 0, 0), (.iload 4, 0, 0), (.iadd, 0, 0), (.iload 5, 0, 0), (.swap, 0, 0), (.iload 5, 0, 0), (.ireturn, 0, 0)])]
def zB_FN_at : List (Nat × List zEnt) := [(0, [(.iload 1, 0, 0), (.ifCond .lt 0, 3, 0), (.goto_w 0, 1, 0)]),
  (4, [(.iload 1, 0, 0), (.aload 0, 0, 0), (.arraylength, 0, 0), (.if_icmp .ge 0, 3, 0), (.goto_w 0, 2, 0)]),
  (10, [(.aload 0, 0, 0), (.iload 1, 0, 0), (.iaload, 0, 0), (.goto 0, 4, 0)]),
  (16, [(.iconst (0), 0, 0), (.goto_w 0, 4, 0)]),
  (17, [(.ireturn, 0, 0)])]
def zB_FN_put : List (Nat × List zEnt) := [(0, [(.iload 1, 0, 0), (.ifCond .lt 0, 3, 0), (.goto_w 0, 1, 0)]),
  (4, [(.iload 1, 0, 0), (.aload 0, 0, 0), (.arraylength, 0, 0), (.if_icmp .ge 0, 3, 0), (.goto_w 0, 2, 0)]),
  (10, [(.aload 0, 0, 0), (.iload 1, 0, 0), (.iload 2, 0, 0), (.iastore, 0, 0), (.goto_w 0, 3, 0)]),
  (14, [(.return_, 0, 0)])]
def zB_FN_swap : List (Nat × List zEnt) := [(0, [(.aload 0, 0, 0), (.iload 1, 0, 0), (.invokestatic 0, 159, 0), (.istore 3, 0, 0), (.aload 0, 0, 0), (.iload 1, 0, 0), (.iload 2, 0, 0), (.invokestatic 0, 160, 0), (.iload 3, 0, 0), (.ireturn, 0, 0)])]
def zB_FN_has : List (Nat × List zEnt) := [(0, [(.iload 0, 0, 0), (.iload 1, 0, 0), (.ishr, 0, 0), (.iconst (1), 0, 0), (.iand, 0, 0), (.ifCond .eq 0, 2, 0), (.goto_w 0, 1, 0)]),
  (8, [(.iconst (1), 0, 0), (.goto 0, 3, 0)]),
  (12, [(.iconst (0), 0, 0), (.goto_w 0, 3, 0)]),
  (13, [(.ireturn, 0, 0)])]
def zB_FN_lowest : List (Nat × List zEnt) := [(0, [(.iload 0, 0, 0), (.iconst (1), 0, 0), (.isub, 0, 0), (.iload 0, 0, 0), (.iconst (-1), 0, 0), (.ixor, 0, 0), (.iand, 0, 0), (.invokestatic 0, 262, 0), (.ireturn, 0, 0)])]
def zB_FN_over : List (Nat × List zEnt) := [(0, [(.iload 1, 0, 0), (.iconst (1), 0, 0), (.if_icmp .ge 0, 2, 0), (.goto_w 0, 1, 0)]),
  (5, [(.iconst (0), 0, 0), (.goto 0, 3, 0)]),
  (9, [(.iload 0, 0, 0), (.iload 1, 0, 0), (.idiv, 0, 0), (.goto_w 0, 3, 0)]),
  (12, [(.ireturn, 0, 0)])]
def zB_FN_rest : List (Nat × List zEnt) := [(0, [(.iload 1, 0, 0), (.iconst (1), 0, 0), (.if_icmp .ge 0, 2, 0), (.goto_w 0, 1, 0)]),
  (5, [(.iconst (0), 0, 0), (.goto 0, 3, 0)]),
  (9, [(.iload 0, 0, 0), (.iload 1, 0, 0), (.irem, 0, 0), (.goto_w 0, 3, 0)]),
  (12, [(.ireturn, 0, 0)])]
def zB_Md_in : List (Nat × List zEnt) := [(0, [(.lload 0, 0, 0), (.lload 2, 0, 0), (.lcmp, 0, 0), (.ifCond .lt 0, 3, 0), (.goto_w 0, 1, 0)]),
  (6, [(.lload 0, 0, 0), (.lload 4, 0, 0), (.lcmp, 0, 0), (.ifCond .gt 0, 3, 0), (.goto_w 0, 2, 0)]),
  (13, [(.iconst (1), 0, 0), (.goto 0, 4, 0)]),
  (17, [(.iconst (0), 0, 0), (.goto_w 0, 4, 0)]),
  (18, [(.ireturn, 0, 0)])]
def zB_Md_init : List (Nat × List zEnt) := [(0, [(.aload 0, 0, 0), (.nop, 0, 0), (.aload 0, 0, 0), (.iconst (48), 0, 0), (.newarray .int, 0, 0), (.putfield 0, 11, 2), (.aload 0, 0, 0), (.iconst (972), 0, 0), (.newarray .int, 0, 0), (.putfield 0, 11, 3), (.aload 0, 0, 0), (.iconst (144), 0, 0), (.newarray .int, 0, 0), (.putfield 0, 11, 4), (.aload 0, 0, 0), (.iconst (12), 0, 0), (.newarray .int, 0, 0), (.putfield 0, 11, 5), (.aload 0, 0, 0), (.iconst (48), 0, 0), (.newarray .int, 0, 0), (.putfield 0, 11, 6), (.aload 0, 0, 0), (.iconst (48), 0, 0), (.newarray .int, 0, 0), (.putfield 0, 11, 7), (.aload 0, 0, 0), (.iconst (4), 0, 0), (.newarray .int, 0, 0), (.putfield 0, 11, 8), (.aload 0, 0, 0), (.iconst (24), 0, 0), (.newarray .int, 0, 0), (.putfield 0, 11, 11), (.aload 0, 0, 0), (.iconst (24), 0, 0), (.newarray .int, 0, 0), (.putfield 0, 11, 12), (.aload 0, 0, 0), (.iconst (24), 0, 0), (.newarray .int, 0, 0), (.putfield 0, 11, 13), (.aload 0, 0, 0), (.iconst (24), 0, 0), (.newarray .int, 0, 0), (.putfield 0, 11, 14), (.aload 0, 0, 0), (.iconst (24), 0, 0), (.newarray .int, 0, 0), (.putfield 0, 11, 16), (.aload 0, 0, 0), (.iconst (24), 0, 0), (.newarray .int, 0, 0), (.putfield 0, 11, 17), (.aload 0, 0, 0), (.iconst (24), 0, 0), (.newarray .int, 0, 0), (.putfield 0, 11, 18), (.aload 0, 0, 0), (.iconst (24), 0, 0), (.newarray .int, 0, 0), (.putfield 0, 11, 19), (.aload 0, 0, 0), (.iconst (24), 0, 0), (.newarray .int, 0, 0), (.putfield 0, 11, 20), (.aload 0, 0, 0), (.iconst (24), 0, 0), (.newarray .boolean, 0, 0), (.putfield 0, 11, 21), (.aload 0, 0, 0), (.iconst (100), 0, 0), (.newarray .int, 0, 0), (.putfield 0, 11, 23), (.aload 0, 0, 0), (.iconst (24), 0, 0), (.newarray .int, 0, 0), (.putfield 0, 11, 27), (.aload 0, 0, 0), (.iconst (12), 0, 0), (.newarray .int, 0, 0), (.putfield 0, 11, 28), (.aload 0, 0, 0), (.iconst (12), 0, 0), (.newarray .int, 0, 0), (.putfield 0, 11, 29), (.aload 0, 0, 0), (.iconst (12), 0, 0), (.newarray .int, 0, 0), (.putfield 0, 11, 30), (.aload 0, 0, 0), (.iconst (41), 0, 0), (.newarray .int, 0, 0), (.putfield 0, 11, 32), (.aload 0, 0, 0), (.iconst (4), 0, 0), (.newarray .int, 0, 0), (.putfield 0, 11, 33), (.aload 0, 0, 0), (.iconst (4), 0, 0), (.newarray .int, 0, 0), (.putfield 0, 11, 34), (.aload 0, 0, 0), (.iconst (324), 0, 0), (.newarray .int, 0, 0), (.putfield 0, 11, 35), (.aload 0, 0, 0), (.iconst (81), 0, 0), (.newarray .int, 0, 0), (.putfield 0, 11, 36), (.aload 0, 0, 0), (.iconst (48), 0, 0), (.newarray .int, 0, 0), (.putfield 0, 11, 37), (.aload 0, 0, 0), (.iconst (48), 0, 0), (.newarray .int, 0, 0), (.putfield 0, 11, 38), (.aload 0, 0, 0), (.iconst (48), 0, 0), (.newarray .int, 0, 0), (.putfield 0, 11, 39), (.aload 0, 0, 0), (.iconst (48), 0, 0), (.newarray .int, 0, 0), (.putfield 0, 11, 40), (.aload 0, 0, 0), (.iconst (12), 0, 0), (.newarray .int, 0, 0), (.putfield 0, 11, 42), (.aload 0, 0, 0), (.iconst (156), 0, 0), (.newarray .long, 0, 0), (.putfield 0, 11, 43), (.aload 0, 0, 0), (.iconst (48), 0, 0), (.newarray .int, 0, 0), (.putfield 0, 11, 46), (.iconst (0), 0, 0), (.istore 1, 0, 0), (.goto_w 0, 1, 0)]),
  (279, [(.iload 1, 0, 0), (.iconst (4), 0, 0), (.if_icmp .ge 0, 3, 0), (.goto_w 0, 2, 0)]),
  (284, [(.aload 0, 0, 0), (.getfield 0, 11, 33), (.iload 1, 0, 0), (.iconst (-1), 0, 0), (.iastore, 0, 0), (.iinc 1 (1), 0, 0), (.goto 0, 1, 0)]),
  (297, [(.aload 0, 0, 0), (.iconst (4), 0, 0), (.iconst (2), 0, 0), (.invokevirtual 0, 168, 0), (.return_, 0, 0)])]
def zB_Md_begins : List (Nat × List zEnt) := [(0, [(.aload 0, 0, 0), (.iload 1, 0, 0), (.putfield 0, 11, 0), (.aload 0, 0, 0), (.iload 2, 0, 0), (.putfield 0, 11, 1), (.aload 0, 0, 0), (.iconst (-1), 0, 0), (.putfield 0, 11, 9), (.iconst (0), 0, 0), (.istore 3, 0, 0), (.goto_w 0, 1, 0)]),
  (17, [(.iload 3, 0, 0), (.iconst (48), 0, 0), (.if_icmp .ge 0, 3, 0), (.goto_w 0, 2, 0)]),
  (23, [(.aload 0, 0, 0), (.getfield 0, 11, 2), (.iload 3, 0, 0), (.iconst (1), 0, 0), (.iastore, 0, 0), (.aload 0, 0, 0), (.getfield 0, 11, 6), (.iload 3, 0, 0), (.iload 3, 0, 0), (.iconst (4), 0, 0), (.idiv, 0, 0), (.iastore, 0, 0), (.aload 0, 0, 0), (.getfield 0, 11, 7), (.iload 3, 0, 0), (.iconst (0), 0, 0), (.iastore, 0, 0), (.iinc 3 (1), 0, 0), (.goto 0, 1, 0)]),
  (52, [(.iconst (0), 0, 0), (.istore 3, 0, 0), (.goto_w 0, 4, 0)]),
  (54, [(.iload 3, 0, 0), (.iconst (972), 0, 0), (.if_icmp .ge 0, 6, 0), (.goto_w 0, 5, 0)]),
  (61, [(.aload 0, 0, 0), (.getfield 0, 11, 3), (.iload 3, 0, 0), (.iload 3, 0, 0), (.iconst (81), 0, 0), (.idiv, 0, 0), (.iastore, 0, 0), (.iinc 3 (1), 0, 0), (.goto 0, 4, 0)]),
  (77, [(.iconst (0), 0, 0), (.istore 3, 0, 0), (.goto_w 0, 7, 0)]),
  (79, [(.iload 3, 0, 0), (.iconst (144), 0, 0), (.if_icmp .ge 0, 9, 0), (.goto_w 0, 8, 0)]),
  (86, [(.aload 0, 0, 0), (.getfield 0, 11, 4), (.iload 3, 0, 0), (.iconst (0), 0, 0), (.iastore, 0, 0), (.iinc 3 (1), 0, 0), (.goto 0, 7, 0)]),
  (99, [(.iconst (0), 0, 0), (.istore 3, 0, 0), (.goto_w 0, 10, 0)]),
  (101, [(.iload 3, 0, 0), (.iconst (12), 0, 0), (.if_icmp .ge 0, 12, 0), (.goto_w 0, 11, 0)]),
  (107, [(.aload 0, 0, 0), (.getfield 0, 11, 5), (.iload 3, 0, 0), (.iconst (0), 0, 0), (.iastore, 0, 0), (.iinc 3 (1), 0, 0), (.goto 0, 10, 0)]),
  (120, [(.iconst (0), 0, 0), (.istore 3, 0, 0), (.goto_w 0, 13, 0)]),
  (122, [(.iload 3, 0, 0), (.iconst (4), 0, 0), (.if_icmp .ge 0, 15, 0), (.goto_w 0, 14, 0)]),
  (127, [(.aload 0, 0, 0), (.getfield 0, 11, 8), (.iload 3, 0, 0), (.iconst (0), 0, 0), (.iastore, 0, 0), (.iinc 3 (1), 0, 0), (.goto 0, 13, 0)]),
  (140, [(.aload 0, 0, 0), (.iconst (1), 0, 0), (.putfield 0, 11, 10), (.aload 0, 0, 0), (.getfield 0, 11, 11), (.iconst (0), 0, 0), (.iconst (0), 0, 0), (.iastore, 0, 0), (.aload 0, 0, 0), (.iconst (0), 0, 0), (.putfield 0, 11, 31), (.return_, 0, 0)])]
def zB_Md_net : List (Nat × List zEnt) := [(0, [(.iload 1, 0, 0), (.i2l, 0, 0), (.sipush (2), 0, 0), (.sipush (12), 0, 0), (.invokestatic 0, 166, 0), (.ifCond .eq 0, 2, 0), (.goto_w 0, 1, 0)]),
  (14, [(.iload 2, 0, 0), (.i2l, 0, 0), (.sipush (1), 0, 0), (.sipush (4), 0, 0), (.invokestatic 0, 166, 0), (.ifCond .ne 0, 3, 0), (.goto_w 0, 2, 0)]),
  (26, [(.iconst (-1), 0, 0), (.ireturn, 0, 0)]),
  (28, [(.aload 0, 0, 0), (.iload 1, 0, 0), (.iload 2, 0, 0), (.invokevirtual 0, 168, 0), (.iconst (1), 0, 0), (.ireturn, 0, 0)])]
def zB_Md_isState : List (Nat × List zEnt) := [(0, [(.iload 1, 0, 0), (.i2l, 0, 0), (.sipush (0), 0, 0), (.aload 0, 0, 0), (.getfield 0, 11, 0), (.iconst (1), 0, 0), (.isub, 0, 0), (.i2l, 0, 0), (.invokestatic 0, 166, 0), (.ireturn, 0, 0)])]
def zB_Md_isPlayer : List (Nat × List zEnt) := [(0, [(.iload 1, 0, 0), (.i2l, 0, 0), (.sipush (0), 0, 0), (.aload 0, 0, 0), (.getfield 0, 11, 1), (.iconst (1), 0, 0), (.isub, 0, 0), (.i2l, 0, 0), (.invokestatic 0, 166, 0), (.ireturn, 0, 0)])]
def zB_Md_isSet : List (Nat × List zEnt) := [(0, [(.iload 1, 0, 0), (.i2l, 0, 0), (.sipush (0), 0, 0), (.iconst (1), 0, 0), (.aload 0, 0, 0), (.getfield 0, 11, 0), (.ishl, 0, 0), (.iconst (1), 0, 0), (.isub, 0, 0), (.i2l, 0, 0), (.invokestatic 0, 166, 0), (.ireturn, 0, 0)])]
def zB_Md_isGroup : List (Nat × List zEnt) := [(0, [(.iload 1, 0, 0), (.i2l, 0, 0), (.sipush (0), 0, 0), (.iconst (1), 0, 0), (.aload 0, 0, 0), (.getfield 0, 11, 1), (.ishl, 0, 0), (.iconst (1), 0, 0), (.isub, 0, 0), (.i2l, 0, 0), (.invokestatic 0, 166, 0), (.ireturn, 0, 0)])]
def zB_Md_moves : List (Nat × List zEnt) := [(0, [(.aload 0, 0, 0), (.iload 1, 0, 0), (.invokevirtual 0, 170, 0), (.ifCond .eq 0, 3, 0), (.goto_w 0, 1, 0)]),
  (8, [(.aload 0, 0, 0), (.iload 2, 0, 0), (.invokevirtual 0, 171, 0), (.ifCond .eq 0, 3, 0), (.goto_w 0, 2, 0)]),
  (16, [(.iload 3, 0, 0), (.i2l, 0, 0), (.sipush (1), 0, 0), (.sipush (3), 0, 0), (.invokestatic 0, 166, 0), (.ifCond .ne 0, 4, 0), (.goto_w 0, 3, 0)]),
  (28, [(.iconst (-1), 0, 0), (.ireturn, 0, 0)]),
  (30, [(.aload 0, 0, 0), (.getfield 0, 11, 2), (.iconst (4), 0, 0), (.iload 1, 0, 0), (.imul, 0, 0), (.iload 2, 0, 0), (.iadd, 0, 0), (.iaload, 0, 0), (.istore 4, 0, 0), (.aload 0, 0, 0), (.getfield 0, 11, 2), (.iconst (4), 0, 0), (.iload 1, 0, 0), (.imul, 0, 0), (.iload 2, 0, 0), (.iadd, 0, 0), (.iload 3, 0, 0), (.iastore, 0, 0), (.iconst (0), 0, 0), (.istore 5, 0, 0), (.goto_w 0, 5, 0)]),
  (56, [(.iload 5, 0, 0), (.iconst (81), 0, 0), (.if_icmp .ge 0, 7, 0), (.goto_w 0, 6, 0)]),
  (63, [(.aload 0, 0, 0), (.getfield 0, 11, 3), (.iconst (81), 0, 0), (.iload 1, 0, 0), (.imul, 0, 0), (.iload 5, 0, 0), (.iadd, 0, 0), (.iload 1, 0, 0), (.iastore, 0, 0), (.iinc 5 (1), 0, 0), (.goto 0, 5, 0)]),
  (82, [(.iconst (0), 0, 0), (.istore 5, 0, 0), (.goto_w 0, 8, 0)]),
  (85, [(.iload 5, 0, 0), (.iconst (12), 0, 0), (.if_icmp .ge 0, 10, 0), (.goto_w 0, 9, 0)]),
  (92, [(.aload 0, 0, 0), (.getfield 0, 11, 4), (.iconst (12), 0, 0), (.iload 1, 0, 0), (.imul, 0, 0), (.iload 5, 0, 0), (.iadd, 0, 0), (.iconst (0), 0, 0), (.iastore, 0, 0), (.iinc 5 (1), 0, 0), (.goto 0, 8, 0)]),
  (111, [(.iconst (0), 0, 0), (.istore 5, 0, 0), (.goto_w 0, 11, 0)]),
  (114, [(.iload 5, 0, 0), (.iconst (4), 0, 0), (.if_icmp .ge 0, 13, 0), (.goto_w 0, 12, 0)]),
  (120, [(.aload 0, 0, 0), (.getfield 0, 11, 7), (.iconst (4), 0, 0), (.iload 1, 0, 0), (.imul, 0, 0), (.iload 5, 0, 0), (.iadd, 0, 0), (.iconst (0), 0, 0), (.iastore, 0, 0), (.iinc 5 (1), 0, 0), (.goto 0, 11, 0)]),
  (138, [(.iload 4, 0, 0), (.ireturn, 0, 0)])]
def zB_Md_jointOf : List (Nat × List zEnt) := [(0, [(.iconst (1), 0, 0), (.istore 3, 0, 0), (.iconst (0), 0, 0), (.istore 4, 0, 0), (.goto_w 0, 1, 0)]),
  (5, [(.iload 4, 0, 0), (.aload 0, 0, 0), (.getfield 0, 11, 1), (.if_icmp .ge 0, 6, 0), (.goto_w 0, 2, 0)]),
  (14, [(.iload 3, 0, 0), (.iload 2, 0, 0), (.iload 4, 0, 0), (.ishr, 0, 0), (.iconst (1), 0, 0), (.iand, 0, 0), (.iconst (1), 0, 0), (.if_icmp .ne 0, 4, 0), (.goto_w 0, 3, 0)]),
  (25, [(.aload 0, 0, 0), (.getfield 0, 11, 2), (.iconst (4), 0, 0), (.iload 1, 0, 0), (.imul, 0, 0), (.iload 4, 0, 0), (.iadd, 0, 0), (.iaload, 0, 0), (.goto 0, 5, 0)]),
  (39, [(.iconst (1), 0, 0), (.goto_w 0, 5, 0)]),
  (40, [(.imul, 0, 0), (.istore 3, 0, 0), (.iinc 4 (1), 0, 0), (.goto 0, 1, 0)]),
  (48, [(.iload 3, 0, 0), (.ireturn, 0, 0)])]
def zB_Md_everybody : List (Nat × List zEnt) := [(0, [(.iconst (1), 0, 0), (.aload 0, 0, 0), (.getfield 0, 11, 1), (.ishl, 0, 0), (.iconst (1), 0, 0), (.isub, 0, 0), (.ireturn, 0, 0)])]
def zB_Md_joint : List (Nat × List zEnt) := [(0, [(.aload 0, 0, 0), (.iload 1, 0, 0), (.invokevirtual 0, 170, 0), (.ifCond .eq 0, 3, 0), (.goto_w 0, 1, 0)]),
  (8, [(.aload 0, 0, 0), (.iload 2, 0, 0), (.invokevirtual 0, 173, 0), (.ifCond .eq 0, 3, 0), (.goto_w 0, 2, 0)]),
  (16, [(.aload 0, 0, 0), (.iload 1, 0, 0), (.iload 2, 0, 0), (.invokevirtual 0, 175, 0), (.goto 0, 4, 0)]),
  (25, [(.iconst (-1), 0, 0), (.goto_w 0, 4, 0)]),
  (26, [(.ireturn, 0, 0)])]
def zB_Md_isMove : List (Nat × List zEnt) := [(0, [(.aload 0, 0, 0), (.iload 1, 0, 0), (.invokevirtual 0, 170, 0), (.ifCond .eq 0, 3, 0), (.goto_w 0, 1, 0)]),
  (8, [(.iload 2, 0, 0), (.i2l, 0, 0), (.sipush (0), 0, 0), (.aload 0, 0, 0), (.iload 1, 0, 0), (.aload 0, 0, 0), (.invokevirtual 0, 176, 0), (.invokevirtual 0, 175, 0), (.iconst (1), 0, 0), (.isub, 0, 0), (.i2l, 0, 0), (.invokestatic 0, 166, 0), (.ifCond .eq 0, 3, 0), (.goto_w 0, 2, 0)]),
  (29, [(.iconst (1), 0, 0), (.goto 0, 4, 0)]),
  (33, [(.iconst (0), 0, 0), (.goto_w 0, 4, 0)]),
  (34, [(.ireturn, 0, 0)])]
def zB_Md_step : List (Nat × List zEnt) := [(0, [(.aload 0, 0, 0), (.iload 1, 0, 0), (.iload 2, 0, 0), (.invokevirtual 0, 178, 0), (.ifCond .eq 0, 2, 0), (.goto_w 0, 1, 0)]),
  (9, [(.aload 0, 0, 0), (.iload 3, 0, 0), (.invokevirtual 0, 170, 0), (.ifCond .ne 0, 3, 0), (.goto_w 0, 2, 0)]),
  (17, [(.iconst (-1), 0, 0), (.ireturn, 0, 0)]),
  (19, [(.aload 0, 0, 0), (.getfield 0, 11, 3), (.iconst (81), 0, 0), (.iload 1, 0, 0), (.imul, 0, 0), (.iload 2, 0, 0), (.iadd, 0, 0), (.iaload, 0, 0), (.istore 4, 0, 0), (.aload 0, 0, 0), (.getfield 0, 11, 3), (.iconst (81), 0, 0), (.iload 1, 0, 0), (.imul, 0, 0), (.iload 2, 0, 0), (.iadd, 0, 0), (.iload 3, 0, 0), (.iastore, 0, 0), (.iload 4, 0, 0), (.ireturn, 0, 0)])]
def zB_Md_leads : List (Nat × List zEnt) := [(0, [(.aload 0, 0, 0), (.iload 1, 0, 0), (.iload 2, 0, 0), (.invokevirtual 0, 178, 0), (.ifCond .eq 0, 2, 0), (.goto_w 0, 1, 0)]),
  (9, [(.aload 0, 0, 0), (.getfield 0, 11, 3), (.iconst (81), 0, 0), (.iload 1, 0, 0), (.imul, 0, 0), (.iload 2, 0, 0), (.iadd, 0, 0), (.iaload, 0, 0), (.goto 0, 3, 0)]),
  (23, [(.iconst (-1), 0, 0), (.goto_w 0, 3, 0)]),
  (24, [(.ireturn, 0, 0)])]
def zB_Md_letters : List (Nat × List zEnt) := [(0, [(.aload 0, 0, 0), (.iload 1, 0, 0), (.invokevirtual 0, 170, 0), (.ifCond .eq 0, 2, 0), (.goto_w 0, 1, 0)]),
  (8, [(.iload 2, 0, 0), (.i2l, 0, 0), (.sipush (0), 0, 0), (.sipush (255), 0, 0), (.invokestatic 0, 166, 0), (.ifCond .ne 0, 3, 0), (.goto_w 0, 2, 0)]),
  (20, [(.iconst (-1), 0, 0), (.ireturn, 0, 0)]),
  (22, [(.aload 0, 0, 0), (.getfield 0, 11, 5), (.iload 1, 0, 0), (.iaload, 0, 0), (.istore 3, 0, 0), (.aload 0, 0, 0), (.getfield 0, 11, 5), (.iload 1, 0, 0), (.iload 2, 0, 0), (.iastore, 0, 0), (.iload 3, 0, 0), (.ireturn, 0, 0)])]
def zB_Md_heap : List (Nat × List zEnt) := [(0, [(.aload 0, 0, 0), (.iload 1, 0, 0), (.invokevirtual 0, 171, 0), (.ifCond .eq 0, 3, 0), (.goto_w 0, 1, 0)]),
  (8, [(.aload 0, 0, 0), (.iload 2, 0, 0), (.invokevirtual 0, 170, 0), (.ifCond .eq 0, 3, 0), (.goto_w 0, 2, 0)]),
  (16, [(.iload 3, 0, 0), (.i2l, 0, 0), (.sipush (0), 0, 0), (.sipush (11), 0, 0), (.invokestatic 0, 166, 0), (.ifCond .ne 0, 4, 0), (.goto_w 0, 3, 0)]),
  (28, [(.iconst (-1), 0, 0), (.ireturn, 0, 0)]),
  (30, [(.aload 0, 0, 0), (.getfield 0, 11, 6), (.iconst (4), 0, 0), (.iload 2, 0, 0), (.imul, 0, 0), (.iload 1, 0, 0), (.iadd, 0, 0), (.iaload, 0, 0), (.istore 4, 0, 0), (.aload 0, 0, 0), (.getfield 0, 11, 6), (.iconst (4), 0, 0), (.iload 2, 0, 0), (.imul, 0, 0), (.iload 1, 0, 0), (.iadd, 0, 0), (.iload 3, 0, 0), (.iastore, 0, 0), (.iload 4, 0, 0), (.ireturn, 0, 0)])]
def zB_Md_price : List (Nat × List zEnt) := [(0, [(.aload 0, 0, 0), (.iload 1, 0, 0), (.invokevirtual 0, 170, 0), (.ifCond .eq 0, 4, 0), (.goto_w 0, 1, 0)]),
  (8, [(.aload 0, 0, 0), (.iload 2, 0, 0), (.invokevirtual 0, 171, 0), (.ifCond .eq 0, 4, 0), (.goto_w 0, 2, 0)]),
  (16, [(.iload 3, 0, 0), (.i2l, 0, 0), (.sipush (0), 0, 0), (.aload 0, 0, 0), (.getfield 0, 11, 2), (.iconst (4), 0, 0), (.iload 1, 0, 0), (.imul, 0, 0), (.iload 2, 0, 0), (.iadd, 0, 0), (.iaload, 0, 0), (.iconst (1), 0, 0), (.isub, 0, 0), (.i2l, 0, 0), (.invokestatic 0, 166, 0), (.ifCond .eq 0, 4, 0), (.goto_w 0, 3, 0)]),
  (38, [(.iload 4, 0, 0), (.i2l, 0, 0), (.sipush (0), 0, 0), (.sipush (9), 0, 0), (.invokestatic 0, 166, 0), (.ifCond .ne 0, 5, 0), (.goto_w 0, 4, 0)]),
  (51, [(.iconst (-1), 0, 0), (.ireturn, 0, 0)]),
  (53, [(.iconst (12), 0, 0), (.iload 1, 0, 0), (.imul, 0, 0), (.iconst (3), 0, 0), (.iload 2, 0, 0), (.imul, 0, 0), (.iadd, 0, 0), (.iload 3, 0, 0), (.iadd, 0, 0), (.istore 5, 0, 0), (.aload 0, 0, 0), (.getfield 0, 11, 4), (.iload 5, 0, 0), (.iaload, 0, 0), (.istore 6, 0, 0), (.aload 0, 0, 0), (.getfield 0, 11, 4), (.iload 5, 0, 0), (.iload 4, 0, 0), (.iastore, 0, 0), (.iload 6, 0, 0), (.ireturn, 0, 0)])]
def zB_Md_leadsBy : List (Nat × List zEnt) := [(0, [(.iload 3, 0, 0), (.istore 5, 0, 0), (.iload 4, 0, 0), (.istore 6, 0, 0), (.iconst (0), 0, 0), (.istore 7, 0, 0), (.iconst (1), 0, 0), (.istore 8, 0, 0), (.aload 0, 0, 0), (.getfield 0, 11, 1), (.iconst (1), 0, 0), (.isub, 0, 0), (.istore 9, 0, 0), (.goto_w 0, 1, 0)]),
  (21, [(.iload 9, 0, 0), (.ifCond .lt 0, 15, 0), (.goto_w 0, 2, 0)]),
  (26, [(.aload 0, 0, 0), (.getfield 0, 11, 2), (.iconst (4), 0, 0), (.iload 1, 0, 0), (.imul, 0, 0), (.iload 9, 0, 0), (.iadd, 0, 0), (.iaload, 0, 0), (.istore 10, 0, 0), (.iload 2, 0, 0), (.iload 9, 0, 0), (.ishr, 0, 0), (.iconst (1), 0, 0), (.iand, 0, 0), (.iconst (1), 0, 0), (.if_icmp .ne 0, 4, 0), (.goto_w 0, 3, 0)]),
  (49, [(.iconst (1), 0, 0), (.goto 0, 5, 0)]),
  (53, [(.iconst (0), 0, 0), (.goto_w 0, 5, 0)]),
  (54, [(.istore 11, 0, 0), (.iload 7, 0, 0), (.iload 8, 0, 0), (.iload 11, 0, 0), (.ifCond .eq 0, 7, 0), (.goto_w 0, 6, 0)]),
  (65, [(.iload 5, 0, 0), (.goto 0, 8, 0)]),
  (70, [(.iload 6, 0, 0), (.goto_w 0, 8, 0)]),
  (72, [(.iload 10, 0, 0), (.irem, 0, 0), (.imul, 0, 0), (.iadd, 0, 0), (.istore 7, 0, 0), (.iload 11, 0, 0), (.ifCond .eq 0, 10, 0), (.goto_w 0, 9, 0)]),
  (84, [(.iload 5, 0, 0), (.iload 10, 0, 0), (.idiv, 0, 0), (.goto 0, 11, 0)]),
  (92, [(.iload 5, 0, 0), (.goto_w 0, 11, 0)]),
  (94, [(.istore 5, 0, 0), (.iload 11, 0, 0), (.ifCond .eq 0, 13, 0), (.goto_w 0, 12, 0)]),
  (101, [(.iload 6, 0, 0), (.goto 0, 14, 0)]),
  (106, [(.iload 6, 0, 0), (.iload 10, 0, 0), (.idiv, 0, 0), (.goto_w 0, 14, 0)]),
  (111, [(.istore 6, 0, 0), (.iload 8, 0, 0), (.iload 10, 0, 0), (.imul, 0, 0), (.istore 8, 0, 0), (.iinc 9 (-1), 0, 0), (.goto 0, 1, 0)]),
  (126, [(.aload 0, 0, 0), (.getfield 0, 11, 3), (.iconst (81), 0, 0), (.iload 1, 0, 0), (.imul, 0, 0), (.iload 7, 0, 0), (.iadd, 0, 0), (.iaload, 0, 0), (.ireturn, 0, 0)])]
def zB_Md_others : List (Nat × List zEnt) := [(0, [(.aload 0, 0, 0), (.invokevirtual 0, 176, 0), (.iload 1, 0, 0), (.iconst (-1), 0, 0), (.ixor, 0, 0), (.iand, 0, 0), (.ireturn, 0, 0)])]
def zB_Md_forces : List (Nat × List zEnt) := [(0, [(.aload 0, 0, 0), (.iload 1, 0, 0), (.iload 2, 0, 0), (.invokevirtual 0, 175, 0), (.istore 4, 0, 0), (.aload 0, 0, 0), (.iload 1, 0, 0), (.aload 0, 0, 0), (.iload 2, 0, 0), (.invokevirtual 0, 185, 0), (.invokevirtual 0, 175, 0), (.istore 5, 0, 0), (.iconst (0), 0, 0), (.istore 6, 0, 0), (.goto_w 0, 1, 0)]),
  (23, [(.iload 6, 0, 0), (.iload 4, 0, 0), (.if_icmp .ge 0, 12, 0), (.goto_w 0, 2, 0)]),
  (30, [(.iconst (1), 0, 0), (.istore 7, 0, 0), (.iconst (0), 0, 0), (.istore 8, 0, 0), (.goto_w 0, 3, 0)]),
  (36, [(.iload 8, 0, 0), (.iload 5, 0, 0), (.if_icmp .ge 0, 9, 0), (.goto_w 0, 4, 0)]),
  (43, [(.iload 7, 0, 0), (.ifCond .eq 0, 9, 0), (.goto_w 0, 5, 0)]),
  (48, [(.iload 3, 0, 0), (.aload 0, 0, 0), (.iload 1, 0, 0), (.iload 2, 0, 0), (.iload 6, 0, 0), (.iload 8, 0, 0), (.invokevirtual 0, 184, 0), (.ishr, 0, 0), (.iconst (1), 0, 0), (.iand, 0, 0), (.iconst (1), 0, 0), (.if_icmp .ne 0, 7, 0), (.goto_w 0, 6, 0)]),
  (66, [(.iconst (1), 0, 0), (.goto 0, 8, 0)]),
  (70, [(.iconst (0), 0, 0), (.goto_w 0, 8, 0)]),
  (71, [(.istore 7, 0, 0), (.iinc 8 (1), 0, 0), (.goto 0, 3, 0)]),
  (79, [(.iload 7, 0, 0), (.ifCond .eq 0, 11, 0), (.goto_w 0, 10, 0)]),
  (84, [(.iload 6, 0, 0), (.ireturn, 0, 0)]),
  (87, [(.iinc 6 (1), 0, 0), (.goto 0, 1, 0)]),
  (93, [(.iconst (-4), 0, 0), (.ireturn, 0, 0)])]
def zB_Md_force : List (Nat × List zEnt) := [(0, [(.aload 0, 0, 0), (.iload 1, 0, 0), (.invokevirtual 0, 170, 0), (.ifCond .eq 0, 6, 0), (.goto_w 0, 1, 0)]),
  (8, [(.aload 0, 0, 0), (.iload 2, 0, 0), (.invokevirtual 0, 173, 0), (.ifCond .eq 0, 6, 0), (.goto_w 0, 2, 0)]),
  (16, [(.aload 0, 0, 0), (.iload 3, 0, 0), (.invokevirtual 0, 172, 0), (.ifCond .eq 0, 6, 0), (.goto_w 0, 3, 0)]),
  (24, [(.aload 0, 0, 0), (.iload 1, 0, 0), (.iload 2, 0, 0), (.iload 3, 0, 0), (.invokevirtual 0, 186, 0), (.ifCond .lt 0, 5, 0), (.goto_w 0, 4, 0)]),
  (34, [(.iconst (1), 0, 0), (.goto 0, 7, 0)]),
  (38, [(.iconst (0), 0, 0), (.goto 0, 7, 0)]),
  (42, [(.iconst (-1), 0, 0), (.goto_w 0, 7, 0)]),
  (43, [(.ireturn, 0, 0)])]
def zB_Md_type : List (Nat × List zEnt) := [(0, [(.iload 3, 0, 0), (.i2l, 0, 0), (.sipush (1), 0, 0), (.sipush (8), 0, 0), (.invokestatic 0, 166, 0), (.ifCond .ne 0, 2, 0), (.goto_w 0, 1, 0)]),
  (12, [(.iconst (-1), 0, 0), (.ireturn, 0, 0)]),
  (14, [(.iconst (0), 0, 0), (.istore 4, 0, 0), (.goto_w 0, 3, 0)]),
  (17, [(.iload 4, 0, 0), (.iload 3, 0, 0), (.if_icmp .ge 0, 7, 0), (.goto_w 0, 4, 0)]),
  (23, [(.lload 1, 0, 0), (.iconst (8), 0, 0), (.iload 4, 0, 0), (.imul, 0, 0), (.lshr, 0, 0), (.sipush (255), 0, 0), (.land, 0, 0), (.sipush (32), 0, 0), (.sipush (126), 0, 0), (.invokestatic 0, 166, 0), (.ifCond .ne 0, 6, 0), (.goto_w 0, 5, 0)]),
  (46, [(.iconst (-1), 0, 0), (.ireturn, 0, 0)]),
  (48, [(.iinc 4 (1), 0, 0), (.goto 0, 3, 0)]),
  (54, [(.aload 0, 0, 0), (.getfield 0, 11, 24), (.iload 3, 0, 0), (.iadd, 0, 0), (.iconst (100), 0, 0), (.if_icmp .le 0, 9, 0), (.goto_w 0, 8, 0)]),
  (65, [(.iconst (-3), 0, 0), (.ireturn, 0, 0)]),
  (68, [(.iload 3, 0, 0), (.iconst (1), 0, 0), (.isub, 0, 0), (.istore 4, 0, 0), (.goto_w 0, 10, 0)]),
  (73, [(.iload 4, 0, 0), (.ifCond .lt 0, 12, 0), (.goto_w 0, 11, 0)]),
  (78, [(.aload 0, 0, 0), (.getfield 0, 11, 23), (.aload 0, 0, 0), (.getfield 0, 11, 24), (.lload 1, 0, 0), (.iconst (8), 0, 0), (.iload 4, 0, 0), (.imul, 0, 0), (.lshr, 0, 0), (.sipush (255), 0, 0), (.land, 0, 0), (.l2i, 0, 0), (.iastore, 0, 0), (.aload 0, 0, 0), (.dup, 0, 0), (.getfield 0, 11, 24), (.iconst (1), 0, 0), (.iadd, 0, 0), (.putfield 0, 11, 24), (.iinc 4 (-1), 0, 0), (.goto 0, 10, 0)]),
  (115, [(.aload 0, 0, 0), (.getfield 0, 11, 24), (.ireturn, 0, 0)])]
def zB_Md_next : List (Nat × List zEnt) := [(0, [(.aload 0, 0, 0), (.getfield 0, 11, 25), (.aload 0, 0, 0), (.getfield 0, 11, 24), (.if_icmp .ge 0, 3, 0), (.goto_w 0, 1, 0)]),
  (11, [(.aload 0, 0, 0), (.getfield 0, 11, 23), (.aload 0, 0, 0), (.getfield 0, 11, 25), (.iaload, 0, 0), (.iconst (32), 0, 0), (.if_icmp .ne 0, 3, 0), (.goto_w 0, 2, 0)]),
  (25, [(.aload 0, 0, 0), (.dup, 0, 0), (.getfield 0, 11, 25), (.iconst (1), 0, 0), (.iadd, 0, 0), (.putfield 0, 11, 25), (.goto 0, 0, 0)]),
  (38, [(.aload 0, 0, 0), (.getfield 0, 11, 25), (.aload 0, 0, 0), (.getfield 0, 11, 24), (.if_icmp .ge 0, 5, 0), (.goto_w 0, 4, 0)]),
  (49, [(.aload 0, 0, 0), (.getfield 0, 11, 23), (.aload 0, 0, 0), (.getfield 0, 11, 25), (.iaload, 0, 0), (.goto 0, 6, 0)]),
  (61, [(.iconst (0), 0, 0), (.goto_w 0, 6, 0)]),
  (62, [(.ireturn, 0, 0)])]
def zB_Md_needs : List (Nat × List zEnt) := [(0, [(.aload 0, 0, 0), (.aload 0, 0, 0), (.getfield 0, 11, 26), (.ifCond .ne 0, 2, 0), (.goto_w 0, 1, 0)]),
  (8, [(.aload 0, 0, 0), (.invokevirtual 0, 189, 0), (.iload 1, 0, 0), (.if_icmp .eq 0, 3, 0), (.goto_w 0, 2, 0)]),
  (16, [(.iconst (1), 0, 0), (.goto 0, 4, 0)]),
  (20, [(.iconst (0), 0, 0), (.goto_w 0, 4, 0)]),
  (21, [(.putfield 0, 11, 26), (.aload 0, 0, 0), (.dup, 0, 0), (.getfield 0, 11, 25), (.aload 0, 0, 0), (.getfield 0, 11, 26), (.ifCond .eq 0, 6, 0), (.goto_w 0, 5, 0)]),
  (36, [(.iconst (0), 0, 0), (.goto 0, 7, 0)]),
  (40, [(.iconst (1), 0, 0), (.goto_w 0, 7, 0)]),
  (41, [(.iadd, 0, 0), (.putfield 0, 11, 25), (.return_, 0, 0)])]
def zB_Md_opens : List (Nat × List zEnt) := [(0, [(.aload 0, 0, 0), (.getfield 0, 11, 16), (.iload 1, 0, 0), (.iload 2, 0, 0), (.iastore, 0, 0), (.aload 0, 0, 0), (.getfield 0, 11, 20), (.aload 0, 0, 0), (.getfield 0, 11, 22), (.iload 1, 0, 0), (.iastore, 0, 0), (.aload 0, 0, 0), (.getfield 0, 11, 21), (.aload 0, 0, 0), (.getfield 0, 11, 22), (.iconst (0), 0, 0), (.bastore, 0, 0), (.aload 0, 0, 0), (.dup, 0, 0), (.getfield 0, 11, 22), (.iconst (1), 0, 0), (.iadd, 0, 0), (.putfield 0, 11, 22), (.return_, 0, 0)])]
def zB_Md_group : List (Nat × List zEnt) := [(0, [(.iconst (0), 0, 0), (.istore 2, 0, 0), (.aload 0, 0, 0), (.iconst (60), 0, 0), (.invokevirtual 0, 190, 0), (.goto_w 0, 1, 0)]),
  (8, [(.aload 0, 0, 0), (.invokevirtual 0, 189, 0), (.i2l, 0, 0), (.sipush (48), 0, 0), (.iconst (47), 0, 0), (.aload 0, 0, 0), (.getfield 0, 11, 1), (.iadd, 0, 0), (.i2l, 0, 0), (.invokestatic 0, 166, 0), (.ifCond .eq 0, 4, 0), (.goto_w 0, 2, 0)]),
  (30, [(.iload 2, 0, 0), (.aload 0, 0, 0), (.invokevirtual 0, 189, 0), (.iconst (48), 0, 0), (.isub, 0, 0), (.ishr, 0, 0), (.ifCond .ne 0, 4, 0), (.goto_w 0, 3, 0)]),
  (42, [(.iload 2, 0, 0), (.iconst (1), 0, 0), (.aload 0, 0, 0), (.invokevirtual 0, 189, 0), (.iconst (48), 0, 0), (.isub, 0, 0), (.ishl, 0, 0), (.ior, 0, 0), (.istore 2, 0, 0), (.aload 0, 0, 0), (.dup, 0, 0), (.getfield 0, 11, 25), (.iconst (1), 0, 0), (.iadd, 0, 0), (.putfield 0, 11, 25), (.goto 0, 1, 0)]),
  (67, [(.aload 0, 0, 0), (.iconst (62), 0, 0), (.invokevirtual 0, 190, 0), (.aload 0, 0, 0), (.getfield 0, 11, 26), (.ifCond .eq 0, 6, 0), (.goto_w 0, 5, 0)]),
  (80, [(.iconst (0), 0, 0), (.goto 0, 7, 0)]),
  (84, [(.aload 0, 0, 0), (.invokevirtual 0, 189, 0), (.goto_w 0, 7, 0)]),
  (88, [(.istore 3, 0, 0), (.iload 3, 0, 0), (.iconst (88), 0, 0), (.if_icmp .ne 0, 9, 0), (.goto_w 0, 8, 0)]),
  (95, [(.iconst (5), 0, 0), (.goto 0, 18, 0)]),
  (99, [(.iload 3, 0, 0), (.iconst (71), 0, 0), (.if_icmp .ne 0, 11, 0), (.goto_w 0, 10, 0)]),
  (105, [(.iconst (6), 0, 0), (.goto 0, 18, 0)]),
  (110, [(.iload 3, 0, 0), (.iconst (70), 0, 0), (.if_icmp .ne 0, 13, 0), (.goto_w 0, 12, 0)]),
  (116, [(.iconst (7), 0, 0), (.goto 0, 18, 0)]),
  (121, [(.iload 3, 0, 0), (.iconst (73), 0, 0), (.if_icmp .ne 0, 15, 0), (.goto_w 0, 14, 0)]),
  (127, [(.iconst (8), 0, 0), (.goto 0, 18, 0)]),
  (132, [(.iload 3, 0, 0), (.iconst (40), 0, 0), (.if_icmp .ne 0, 17, 0), (.goto_w 0, 16, 0)]),
  (138, [(.iconst (9), 0, 0), (.goto 0, 18, 0)]),
  (143, [(.iconst (10), 0, 0), (.goto_w 0, 18, 0)]),
  (145, [(.istore 4, 0, 0), (.aload 0, 0, 0), (.aload 0, 0, 0), (.getfield 0, 11, 26), (.ifCond .ne 0, 20, 0), (.goto_w 0, 19, 0)]),
  (155, [(.iload 4, 0, 0), (.iconst (10), 0, 0), (.if_icmp .ne 0, 21, 0), (.goto_w 0, 20, 0)]),
  (162, [(.iconst (1), 0, 0), (.goto 0, 22, 0)]),
  (166, [(.iconst (0), 0, 0), (.goto_w 0, 22, 0)]),
  (167, [(.putfield 0, 11, 26), (.aload 0, 0, 0), (.dup, 0, 0), (.getfield 0, 11, 25), (.aload 0, 0, 0), (.getfield 0, 11, 26), (.ifCond .eq 0, 24, 0), (.goto_w 0, 23, 0)]),
  (182, [(.iconst (0), 0, 0), (.goto 0, 25, 0)]),
  (186, [(.iconst (1), 0, 0), (.goto_w 0, 25, 0)]),
  (187, [(.iadd, 0, 0), (.putfield 0, 11, 25), (.aload 0, 0, 0), (.getfield 0, 11, 19), (.iload 1, 0, 0), (.iload 2, 0, 0), (.iastore, 0, 0), (.aload 0, 0, 0), (.iload 1, 0, 0), (.iload 4, 0, 0), (.invokevirtual 0, 191, 0), (.return_, 0, 0)])]
def zB_Md_isWhole : List (Nat × List zEnt) := [(0, [(.aload 0, 0, 0), (.invokevirtual 0, 189, 0), (.istore 1, 0, 0), (.iload 1, 0, 0), (.iconst (84), 0, 0), (.if_icmp .eq 0, 5, 0), (.goto_w 0, 1, 0)]),
  (11, [(.iload 1, 0, 0), (.i2l, 0, 0), (.sipush (97), 0, 0), (.sipush (104), 0, 0), (.invokestatic 0, 166, 0), (.ifCond .ne 0, 5, 0), (.goto_w 0, 2, 0)]),
  (25, [(.iload 1, 0, 0), (.iconst (33), 0, 0), (.if_icmp .eq 0, 5, 0), (.goto_w 0, 3, 0)]),
  (31, [(.iload 1, 0, 0), (.iconst (40), 0, 0), (.if_icmp .eq 0, 5, 0), (.goto_w 0, 4, 0)]),
  (37, [(.iload 1, 0, 0), (.iconst (60), 0, 0), (.if_icmp .ne 0, 6, 0), (.goto_w 0, 5, 0)]),
  (43, [(.iconst (1), 0, 0), (.goto 0, 7, 0)]),
  (47, [(.iconst (0), 0, 0), (.goto_w 0, 7, 0)]),
  (48, [(.istore 2, 0, 0), (.aload 0, 0, 0), (.aload 0, 0, 0), (.getfield 0, 11, 26), (.ifCond .ne 0, 10, 0), (.goto_w 0, 8, 0)]),
  (57, [(.iload 2, 0, 0), (.ifCond .eq 0, 10, 0), (.goto_w 0, 9, 0)]),
  (61, [(.aload 0, 0, 0), (.getfield 0, 11, 15), (.iconst (24), 0, 0), (.if_icmp .ne 0, 11, 0), (.goto_w 0, 10, 0)]),
  (70, [(.iconst (1), 0, 0), (.goto 0, 12, 0)]),
  (74, [(.iconst (0), 0, 0), (.goto_w 0, 12, 0)]),
  (75, [(.putfield 0, 11, 26), (.aload 0, 0, 0), (.getfield 0, 11, 26), (.ifCond .eq 0, 14, 0), (.goto_w 0, 13, 0)]),
  (85, [(.iconst (1), 0, 0), (.ireturn, 0, 0)]),
  (87, [(.aload 0, 0, 0), (.getfield 0, 11, 15), (.istore 3, 0, 0), (.aload 0, 0, 0), (.dup, 0, 0), (.getfield 0, 11, 15), (.iconst (1), 0, 0), (.iadd, 0, 0), (.putfield 0, 11, 15), (.iload 1, 0, 0), (.iconst (60), 0, 0), (.if_icmp .ne 0, 16, 0), (.goto_w 0, 15, 0)]),
  (108, [(.aload 0, 0, 0), (.iload 3, 0, 0), (.invokevirtual 0, 192, 0), (.iconst (0), 0, 0), (.ireturn, 0, 0)]),
  (115, [(.aload 0, 0, 0), (.dup, 0, 0), (.getfield 0, 11, 25), (.iconst (1), 0, 0), (.iadd, 0, 0), (.putfield 0, 11, 25), (.iload 1, 0, 0), (.iconst (33), 0, 0), (.if_icmp .eq 0, 18, 0), (.goto_w 0, 17, 0)]),
  (131, [(.iload 1, 0, 0), (.iconst (40), 0, 0), (.if_icmp .ne 0, 22, 0), (.goto_w 0, 18, 0)]),
  (137, [(.aload 0, 0, 0), (.iload 3, 0, 0), (.iload 1, 0, 0), (.iconst (33), 0, 0), (.if_icmp .ne 0, 20, 0), (.goto_w 0, 19, 0)]),
  (145, [(.iconst (2), 0, 0), (.goto 0, 21, 0)]),
  (149, [(.iconst (10), 0, 0), (.goto_w 0, 21, 0)]),
  (151, [(.invokevirtual 0, 191, 0), (.iconst (0), 0, 0), (.ireturn, 0, 0)]),
  (156, [(.aload 0, 0, 0), (.getfield 0, 11, 16), (.iload 3, 0, 0), (.iload 1, 0, 0), (.iconst (84), 0, 0), (.if_icmp .ne 0, 24, 0), (.goto_w 0, 23, 0)]),
  (167, [(.iconst (0), 0, 0), (.goto 0, 25, 0)]),
  (171, [(.iconst (1), 0, 0), (.goto_w 0, 25, 0)]),
  (172, [(.iastore, 0, 0), (.aload 0, 0, 0), (.getfield 0, 11, 17), (.iload 3, 0, 0), (.iload 1, 0, 0), (.iconst (84), 0, 0), (.if_icmp .ne 0, 27, 0), (.goto_w 0, 26, 0)]),
  (184, [(.iconst (0), 0, 0), (.goto 0, 28, 0)]),
  (188, [(.iload 1, 0, 0), (.iconst (97), 0, 0), (.isub, 0, 0), (.goto_w 0, 28, 0)]),
  (192, [(.iastore, 0, 0), (.iconst (1), 0, 0), (.ireturn, 0, 0)])]
def zB_Md_closes : List (Nat × List zEnt) := [(0, [(.iload 1, 0, 0), (.istore 2, 0, 0), (.goto_w 0, 1, 0)]),
  (2, [(.aload 0, 0, 0), (.getfield 0, 11, 22), (.ifCond .le 0, 30, 0), (.goto_w 0, 2, 0)]),
  (9, [(.iload 2, 0, 0), (.ifCond .lt 0, 30, 0), (.goto_w 0, 3, 0)]),
  (13, [(.aload 0, 0, 0), (.getfield 0, 11, 26), (.ifCond .ne 0, 30, 0), (.goto_w 0, 4, 0)]),
  (20, [(.aload 0, 0, 0), (.getfield 0, 11, 20), (.aload 0, 0, 0), (.getfield 0, 11, 22), (.iconst (1), 0, 0), (.isub, 0, 0), (.iaload, 0, 0), (.istore 3, 0, 0), (.aload 0, 0, 0), (.getfield 0, 11, 16), (.iload 3, 0, 0), (.iaload, 0, 0), (.istore 4, 0, 0), (.iload 4, 0, 0), (.iconst (10), 0, 0), (.if_icmp .eq 0, 8, 0), (.goto_w 0, 5, 0)]),
  (47, [(.iload 4, 0, 0), (.iconst (3), 0, 0), (.if_icmp .eq 0, 8, 0), (.goto_w 0, 6, 0)]),
  (53, [(.iload 4, 0, 0), (.iconst (4), 0, 0), (.if_icmp .eq 0, 8, 0), (.goto_w 0, 7, 0)]),
  (59, [(.iload 4, 0, 0), (.iconst (9), 0, 0), (.if_icmp .ne 0, 9, 0), (.goto_w 0, 8, 0)]),
  (66, [(.iconst (1), 0, 0), (.goto 0, 10, 0)]),
  (70, [(.iconst (0), 0, 0), (.goto_w 0, 10, 0)]),
  (71, [(.istore 5, 0, 0), (.iload 5, 0, 0), (.ifCond .ne 0, 12, 0), (.goto_w 0, 11, 0)]),
  (78, [(.aload 0, 0, 0), (.getfield 0, 11, 17), (.iload 3, 0, 0), (.iload 2, 0, 0), (.iastore, 0, 0), (.aload 0, 0, 0), (.dup, 0, 0), (.getfield 0, 11, 22), (.iconst (1), 0, 0), (.isub, 0, 0), (.putfield 0, 11, 22), (.iload 3, 0, 0), (.istore 2, 0, 0), (.goto 0, 29, 0)]),
  (100, [(.aload 0, 0, 0), (.getfield 0, 11, 21), (.aload 0, 0, 0), (.getfield 0, 11, 22), (.iconst (1), 0, 0), (.isub, 0, 0), (.baload, 0, 0), (.ifCond .eq 0, 14, 0), (.goto_w 0, 13, 0)]),
  (114, [(.aload 0, 0, 0), (.getfield 0, 11, 18), (.iload 3, 0, 0), (.iload 2, 0, 0), (.iastore, 0, 0), (.aload 0, 0, 0), (.iconst (41), 0, 0), (.invokevirtual 0, 190, 0), (.aload 0, 0, 0), (.dup, 0, 0), (.getfield 0, 11, 22), (.iconst (1), 0, 0), (.isub, 0, 0), (.putfield 0, 11, 22), (.iload 3, 0, 0), (.istore 2, 0, 0), (.goto 0, 29, 0)]),
  (142, [(.aload 0, 0, 0), (.getfield 0, 11, 17), (.iload 3, 0, 0), (.iload 2, 0, 0), (.iastore, 0, 0), (.aload 0, 0, 0), (.getfield 0, 11, 21), (.aload 0, 0, 0), (.getfield 0, 11, 22), (.iconst (1), 0, 0), (.isub, 0, 0), (.iconst (1), 0, 0), (.bastore, 0, 0), (.iload 4, 0, 0), (.iconst (10), 0, 0), (.if_icmp .ne 0, 27, 0), (.goto_w 0, 15, 0)]),
  (168, [(.aload 0, 0, 0), (.invokevirtual 0, 189, 0), (.istore 6, 0, 0), (.aload 0, 0, 0), (.getfield 0, 11, 16), (.iload 3, 0, 0), (.iload 6, 0, 0), (.iconst (38), 0, 0), (.if_icmp .ne 0, 17, 0), (.goto_w 0, 16, 0)]),
  (186, [(.iconst (3), 0, 0), (.goto 0, 18, 0)]),
  (190, [(.iconst (4), 0, 0), (.goto_w 0, 18, 0)]),
  (191, [(.iastore, 0, 0), (.aload 0, 0, 0), (.aload 0, 0, 0), (.getfield 0, 11, 26), (.ifCond .ne 0, 21, 0), (.goto_w 0, 19, 0)]),
  (200, [(.iload 6, 0, 0), (.iconst (38), 0, 0), (.if_icmp .eq 0, 22, 0), (.goto_w 0, 20, 0)]),
  (207, [(.iload 6, 0, 0), (.iconst (124), 0, 0), (.if_icmp .eq 0, 22, 0), (.goto_w 0, 21, 0)]),
  (214, [(.iconst (1), 0, 0), (.goto 0, 23, 0)]),
  (218, [(.iconst (0), 0, 0), (.goto_w 0, 23, 0)]),
  (219, [(.putfield 0, 11, 26), (.aload 0, 0, 0), (.dup, 0, 0), (.getfield 0, 11, 25), (.aload 0, 0, 0), (.getfield 0, 11, 26), (.ifCond .eq 0, 25, 0), (.goto_w 0, 24, 0)]),
  (234, [(.iconst (0), 0, 0), (.goto 0, 26, 0)]),
  (238, [(.iconst (1), 0, 0), (.goto_w 0, 26, 0)]),
  (239, [(.iadd, 0, 0), (.putfield 0, 11, 25), (.goto 0, 28, 0)]),
  (246, [(.aload 0, 0, 0), (.iconst (85), 0, 0), (.invokevirtual 0, 190, 0), (.goto_w 0, 28, 0)]),
  (252, [(.iconst (-1), 0, 0), (.istore 2, 0, 0), (.goto_w 0, 29, 0)]),
  (254, [(.goto 0, 1, 0)]),
  (257, [(.return_, 0, 0)])]
def zB_Md_form : List (Nat × List zEnt) := [(0, [(.aload 0, 0, 0), (.iconst (0), 0, 0), (.putfield 0, 11, 25), (.aload 0, 0, 0), (.iconst (0), 0, 0), (.putfield 0, 11, 26), (.aload 0, 0, 0), (.iconst (0), 0, 0), (.putfield 0, 11, 15), (.aload 0, 0, 0), (.iconst (0), 0, 0), (.putfield 0, 11, 22), (.iconst (1), 0, 0), (.istore 1, 0, 0), (.goto_w 0, 1, 0)]),
  (22, [(.iload 1, 0, 0), (.ifCond .eq 0, 10, 0), (.goto_w 0, 2, 0)]),
  (26, [(.aload 0, 0, 0), (.getfield 0, 11, 26), (.ifCond .ne 0, 10, 0), (.goto_w 0, 3, 0)]),
  (33, [(.aload 0, 0, 0), (.getfield 0, 11, 15), (.istore 2, 0, 0), (.aload 0, 0, 0), (.invokevirtual 0, 193, 0), (.ifCond .eq 0, 9, 0), (.goto_w 0, 4, 0)]),
  (45, [(.aload 0, 0, 0), (.getfield 0, 11, 26), (.ifCond .ne 0, 9, 0), (.goto_w 0, 5, 0)]),
  (52, [(.aload 0, 0, 0), (.iload 2, 0, 0), (.invokevirtual 0, 194, 0), (.aload 0, 0, 0), (.getfield 0, 11, 22), (.ifCond .le 0, 7, 0), (.goto_w 0, 6, 0)]),
  (64, [(.iconst (1), 0, 0), (.goto 0, 8, 0)]),
  (68, [(.iconst (0), 0, 0), (.goto_w 0, 8, 0)]),
  (69, [(.istore 1, 0, 0), (.goto_w 0, 9, 0)]),
  (70, [(.goto 0, 1, 0)]),
  (73, [(.aload 0, 0, 0), (.aload 0, 0, 0), (.getfield 0, 11, 26), (.ifCond .ne 0, 12, 0), (.goto_w 0, 11, 0)]),
  (81, [(.aload 0, 0, 0), (.invokevirtual 0, 189, 0), (.ifCond .eq 0, 13, 0), (.goto_w 0, 12, 0)]),
  (88, [(.iconst (1), 0, 0), (.goto 0, 14, 0)]),
  (92, [(.iconst (0), 0, 0), (.goto_w 0, 14, 0)]),
  (93, [(.putfield 0, 11, 26), (.aload 0, 0, 0), (.iconst (0), 0, 0), (.putfield 0, 11, 24), (.aload 0, 0, 0), (.getfield 0, 11, 26), (.ifCond .eq 0, 16, 0), (.goto_w 0, 15, 0)]),
  (108, [(.iconst (-20), 0, 0), (.aload 0, 0, 0), (.getfield 0, 11, 25), (.isub, 0, 0), (.ireturn, 0, 0)]),
  (116, [(.aload 0, 0, 0), (.aload 0, 0, 0), (.getfield 0, 11, 15), (.putfield 0, 11, 10), (.iconst (0), 0, 0), (.istore 2, 0, 0), (.goto_w 0, 17, 0)]),
  (126, [(.iload 2, 0, 0), (.aload 0, 0, 0), (.getfield 0, 11, 10), (.if_icmp .ge 0, 19, 0), (.goto_w 0, 18, 0)]),
  (134, [(.aload 0, 0, 0), (.getfield 0, 11, 11), (.iload 2, 0, 0), (.aload 0, 0, 0), (.getfield 0, 11, 16), (.iload 2, 0, 0), (.iaload, 0, 0), (.iastore, 0, 0), (.aload 0, 0, 0), (.getfield 0, 11, 12), (.iload 2, 0, 0), (.aload 0, 0, 0), (.getfield 0, 11, 17), (.iload 2, 0, 0), (.iaload, 0, 0), (.iastore, 0, 0), (.aload 0, 0, 0), (.getfield 0, 11, 13), (.iload 2, 0, 0), (.aload 0, 0, 0), (.getfield 0, 11, 18), (.iload 2, 0, 0), (.iaload, 0, 0), (.iastore, 0, 0), (.aload 0, 0, 0), (.getfield 0, 11, 14), (.iload 2, 0, 0), (.aload 0, 0, 0), (.getfield 0, 11, 19), (.iload 2, 0, 0), (.iaload, 0, 0), (.iastore, 0, 0), (.iinc 2 (1), 0, 0), (.goto 0, 17, 0)]),
  (188, [(.aload 0, 0, 0), (.getfield 0, 11, 10), (.ireturn, 0, 0)])]
def zB_Md_whole : List (Nat × List zEnt) := [(0, [(.iconst (1), 0, 0), (.aload 0, 0, 0), (.getfield 0, 11, 0), (.ishl, 0, 0), (.iconst (1), 0, 0), (.isub, 0, 0), (.ireturn, 0, 0)])]
def zB_Md_forcing : List (Nat × List zEnt) := [(0, [(.iconst (0), 0, 0), (.istore 3, 0, 0), (.iconst (0), 0, 0), (.istore 4, 0, 0), (.goto_w 0, 1, 0)]),
  (5, [(.iload 4, 0, 0), (.aload 0, 0, 0), (.getfield 0, 11, 0), (.if_icmp .ge 0, 6, 0), (.goto_w 0, 2, 0)]),
  (14, [(.iload 3, 0, 0), (.aload 0, 0, 0), (.iload 4, 0, 0), (.iload 1, 0, 0), (.iload 2, 0, 0), (.invokevirtual 0, 186, 0), (.ifCond .lt 0, 4, 0), (.goto_w 0, 3, 0)]),
  (26, [(.iconst (1), 0, 0), (.iload 4, 0, 0), (.ishl, 0, 0), (.goto 0, 5, 0)]),
  (33, [(.iconst (0), 0, 0), (.goto_w 0, 5, 0)]),
  (34, [(.ior, 0, 0), (.istore 3, 0, 0), (.iinc 4 (1), 0, 0), (.goto 0, 1, 0)]),
  (42, [(.iload 3, 0, 0), (.ireturn, 0, 0)])]
def zB_Md_until : List (Nat × List zEnt) := [(0, [(.iload 3, 0, 0), (.istore 4, 0, 0), (.iconst (0), 0, 0), (.istore 5, 0, 0), (.goto_w 0, 1, 0)]),
  (6, [(.iload 5, 0, 0), (.aload 0, 0, 0), (.getfield 0, 11, 0), (.if_icmp .ge 0, 6, 0), (.goto_w 0, 2, 0)]),
  (15, [(.aload 0, 0, 0), (.getfield 0, 11, 28), (.iload 5, 0, 0), (.iload 3, 0, 0), (.iload 5, 0, 0), (.ishr, 0, 0), (.iconst (1), 0, 0), (.iand, 0, 0), (.iconst (1), 0, 0), (.if_icmp .ne 0, 4, 0), (.goto_w 0, 3, 0)]),
  (31, [(.iconst (0), 0, 0), (.goto 0, 5, 0)]),
  (35, [(.iconst (-4), 0, 0), (.goto_w 0, 5, 0)]),
  (37, [(.iastore, 0, 0), (.iinc 5 (1), 0, 0), (.goto 0, 1, 0)]),
  (44, [(.iconst (0), 0, 0), (.istore 5, 0, 0), (.iconst (1), 0, 0), (.istore 6, 0, 0), (.goto_w 0, 7, 0)]),
  (50, [(.iload 6, 0, 0), (.ifCond .eq 0, 18, 0), (.goto_w 0, 8, 0)]),
  (55, [(.iinc 5 (1), 0, 0), (.iload 2, 0, 0), (.iload 4, 0, 0), (.iconst (-1), 0, 0), (.ixor, 0, 0), (.iand, 0, 0), (.aload 0, 0, 0), (.iload 1, 0, 0), (.iload 4, 0, 0), (.invokevirtual 0, 197, 0), (.iand, 0, 0), (.istore 7, 0, 0), (.iconst (0), 0, 0), (.istore 8, 0, 0), (.goto_w 0, 9, 0)]),
  (77, [(.iload 8, 0, 0), (.aload 0, 0, 0), (.getfield 0, 11, 0), (.if_icmp .ge 0, 14, 0), (.goto_w 0, 10, 0)]),
  (86, [(.aload 0, 0, 0), (.getfield 0, 11, 28), (.iload 8, 0, 0), (.iload 7, 0, 0), (.iload 8, 0, 0), (.ishr, 0, 0), (.iconst (1), 0, 0), (.iand, 0, 0), (.iconst (1), 0, 0), (.if_icmp .ne 0, 12, 0), (.goto_w 0, 11, 0)]),
  (103, [(.iload 5, 0, 0), (.goto 0, 13, 0)]),
  (108, [(.aload 0, 0, 0), (.getfield 0, 11, 28), (.iload 8, 0, 0), (.iaload, 0, 0), (.goto_w 0, 13, 0)]),
  (115, [(.iastore, 0, 0), (.iinc 8 (1), 0, 0), (.goto 0, 9, 0)]),
  (122, [(.iload 4, 0, 0), (.iload 7, 0, 0), (.ior, 0, 0), (.istore 4, 0, 0), (.iload 7, 0, 0), (.ifCond .eq 0, 16, 0), (.goto_w 0, 15, 0)]),
  (134, [(.iconst (1), 0, 0), (.goto 0, 17, 0)]),
  (138, [(.iconst (0), 0, 0), (.goto_w 0, 17, 0)]),
  (139, [(.istore 6, 0, 0), (.goto 0, 7, 0)]),
  (144, [(.iload 4, 0, 0), (.ireturn, 0, 0)])]
def zB_Md_always : List (Nat × List zEnt) := [(0, [(.iload 2, 0, 0), (.istore 3, 0, 0), (.iload 2, 0, 0), (.iconst (-1), 0, 0), (.ixor, 0, 0), (.istore 4, 0, 0), (.goto_w 0, 1, 0)]),
  (7, [(.iload 3, 0, 0), (.iload 4, 0, 0), (.if_icmp .eq 0, 3, 0), (.goto_w 0, 2, 0)]),
  (13, [(.iload 3, 0, 0), (.istore 4, 0, 0), (.iload 2, 0, 0), (.iload 3, 0, 0), (.iand, 0, 0), (.aload 0, 0, 0), (.iload 1, 0, 0), (.iload 3, 0, 0), (.invokevirtual 0, 197, 0), (.iand, 0, 0), (.istore 3, 0, 0), (.goto 0, 1, 0)]),
  (30, [(.iload 3, 0, 0), (.ireturn, 0, 0)])]
def zB_Md_again : List (Nat × List zEnt) := [(0, [(.aload 0, 0, 0), (.invokevirtual 0, 196, 0), (.istore 3, 0, 0), (.iconst (0), 0, 0), (.istore 4, 0, 0), (.goto_w 0, 1, 0)]),
  (8, [(.iload 3, 0, 0), (.iload 4, 0, 0), (.if_icmp .eq 0, 3, 0), (.goto_w 0, 2, 0)]),
  (14, [(.iload 3, 0, 0), (.istore 4, 0, 0), (.aload 0, 0, 0), (.iload 1, 0, 0), (.aload 0, 0, 0), (.invokevirtual 0, 196, 0), (.iload 2, 0, 0), (.aload 0, 0, 0), (.iload 1, 0, 0), (.iload 3, 0, 0), (.invokevirtual 0, 197, 0), (.iand, 0, 0), (.invokevirtual 0, 198, 0), (.istore 3, 0, 0), (.goto 0, 1, 0)]),
  (38, [(.iload 3, 0, 0), (.ireturn, 0, 0)])]
def zB_Md_heldOf : List (Nat × List zEnt) := [(0, [(.aload 0, 0, 0), (.getfield 0, 11, 27), (.aload 0, 0, 0), (.getfield 0, 11, 12), (.iload 1, 0, 0), (.iaload, 0, 0), (.iconst (24), 0, 0), (.irem, 0, 0), (.iaload, 0, 0), (.istore 3, 0, 0), (.aload 0, 0, 0), (.getfield 0, 11, 27), (.aload 0, 0, 0), (.getfield 0, 11, 13), (.iload 1, 0, 0), (.iaload, 0, 0), (.iconst (24), 0, 0), (.irem, 0, 0), (.iaload, 0, 0), (.istore 4, 0, 0), (.aload 0, 0, 0), (.getfield 0, 11, 11), (.iload 1, 0, 0), (.iaload, 0, 0), (.tableswitch 13 (0) (8) #[1, 2, 6, 7, 8, 9, 10, 11, 12], 0, 0)]),
  (88, [(.aload 0, 0, 0), (.invokevirtual 0, 196, 0), (.ireturn, 0, 0)]),
  (93, [(.iconst (0), 0, 0), (.istore 5, 0, 0), (.iconst (0), 0, 0), (.istore 6, 0, 0), (.goto_w 0, 3, 0)]),
  (99, [(.iload 6, 0, 0), (.aload 0, 0, 0), (.getfield 0, 11, 0), (.if_icmp .ge 0, 5, 0), (.goto_w 0, 4, 0)]),
  (108, [(.iload 5, 0, 0), (.aload 0, 0, 0), (.getfield 0, 11, 5), (.iload 6, 0, 0), (.iaload, 0, 0), (.aload 0, 0, 0), (.getfield 0, 11, 12), (.iload 1, 0, 0), (.iaload, 0, 0), (.ishr, 0, 0), (.iconst (1), 0, 0), (.iand, 0, 0), (.iload 6, 0, 0), (.ishl, 0, 0), (.ior, 0, 0), (.istore 5, 0, 0), (.iinc 6 (1), 0, 0), (.goto 0, 3, 0)]),
  (138, [(.iload 5, 0, 0), (.ireturn, 0, 0)]),
  (141, [(.aload 0, 0, 0), (.invokevirtual 0, 196, 0), (.iload 3, 0, 0), (.iconst (-1), 0, 0), (.ixor, 0, 0), (.iand, 0, 0), (.ireturn, 0, 0)]),
  (150, [(.iload 3, 0, 0), (.iload 4, 0, 0), (.iand, 0, 0), (.ireturn, 0, 0)]),
  (155, [(.iload 3, 0, 0), (.iload 4, 0, 0), (.ior, 0, 0), (.ireturn, 0, 0)]),
  (160, [(.aload 0, 0, 0), (.iload 2, 0, 0), (.iload 3, 0, 0), (.invokevirtual 0, 197, 0), (.ireturn, 0, 0)]),
  (167, [(.aload 0, 0, 0), (.iload 2, 0, 0), (.iload 3, 0, 0), (.invokevirtual 0, 199, 0), (.ireturn, 0, 0)]),
  (174, [(.aload 0, 0, 0), (.iload 2, 0, 0), (.aload 0, 0, 0), (.invokevirtual 0, 196, 0), (.iload 3, 0, 0), (.invokevirtual 0, 198, 0), (.ireturn, 0, 0)]),
  (185, [(.aload 0, 0, 0), (.iload 2, 0, 0), (.iload 3, 0, 0), (.invokevirtual 0, 200, 0), (.ireturn, 0, 0)]),
  (192, [(.aload 0, 0, 0), (.iload 2, 0, 0), (.iload 3, 0, 0), (.iload 4, 0, 0), (.invokevirtual 0, 198, 0), (.ireturn, 0, 0)])]
def zB_Md_tell : List (Nat × List zEnt) := [(0, [(.aload 0, 0, 0), (.getfield 0, 11, 10), (.iconst (1), 0, 0), (.isub, 0, 0), (.istore 1, 0, 0), (.goto_w 0, 1, 0)]),
  (7, [(.iload 1, 0, 0), (.ifCond .lt 0, 3, 0), (.goto_w 0, 2, 0)]),
  (11, [(.aload 0, 0, 0), (.getfield 0, 11, 27), (.iload 1, 0, 0), (.aload 0, 0, 0), (.iload 1, 0, 0), (.aload 0, 0, 0), (.getfield 0, 11, 14), (.iload 1, 0, 0), (.iaload, 0, 0), (.invokevirtual 0, 201, 0), (.iastore, 0, 0), (.iinc 1 (-1), 0, 0), (.goto 0, 1, 0)]),
  (34, [(.aload 0, 0, 0), (.getfield 0, 11, 27), (.iconst (0), 0, 0), (.iaload, 0, 0), (.ireturn, 0, 0)])]
def zB_Md_holds : List (Nat × List zEnt) := [(0, [(.aload 0, 0, 0), (.invokevirtual 0, 202, 0), (.ireturn, 0, 0)])]
def zB_Md_part : List (Nat × List zEnt) := [(0, [(.iload 1, 0, 0), (.i2l, 0, 0), (.sipush (0), 0, 0), (.aload 0, 0, 0), (.getfield 0, 11, 10), (.iconst (1), 0, 0), (.isub, 0, 0), (.i2l, 0, 0), (.invokestatic 0, 166, 0), (.ifCond .ne 0, 2, 0), (.goto_w 0, 1, 0)]),
  (16, [(.iconst (-1), 0, 0), (.ireturn, 0, 0)]),
  (18, [(.aload 0, 0, 0), (.invokevirtual 0, 202, 0), (.istore 2, 0, 0), (.iload 1, 0, 0), (.ifCond .ne 0, 4, 0), (.goto_w 0, 3, 0)]),
  (27, [(.iload 2, 0, 0), (.goto 0, 5, 0)]),
  (31, [(.aload 0, 0, 0), (.getfield 0, 11, 27), (.iload 1, 0, 0), (.iaload, 0, 0), (.goto_w 0, 5, 0)]),
  (37, [(.ireturn, 0, 0)])]
def zB_Md_isOfGroup : List (Nat × List zEnt) := [(0, [(.aload 0, 0, 0), (.getfield 0, 11, 11), (.iconst (0), 0, 0), (.iaload, 0, 0), (.iconst (5), 0, 0), (.if_icmp .lt 0, 2, 0), (.goto_w 0, 1, 0)]),
  (10, [(.iconst (1), 0, 0), (.goto 0, 3, 0)]),
  (14, [(.iconst (0), 0, 0), (.goto_w 0, 3, 0)]),
  (15, [(.ireturn, 0, 0)])]
def zB_Md_hasRounds : List (Nat × List zEnt) := [(0, [(.aload 0, 0, 0), (.getfield 0, 11, 11), (.iconst (0), 0, 0), (.iaload, 0, 0), (.iconst (7), 0, 0), (.if_icmp .eq 0, 3, 0), (.goto_w 0, 1, 0)]),
  (11, [(.aload 0, 0, 0), (.getfield 0, 11, 11), (.iconst (0), 0, 0), (.iaload, 0, 0), (.iconst (8), 0, 0), (.if_icmp .eq 0, 3, 0), (.goto_w 0, 2, 0)]),
  (22, [(.aload 0, 0, 0), (.getfield 0, 11, 11), (.iconst (0), 0, 0), (.iaload, 0, 0), (.iconst (9), 0, 0), (.if_icmp .ne 0, 4, 0), (.goto_w 0, 3, 0)]),
  (33, [(.iconst (1), 0, 0), (.goto 0, 5, 0)]),
  (37, [(.iconst (0), 0, 0), (.goto_w 0, 5, 0)]),
  (38, [(.ireturn, 0, 0)])]
def zB_Md_round : List (Nat × List zEnt) := [(0, [(.aload 0, 0, 0), (.iload 1, 0, 0), (.invokevirtual 0, 170, 0), (.ifCond .ne 0, 2, 0), (.goto_w 0, 1, 0)]),
  (8, [(.iconst (-1), 0, 0), (.ireturn, 0, 0)]),
  (10, [(.aload 0, 0, 0), (.invokevirtual 0, 206, 0), (.ifCond .ne 0, 4, 0), (.goto_w 0, 3, 0)]),
  (17, [(.iconst (-2), 0, 0), (.ireturn, 0, 0)]),
  (20, [(.aload 0, 0, 0), (.invokevirtual 0, 202, 0), (.iload 1, 0, 0), (.ishr, 0, 0), (.iconst (1), 0, 0), (.iand, 0, 0), (.iconst (1), 0, 0), (.if_icmp .ne 0, 6, 0), (.goto_w 0, 5, 0)]),
  (32, [(.aload 0, 0, 0), (.getfield 0, 11, 28), (.iload 1, 0, 0), (.iaload, 0, 0), (.goto 0, 7, 0)]),
  (41, [(.iconst (-4), 0, 0), (.goto_w 0, 7, 0)]),
  (43, [(.ireturn, 0, 0)])]
def zB_Md_aim : List (Nat × List zEnt) := [(0, [(.aload 0, 0, 0), (.invokevirtual 0, 202, 0), (.istore 2, 0, 0), (.iload 2, 0, 0), (.iload 1, 0, 0), (.ishr, 0, 0), (.iconst (1), 0, 0), (.iand, 0, 0), (.ifCond .ne 0, 2, 0), (.goto_w 0, 1, 0)]),
  (13, [(.iconst (-1), 0, 0), (.ireturn, 0, 0)]),
  (15, [(.aload 0, 0, 0), (.getfield 0, 11, 11), (.iconst (0), 0, 0), (.iaload, 0, 0), (.iconst (5), 0, 0), (.if_icmp .ne 0, 4, 0), (.goto_w 0, 3, 0)]),
  (25, [(.aload 0, 0, 0), (.getfield 0, 11, 27), (.aload 0, 0, 0), (.getfield 0, 11, 12), (.iconst (0), 0, 0), (.iaload, 0, 0), (.iaload, 0, 0), (.ireturn, 0, 0)]),
  (37, [(.aload 0, 0, 0), (.getfield 0, 11, 11), (.iconst (0), 0, 0), (.iaload, 0, 0), (.iconst (6), 0, 0), (.if_icmp .eq 0, 7, 0), (.goto_w 0, 5, 0)]),
  (48, [(.aload 0, 0, 0), (.getfield 0, 11, 11), (.iconst (0), 0, 0), (.iaload, 0, 0), (.iconst (8), 0, 0), (.if_icmp .ne 0, 8, 0), (.goto_w 0, 6, 0)]),
  (59, [(.aload 0, 0, 0), (.getfield 0, 11, 28), (.iload 1, 0, 0), (.iaload, 0, 0), (.ifCond .ne 0, 8, 0), (.goto_w 0, 7, 0)]),
  (68, [(.iload 2, 0, 0), (.ireturn, 0, 0)]),
  (70, [(.iconst (0), 0, 0), (.istore 3, 0, 0), (.iconst (0), 0, 0), (.istore 4, 0, 0), (.goto_w 0, 9, 0)]),
  (75, [(.iload 4, 0, 0), (.aload 0, 0, 0), (.getfield 0, 11, 0), (.if_icmp .ge 0, 15, 0), (.goto_w 0, 10, 0)]),
  (84, [(.iload 3, 0, 0), (.aload 0, 0, 0), (.getfield 0, 11, 28), (.iload 4, 0, 0), (.iaload, 0, 0), (.ifCond .lt 0, 13, 0), (.goto_w 0, 11, 0)]),
  (95, [(.aload 0, 0, 0), (.getfield 0, 11, 28), (.iload 4, 0, 0), (.iaload, 0, 0), (.aload 0, 0, 0), (.getfield 0, 11, 28), (.iload 1, 0, 0), (.iaload, 0, 0), (.if_icmp .ge 0, 13, 0), (.goto_w 0, 12, 0)]),
  (111, [(.iconst (1), 0, 0), (.iload 4, 0, 0), (.ishl, 0, 0), (.goto 0, 14, 0)]),
  (118, [(.iconst (0), 0, 0), (.goto_w 0, 14, 0)]),
  (119, [(.ior, 0, 0), (.istore 3, 0, 0), (.iinc 4 (1), 0, 0), (.goto 0, 9, 0)]),
  (127, [(.aload 0, 0, 0), (.getfield 0, 11, 28), (.iload 1, 0, 0), (.iaload, 0, 0), (.ifCond .ne 0, 17, 0), (.goto_w 0, 16, 0)]),
  (136, [(.iconst (-1), 0, 0), (.goto 0, 18, 0)]),
  (140, [(.iload 3, 0, 0), (.goto_w 0, 18, 0)]),
  (141, [(.ireturn, 0, 0)])]
def zB_Md_planOf : List (Nat × List zEnt) := [(0, [(.aload 0, 0, 0), (.iload 1, 0, 0), (.invokevirtual 0, 208, 0), (.istore 2, 0, 0), (.iload 2, 0, 0), (.ifCond .ge 0, 2, 0), (.goto_w 0, 1, 0)]),
  (10, [(.iconst (-4), 0, 0), (.goto 0, 3, 0)]),
  (15, [(.aload 0, 0, 0), (.iload 1, 0, 0), (.aload 0, 0, 0), (.getfield 0, 11, 14), (.iconst (0), 0, 0), (.iaload, 0, 0), (.iload 2, 0, 0), (.invokevirtual 0, 186, 0), (.goto_w 0, 3, 0)]),
  (27, [(.ireturn, 0, 0)])]
def zB_Md_plan : List (Nat × List zEnt) := [(0, [(.aload 0, 0, 0), (.iload 1, 0, 0), (.invokevirtual 0, 170, 0), (.ifCond .ne 0, 2, 0), (.goto_w 0, 1, 0)]),
  (8, [(.iconst (-1), 0, 0), (.ireturn, 0, 0)]),
  (10, [(.aload 0, 0, 0), (.invokevirtual 0, 205, 0), (.ifCond .eq 0, 4, 0), (.goto_w 0, 3, 0)]),
  (17, [(.aload 0, 0, 0), (.iload 1, 0, 0), (.invokevirtual 0, 209, 0), (.goto 0, 5, 0)]),
  (25, [(.iconst (-2), 0, 0), (.goto_w 0, 5, 0)]),
  (27, [(.ireturn, 0, 0)])]
def zB_Md_answer : List (Nat × List zEnt) := [(0, [(.aload 0, 0, 0), (.iload 1, 0, 0), (.invokevirtual 0, 170, 0), (.ifCond .ne 0, 2, 0), (.goto_w 0, 1, 0)]),
  (8, [(.iconst (-1), 0, 0), (.ireturn, 0, 0)]),
  (10, [(.aload 0, 0, 0), (.invokevirtual 0, 205, 0), (.ifCond .ne 0, 4, 0), (.goto_w 0, 3, 0)]),
  (17, [(.iconst (-2), 0, 0), (.ireturn, 0, 0)]),
  (20, [(.iload 2, 0, 0), (.i2l, 0, 0), (.sipush (0), 0, 0), (.aload 0, 0, 0), (.iload 1, 0, 0), (.aload 0, 0, 0), (.getfield 0, 11, 14), (.iconst (0), 0, 0), (.iaload, 0, 0), (.invokevirtual 0, 175, 0), (.iconst (1), 0, 0), (.isub, 0, 0), (.i2l, 0, 0), (.invokestatic 0, 166, 0), (.ifCond .ne 0, 6, 0), (.goto_w 0, 5, 0)]),
  (43, [(.iconst (-1), 0, 0), (.ireturn, 0, 0)]),
  (45, [(.aload 0, 0, 0), (.invokevirtual 0, 202, 0), (.istore 3, 0, 0), (.aload 0, 0, 0), (.getfield 0, 11, 11), (.iconst (0), 0, 0), (.iaload, 0, 0), (.iconst (5), 0, 0), (.if_icmp .ne 0, 8, 0), (.goto_w 0, 7, 0)]),
  (60, [(.aload 0, 0, 0), (.getfield 0, 11, 27), (.aload 0, 0, 0), (.getfield 0, 11, 12), (.iconst (0), 0, 0), (.iaload, 0, 0), (.iaload, 0, 0), (.goto 0, 9, 0)]),
  (74, [(.iload 3, 0, 0), (.goto_w 0, 9, 0)]),
  (75, [(.istore 4, 0, 0), (.aload 0, 0, 0), (.iload 1, 0, 0), (.aload 0, 0, 0), (.aload 0, 0, 0), (.getfield 0, 11, 14), (.iconst (0), 0, 0), (.iaload, 0, 0), (.invokevirtual 0, 185, 0), (.invokevirtual 0, 175, 0), (.istore 5, 0, 0), (.iconst (0), 0, 0), (.istore 6, 0, 0), (.goto_w 0, 10, 0)]),
  (97, [(.iload 6, 0, 0), (.iload 5, 0, 0), (.if_icmp .ge 0, 14, 0), (.goto_w 0, 11, 0)]),
  (104, [(.iload 4, 0, 0), (.aload 0, 0, 0), (.iload 1, 0, 0), (.aload 0, 0, 0), (.getfield 0, 11, 14), (.iconst (0), 0, 0), (.iaload, 0, 0), (.iload 2, 0, 0), (.iload 6, 0, 0), (.invokevirtual 0, 184, 0), (.ishr, 0, 0), (.iconst (1), 0, 0), (.iand, 0, 0), (.ifCond .ne 0, 13, 0), (.goto_w 0, 12, 0)]),
  (126, [(.iload 6, 0, 0), (.ireturn, 0, 0)]),
  (129, [(.iinc 6 (1), 0, 0), (.goto 0, 10, 0)]),
  (135, [(.iconst (-4), 0, 0), (.ireturn, 0, 0)])]
def zB_Md_sumOf : List (Nat × List zEnt) := [(0, [(.iconst (0), 0, 0), (.istore 4, 0, 0), (.iload 3, 0, 0), (.istore 5, 0, 0), (.aload 0, 0, 0), (.getfield 0, 11, 1), (.iconst (1), 0, 0), (.isub, 0, 0), (.istore 6, 0, 0), (.goto_w 0, 1, 0)]),
  (14, [(.iload 6, 0, 0), (.ifCond .lt 0, 5, 0), (.goto_w 0, 2, 0)]),
  (19, [(.iload 2, 0, 0), (.iload 6, 0, 0), (.ishr, 0, 0), (.iconst (1), 0, 0), (.iand, 0, 0), (.iconst (1), 0, 0), (.if_icmp .ne 0, 4, 0), (.goto_w 0, 3, 0)]),
  (29, [(.aload 0, 0, 0), (.getfield 0, 11, 2), (.iconst (4), 0, 0), (.iload 1, 0, 0), (.imul, 0, 0), (.iload 6, 0, 0), (.iadd, 0, 0), (.iaload, 0, 0), (.istore 7, 0, 0), (.iload 4, 0, 0), (.aload 0, 0, 0), (.getfield 0, 11, 4), (.iconst (12), 0, 0), (.iload 1, 0, 0), (.imul, 0, 0), (.iconst (3), 0, 0), (.iload 6, 0, 0), (.imul, 0, 0), (.iadd, 0, 0), (.iload 5, 0, 0), (.iload 7, 0, 0), (.irem, 0, 0), (.iadd, 0, 0), (.iaload, 0, 0), (.iadd, 0, 0), (.istore 4, 0, 0), (.iload 5, 0, 0), (.iload 7, 0, 0), (.idiv, 0, 0), (.istore 5, 0, 0), (.goto_w 0, 4, 0)]),
  (74, [(.iinc 6 (-1), 0, 0), (.goto 0, 1, 0)]),
  (80, [(.iload 4, 0, 0), (.ireturn, 0, 0)])]
def zB_Md_tollBy : List (Nat × List zEnt) := [(0, [(.aload 0, 0, 0), (.getfield 0, 11, 14), (.iconst (0), 0, 0), (.iaload, 0, 0), (.istore 3, 0, 0), (.aload 0, 0, 0), (.iload 1, 0, 0), (.aload 0, 0, 0), (.iload 3, 0, 0), (.invokevirtual 0, 185, 0), (.invokevirtual 0, 175, 0), (.istore 4, 0, 0), (.iconst (0), 0, 0), (.istore 5, 0, 0), (.iconst (0), 0, 0), (.istore 6, 0, 0), (.goto_w 0, 1, 0)]),
  (25, [(.iload 6, 0, 0), (.iload 4, 0, 0), (.if_icmp .ge 0, 9, 0), (.goto_w 0, 2, 0)]),
  (32, [(.iload 5, 0, 0), (.ifCond .lt 0, 9, 0), (.goto_w 0, 3, 0)]),
  (37, [(.aload 0, 0, 0), (.getfield 0, 11, 29), (.aload 0, 0, 0), (.iload 1, 0, 0), (.iload 3, 0, 0), (.iload 2, 0, 0), (.iload 6, 0, 0), (.invokevirtual 0, 184, 0), (.iaload, 0, 0), (.istore 7, 0, 0), (.iload 7, 0, 0), (.ifCond .ge 0, 5, 0), (.goto_w 0, 4, 0)]),
  (58, [(.iconst (-1), 0, 0), (.goto 0, 8, 0)]),
  (62, [(.iload 7, 0, 0), (.iload 5, 0, 0), (.if_icmp .le 0, 7, 0), (.goto_w 0, 6, 0)]),
  (69, [(.iload 7, 0, 0), (.goto 0, 8, 0)]),
  (74, [(.iload 5, 0, 0), (.goto_w 0, 8, 0)]),
  (76, [(.istore 5, 0, 0), (.iinc 6 (1), 0, 0), (.goto 0, 1, 0)]),
  (84, [(.iload 5, 0, 0), (.ifCond .ge 0, 11, 0), (.goto_w 0, 10, 0)]),
  (89, [(.iconst (-1), 0, 0), (.goto 0, 12, 0)]),
  (93, [(.iload 5, 0, 0), (.aload 0, 0, 0), (.iload 1, 0, 0), (.iload 3, 0, 0), (.iload 2, 0, 0), (.invokevirtual 0, 212, 0), (.iadd, 0, 0), (.goto_w 0, 12, 0)]),
  (103, [(.ireturn, 0, 0)])]
def zB_Md_toll : List (Nat × List zEnt) := [(0, [(.aload 0, 0, 0), (.iload 1, 0, 0), (.invokevirtual 0, 170, 0), (.ifCond .ne 0, 2, 0), (.goto_w 0, 1, 0)]),
  (8, [(.iconst (-1), 0, 0), (.ireturn, 0, 0)]),
  (10, [(.aload 0, 0, 0), (.getfield 0, 11, 11), (.iconst (0), 0, 0), (.iaload, 0, 0), (.iconst (7), 0, 0), (.if_icmp .eq 0, 5, 0), (.goto_w 0, 3, 0)]),
  (21, [(.aload 0, 0, 0), (.getfield 0, 11, 11), (.iconst (0), 0, 0), (.iaload, 0, 0), (.iconst (9), 0, 0), (.if_icmp .eq 0, 5, 0), (.goto_w 0, 4, 0)]),
  (32, [(.iconst (-2), 0, 0), (.ireturn, 0, 0)]),
  (35, [(.aload 0, 0, 0), (.invokevirtual 0, 202, 0), (.istore 2, 0, 0), (.aload 0, 0, 0), (.getfield 0, 11, 11), (.iconst (0), 0, 0), (.iaload, 0, 0), (.iconst (7), 0, 0), (.if_icmp .ne 0, 7, 0), (.goto_w 0, 6, 0)]),
  (51, [(.aload 0, 0, 0), (.invokevirtual 0, 196, 0), (.goto 0, 8, 0)]),
  (58, [(.aload 0, 0, 0), (.getfield 0, 11, 27), (.aload 0, 0, 0), (.getfield 0, 11, 12), (.iconst (0), 0, 0), (.iaload, 0, 0), (.iaload, 0, 0), (.goto_w 0, 8, 0)]),
  (69, [(.istore 3, 0, 0), (.iconst (0), 0, 0), (.istore 4, 0, 0), (.goto_w 0, 9, 0)]),
  (73, [(.iload 4, 0, 0), (.aload 0, 0, 0), (.getfield 0, 11, 0), (.if_icmp .ge 0, 14, 0), (.goto_w 0, 10, 0)]),
  (82, [(.aload 0, 0, 0), (.getfield 0, 11, 29), (.iload 4, 0, 0), (.aload 0, 0, 0), (.getfield 0, 11, 28), (.iload 4, 0, 0), (.iaload, 0, 0), (.ifCond .ne 0, 12, 0), (.goto_w 0, 11, 0)]),
  (98, [(.iconst (0), 0, 0), (.goto 0, 13, 0)]),
  (102, [(.iconst (-1), 0, 0), (.goto_w 0, 13, 0)]),
  (103, [(.iastore, 0, 0), (.iinc 4 (1), 0, 0), (.goto 0, 9, 0)]),
  (110, [(.iconst (1), 0, 0), (.istore 4, 0, 0), (.goto_w 0, 15, 0)]),
  (113, [(.iload 4, 0, 0), (.ifCond .eq 0, 42, 0), (.goto_w 0, 16, 0)]),
  (118, [(.iconst (0), 0, 0), (.istore 4, 0, 0), (.iconst (0), 0, 0), (.istore 5, 0, 0), (.goto_w 0, 17, 0)]),
  (124, [(.iload 5, 0, 0), (.aload 0, 0, 0), (.getfield 0, 11, 0), (.if_icmp .ge 0, 38, 0), (.goto_w 0, 18, 0)]),
  (133, [(.aload 0, 0, 0), (.getfield 0, 11, 30), (.iload 5, 0, 0), (.aload 0, 0, 0), (.getfield 0, 11, 29), (.iload 5, 0, 0), (.iaload, 0, 0), (.iastore, 0, 0), (.aload 0, 0, 0), (.getfield 0, 11, 28), (.iload 5, 0, 0), (.iaload, 0, 0), (.ifCond .eq 0, 21, 0), (.goto_w 0, 19, 0)]),
  (157, [(.iload 3, 0, 0), (.iload 5, 0, 0), (.ishr, 0, 0), (.iconst (1), 0, 0), (.iand, 0, 0), (.iconst (1), 0, 0), (.if_icmp .ne 0, 21, 0), (.goto_w 0, 20, 0)]),
  (167, [(.aload 0, 0, 0), (.iload 5, 0, 0), (.aload 0, 0, 0), (.getfield 0, 11, 14), (.iconst (0), 0, 0), (.iaload, 0, 0), (.invokevirtual 0, 175, 0), (.goto 0, 22, 0)]),
  (182, [(.iconst (0), 0, 0), (.goto_w 0, 22, 0)]),
  (183, [(.istore 6, 0, 0), (.iconst (0), 0, 0), (.istore 7, 0, 0), (.goto_w 0, 23, 0)]),
  (188, [(.iload 7, 0, 0), (.iload 6, 0, 0), (.if_icmp .ge 0, 37, 0), (.goto_w 0, 24, 0)]),
  (195, [(.aload 0, 0, 0), (.iload 5, 0, 0), (.iload 7, 0, 0), (.invokevirtual 0, 213, 0), (.istore 8, 0, 0), (.iload 8, 0, 0), (.ifCond .lt 0, 28, 0), (.goto_w 0, 25, 0)]),
  (210, [(.aload 0, 0, 0), (.getfield 0, 11, 30), (.iload 5, 0, 0), (.iaload, 0, 0), (.ifCond .lt 0, 27, 0), (.goto_w 0, 26, 0)]),
  (220, [(.iload 8, 0, 0), (.aload 0, 0, 0), (.getfield 0, 11, 30), (.iload 5, 0, 0), (.iaload, 0, 0), (.if_icmp .ge 0, 28, 0), (.goto_w 0, 27, 0)]),
  (232, [(.iconst (1), 0, 0), (.goto 0, 29, 0)]),
  (236, [(.iconst (0), 0, 0), (.goto_w 0, 29, 0)]),
  (237, [(.istore 9, 0, 0), (.aload 0, 0, 0), (.getfield 0, 11, 30), (.iload 5, 0, 0), (.iload 9, 0, 0), (.ifCond .eq 0, 31, 0), (.goto_w 0, 30, 0)]),
  (250, [(.iload 8, 0, 0), (.goto 0, 32, 0)]),
  (255, [(.aload 0, 0, 0), (.getfield 0, 11, 30), (.iload 5, 0, 0), (.iaload, 0, 0), (.goto_w 0, 32, 0)]),
  (262, [(.iastore, 0, 0), (.iload 4, 0, 0), (.ifCond .ne 0, 34, 0), (.goto_w 0, 33, 0)]),
  (268, [(.iload 9, 0, 0), (.ifCond .eq 0, 35, 0), (.goto_w 0, 34, 0)]),
  (273, [(.iconst (1), 0, 0), (.goto 0, 36, 0)]),
  (277, [(.iconst (0), 0, 0), (.goto_w 0, 36, 0)]),
  (278, [(.istore 4, 0, 0), (.iinc 7 (1), 0, 0), (.goto 0, 23, 0)]),
  (286, [(.iinc 5 (1), 0, 0), (.goto 0, 17, 0)]),
  (292, [(.iconst (0), 0, 0), (.istore 5, 0, 0), (.goto_w 0, 39, 0)]),
  (295, [(.iload 5, 0, 0), (.aload 0, 0, 0), (.getfield 0, 11, 0), (.if_icmp .ge 0, 41, 0), (.goto_w 0, 40, 0)]),
  (304, [(.aload 0, 0, 0), (.getfield 0, 11, 29), (.iload 5, 0, 0), (.aload 0, 0, 0), (.getfield 0, 11, 30), (.iload 5, 0, 0), (.iaload, 0, 0), (.iastore, 0, 0), (.iinc 5 (1), 0, 0), (.goto 0, 39, 0)]),
  (324, [(.goto 0, 15, 0)]),
  (327, [(.iload 2, 0, 0), (.iload 1, 0, 0), (.ishr, 0, 0), (.iconst (1), 0, 0), (.iand, 0, 0), (.iconst (1), 0, 0), (.if_icmp .ne 0, 44, 0), (.goto_w 0, 43, 0)]),
  (336, [(.aload 0, 0, 0), (.getfield 0, 11, 29), (.iload 1, 0, 0), (.iaload, 0, 0), (.goto 0, 45, 0)]),
  (345, [(.iconst (-4), 0, 0), (.goto_w 0, 45, 0)]),
  (347, [(.ireturn, 0, 0)])]
def zB_Md_isSheet : List (Nat × List zEnt) := [(0, [(.iload 0, 0, 0), (.i2l, 0, 0), (.sipush (0), 0, 0), (.sipush (3), 0, 0), (.invokestatic 0, 166, 0), (.ireturn, 0, 0)])]
def zB_Md_isLane : List (Nat × List zEnt) := [(0, [(.iload 0, 0, 0), (.i2l, 0, 0), (.sipush (0), 0, 0), (.sipush (2), 0, 0), (.invokestatic 0, 166, 0), (.ireturn, 0, 0)])]
def zB_Md_finds : List (Nat × List zEnt) := [(0, [(.aload 0, 0, 0), (.getfield 0, 11, 33), (.iload 1, 0, 0), (.iaload, 0, 0), (.ifCond .ge 0, 2, 0), (.goto_w 0, 1, 0)]),
  (9, [(.iconst (-11), 0, 0), (.ireturn, 0, 0)]),
  (12, [(.aload 0, 0, 0), (.getfield 0, 11, 33), (.iload 1, 0, 0), (.iaload, 0, 0), (.iload 2, 0, 0), (.if_icmp .eq 0, 4, 0), (.goto_w 0, 3, 0)]),
  (22, [(.iconst (-12), 0, 0), (.ireturn, 0, 0)]),
  (25, [(.iload 3, 0, 0), (.ifCond .lt 0, 6, 0), (.goto_w 0, 5, 0)]),
  (29, [(.iload 3, 0, 0), (.i2l, 0, 0), (.iload 4, 0, 0), (.i2l, 0, 0), (.ladd, 0, 0), (.aload 0, 0, 0), (.getfield 0, 11, 34), (.iload 1, 0, 0), (.iaload, 0, 0), (.i2l, 0, 0), (.lcmp, 0, 0), (.ifCond .le 0, 7, 0), (.goto_w 0, 6, 0)]),
  (46, [(.iconst (-13), 0, 0), (.goto 0, 8, 0)]),
  (51, [(.iconst (0), 0, 0), (.goto_w 0, 8, 0)]),
  (52, [(.ireturn, 0, 0)])]
def zB_Md_walk : List (Nat × List zEnt) := [(0, [(.aload 0, 0, 0), (.iload 1, 0, 0), (.invokevirtual 0, 170, 0), (.ifCond .eq 0, 4, 0), (.goto_w 0, 1, 0)]),
  (8, [(.iload 2, 0, 0), (.invokestatic 0, 215, 0), (.ifCond .eq 0, 4, 0), (.goto_w 0, 2, 0)]),
  (15, [(.iload 3, 0, 0), (.invokestatic 0, 216, 0), (.ifCond .eq 0, 4, 0), (.goto_w 0, 3, 0)]),
  (22, [(.iload 5, 0, 0), (.i2l, 0, 0), (.sipush (0), 0, 0), (.sipush (40), 0, 0), (.invokestatic 0, 166, 0), (.ifCond .ne 0, 5, 0), (.goto_w 0, 4, 0)]),
  (35, [(.iconst (-1), 0, 0), (.ireturn, 0, 0)]),
  (37, [(.aload 0, 0, 0), (.iload 2, 0, 0), (.iload 3, 0, 0), (.iload 4, 0, 0), (.iload 5, 0, 0), (.invokevirtual 0, 217, 0), (.istore 6, 0, 0), (.iload 6, 0, 0), (.ifCond .ge 0, 7, 0), (.goto_w 0, 6, 0)]),
  (54, [(.iload 6, 0, 0), (.ireturn, 0, 0)]),
  (57, [(.aload 0, 0, 0), (.invokevirtual 0, 205, 0), (.istore 7, 0, 0), (.iconst (0), 0, 0), (.istore 8, 0, 0), (.goto_w 0, 8, 0)]),
  (66, [(.iload 8, 0, 0), (.iload 5, 0, 0), (.if_icmp .ge 0, 14, 0), (.goto_w 0, 9, 0)]),
  (73, [(.iload 7, 0, 0), (.ifCond .eq 0, 12, 0), (.goto_w 0, 10, 0)]),
  (78, [(.aload 0, 0, 0), (.getfield 0, 11, 35), (.iconst (81), 0, 0), (.iload 2, 0, 0), (.imul, 0, 0), (.iload 4, 0, 0), (.iadd, 0, 0), (.iload 8, 0, 0), (.iadd, 0, 0), (.iaload, 0, 0), (.ifCond .lt 0, 12, 0), (.goto_w 0, 11, 0)]),
  (96, [(.iconst (1), 0, 0), (.goto 0, 13, 0)]),
  (100, [(.iconst (0), 0, 0), (.goto_w 0, 13, 0)]),
  (101, [(.istore 7, 0, 0), (.iinc 8 (1), 0, 0), (.goto 0, 8, 0)]),
  (109, [(.iload 7, 0, 0), (.ifCond .ne 0, 16, 0), (.goto_w 0, 15, 0)]),
  (114, [(.iconst (-2), 0, 0), (.ireturn, 0, 0)]),
  (117, [(.aload 0, 0, 0), (.getfield 0, 11, 32), (.iconst (0), 0, 0), (.iload 1, 0, 0), (.iastore, 0, 0), (.iconst (0), 0, 0), (.istore 8, 0, 0), (.goto_w 0, 17, 0)]),
  (127, [(.iload 8, 0, 0), (.iload 5, 0, 0), (.if_icmp .ge 0, 22, 0), (.goto_w 0, 18, 0)]),
  (134, [(.aload 0, 0, 0), (.getfield 0, 11, 32), (.iload 8, 0, 0), (.iaload, 0, 0), (.istore 9, 0, 0), (.aload 0, 0, 0), (.iload 9, 0, 0), (.invokevirtual 0, 209, 0), (.istore 10, 0, 0), (.aload 0, 0, 0), (.getfield 0, 11, 35), (.iconst (81), 0, 0), (.iload 2, 0, 0), (.imul, 0, 0), (.iload 4, 0, 0), (.iadd, 0, 0), (.iload 8, 0, 0), (.iadd, 0, 0), (.iaload, 0, 0), (.aload 0, 0, 0), (.iload 9, 0, 0), (.aload 0, 0, 0), (.aload 0, 0, 0), (.getfield 0, 11, 14), (.iconst (0), 0, 0), (.iaload, 0, 0), (.invokevirtual 0, 185, 0), (.invokevirtual 0, 175, 0), (.irem, 0, 0), (.istore 11, 0, 0), (.aload 0, 0, 0), (.getfield 0, 11, 32), (.iload 8, 0, 0), (.iconst (1), 0, 0), (.iadd, 0, 0), (.aload 0, 0, 0), (.iload 9, 0, 0), (.aload 0, 0, 0), (.getfield 0, 11, 14), (.iconst (0), 0, 0), (.iaload, 0, 0), (.iload 10, 0, 0), (.ifCond .ge 0, 20, 0), (.goto_w 0, 19, 0)]),
  (207, [(.iconst (0), 0, 0), (.goto 0, 21, 0)]),
  (211, [(.iload 10, 0, 0), (.goto_w 0, 21, 0)]),
  (213, [(.iload 11, 0, 0), (.invokevirtual 0, 184, 0), (.iastore, 0, 0), (.iinc 8 (1), 0, 0), (.goto 0, 17, 0)]),
  (225, [(.aload 0, 0, 0), (.iload 5, 0, 0), (.iconst (1), 0, 0), (.iadd, 0, 0), (.putfield 0, 11, 31), (.aload 0, 0, 0), (.getfield 0, 11, 32), (.iload 5, 0, 0), (.iaload, 0, 0), (.ireturn, 0, 0)])]
def zB_Md_walked : List (Nat × List zEnt) := [(0, [(.iload 1, 0, 0), (.i2l, 0, 0), (.sipush (0), 0, 0), (.aload 0, 0, 0), (.getfield 0, 11, 31), (.iconst (1), 0, 0), (.isub, 0, 0), (.i2l, 0, 0), (.invokestatic 0, 166, 0), (.ifCond .eq 0, 2, 0), (.goto_w 0, 1, 0)]),
  (16, [(.aload 0, 0, 0), (.getfield 0, 11, 32), (.iload 1, 0, 0), (.iaload, 0, 0), (.goto 0, 3, 0)]),
  (25, [(.iconst (-1), 0, 0), (.goto_w 0, 3, 0)]),
  (26, [(.ireturn, 0, 0)])]
def zB_Md_steps : List (Nat × List zEnt) := [(0, [(.aload 0, 0, 0), (.iload 1, 0, 0), (.invokevirtual 0, 170, 0), (.ifCond .eq 0, 4, 0), (.goto_w 0, 1, 0)]),
  (8, [(.iload 2, 0, 0), (.invokestatic 0, 215, 0), (.ifCond .eq 0, 4, 0), (.goto_w 0, 2, 0)]),
  (15, [(.iload 3, 0, 0), (.invokestatic 0, 216, 0), (.ifCond .eq 0, 4, 0), (.goto_w 0, 3, 0)]),
  (22, [(.iload 5, 0, 0), (.i2l, 0, 0), (.sipush (0), 0, 0), (.aload 0, 0, 0), (.iload 1, 0, 0), (.aload 0, 0, 0), (.invokevirtual 0, 176, 0), (.invokevirtual 0, 175, 0), (.i2l, 0, 0), (.invokestatic 0, 166, 0), (.ifCond .ne 0, 5, 0), (.goto_w 0, 4, 0)]),
  (42, [(.iconst (-1), 0, 0), (.ireturn, 0, 0)]),
  (44, [(.aload 0, 0, 0), (.iload 2, 0, 0), (.iload 3, 0, 0), (.iload 4, 0, 0), (.iload 5, 0, 0), (.invokevirtual 0, 217, 0), (.istore 6, 0, 0), (.iload 6, 0, 0), (.ifCond .ge 0, 7, 0), (.goto_w 0, 6, 0)]),
  (61, [(.iload 6, 0, 0), (.ireturn, 0, 0)]),
  (64, [(.iconst (0), 0, 0), (.istore 7, 0, 0), (.goto_w 0, 8, 0)]),
  (67, [(.iload 7, 0, 0), (.iload 5, 0, 0), (.if_icmp .ge 0, 12, 0), (.goto_w 0, 9, 0)]),
  (74, [(.aload 0, 0, 0), (.aload 0, 0, 0), (.getfield 0, 11, 35), (.iconst (81), 0, 0), (.iload 2, 0, 0), (.imul, 0, 0), (.iload 4, 0, 0), (.iadd, 0, 0), (.iload 7, 0, 0), (.iadd, 0, 0), (.iaload, 0, 0), (.invokevirtual 0, 170, 0), (.ifCond .ne 0, 11, 0), (.goto_w 0, 10, 0)]),
  (96, [(.iconst (-2), 0, 0), (.ireturn, 0, 0)]),
  (99, [(.iinc 7 (1), 0, 0), (.goto 0, 8, 0)]),
  (105, [(.iconst (0), 0, 0), (.istore 7, 0, 0), (.goto_w 0, 13, 0)]),
  (108, [(.iload 7, 0, 0), (.iload 5, 0, 0), (.if_icmp .ge 0, 15, 0), (.goto_w 0, 14, 0)]),
  (115, [(.aload 0, 0, 0), (.getfield 0, 11, 3), (.iconst (81), 0, 0), (.iload 1, 0, 0), (.imul, 0, 0), (.iload 7, 0, 0), (.iadd, 0, 0), (.aload 0, 0, 0), (.getfield 0, 11, 35), (.iconst (81), 0, 0), (.iload 2, 0, 0), (.imul, 0, 0), (.iload 4, 0, 0), (.iadd, 0, 0), (.iload 7, 0, 0), (.iadd, 0, 0), (.iaload, 0, 0), (.iastore, 0, 0), (.iinc 7 (1), 0, 0), (.goto 0, 13, 0)]),
  (148, [(.iload 5, 0, 0), (.ireturn, 0, 0)])]
def zB_Md_mostOf : List (Nat × List zEnt) := [(0, [(.iconst (0), 0, 0), (.istore 3, 0, 0), (.iconst (0), 0, 0), (.istore 4, 0, 0), (.goto_w 0, 1, 0)]),
  (5, [(.iload 4, 0, 0), (.aload 0, 0, 0), (.getfield 0, 11, 0), (.if_icmp .ge 0, 8, 0), (.goto_w 0, 2, 0)]),
  (14, [(.aload 0, 0, 0), (.getfield 0, 11, 2), (.iconst (4), 0, 0), (.iload 4, 0, 0), (.imul, 0, 0), (.iload 1, 0, 0), (.iadd, 0, 0), (.iaload, 0, 0), (.istore 5, 0, 0), (.aload 0, 0, 0), (.getfield 0, 11, 6), (.iconst (4), 0, 0), (.iload 4, 0, 0), (.imul, 0, 0), (.iload 1, 0, 0), (.iadd, 0, 0), (.iaload, 0, 0), (.iload 2, 0, 0), (.if_icmp .ne 0, 6, 0), (.goto_w 0, 3, 0)]),
  (42, [(.iload 3, 0, 0), (.ifCond .eq 0, 5, 0), (.goto_w 0, 4, 0)]),
  (46, [(.iload 5, 0, 0), (.iload 3, 0, 0), (.if_icmp .ge 0, 6, 0), (.goto_w 0, 5, 0)]),
  (52, [(.iload 5, 0, 0), (.goto 0, 7, 0)]),
  (57, [(.iload 3, 0, 0), (.goto_w 0, 7, 0)]),
  (58, [(.istore 3, 0, 0), (.iinc 4 (1), 0, 0), (.goto 0, 1, 0)]),
  (65, [(.iload 3, 0, 0), (.ireturn, 0, 0)])]
def zB_Md_lays : List (Nat × List zEnt) := [(0, [(.aload 0, 0, 0), (.iconst (0), 0, 0), (.putfield 0, 11, 41), (.iconst (1), 0, 0), (.istore 1, 0, 0), (.iconst (0), 0, 0), (.istore 2, 0, 0), (.goto_w 0, 1, 0)]),
  (9, [(.iload 2, 0, 0), (.aload 0, 0, 0), (.getfield 0, 11, 1), (.if_icmp .ge 0, 12, 0), (.goto_w 0, 2, 0)]),
  (17, [(.iconst (0), 0, 0), (.istore 3, 0, 0), (.goto_w 0, 3, 0)]),
  (19, [(.iload 3, 0, 0), (.iconst (12), 0, 0), (.if_icmp .ge 0, 11, 0), (.goto_w 0, 4, 0)]),
  (25, [(.aload 0, 0, 0), (.getfield 0, 11, 14), (.iconst (0), 0, 0), (.iaload, 0, 0), (.iload 2, 0, 0), (.ishr, 0, 0), (.iconst (1), 0, 0), (.iand, 0, 0), (.iconst (1), 0, 0), (.if_icmp .ne 0, 11, 0), (.goto_w 0, 5, 0)]),
  (39, [(.aload 0, 0, 0), (.iload 2, 0, 0), (.iload 3, 0, 0), (.invokevirtual 0, 221, 0), (.istore 4, 0, 0), (.iload 4, 0, 0), (.ifCond .le 0, 10, 0), (.goto_w 0, 6, 0)]),
  (52, [(.aload 0, 0, 0), (.getfield 0, 11, 37), (.aload 0, 0, 0), (.getfield 0, 11, 41), (.iload 2, 0, 0), (.iastore, 0, 0), (.aload 0, 0, 0), (.getfield 0, 11, 38), (.aload 0, 0, 0), (.getfield 0, 11, 41), (.iload 3, 0, 0), (.iastore, 0, 0), (.aload 0, 0, 0), (.getfield 0, 11, 39), (.aload 0, 0, 0), (.getfield 0, 11, 41), (.iload 4, 0, 0), (.iastore, 0, 0), (.aload 0, 0, 0), (.getfield 0, 11, 40), (.aload 0, 0, 0), (.getfield 0, 11, 41), (.iconst (0), 0, 0), (.iastore, 0, 0), (.aload 0, 0, 0), (.dup, 0, 0), (.getfield 0, 11, 41), (.iconst (1), 0, 0), (.iadd, 0, 0), (.putfield 0, 11, 41), (.iload 1, 0, 0), (.iload 4, 0, 0), (.imul, 0, 0), (.iconst (5001), 0, 0), (.if_icmp .le 0, 8, 0), (.goto_w 0, 7, 0)]),
  (113, [(.iconst (5001), 0, 0), (.goto 0, 9, 0)]),
  (119, [(.iload 1, 0, 0), (.iload 4, 0, 0), (.imul, 0, 0), (.goto_w 0, 9, 0)]),
  (123, [(.istore 1, 0, 0), (.goto_w 0, 10, 0)]),
  (124, [(.iinc 3 (1), 0, 0), (.goto 0, 3, 0)]),
  (130, [(.iinc 2 (1), 0, 0), (.goto 0, 1, 0)]),
  (136, [(.iload 1, 0, 0), (.ireturn, 0, 0)])]
def zB_Md_digitOf : List (Nat × List zEnt) := [(0, [(.iconst (0), 0, 0), (.istore 3, 0, 0), (.goto_w 0, 1, 0)]),
  (2, [(.iload 3, 0, 0), (.aload 0, 0, 0), (.getfield 0, 11, 41), (.if_icmp .ge 0, 6, 0), (.goto_w 0, 2, 0)]),
  (10, [(.aload 0, 0, 0), (.getfield 0, 11, 37), (.iload 3, 0, 0), (.iaload, 0, 0), (.iload 1, 0, 0), (.if_icmp .ne 0, 5, 0), (.goto_w 0, 3, 0)]),
  (20, [(.aload 0, 0, 0), (.getfield 0, 11, 38), (.iload 3, 0, 0), (.iaload, 0, 0), (.iload 2, 0, 0), (.if_icmp .ne 0, 5, 0), (.goto_w 0, 4, 0)]),
  (30, [(.iload 3, 0, 0), (.ireturn, 0, 0)]),
  (32, [(.iinc 3 (1), 0, 0), (.goto 0, 1, 0)]),
  (38, [(.iconst (-1), 0, 0), (.ireturn, 0, 0)])]
def zB_Md_countsUp : List (Nat × List zEnt) := [(0, [(.aload 0, 0, 0), (.getfield 0, 11, 41), (.iconst (1), 0, 0), (.isub, 0, 0), (.istore 1, 0, 0), (.goto_w 0, 1, 0)]),
  (7, [(.iload 1, 0, 0), (.ifCond .lt 0, 4, 0), (.goto_w 0, 2, 0)]),
  (11, [(.aload 0, 0, 0), (.getfield 0, 11, 40), (.iload 1, 0, 0), (.iaload, 0, 0), (.aload 0, 0, 0), (.getfield 0, 11, 39), (.iload 1, 0, 0), (.iaload, 0, 0), (.iconst (1), 0, 0), (.isub, 0, 0), (.if_icmp .ne 0, 4, 0), (.goto_w 0, 3, 0)]),
  (28, [(.aload 0, 0, 0), (.getfield 0, 11, 40), (.iload 1, 0, 0), (.iconst (0), 0, 0), (.iastore, 0, 0), (.iinc 1 (-1), 0, 0), (.goto 0, 1, 0)]),
  (41, [(.iload 1, 0, 0), (.ifCond .lt 0, 6, 0), (.goto_w 0, 5, 0)]),
  (45, [(.aload 0, 0, 0), (.getfield 0, 11, 40), (.iload 1, 0, 0), (.dup2, 0, 0), (.iaload, 0, 0), (.iconst (1), 0, 0), (.iadd, 0, 0), (.iastore, 0, 0), (.goto_w 0, 6, 0)]),
  (55, [(.iload 1, 0, 0), (.ifCond .lt 0, 8, 0), (.goto_w 0, 7, 0)]),
  (59, [(.iconst (1), 0, 0), (.goto 0, 9, 0)]),
  (63, [(.iconst (0), 0, 0), (.goto_w 0, 9, 0)]),
  (64, [(.ireturn, 0, 0)])]
def zB_Md_links : List (Nat × List zEnt) := [(0, [(.iconst (0), 0, 0), (.istore 1, 0, 0), (.goto_w 0, 1, 0)]),
  (2, [(.iload 1, 0, 0), (.aload 0, 0, 0), (.getfield 0, 11, 0), (.if_icmp .ge 0, 11, 0), (.goto_w 0, 2, 0)]),
  (10, [(.iconst (0), 0, 0), (.istore 2, 0, 0), (.iconst (0), 0, 0), (.istore 3, 0, 0), (.goto_w 0, 3, 0)]),
  (14, [(.iload 3, 0, 0), (.aload 0, 0, 0), (.getfield 0, 11, 1), (.if_icmp .ge 0, 7, 0), (.goto_w 0, 4, 0)]),
  (22, [(.aload 0, 0, 0), (.getfield 0, 11, 14), (.iconst (0), 0, 0), (.iaload, 0, 0), (.iload 3, 0, 0), (.ishr, 0, 0), (.iconst (1), 0, 0), (.iand, 0, 0), (.iconst (1), 0, 0), (.if_icmp .ne 0, 6, 0), (.goto_w 0, 5, 0)]),
  (36, [(.iload 2, 0, 0), (.aload 0, 0, 0), (.getfield 0, 11, 2), (.iconst (4), 0, 0), (.iload 1, 0, 0), (.imul, 0, 0), (.iload 3, 0, 0), (.iadd, 0, 0), (.iaload, 0, 0), (.imul, 0, 0), (.aload 0, 0, 0), (.getfield 0, 11, 40), (.aload 0, 0, 0), (.iload 3, 0, 0), (.aload 0, 0, 0), (.getfield 0, 11, 6), (.iconst (4), 0, 0), (.iload 1, 0, 0), (.imul, 0, 0), (.iload 3, 0, 0), (.iadd, 0, 0), (.iaload, 0, 0), (.invokevirtual 0, 223, 0), (.iaload, 0, 0), (.iadd, 0, 0), (.istore 2, 0, 0), (.goto_w 0, 6, 0)]),
  (70, [(.iinc 3 (1), 0, 0), (.goto 0, 3, 0)]),
  (76, [(.aload 0, 0, 0), (.getfield 0, 11, 42), (.iload 1, 0, 0), (.iconst (0), 0, 0), (.iastore, 0, 0), (.aload 0, 0, 0), (.iload 1, 0, 0), (.aload 0, 0, 0), (.aload 0, 0, 0), (.getfield 0, 11, 14), (.iconst (0), 0, 0), (.iaload, 0, 0), (.invokevirtual 0, 185, 0), (.invokevirtual 0, 175, 0), (.istore 3, 0, 0), (.iconst (0), 0, 0), (.istore 4, 0, 0), (.goto_w 0, 8, 0)]),
  (102, [(.iload 4, 0, 0), (.iload 3, 0, 0), (.if_icmp .ge 0, 10, 0), (.goto_w 0, 9, 0)]),
  (108, [(.aload 0, 0, 0), (.getfield 0, 11, 42), (.iload 1, 0, 0), (.dup2, 0, 0), (.iaload, 0, 0), (.iconst (1), 0, 0), (.aload 0, 0, 0), (.iload 1, 0, 0), (.aload 0, 0, 0), (.getfield 0, 11, 14), (.iconst (0), 0, 0), (.iaload, 0, 0), (.iload 2, 0, 0), (.iload 4, 0, 0), (.invokevirtual 0, 184, 0), (.ishl, 0, 0), (.ior, 0, 0), (.iastore, 0, 0), (.iinc 4 (1), 0, 0), (.goto 0, 8, 0)]),
  (139, [(.iinc 1 (1), 0, 0), (.goto 0, 1, 0)]),
  (145, [(.return_, 0, 0)])]
def zB_Md_surely : List (Nat × List zEnt) := [(0, [(.iload 2, 0, 0), (.istore 3, 0, 0), (.iconst (-1), 0, 0), (.istore 4, 0, 0), (.goto_w 0, 1, 0)]),
  (5, [(.iload 3, 0, 0), (.iload 4, 0, 0), (.if_icmp .eq 0, 10, 0), (.goto_w 0, 2, 0)]),
  (11, [(.iload 3, 0, 0), (.istore 4, 0, 0), (.iconst (0), 0, 0), (.istore 5, 0, 0), (.goto_w 0, 3, 0)]),
  (17, [(.iload 5, 0, 0), (.aload 0, 0, 0), (.getfield 0, 11, 0), (.if_icmp .ge 0, 9, 0), (.goto_w 0, 4, 0)]),
  (26, [(.iload 3, 0, 0), (.iload 1, 0, 0), (.iload 5, 0, 0), (.ishr, 0, 0), (.iconst (1), 0, 0), (.iand, 0, 0), (.iconst (1), 0, 0), (.if_icmp .ne 0, 7, 0), (.goto_w 0, 5, 0)]),
  (37, [(.aload 0, 0, 0), (.getfield 0, 11, 42), (.iload 5, 0, 0), (.iaload, 0, 0), (.iload 4, 0, 0), (.iconst (-1), 0, 0), (.ixor, 0, 0), (.iand, 0, 0), (.ifCond .ne 0, 7, 0), (.goto_w 0, 6, 0)]),
  (52, [(.iconst (1), 0, 0), (.iload 5, 0, 0), (.ishl, 0, 0), (.goto 0, 8, 0)]),
  (59, [(.iconst (0), 0, 0), (.goto_w 0, 8, 0)]),
  (60, [(.ior, 0, 0), (.istore 3, 0, 0), (.iinc 5 (1), 0, 0), (.goto 0, 3, 0)]),
  (68, [(.goto 0, 1, 0)]),
  (71, [(.iload 3, 0, 0), (.ireturn, 0, 0)])]
def zB_Md_stays : List (Nat × List zEnt) := [(0, [(.iload 1, 0, 0), (.istore 2, 0, 0), (.iconst (-1), 0, 0), (.istore 3, 0, 0), (.goto_w 0, 1, 0)]),
  (4, [(.iload 2, 0, 0), (.iload 3, 0, 0), (.if_icmp .eq 0, 9, 0), (.goto_w 0, 2, 0)]),
  (9, [(.iload 2, 0, 0), (.istore 3, 0, 0), (.iconst (0), 0, 0), (.istore 4, 0, 0), (.goto_w 0, 3, 0)]),
  (14, [(.iload 4, 0, 0), (.aload 0, 0, 0), (.getfield 0, 11, 0), (.if_icmp .ge 0, 8, 0), (.goto_w 0, 4, 0)]),
  (23, [(.iload 2, 0, 0), (.aload 0, 0, 0), (.getfield 0, 11, 42), (.iload 4, 0, 0), (.iaload, 0, 0), (.iload 3, 0, 0), (.iconst (-1), 0, 0), (.ixor, 0, 0), (.iand, 0, 0), (.ifCond .ne 0, 6, 0), (.goto_w 0, 5, 0)]),
  (38, [(.iconst (-1), 0, 0), (.goto 0, 7, 0)]),
  (42, [(.iconst (1), 0, 0), (.iload 4, 0, 0), (.ishl, 0, 0), (.iconst (-1), 0, 0), (.ixor, 0, 0), (.goto_w 0, 7, 0)]),
  (48, [(.iand, 0, 0), (.istore 2, 0, 0), (.iinc 4 (1), 0, 0), (.goto 0, 3, 0)]),
  (56, [(.goto 0, 1, 0)]),
  (59, [(.iload 2, 0, 0), (.ireturn, 0, 0)])]
def zB_Md_does : List (Nat × List zEnt) := [(0, [(.aload 0, 0, 0), (.getfield 0, 11, 27), (.aload 0, 0, 0), (.getfield 0, 11, 12), (.iconst (0), 0, 0), (.iaload, 0, 0), (.iaload, 0, 0), (.istore 1, 0, 0), (.aload 0, 0, 0), (.getfield 0, 11, 11), (.iconst (0), 0, 0), (.iaload, 0, 0), (.iconst (5), 0, 0), (.if_icmp .ne 0, 8, 0), (.goto_w 0, 1, 0)]),
  (22, [(.iconst (0), 0, 0), (.istore 2, 0, 0), (.iconst (0), 0, 0), (.istore 3, 0, 0), (.goto_w 0, 2, 0)]),
  (26, [(.iload 3, 0, 0), (.aload 0, 0, 0), (.getfield 0, 11, 0), (.if_icmp .ge 0, 7, 0), (.goto_w 0, 3, 0)]),
  (34, [(.iload 2, 0, 0), (.aload 0, 0, 0), (.getfield 0, 11, 42), (.iload 3, 0, 0), (.iaload, 0, 0), (.iload 1, 0, 0), (.iconst (-1), 0, 0), (.ixor, 0, 0), (.iand, 0, 0), (.ifCond .ne 0, 5, 0), (.goto_w 0, 4, 0)]),
  (48, [(.iconst (1), 0, 0), (.iload 3, 0, 0), (.ishl, 0, 0), (.goto 0, 6, 0)]),
  (54, [(.iconst (0), 0, 0), (.goto_w 0, 6, 0)]),
  (55, [(.ior, 0, 0), (.istore 2, 0, 0), (.iinc 3 (1), 0, 0), (.goto 0, 2, 0)]),
  (63, [(.iload 2, 0, 0), (.ireturn, 0, 0)]),
  (65, [(.aload 0, 0, 0), (.getfield 0, 11, 11), (.iconst (0), 0, 0), (.iaload, 0, 0), (.iconst (6), 0, 0), (.if_icmp .ne 0, 10, 0), (.goto_w 0, 9, 0)]),
  (76, [(.aload 0, 0, 0), (.iload 1, 0, 0), (.invokevirtual 0, 227, 0), (.ireturn, 0, 0)]),
  (82, [(.aload 0, 0, 0), (.getfield 0, 11, 11), (.iconst (0), 0, 0), (.iaload, 0, 0), (.iconst (8), 0, 0), (.if_icmp .ne 0, 12, 0), (.goto_w 0, 11, 0)]),
  (93, [(.aload 0, 0, 0), (.aload 0, 0, 0), (.aload 0, 0, 0), (.invokevirtual 0, 196, 0), (.iload 1, 0, 0), (.invokevirtual 0, 226, 0), (.invokevirtual 0, 227, 0), (.ireturn, 0, 0)]),
  (107, [(.aload 0, 0, 0), (.getfield 0, 11, 11), (.iconst (0), 0, 0), (.iaload, 0, 0), (.iconst (7), 0, 0), (.if_icmp .ne 0, 14, 0), (.goto_w 0, 13, 0)]),
  (118, [(.aload 0, 0, 0), (.aload 0, 0, 0), (.invokevirtual 0, 196, 0), (.iload 1, 0, 0), (.invokevirtual 0, 226, 0), (.goto 0, 15, 0)]),
  (130, [(.aload 0, 0, 0), (.iload 1, 0, 0), (.aload 0, 0, 0), (.getfield 0, 11, 27), (.aload 0, 0, 0), (.getfield 0, 11, 13), (.iconst (0), 0, 0), (.iaload, 0, 0), (.iaload, 0, 0), (.invokevirtual 0, 226, 0), (.goto_w 0, 15, 0)]),
  (146, [(.ireturn, 0, 0)])]
def zB_Md_fits : List (Nat × List zEnt) := [(0, [(.iconst (1), 0, 0), (.iload 1, 0, 0), (.ishl, 0, 0), (.istore 2, 0, 0), (.iconst (0), 0, 0), (.istore 3, 0, 0), (.goto_w 0, 1, 0)]),
  (6, [(.iload 3, 0, 0), (.aload 0, 0, 0), (.getfield 0, 11, 1), (.if_icmp .ge 0, 10, 0), (.goto_w 0, 2, 0)]),
  (14, [(.iconst (0), 0, 0), (.istore 4, 0, 0), (.goto_w 0, 3, 0)]),
  (17, [(.iload 4, 0, 0), (.aload 0, 0, 0), (.getfield 0, 11, 0), (.if_icmp .ge 0, 9, 0), (.goto_w 0, 4, 0)]),
  (26, [(.aload 0, 0, 0), (.getfield 0, 11, 14), (.iconst (0), 0, 0), (.iaload, 0, 0), (.iload 3, 0, 0), (.ishr, 0, 0), (.iconst (1), 0, 0), (.iand, 0, 0), (.iconst (1), 0, 0), (.if_icmp .ne 0, 9, 0), (.goto_w 0, 5, 0)]),
  (40, [(.iload 2, 0, 0), (.aload 0, 0, 0), (.getfield 0, 11, 6), (.iconst (4), 0, 0), (.iload 4, 0, 0), (.imul, 0, 0), (.iload 3, 0, 0), (.iadd, 0, 0), (.iaload, 0, 0), (.aload 0, 0, 0), (.getfield 0, 11, 6), (.iconst (4), 0, 0), (.iload 1, 0, 0), (.imul, 0, 0), (.iload 3, 0, 0), (.iadd, 0, 0), (.iaload, 0, 0), (.if_icmp .ne 0, 7, 0), (.goto_w 0, 6, 0)]),
  (65, [(.iconst (1), 0, 0), (.iload 4, 0, 0), (.ishl, 0, 0), (.goto 0, 8, 0)]),
  (72, [(.iconst (0), 0, 0), (.goto_w 0, 8, 0)]),
  (73, [(.ior, 0, 0), (.istore 2, 0, 0), (.iinc 4 (1), 0, 0), (.goto 0, 3, 0)]),
  (81, [(.iinc 3 (1), 0, 0), (.goto 0, 1, 0)]),
  (87, [(.iload 2, 0, 0), (.ireturn, 0, 0)])]
def zB_Md_seeks : List (Nat × List zEnt) := [(0, [(.aload 0, 0, 0), (.invokevirtual 0, 222, 0), (.iconst (5000), 0, 0), (.if_icmp .le 0, 2, 0), (.goto_w 0, 1, 0)]),
  (10, [(.iconst (-5), 0, 0), (.ireturn, 0, 0)]),
  (13, [(.aload 0, 0, 0), (.invokevirtual 0, 202, 0), (.istore 2, 0, 0), (.aload 0, 0, 0), (.iload 1, 0, 0), (.invokevirtual 0, 229, 0), (.istore 3, 0, 0), (.iconst (1), 0, 0), (.istore 4, 0, 0), (.goto_w 0, 3, 0)]),
  (27, [(.iload 4, 0, 0), (.ifCond .eq 0, 7, 0), (.goto_w 0, 4, 0)]),
  (32, [(.aload 0, 0, 0), (.invokevirtual 0, 225, 0), (.iload 3, 0, 0), (.aload 0, 0, 0), (.invokevirtual 0, 228, 0), (.iconst (-1), 0, 0), (.ixor, 0, 0), (.iand, 0, 0), (.ifCond .ne 0, 6, 0), (.goto_w 0, 5, 0)]),
  (47, [(.iconst (1), 0, 0), (.ireturn, 0, 0)]),
  (49, [(.aload 0, 0, 0), (.invokevirtual 0, 224, 0), (.istore 4, 0, 0), (.goto 0, 3, 0)]),
  (58, [(.iload 2, 0, 0), (.ifCond .ge 0, 9, 0), (.goto_w 0, 8, 0)]),
  (62, [(.iconst (-1), 0, 0), (.goto 0, 10, 0)]),
  (66, [(.iconst (0), 0, 0), (.goto_w 0, 10, 0)]),
  (67, [(.ireturn, 0, 0)])]
def zB_Md_blind : List (Nat × List zEnt) := [(0, [(.aload 0, 0, 0), (.iload 1, 0, 0), (.invokevirtual 0, 170, 0), (.ifCond .ne 0, 2, 0), (.goto_w 0, 1, 0)]),
  (8, [(.iconst (-1), 0, 0), (.ireturn, 0, 0)]),
  (10, [(.aload 0, 0, 0), (.invokevirtual 0, 205, 0), (.ifCond .eq 0, 4, 0), (.goto_w 0, 3, 0)]),
  (17, [(.aload 0, 0, 0), (.iload 1, 0, 0), (.invokevirtual 0, 230, 0), (.goto 0, 5, 0)]),
  (25, [(.iconst (-2), 0, 0), (.goto_w 0, 5, 0)]),
  (27, [(.ireturn, 0, 0)])]
def zB_Md_blindMove : List (Nat × List zEnt) := [(0, [(.aload 0, 0, 0), (.iload 1, 0, 0), (.invokevirtual 0, 170, 0), (.ifCond .eq 0, 3, 0), (.goto_w 0, 1, 0)]),
  (8, [(.aload 0, 0, 0), (.iload 2, 0, 0), (.invokevirtual 0, 171, 0), (.ifCond .eq 0, 3, 0), (.goto_w 0, 2, 0)]),
  (16, [(.iload 3, 0, 0), (.i2l, 0, 0), (.sipush (0), 0, 0), (.sipush (11), 0, 0), (.invokestatic 0, 166, 0), (.ifCond .ne 0, 4, 0), (.goto_w 0, 3, 0)]),
  (28, [(.iconst (-1), 0, 0), (.ireturn, 0, 0)]),
  (30, [(.aload 0, 0, 0), (.invokevirtual 0, 205, 0), (.ifCond .ne 0, 6, 0), (.goto_w 0, 5, 0)]),
  (37, [(.iconst (-2), 0, 0), (.ireturn, 0, 0)]),
  (40, [(.aload 0, 0, 0), (.getfield 0, 11, 14), (.iconst (0), 0, 0), (.iaload, 0, 0), (.iload 2, 0, 0), (.ishr, 0, 0), (.iconst (1), 0, 0), (.iand, 0, 0), (.ifCond .eq 0, 8, 0), (.goto_w 0, 7, 0)]),
  (53, [(.aload 0, 0, 0), (.iload 2, 0, 0), (.iload 3, 0, 0), (.invokevirtual 0, 221, 0), (.ifCond .ne 0, 9, 0), (.goto_w 0, 8, 0)]),
  (62, [(.iconst (-1), 0, 0), (.ireturn, 0, 0)]),
  (64, [(.aload 0, 0, 0), (.iload 1, 0, 0), (.invokevirtual 0, 230, 0), (.istore 4, 0, 0), (.iload 4, 0, 0), (.ifCond .ge 0, 11, 0), (.goto_w 0, 10, 0)]),
  (76, [(.iload 4, 0, 0), (.goto 0, 14, 0)]),
  (81, [(.iload 4, 0, 0), (.ifCond .ne 0, 13, 0), (.goto_w 0, 12, 0)]),
  (86, [(.iconst (-4), 0, 0), (.goto 0, 14, 0)]),
  (91, [(.aload 0, 0, 0), (.getfield 0, 11, 40), (.aload 0, 0, 0), (.iload 2, 0, 0), (.iload 3, 0, 0), (.invokevirtual 0, 223, 0), (.iaload, 0, 0), (.goto_w 0, 14, 0)]),
  (102, [(.ireturn, 0, 0)])]
def zB_Md_choose : List (Nat × List zEnt) := [(0, [(.aload 0, 0, 0), (.iload 1, 0, 0), (.invokevirtual 0, 171, 0), (.ifCond .eq 0, 3, 0), (.goto_w 0, 1, 0)]),
  (8, [(.aload 0, 0, 0), (.iload 2, 0, 0), (.invokevirtual 0, 170, 0), (.ifCond .eq 0, 3, 0), (.goto_w 0, 2, 0)]),
  (16, [(.iload 3, 0, 0), (.i2l, 0, 0), (.sipush (0), 0, 0), (.aload 0, 0, 0), (.getfield 0, 11, 2), (.iconst (4), 0, 0), (.iload 2, 0, 0), (.imul, 0, 0), (.iload 1, 0, 0), (.iadd, 0, 0), (.iaload, 0, 0), (.iconst (1), 0, 0), (.isub, 0, 0), (.i2l, 0, 0), (.invokestatic 0, 166, 0), (.ifCond .ne 0, 4, 0), (.goto_w 0, 3, 0)]),
  (38, [(.iconst (-1), 0, 0), (.ireturn, 0, 0)]),
  (40, [(.aload 0, 0, 0), (.getfield 0, 11, 7), (.iconst (4), 0, 0), (.iload 2, 0, 0), (.imul, 0, 0), (.iload 1, 0, 0), (.iadd, 0, 0), (.iaload, 0, 0), (.istore 4, 0, 0), (.aload 0, 0, 0), (.getfield 0, 11, 7), (.iconst (4), 0, 0), (.iload 2, 0, 0), (.imul, 0, 0), (.iload 1, 0, 0), (.iadd, 0, 0), (.iload 3, 0, 0), (.iastore, 0, 0), (.iload 4, 0, 0), (.ireturn, 0, 0)])]
def zB_Md_lot : List (Nat × List zEnt) := [(0, [(.iload 1, 0, 0), (.i2l, 0, 0), (.sipush (-1), 0, 0), (.aload 0, 0, 0), (.getfield 0, 11, 1), (.iconst (1), 0, 0), (.isub, 0, 0), (.i2l, 0, 0), (.invokestatic 0, 166, 0), (.ifCond .ne 0, 2, 0), (.goto_w 0, 1, 0)]),
  (18, [(.iconst (-11), 0, 0), (.ireturn, 0, 0)]),
  (21, [(.aload 0, 0, 0), (.getfield 0, 11, 9), (.istore 2, 0, 0), (.aload 0, 0, 0), (.iload 1, 0, 0), (.putfield 0, 11, 9), (.iload 2, 0, 0), (.ireturn, 0, 0)])]
def zB_Md_leadsWith : List (Nat × List zEnt) := [(0, [(.iconst (0), 0, 0), (.istore 4, 0, 0), (.iconst (0), 0, 0), (.istore 5, 0, 0), (.goto_w 0, 1, 0)]),
  (6, [(.iload 5, 0, 0), (.aload 0, 0, 0), (.getfield 0, 11, 1), (.if_icmp .ge 0, 6, 0), (.goto_w 0, 2, 0)]),
  (15, [(.iload 4, 0, 0), (.aload 0, 0, 0), (.getfield 0, 11, 2), (.iconst (4), 0, 0), (.iload 1, 0, 0), (.imul, 0, 0), (.iload 5, 0, 0), (.iadd, 0, 0), (.iaload, 0, 0), (.imul, 0, 0), (.iload 5, 0, 0), (.iload 2, 0, 0), (.if_icmp .ne 0, 4, 0), (.goto_w 0, 3, 0)]),
  (35, [(.iload 3, 0, 0), (.goto 0, 5, 0)]),
  (39, [(.aload 0, 0, 0), (.getfield 0, 11, 7), (.iconst (4), 0, 0), (.iload 1, 0, 0), (.imul, 0, 0), (.iload 5, 0, 0), (.iadd, 0, 0), (.iaload, 0, 0), (.goto_w 0, 5, 0)]),
  (50, [(.iadd, 0, 0), (.istore 4, 0, 0), (.iinc 5 (1), 0, 0), (.goto 0, 1, 0)]),
  (59, [(.aload 0, 0, 0), (.getfield 0, 11, 3), (.iconst (81), 0, 0), (.iload 1, 0, 0), (.imul, 0, 0), (.iload 4, 0, 0), (.iadd, 0, 0), (.iaload, 0, 0), (.ireturn, 0, 0)])]
def zB_Md_lotMany : List (Nat × List zEnt) := [(0, [(.aload 0, 0, 0), (.getfield 0, 11, 9), (.ifCond .ge 0, 2, 0), (.goto_w 0, 1, 0)]),
  (7, [(.iconst (1), 0, 0), (.goto 0, 3, 0)]),
  (11, [(.aload 0, 0, 0), (.getfield 0, 11, 2), (.iconst (4), 0, 0), (.iload 1, 0, 0), (.imul, 0, 0), (.aload 0, 0, 0), (.getfield 0, 11, 9), (.iadd, 0, 0), (.iaload, 0, 0), (.goto_w 0, 3, 0)]),
  (24, [(.ireturn, 0, 0)])]
def zB_Md_common : List (Nat × List zEnt) := [(0, [(.lload 0, 0, 0), (.sipush (0), 0, 0), (.lcmp, 0, 0), (.ifCond .ge 0, 2, 0), (.goto_w 0, 1, 0)]),
  (6, [(.sipush (0), 0, 0), (.lload 0, 0, 0), (.lsub, 0, 0), (.goto 0, 3, 0)]),
  (12, [(.lload 0, 0, 0), (.goto_w 0, 3, 0)]),
  (13, [(.lstore 4, 0, 0), (.lload 2, 0, 0), (.sipush (0), 0, 0), (.lcmp, 0, 0), (.ifCond .ge 0, 5, 0), (.goto_w 0, 4, 0)]),
  (21, [(.sipush (0), 0, 0), (.lload 2, 0, 0), (.lsub, 0, 0), (.goto 0, 6, 0)]),
  (27, [(.lload 2, 0, 0), (.goto_w 0, 6, 0)]),
  (28, [(.lstore 6, 0, 0), (.goto_w 0, 7, 0)]),
  (30, [(.lload 6, 0, 0), (.sipush (0), 0, 0), (.lcmp, 0, 0), (.ifCond .eq 0, 9, 0), (.goto_w 0, 8, 0)]),
  (37, [(.lload 4, 0, 0), (.lload 6, 0, 0), (.lrem, 0, 0), (.lstore 8, 0, 0), (.lload 6, 0, 0), (.lstore 4, 0, 0), (.lload 8, 0, 0), (.lstore 6, 0, 0), (.goto 0, 7, 0)]),
  (55, [(.lload 4, 0, 0), (.lreturn, 0, 0)])]
def zB_Md_coming : List (Nat × List zEnt) := [(0, [(.iload 1, 0, 0), (.istore 2, 0, 0), (.iconst (-1), 0, 0), (.istore 3, 0, 0), (.goto_w 0, 1, 0)]),
  (4, [(.iload 2, 0, 0), (.iload 3, 0, 0), (.if_icmp .eq 0, 9, 0), (.goto_w 0, 2, 0)]),
  (9, [(.iload 2, 0, 0), (.istore 3, 0, 0), (.iconst (0), 0, 0), (.istore 4, 0, 0), (.goto_w 0, 3, 0)]),
  (14, [(.iload 4, 0, 0), (.aload 0, 0, 0), (.getfield 0, 11, 0), (.if_icmp .ge 0, 8, 0), (.goto_w 0, 4, 0)]),
  (23, [(.iconst (0), 0, 0), (.istore 5, 0, 0), (.goto_w 0, 5, 0)]),
  (26, [(.iload 5, 0, 0), (.aload 0, 0, 0), (.iload 4, 0, 0), (.invokevirtual 0, 236, 0), (.if_icmp .ge 0, 7, 0), (.goto_w 0, 6, 0)]),
  (37, [(.iload 2, 0, 0), (.iload 3, 0, 0), (.aload 0, 0, 0), (.iload 4, 0, 0), (.aload 0, 0, 0), (.getfield 0, 11, 9), (.iload 5, 0, 0), (.invokevirtual 0, 235, 0), (.ishr, 0, 0), (.iconst (1), 0, 0), (.iand, 0, 0), (.iload 4, 0, 0), (.ishl, 0, 0), (.ior, 0, 0), (.istore 2, 0, 0), (.iinc 5 (1), 0, 0), (.goto 0, 5, 0)]),
  (65, [(.iinc 4 (1), 0, 0), (.goto 0, 3, 0)]),
  (71, [(.goto 0, 1, 0)]),
  (74, [(.iload 2, 0, 0), (.ireturn, 0, 0)])]
def zB_Md_equations : List (Nat × List zEnt) := [(0, [(.iconst (0), 0, 0), (.istore 3, 0, 0), (.goto_w 0, 1, 0)]),
  (2, [(.iload 3, 0, 0), (.iconst (156), 0, 0), (.if_icmp .ge 0, 3, 0), (.goto_w 0, 2, 0)]),
  (9, [(.aload 0, 0, 0), (.getfield 0, 11, 43), (.iload 3, 0, 0), (.sipush (0), 0, 0), (.lastore, 0, 0), (.iinc 3 (1), 0, 0), (.goto 0, 1, 0)]),
  (22, [(.iconst (0), 0, 0), (.istore 3, 0, 0), (.goto_w 0, 4, 0)]),
  (24, [(.iload 3, 0, 0), (.aload 0, 0, 0), (.getfield 0, 11, 0), (.if_icmp .ge 0, 24, 0), (.goto_w 0, 5, 0)]),
  (32, [(.iload 1, 0, 0), (.iload 3, 0, 0), (.ishr, 0, 0), (.iconst (1), 0, 0), (.iand, 0, 0), (.iconst (1), 0, 0), (.if_icmp .ne 0, 7, 0), (.goto_w 0, 6, 0)]),
  (41, [(.iconst (1), 0, 0), (.goto 0, 8, 0)]),
  (45, [(.iconst (0), 0, 0), (.goto_w 0, 8, 0)]),
  (46, [(.istore 4, 0, 0), (.iload 2, 0, 0), (.iload 3, 0, 0), (.ishr, 0, 0), (.iconst (1), 0, 0), (.iand, 0, 0), (.iconst (1), 0, 0), (.if_icmp .ne 0, 10, 0), (.goto_w 0, 9, 0)]),
  (57, [(.iconst (1), 0, 0), (.goto 0, 11, 0)]),
  (61, [(.iconst (0), 0, 0), (.goto_w 0, 11, 0)]),
  (62, [(.istore 5, 0, 0), (.aload 0, 0, 0), (.getfield 0, 11, 43), (.iconst (13), 0, 0), (.iload 3, 0, 0), (.imul, 0, 0), (.iload 3, 0, 0), (.iadd, 0, 0), (.iload 4, 0, 0), (.ifCond .ne 0, 13, 0), (.goto_w 0, 12, 0)]),
  (79, [(.iload 5, 0, 0), (.ifCond .ne 0, 14, 0), (.goto_w 0, 13, 0)]),
  (84, [(.sipush (1), 0, 0), (.goto 0, 15, 0)]),
  (88, [(.aload 0, 0, 0), (.iload 3, 0, 0), (.invokevirtual 0, 236, 0), (.i2l, 0, 0), (.goto_w 0, 15, 0)]),
  (94, [(.lastore, 0, 0), (.aload 0, 0, 0), (.getfield 0, 11, 43), (.iconst (13), 0, 0), (.iload 3, 0, 0), (.imul, 0, 0), (.iconst (12), 0, 0), (.iadd, 0, 0), (.iload 4, 0, 0), (.ifCond .eq 0, 17, 0), (.goto_w 0, 16, 0)]),
  (111, [(.sipush (1), 0, 0), (.goto 0, 18, 0)]),
  (115, [(.sipush (0), 0, 0), (.goto_w 0, 18, 0)]),
  (116, [(.lastore, 0, 0), (.iconst (0), 0, 0), (.istore 6, 0, 0), (.goto_w 0, 19, 0)]),
  (120, [(.iload 6, 0, 0), (.aload 0, 0, 0), (.iload 3, 0, 0), (.invokevirtual 0, 236, 0), (.if_icmp .ge 0, 23, 0), (.goto_w 0, 20, 0)]),
  (130, [(.iload 5, 0, 0), (.ifCond .eq 0, 23, 0), (.goto_w 0, 21, 0)]),
  (135, [(.iload 4, 0, 0), (.ifCond .ne 0, 23, 0), (.goto_w 0, 22, 0)]),
  (140, [(.aload 0, 0, 0), (.getfield 0, 11, 43), (.iconst (13), 0, 0), (.iload 3, 0, 0), (.imul, 0, 0), (.aload 0, 0, 0), (.iload 3, 0, 0), (.aload 0, 0, 0), (.getfield 0, 11, 9), (.iload 6, 0, 0), (.invokevirtual 0, 235, 0), (.iadd, 0, 0), (.dup2, 0, 0), (.laload, 0, 0), (.sipush (1), 0, 0), (.lsub, 0, 0), (.lastore, 0, 0), (.iinc 6 (1), 0, 0), (.goto 0, 19, 0)]),
  (171, [(.iinc 3 (1), 0, 0), (.goto 0, 4, 0)]),
  (177, [(.return_, 0, 0)])]
def zB_Md_shorten : List (Nat × List zEnt) := [(0, [(.sipush (0), 0, 0), (.lstore 2, 0, 0), (.iconst (0), 0, 0), (.istore 4, 0, 0), (.goto_w 0, 1, 0)]),
  (5, [(.iload 4, 0, 0), (.iconst (13), 0, 0), (.if_icmp .ge 0, 3, 0), (.goto_w 0, 2, 0)]),
  (12, [(.lload 2, 0, 0), (.aload 0, 0, 0), (.getfield 0, 11, 43), (.iconst (13), 0, 0), (.iload 1, 0, 0), (.imul, 0, 0), (.iload 4, 0, 0), (.iadd, 0, 0), (.laload, 0, 0), (.invokestatic 0, 237, 0), (.lstore 2, 0, 0), (.iinc 4 (1), 0, 0), (.goto 0, 1, 0)]),
  (35, [(.iconst (0), 0, 0), (.istore 4, 0, 0), (.goto_w 0, 4, 0)]),
  (38, [(.iload 4, 0, 0), (.iconst (13), 0, 0), (.if_icmp .ge 0, 7, 0), (.goto_w 0, 5, 0)]),
  (45, [(.lload 2, 0, 0), (.sipush (1), 0, 0), (.lcmp, 0, 0), (.ifCond .le 0, 7, 0), (.goto_w 0, 6, 0)]),
  (51, [(.aload 0, 0, 0), (.getfield 0, 11, 43), (.iconst (13), 0, 0), (.iload 1, 0, 0), (.imul, 0, 0), (.iload 4, 0, 0), (.iadd, 0, 0), (.dup2, 0, 0), (.laload, 0, 0), (.lload 2, 0, 0), (.ldiv, 0, 0), (.lastore, 0, 0), (.iinc 4 (1), 0, 0), (.goto 0, 4, 0)]),
  (73, [(.return_, 0, 0)])]
def zB_Md_swap : List (Nat × List zEnt) := [(0, [(.iconst (0), 0, 0), (.istore 3, 0, 0), (.goto_w 0, 1, 0)]),
  (2, [(.iload 3, 0, 0), (.iconst (13), 0, 0), (.if_icmp .ge 0, 3, 0), (.goto_w 0, 2, 0)]),
  (8, [(.aload 0, 0, 0), (.getfield 0, 11, 43), (.iconst (13), 0, 0), (.iload 1, 0, 0), (.imul, 0, 0), (.iload 3, 0, 0), (.iadd, 0, 0), (.laload, 0, 0), (.lstore 4, 0, 0), (.aload 0, 0, 0), (.getfield 0, 11, 43), (.iconst (13), 0, 0), (.iload 1, 0, 0), (.imul, 0, 0), (.iload 3, 0, 0), (.iadd, 0, 0), (.aload 0, 0, 0), (.getfield 0, 11, 43), (.iconst (13), 0, 0), (.iload 2, 0, 0), (.imul, 0, 0), (.iload 3, 0, 0), (.iadd, 0, 0), (.laload, 0, 0), (.lastore, 0, 0), (.aload 0, 0, 0), (.getfield 0, 11, 43), (.iconst (13), 0, 0), (.iload 2, 0, 0), (.imul, 0, 0), (.iload 3, 0, 0), (.iadd, 0, 0), (.lload 4, 0, 0), (.lastore, 0, 0), (.iinc 3 (1), 0, 0), (.goto 0, 1, 0)]),
  (62, [(.return_, 0, 0)])]
def zB_Md_solve : List (Nat × List zEnt) := [(0, [(.iconst (0), 0, 0), (.istore 1, 0, 0), (.goto_w 0, 1, 0)]),
  (2, [(.iload 1, 0, 0), (.aload 0, 0, 0), (.getfield 0, 11, 0), (.if_icmp .ge 0, 15, 0), (.goto_w 0, 2, 0)]),
  (10, [(.iload 1, 0, 0), (.istore 2, 0, 0), (.goto_w 0, 3, 0)]),
  (12, [(.aload 0, 0, 0), (.getfield 0, 11, 43), (.iconst (13), 0, 0), (.iload 2, 0, 0), (.imul, 0, 0), (.iload 1, 0, 0), (.iadd, 0, 0), (.laload, 0, 0), (.sipush (0), 0, 0), (.lcmp, 0, 0), (.ifCond .ne 0, 5, 0), (.goto_w 0, 4, 0)]),
  (28, [(.iinc 2 (1), 0, 0), (.goto 0, 3, 0)]),
  (34, [(.aload 0, 0, 0), (.iload 1, 0, 0), (.iload 2, 0, 0), (.invokevirtual 0, 241, 0), (.iconst (0), 0, 0), (.istore 3, 0, 0), (.goto_w 0, 6, 0)]),
  (42, [(.iload 3, 0, 0), (.aload 0, 0, 0), (.getfield 0, 11, 0), (.if_icmp .ge 0, 14, 0), (.goto_w 0, 7, 0)]),
  (50, [(.iload 3, 0, 0), (.iload 1, 0, 0), (.if_icmp .eq 0, 13, 0), (.goto_w 0, 8, 0)]),
  (55, [(.aload 0, 0, 0), (.getfield 0, 11, 43), (.iconst (13), 0, 0), (.iload 3, 0, 0), (.imul, 0, 0), (.iload 1, 0, 0), (.iadd, 0, 0), (.laload, 0, 0), (.sipush (0), 0, 0), (.lcmp, 0, 0), (.ifCond .eq 0, 13, 0), (.goto_w 0, 9, 0)]),
  (71, [(.aload 0, 0, 0), (.getfield 0, 11, 43), (.iconst (13), 0, 0), (.iload 3, 0, 0), (.imul, 0, 0), (.iload 1, 0, 0), (.iadd, 0, 0), (.laload, 0, 0), (.aload 0, 0, 0), (.getfield 0, 11, 43), (.iconst (13), 0, 0), (.iload 1, 0, 0), (.imul, 0, 0), (.iload 1, 0, 0), (.iadd, 0, 0), (.laload, 0, 0), (.invokestatic 0, 237, 0), (.lstore 4, 0, 0), (.aload 0, 0, 0), (.getfield 0, 11, 43), (.iconst (13), 0, 0), (.iload 1, 0, 0), (.imul, 0, 0), (.iload 1, 0, 0), (.iadd, 0, 0), (.laload, 0, 0), (.lload 4, 0, 0), (.ldiv, 0, 0), (.lstore 6, 0, 0), (.aload 0, 0, 0), (.getfield 0, 11, 43), (.iconst (13), 0, 0), (.iload 3, 0, 0), (.imul, 0, 0), (.iload 1, 0, 0), (.iadd, 0, 0), (.laload, 0, 0), (.lload 4, 0, 0), (.ldiv, 0, 0), (.lstore 8, 0, 0), (.iconst (0), 0, 0), (.istore 10, 0, 0), (.goto_w 0, 10, 0)]),
  (133, [(.iload 10, 0, 0), (.iconst (13), 0, 0), (.if_icmp .ge 0, 12, 0), (.goto_w 0, 11, 0)]),
  (140, [(.aload 0, 0, 0), (.getfield 0, 11, 43), (.iconst (13), 0, 0), (.iload 3, 0, 0), (.imul, 0, 0), (.iload 10, 0, 0), (.iadd, 0, 0), (.aload 0, 0, 0), (.getfield 0, 11, 43), (.iconst (13), 0, 0), (.iload 3, 0, 0), (.imul, 0, 0), (.iload 10, 0, 0), (.iadd, 0, 0), (.laload, 0, 0), (.lload 6, 0, 0), (.lmul, 0, 0), (.aload 0, 0, 0), (.getfield 0, 11, 43), (.iconst (13), 0, 0), (.iload 1, 0, 0), (.imul, 0, 0), (.iload 10, 0, 0), (.iadd, 0, 0), (.laload, 0, 0), (.lload 8, 0, 0), (.lmul, 0, 0), (.lsub, 0, 0), (.lastore, 0, 0), (.iinc 10 (1), 0, 0), (.goto 0, 10, 0)]),
  (189, [(.aload 0, 0, 0), (.iload 3, 0, 0), (.invokevirtual 0, 240, 0), (.goto_w 0, 13, 0)]),
  (194, [(.iinc 3 (1), 0, 0), (.goto 0, 6, 0)]),
  (200, [(.iinc 1 (1), 0, 0), (.goto 0, 1, 0)]),
  (206, [(.return_, 0, 0)])]
def zB_Md_chance : List (Nat × List zEnt) := [(0, [(.aload 0, 0, 0), (.iload 1, 0, 0), (.invokevirtual 0, 170, 0), (.ifCond .eq 0, 2, 0), (.goto_w 0, 1, 0)]),
  (8, [(.iload 2, 0, 0), (.i2l, 0, 0), (.sipush (0), 0, 0), (.sipush (1), 0, 0), (.invokestatic 0, 166, 0), (.ifCond .ne 0, 3, 0), (.goto_w 0, 2, 0)]),
  (18, [(.sipush (-1), 0, 0), (.lreturn, 0, 0)]),
  (22, [(.aload 0, 0, 0), (.invokevirtual 0, 202, 0), (.istore 3, 0, 0), (.aload 0, 0, 0), (.iload 3, 0, 0), (.aload 0, 0, 0), (.iload 3, 0, 0), (.invokevirtual 0, 238, 0), (.invokevirtual 0, 239, 0), (.aload 0, 0, 0), (.invokevirtual 0, 242, 0), (.aload 0, 0, 0), (.aload 0, 0, 0), (.getfield 0, 11, 43), (.iconst (13), 0, 0), (.iload 1, 0, 0), (.imul, 0, 0), (.iconst (12), 0, 0), (.iadd, 0, 0), (.laload, 0, 0), (.putfield 0, 11, 44), (.aload 0, 0, 0), (.aload 0, 0, 0), (.getfield 0, 11, 43), (.iconst (13), 0, 0), (.iload 1, 0, 0), (.imul, 0, 0), (.iload 1, 0, 0), (.iadd, 0, 0), (.laload, 0, 0), (.putfield 0, 11, 45), (.aload 0, 0, 0), (.getfield 0, 11, 44), (.aload 0, 0, 0), (.getfield 0, 11, 45), (.invokestatic 0, 237, 0), (.lstore 4, 0, 0), (.aload 0, 0, 0), (.getfield 0, 11, 45), (.sipush (0), 0, 0), (.lcmp, 0, 0), (.ifCond .ge 0, 5, 0), (.goto_w 0, 4, 0)]),
  (94, [(.sipush (0), 0, 0), (.lload 4, 0, 0), (.lsub, 0, 0), (.goto 0, 6, 0)]),
  (101, [(.lload 4, 0, 0), (.goto_w 0, 6, 0)]),
  (103, [(.lstore 4, 0, 0), (.iload 2, 0, 0), (.ifCond .ne 0, 8, 0), (.goto_w 0, 7, 0)]),
  (109, [(.aload 0, 0, 0), (.getfield 0, 11, 44), (.goto 0, 9, 0)]),
  (116, [(.aload 0, 0, 0), (.getfield 0, 11, 45), (.goto_w 0, 9, 0)]),
  (120, [(.lload 4, 0, 0), (.ldiv, 0, 0), (.lreturn, 0, 0)])]
def zB_Md_goal : List (Nat × List zEnt) := [(0, [(.aload 0, 0, 0), (.iload 1, 0, 0), (.invokevirtual 0, 171, 0), (.ifCond .eq 0, 2, 0), (.goto_w 0, 1, 0)]),
  (8, [(.aload 0, 0, 0), (.iload 2, 0, 0), (.invokevirtual 0, 172, 0), (.ifCond .ne 0, 3, 0), (.goto_w 0, 2, 0)]),
  (16, [(.iconst (-1), 0, 0), (.ireturn, 0, 0)]),
  (18, [(.aload 0, 0, 0), (.getfield 0, 11, 8), (.iload 1, 0, 0), (.iaload, 0, 0), (.istore 3, 0, 0), (.aload 0, 0, 0), (.getfield 0, 11, 8), (.iload 1, 0, 0), (.iload 2, 0, 0), (.iastore, 0, 0), (.iload 3, 0, 0), (.ireturn, 0, 0)])]
def zB_Md_way : List (Nat × List zEnt) := [(0, [(.iconst (0), 0, 0), (.istore 2, 0, 0), (.iload 1, 0, 0), (.istore 3, 0, 0), (.goto_w 0, 1, 0)]),
  (4, [(.iload 2, 0, 0), (.iload 3, 0, 0), (.ishr, 0, 0), (.iconst (1), 0, 0), (.iand, 0, 0), (.ifCond .ne 0, 3, 0), (.goto_w 0, 2, 0)]),
  (12, [(.iload 2, 0, 0), (.iconst (1), 0, 0), (.iload 3, 0, 0), (.ishl, 0, 0), (.ior, 0, 0), (.istore 2, 0, 0), (.aload 0, 0, 0), (.iload 3, 0, 0), (.iconst (-1), 0, 0), (.iconst (0), 0, 0), (.invokevirtual 0, 235, 0), (.istore 3, 0, 0), (.goto 0, 1, 0)]),
  (29, [(.iload 2, 0, 0), (.ireturn, 0, 0)])]
def zB_Md_contentOf : List (Nat × List zEnt) := [(0, [(.aload 0, 0, 0), (.iload 1, 0, 0), (.invokevirtual 0, 245, 0), (.istore 2, 0, 0), (.iconst (0), 0, 0), (.istore 3, 0, 0), (.iconst (0), 0, 0), (.istore 4, 0, 0), (.goto_w 0, 1, 0)]),
  (11, [(.iload 4, 0, 0), (.aload 0, 0, 0), (.getfield 0, 11, 1), (.if_icmp .ge 0, 6, 0), (.goto_w 0, 2, 0)]),
  (20, [(.iload 3, 0, 0), (.iload 2, 0, 0), (.aload 0, 0, 0), (.getfield 0, 11, 8), (.iload 4, 0, 0), (.iaload, 0, 0), (.iand, 0, 0), (.ifCond .eq 0, 4, 0), (.goto_w 0, 3, 0)]),
  (33, [(.iconst (1), 0, 0), (.iload 4, 0, 0), (.ishl, 0, 0), (.goto 0, 5, 0)]),
  (40, [(.iconst (0), 0, 0), (.goto_w 0, 5, 0)]),
  (41, [(.ior, 0, 0), (.istore 3, 0, 0), (.iinc 4 (1), 0, 0), (.goto 0, 1, 0)]),
  (49, [(.iload 3, 0, 0), (.ireturn, 0, 0)])]
def zB_Md_content : List (Nat × List zEnt) := [(0, [(.aload 0, 0, 0), (.iload 1, 0, 0), (.invokevirtual 0, 170, 0), (.ifCond .eq 0, 2, 0), (.goto_w 0, 1, 0)]),
  (8, [(.aload 0, 0, 0), (.iload 1, 0, 0), (.invokevirtual 0, 246, 0), (.goto 0, 3, 0)]),
  (16, [(.iconst (-1), 0, 0), (.goto_w 0, 3, 0)]),
  (17, [(.ireturn, 0, 0)])]
def zB_Md_alone : List (Nat × List zEnt) := [(0, [(.iconst (1), 0, 0), (.iload 1, 0, 0), (.ishl, 0, 0), (.istore 3, 0, 0), (.iconst (0), 0, 0), (.istore 4, 0, 0), (.goto_w 0, 1, 0)]),
  (7, [(.iload 3, 0, 0), (.iload 4, 0, 0), (.if_icmp .eq 0, 10, 0), (.goto_w 0, 2, 0)]),
  (13, [(.iload 3, 0, 0), (.istore 4, 0, 0), (.iconst (0), 0, 0), (.istore 5, 0, 0), (.goto_w 0, 3, 0)]),
  (19, [(.iload 5, 0, 0), (.aload 0, 0, 0), (.getfield 0, 11, 0), (.if_icmp .ge 0, 9, 0), (.goto_w 0, 4, 0)]),
  (28, [(.iconst (0), 0, 0), (.istore 6, 0, 0), (.goto_w 0, 5, 0)]),
  (31, [(.iload 6, 0, 0), (.aload 0, 0, 0), (.getfield 0, 11, 2), (.iconst (4), 0, 0), (.iload 5, 0, 0), (.imul, 0, 0), (.iload 2, 0, 0), (.iadd, 0, 0), (.iaload, 0, 0), (.if_icmp .ge 0, 8, 0), (.goto_w 0, 6, 0)]),
  (47, [(.iload 4, 0, 0), (.iload 5, 0, 0), (.ishr, 0, 0), (.iconst (1), 0, 0), (.iand, 0, 0), (.iconst (1), 0, 0), (.if_icmp .ne 0, 8, 0), (.goto_w 0, 7, 0)]),
  (58, [(.iload 3, 0, 0), (.iconst (1), 0, 0), (.aload 0, 0, 0), (.iload 5, 0, 0), (.iload 2, 0, 0), (.iload 6, 0, 0), (.invokevirtual 0, 235, 0), (.ishl, 0, 0), (.ior, 0, 0), (.istore 3, 0, 0), (.iinc 6 (1), 0, 0), (.goto 0, 5, 0)]),
  (78, [(.iinc 5 (1), 0, 0), (.goto 0, 3, 0)]),
  (84, [(.goto 0, 1, 0)]),
  (87, [(.iload 3, 0, 0), (.ireturn, 0, 0)])]
def zB_Md_isStable : List (Nat × List zEnt) := [(0, [(.aload 0, 0, 0), (.iload 1, 0, 0), (.invokevirtual 0, 246, 0), (.istore 2, 0, 0), (.iconst (0), 0, 0), (.istore 3, 0, 0), (.goto_w 0, 1, 0)]),
  (8, [(.iload 3, 0, 0), (.aload 0, 0, 0), (.getfield 0, 11, 1), (.if_icmp .ge 0, 6, 0), (.goto_w 0, 2, 0)]),
  (16, [(.iload 2, 0, 0), (.iload 3, 0, 0), (.ishr, 0, 0), (.iconst (1), 0, 0), (.iand, 0, 0), (.ifCond .ne 0, 5, 0), (.goto_w 0, 3, 0)]),
  (24, [(.aload 0, 0, 0), (.iload 1, 0, 0), (.iload 3, 0, 0), (.invokevirtual 0, 248, 0), (.aload 0, 0, 0), (.getfield 0, 11, 8), (.iload 3, 0, 0), (.iaload, 0, 0), (.iand, 0, 0), (.ifCond .eq 0, 5, 0), (.goto_w 0, 4, 0)]),
  (40, [(.iconst (0), 0, 0), (.ireturn, 0, 0)]),
  (42, [(.iinc 3 (1), 0, 0), (.goto 0, 1, 0)]),
  (48, [(.iconst (1), 0, 0), (.ireturn, 0, 0)])]
def zB_Md_stable : List (Nat × List zEnt) := [(0, [(.aload 0, 0, 0), (.iload 1, 0, 0), (.invokevirtual 0, 170, 0), (.ifCond .eq 0, 4, 0), (.goto_w 0, 1, 0)]),
  (8, [(.aload 0, 0, 0), (.iload 1, 0, 0), (.invokevirtual 0, 249, 0), (.ifCond .eq 0, 3, 0), (.goto_w 0, 2, 0)]),
  (16, [(.iconst (1), 0, 0), (.goto 0, 5, 0)]),
  (20, [(.iconst (0), 0, 0), (.goto 0, 5, 0)]),
  (24, [(.iconst (-1), 0, 0), (.goto_w 0, 5, 0)]),
  (25, [(.ireturn, 0, 0)])]
def zB_Md_plansOfAll : List (Nat × List zEnt) := [(0, [(.sipush (1), 0, 0), (.lstore 1, 0, 0), (.iconst (0), 0, 0), (.istore 3, 0, 0), (.goto_w 0, 1, 0)]),
  (4, [(.iload 3, 0, 0), (.aload 0, 0, 0), (.getfield 0, 11, 0), (.if_icmp .ge 0, 9, 0), (.goto_w 0, 2, 0)]),
  (12, [(.iconst (0), 0, 0), (.istore 4, 0, 0), (.goto_w 0, 3, 0)]),
  (15, [(.iload 4, 0, 0), (.aload 0, 0, 0), (.getfield 0, 11, 1), (.if_icmp .ge 0, 8, 0), (.goto_w 0, 4, 0)]),
  (24, [(.lload 1, 0, 0), (.aload 0, 0, 0), (.getfield 0, 11, 2), (.iconst (4), 0, 0), (.iload 3, 0, 0), (.imul, 0, 0), (.iload 4, 0, 0), (.iadd, 0, 0), (.iaload, 0, 0), (.i2l, 0, 0), (.lmul, 0, 0), (.sipush (2000000000), 0, 0), (.lcmp, 0, 0), (.ifCond .le 0, 6, 0), (.goto_w 0, 5, 0)]),
  (45, [(.sipush (2000000000), 0, 0), (.goto 0, 7, 0)]),
  (51, [(.lload 1, 0, 0), (.aload 0, 0, 0), (.getfield 0, 11, 2), (.iconst (4), 0, 0), (.iload 3, 0, 0), (.imul, 0, 0), (.iload 4, 0, 0), (.iadd, 0, 0), (.iaload, 0, 0), (.i2l, 0, 0), (.lmul, 0, 0), (.goto_w 0, 7, 0)]),
  (65, [(.lstore 1, 0, 0), (.iinc 4 (1), 0, 0), (.goto 0, 3, 0)]),
  (72, [(.iinc 3 (1), 0, 0), (.goto 0, 1, 0)]),
  (78, [(.lload 1, 0, 0), (.l2i, 0, 0), (.ireturn, 0, 0)])]
def zB_Md_plansUp : List (Nat × List zEnt) := [(0, [(.aload 0, 0, 0), (.getfield 0, 11, 1), (.iconst (1), 0, 0), (.isub, 0, 0), (.istore 1, 0, 0), (.goto_w 0, 1, 0)]),
  (7, [(.iload 1, 0, 0), (.ifCond .lt 0, 8, 0), (.goto_w 0, 2, 0)]),
  (11, [(.aload 0, 0, 0), (.getfield 0, 11, 0), (.iconst (1), 0, 0), (.isub, 0, 0), (.istore 2, 0, 0), (.goto_w 0, 3, 0)]),
  (18, [(.iload 2, 0, 0), (.ifCond .lt 0, 7, 0), (.goto_w 0, 4, 0)]),
  (22, [(.iconst (4), 0, 0), (.iload 2, 0, 0), (.imul, 0, 0), (.iload 1, 0, 0), (.iadd, 0, 0), (.istore 3, 0, 0), (.aload 0, 0, 0), (.getfield 0, 11, 7), (.iload 3, 0, 0), (.iaload, 0, 0), (.aload 0, 0, 0), (.getfield 0, 11, 2), (.iload 3, 0, 0), (.iaload, 0, 0), (.iconst (1), 0, 0), (.isub, 0, 0), (.if_icmp .ge 0, 6, 0), (.goto_w 0, 5, 0)]),
  (45, [(.aload 0, 0, 0), (.getfield 0, 11, 7), (.iload 3, 0, 0), (.dup2, 0, 0), (.iaload, 0, 0), (.iconst (1), 0, 0), (.iadd, 0, 0), (.iastore, 0, 0), (.iconst (1), 0, 0), (.ireturn, 0, 0)]),
  (57, [(.aload 0, 0, 0), (.getfield 0, 11, 7), (.iload 3, 0, 0), (.iconst (0), 0, 0), (.iastore, 0, 0), (.iinc 2 (-1), 0, 0), (.goto 0, 3, 0)]),
  (70, [(.iinc 1 (-1), 0, 0), (.goto 0, 1, 0)]),
  (76, [(.iconst (0), 0, 0), (.ireturn, 0, 0)])]
def zB_Md_settle : List (Nat × List zEnt) := [(0, [(.aload 0, 0, 0), (.iload 1, 0, 0), (.invokevirtual 0, 170, 0), (.ifCond .ne 0, 2, 0), (.goto_w 0, 1, 0)]),
  (8, [(.iconst (-1), 0, 0), (.ireturn, 0, 0)]),
  (10, [(.aload 0, 0, 0), (.invokevirtual 0, 251, 0), (.iconst (20000), 0, 0), (.if_icmp .le 0, 4, 0), (.goto_w 0, 3, 0)]),
  (20, [(.iconst (-5), 0, 0), (.ireturn, 0, 0)]),
  (23, [(.iconst (0), 0, 0), (.istore 2, 0, 0), (.goto_w 0, 5, 0)]),
  (25, [(.iload 2, 0, 0), (.iconst (48), 0, 0), (.if_icmp .ge 0, 7, 0), (.goto_w 0, 6, 0)]),
  (31, [(.aload 0, 0, 0), (.getfield 0, 11, 46), (.iload 2, 0, 0), (.aload 0, 0, 0), (.getfield 0, 11, 7), (.iload 2, 0, 0), (.iaload, 0, 0), (.iastore, 0, 0), (.aload 0, 0, 0), (.getfield 0, 11, 7), (.iload 2, 0, 0), (.iconst (0), 0, 0), (.iastore, 0, 0), (.iinc 2 (1), 0, 0), (.goto 0, 5, 0)]),
  (56, [(.iconst (1), 0, 0), (.istore 2, 0, 0), (.goto_w 0, 8, 0)]),
  (58, [(.iload 2, 0, 0), (.ifCond .eq 0, 12, 0), (.goto_w 0, 9, 0)]),
  (62, [(.aload 0, 0, 0), (.iload 1, 0, 0), (.invokevirtual 0, 249, 0), (.ifCond .eq 0, 11, 0), (.goto_w 0, 10, 0)]),
  (70, [(.aload 0, 0, 0), (.iload 1, 0, 0), (.invokevirtual 0, 246, 0), (.ireturn, 0, 0)]),
  (76, [(.aload 0, 0, 0), (.invokevirtual 0, 252, 0), (.istore 2, 0, 0), (.goto 0, 8, 0)]),
  (84, [(.iconst (0), 0, 0), (.istore 3, 0, 0), (.goto_w 0, 13, 0)]),
  (86, [(.iload 3, 0, 0), (.iconst (48), 0, 0), (.if_icmp .ge 0, 15, 0), (.goto_w 0, 14, 0)]),
  (92, [(.aload 0, 0, 0), (.getfield 0, 11, 7), (.iload 3, 0, 0), (.aload 0, 0, 0), (.getfield 0, 11, 46), (.iload 3, 0, 0), (.iaload, 0, 0), (.iastore, 0, 0), (.iinc 3 (1), 0, 0), (.goto 0, 13, 0)]),
  (110, [(.iconst (-4), 0, 0), (.ireturn, 0, 0)])]
def zB_Md_many : List (Nat × List zEnt) := [(0, [(.iconst (0), 0, 0), (.istore 1, 0, 0), (.iconst (0), 0, 0), (.istore 2, 0, 0), (.goto_w 0, 1, 0)]),
  (4, [(.iload 2, 0, 0), (.iconst (4), 0, 0), (.if_icmp .ge 0, 3, 0), (.goto_w 0, 2, 0)]),
  (9, [(.iload 1, 0, 0), (.iload 0, 0, 0), (.iload 2, 0, 0), (.ishr, 0, 0), (.iconst (1), 0, 0), (.iand, 0, 0), (.iadd, 0, 0), (.istore 1, 0, 0), (.iinc 2 (1), 0, 0), (.goto 0, 1, 0)]),
  (23, [(.iload 1, 0, 0), (.ireturn, 0, 0)])]
def zB_Md_isAhead : List (Nat × List zEnt) := [(0, [(.iconst (0), 0, 0), (.istore 2, 0, 0), (.goto_w 0, 1, 0)]),
  (2, [(.iload 2, 0, 0), (.iconst (4), 0, 0), (.if_icmp .ge 0, 4, 0), (.goto_w 0, 2, 0)]),
  (7, [(.iload 0, 0, 0), (.iload 2, 0, 0), (.ishr, 0, 0), (.iconst (1), 0, 0), (.iand, 0, 0), (.iload 1, 0, 0), (.iload 2, 0, 0), (.ishr, 0, 0), (.iconst (1), 0, 0), (.iand, 0, 0), (.if_icmp .ne 0, 4, 0), (.goto_w 0, 3, 0)]),
  (20, [(.iinc 2 (1), 0, 0), (.goto 0, 1, 0)]),
  (26, [(.iload 2, 0, 0), (.iconst (4), 0, 0), (.if_icmp .ge 0, 7, 0), (.goto_w 0, 5, 0)]),
  (31, [(.iload 0, 0, 0), (.iload 2, 0, 0), (.ishr, 0, 0), (.iconst (1), 0, 0), (.iand, 0, 0), (.iconst (1), 0, 0), (.if_icmp .ne 0, 7, 0), (.goto_w 0, 6, 0)]),
  (40, [(.iconst (1), 0, 0), (.goto 0, 8, 0)]),
  (44, [(.iconst (0), 0, 0), (.goto_w 0, 8, 0)]),
  (45, [(.ireturn, 0, 0)])]
def zB_Md_helpers : List (Nat × List zEnt) := [(0, [(.aload 0, 0, 0), (.iload 1, 0, 0), (.invokevirtual 0, 170, 0), (.ifCond .ne 0, 2, 0), (.goto_w 0, 1, 0)]),
  (8, [(.iconst (-1), 0, 0), (.ireturn, 0, 0)]),
  (10, [(.aload 0, 0, 0), (.invokevirtual 0, 205, 0), (.ifCond .ne 0, 4, 0), (.goto_w 0, 3, 0)]),
  (17, [(.iconst (-2), 0, 0), (.ireturn, 0, 0)]),
  (20, [(.iconst (-4), 0, 0), (.istore 2, 0, 0), (.aload 0, 0, 0), (.invokevirtual 0, 202, 0), (.istore 3, 0, 0), (.iconst (0), 0, 0), (.istore 4, 0, 0), (.goto_w 0, 5, 0)]),
  (31, [(.iload 4, 0, 0), (.aload 0, 0, 0), (.invokevirtual 0, 176, 0), (.if_icmp .gt 0, 23, 0), (.goto_w 0, 6, 0)]),
  (40, [(.iload 4, 0, 0), (.aload 0, 0, 0), (.getfield 0, 11, 14), (.iconst (0), 0, 0), (.iaload, 0, 0), (.iand, 0, 0), (.ifCond .ne 0, 9, 0), (.goto_w 0, 7, 0)]),
  (52, [(.iload 3, 0, 0), (.ifCond .lt 0, 9, 0), (.goto_w 0, 8, 0)]),
  (56, [(.iconst (1), 0, 0), (.goto 0, 10, 0)]),
  (60, [(.iconst (0), 0, 0), (.goto_w 0, 10, 0)]),
  (61, [(.istore 5, 0, 0), (.iload 5, 0, 0), (.ifCond .eq 0, 22, 0), (.goto_w 0, 11, 0)]),
  (68, [(.aload 0, 0, 0), (.iconst (0), 0, 0), (.aload 0, 0, 0), (.getfield 0, 11, 14), (.iconst (0), 0, 0), (.iaload, 0, 0), (.iload 4, 0, 0), (.ior, 0, 0), (.invokevirtual 0, 201, 0), (.iload 1, 0, 0), (.ishr, 0, 0), (.iconst (1), 0, 0), (.iand, 0, 0), (.iconst (1), 0, 0), (.if_icmp .ne 0, 22, 0), (.goto_w 0, 12, 0)]),
  (90, [(.iload 2, 0, 0), (.ifCond .lt 0, 16, 0), (.goto_w 0, 13, 0)]),
  (94, [(.iload 4, 0, 0), (.invokestatic 0, 254, 0), (.iload 2, 0, 0), (.invokestatic 0, 254, 0), (.if_icmp .lt 0, 16, 0), (.goto_w 0, 14, 0)]),
  (106, [(.iload 4, 0, 0), (.invokestatic 0, 254, 0), (.iload 2, 0, 0), (.invokestatic 0, 254, 0), (.if_icmp .ne 0, 17, 0), (.goto_w 0, 15, 0)]),
  (118, [(.iload 4, 0, 0), (.iload 2, 0, 0), (.invokestatic 0, 255, 0), (.ifCond .eq 0, 17, 0), (.goto_w 0, 16, 0)]),
  (127, [(.iconst (1), 0, 0), (.goto 0, 18, 0)]),
  (131, [(.iconst (0), 0, 0), (.goto_w 0, 18, 0)]),
  (132, [(.istore 6, 0, 0), (.iload 6, 0, 0), (.ifCond .eq 0, 20, 0), (.goto_w 0, 19, 0)]),
  (139, [(.iload 4, 0, 0), (.goto 0, 21, 0)]),
  (144, [(.iload 2, 0, 0), (.goto_w 0, 21, 0)]),
  (145, [(.istore 2, 0, 0), (.goto_w 0, 22, 0)]),
  (146, [(.iinc 4 (1), 0, 0), (.goto 0, 5, 0)]),
  (152, [(.iload 2, 0, 0), (.ireturn, 0, 0)])]
def zB_Md_count : List (Nat × List zEnt) := [(0, [(.iload 1, 0, 0), (.tableswitch 5 (0) (3) #[1, 2, 3, 4], 0, 0)]),
  (32, [(.aload 0, 0, 0), (.getfield 0, 11, 0), (.ireturn, 0, 0)]),
  (37, [(.aload 0, 0, 0), (.getfield 0, 11, 1), (.ireturn, 0, 0)]),
  (42, [(.aload 0, 0, 0), (.getfield 0, 11, 10), (.ireturn, 0, 0)]),
  (47, [(.aload 0, 0, 0), (.invokevirtual 0, 251, 0), (.ireturn, 0, 0)]),
  (52, [(.iconst (-1), 0, 0), (.ireturn, 0, 0)])]
def zB_Md_sheet : List (Nat × List zEnt) := [(0, [(.iload 1, 0, 0), (.invokestatic 0, 215, 0), (.ifCond .eq 0, 3, 0), (.goto_w 0, 1, 0)]),
  (7, [(.iload 2, 0, 0), (.invokestatic 0, 216, 0), (.ifCond .eq 0, 3, 0), (.goto_w 0, 2, 0)]),
  (14, [(.iload 3, 0, 0), (.iconst (81), 0, 0), (.if_icmp .le 0, 4, 0), (.goto_w 0, 3, 0)]),
  (20, [(.iconst (-1), 0, 0), (.ireturn, 0, 0)]),
  (22, [(.iload 3, 0, 0), (.ifCond .ge 0, 6, 0), (.goto_w 0, 5, 0)]),
  (26, [(.iconst (-14), 0, 0), (.ireturn, 0, 0)]),
  (29, [(.aload 0, 0, 0), (.getfield 0, 11, 33), (.iload 1, 0, 0), (.iload 2, 0, 0), (.iastore, 0, 0), (.aload 0, 0, 0), (.getfield 0, 11, 34), (.iload 1, 0, 0), (.iload 3, 0, 0), (.iastore, 0, 0), (.iconst (0), 0, 0), (.istore 4, 0, 0), (.goto_w 0, 7, 0)]),
  (46, [(.iload 4, 0, 0), (.iconst (81), 0, 0), (.if_icmp .ge 0, 9, 0), (.goto_w 0, 8, 0)]),
  (53, [(.aload 0, 0, 0), (.getfield 0, 11, 35), (.iconst (81), 0, 0), (.iload 1, 0, 0), (.imul, 0, 0), (.iload 4, 0, 0), (.iadd, 0, 0), (.iconst (0), 0, 0), (.iastore, 0, 0), (.iinc 4 (1), 0, 0), (.goto 0, 7, 0)]),
  (72, [(.iload 3, 0, 0), (.ireturn, 0, 0)])]
def zB_Md_drop : List (Nat × List zEnt) := [(0, [(.iload 1, 0, 0), (.invokestatic 0, 215, 0), (.ifCond .ne 0, 2, 0), (.goto_w 0, 1, 0)]),
  (7, [(.iconst (-1), 0, 0), (.ireturn, 0, 0)]),
  (9, [(.aload 0, 0, 0), (.getfield 0, 11, 33), (.iload 1, 0, 0), (.iaload, 0, 0), (.ifCond .ge 0, 4, 0), (.goto_w 0, 3, 0)]),
  (18, [(.iconst (-11), 0, 0), (.ireturn, 0, 0)]),
  (21, [(.aload 0, 0, 0), (.getfield 0, 11, 33), (.iload 1, 0, 0), (.iconst (-1), 0, 0), (.iastore, 0, 0), (.aload 0, 0, 0), (.getfield 0, 11, 34), (.iload 1, 0, 0), (.iaload, 0, 0), (.ireturn, 0, 0)])]
def zB_Md_item : List (Nat × List zEnt) := [(0, [(.iload 1, 0, 0), (.invokestatic 0, 215, 0), (.ifCond .eq 0, 2, 0), (.goto_w 0, 1, 0)]),
  (7, [(.iload 2, 0, 0), (.invokestatic 0, 216, 0), (.ifCond .ne 0, 3, 0), (.goto_w 0, 2, 0)]),
  (14, [(.iconst (-1), 0, 0), (.ireturn, 0, 0)]),
  (16, [(.aload 0, 0, 0), (.iload 1, 0, 0), (.iload 2, 0, 0), (.iload 3, 0, 0), (.iconst (1), 0, 0), (.invokevirtual 0, 217, 0), (.istore 5, 0, 0), (.iload 5, 0, 0), (.ifCond .ge 0, 5, 0), (.goto_w 0, 4, 0)]),
  (31, [(.iload 5, 0, 0), (.ireturn, 0, 0)]),
  (34, [(.aload 0, 0, 0), (.getfield 0, 11, 35), (.iconst (81), 0, 0), (.iload 1, 0, 0), (.imul, 0, 0), (.iload 3, 0, 0), (.iadd, 0, 0), (.iload 2, 0, 0), (.ifCond .ne 0, 7, 0), (.goto_w 0, 6, 0)]),
  (48, [(.iload 4, 0, 0), (.i2b, 0, 0), (.goto 0, 8, 0)]),
  (54, [(.iload 4, 0, 0), (.goto_w 0, 8, 0)]),
  (56, [(.iastore, 0, 0), (.iconst (1), 0, 0), (.ireturn, 0, 0)])]
def zB_Md_copy : List (Nat × List zEnt) := [(0, [(.iload 1, 0, 0), (.invokestatic 0, 215, 0), (.ifCond .eq 0, 2, 0), (.goto_w 0, 1, 0)]),
  (7, [(.iload 3, 0, 0), (.invokestatic 0, 215, 0), (.ifCond .ne 0, 3, 0), (.goto_w 0, 2, 0)]),
  (14, [(.iconst (-1), 0, 0), (.ireturn, 0, 0)]),
  (16, [(.aload 0, 0, 0), (.getfield 0, 11, 33), (.iload 1, 0, 0), (.iaload, 0, 0), (.ifCond .lt 0, 5, 0), (.goto_w 0, 4, 0)]),
  (25, [(.aload 0, 0, 0), (.getfield 0, 11, 33), (.iload 3, 0, 0), (.iaload, 0, 0), (.ifCond .ge 0, 6, 0), (.goto_w 0, 5, 0)]),
  (34, [(.iconst (-11), 0, 0), (.ireturn, 0, 0)]),
  (37, [(.aload 0, 0, 0), (.getfield 0, 11, 33), (.iload 1, 0, 0), (.iaload, 0, 0), (.aload 0, 0, 0), (.getfield 0, 11, 33), (.iload 3, 0, 0), (.iaload, 0, 0), (.if_icmp .eq 0, 8, 0), (.goto_w 0, 7, 0)]),
  (52, [(.iconst (-12), 0, 0), (.ireturn, 0, 0)]),
  (55, [(.iload 5, 0, 0), (.ifCond .lt 0, 11, 0), (.goto_w 0, 9, 0)]),
  (60, [(.aload 0, 0, 0), (.iload 1, 0, 0), (.aload 0, 0, 0), (.getfield 0, 11, 33), (.iload 1, 0, 0), (.iaload, 0, 0), (.iload 2, 0, 0), (.iload 5, 0, 0), (.invokevirtual 0, 217, 0), (.ifCond .lt 0, 11, 0), (.goto_w 0, 10, 0)]),
  (77, [(.aload 0, 0, 0), (.iload 3, 0, 0), (.aload 0, 0, 0), (.getfield 0, 11, 33), (.iload 3, 0, 0), (.iaload, 0, 0), (.iload 4, 0, 0), (.iload 5, 0, 0), (.invokevirtual 0, 217, 0), (.ifCond .ge 0, 12, 0), (.goto_w 0, 11, 0)]),
  (95, [(.iconst (-13), 0, 0), (.ireturn, 0, 0)]),
  (98, [(.iconst (0), 0, 0), (.istore 6, 0, 0), (.goto_w 0, 13, 0)]),
  (101, [(.iload 6, 0, 0), (.iload 5, 0, 0), (.if_icmp .ge 0, 15, 0), (.goto_w 0, 14, 0)]),
  (108, [(.aload 0, 0, 0), (.getfield 0, 11, 36), (.iload 6, 0, 0), (.aload 0, 0, 0), (.getfield 0, 11, 35), (.iconst (81), 0, 0), (.iload 1, 0, 0), (.imul, 0, 0), (.iload 2, 0, 0), (.iadd, 0, 0), (.iload 6, 0, 0), (.iadd, 0, 0), (.iaload, 0, 0), (.iastore, 0, 0), (.iinc 6 (1), 0, 0), (.goto 0, 13, 0)]),
  (135, [(.iconst (0), 0, 0), (.istore 6, 0, 0), (.goto_w 0, 16, 0)]),
  (138, [(.iload 6, 0, 0), (.iload 5, 0, 0), (.if_icmp .ge 0, 18, 0), (.goto_w 0, 17, 0)]),
  (145, [(.aload 0, 0, 0), (.getfield 0, 11, 35), (.iconst (81), 0, 0), (.iload 3, 0, 0), (.imul, 0, 0), (.iload 4, 0, 0), (.iadd, 0, 0), (.iload 6, 0, 0), (.iadd, 0, 0), (.aload 0, 0, 0), (.getfield 0, 11, 36), (.iload 6, 0, 0), (.iaload, 0, 0), (.iastore, 0, 0), (.iinc 6 (1), 0, 0), (.goto 0, 16, 0)]),
  (173, [(.iload 5, 0, 0), (.ireturn, 0, 0)])]
def zB_JI_bitCount : List (Nat × List zEnt) := [(0, [(.iload 0, 0, 0), (.iload 0, 0, 0), (.iconst (1), 0, 0), (.iushr, 0, 0), (.iconst (1431655765), 0, 0), (.iand, 0, 0), (.isub, 0, 0), (.istore 0, 0, 0), (.iload 0, 0, 0), (.iconst (858993459), 0, 0), (.iand, 0, 0), (.iload 0, 0, 0), (.iconst (2), 0, 0), (.iushr, 0, 0), (.iconst (858993459), 0, 0), (.iand, 0, 0), (.iadd, 0, 0), (.istore 0, 0, 0), (.iload 0, 0, 0), (.iload 0, 0, 0), (.iconst (4), 0, 0), (.iushr, 0, 0), (.iadd, 0, 0), (.iconst (252645135), 0, 0), (.iand, 0, 0), (.istore 0, 0, 0), (.iload 0, 0, 0), (.iload 0, 0, 0), (.iconst (8), 0, 0), (.iushr, 0, 0), (.iadd, 0, 0), (.istore 0, 0, 0), (.iload 0, 0, 0), (.iload 0, 0, 0), (.iconst (16), 0, 0), (.iushr, 0, 0), (.iadd, 0, 0), (.istore 0, 0, 0), (.iload 0, 0, 0), (.iconst (63), 0, 0), (.iand, 0, 0), (.ireturn, 0, 0)])]
def zB_JA_fill : List (Nat × List zEnt) := [(0, [(.iconst (0), 0, 0), (.istore 2, 0, 0), (.aload 0, 0, 0), (.arraylength, 0, 0), (.istore 3, 0, 0), (.goto_w 0, 1, 0)]),
  (5, [(.iload 2, 0, 0), (.iload 3, 0, 0), (.if_icmp .ge 0, 3, 0), (.goto_w 0, 2, 0)]),
  (10, [(.aload 0, 0, 0), (.iload 2, 0, 0), (.iload 1, 0, 0), (.iastore, 0, 0), (.iinc 2 (1), 0, 0), (.goto 0, 1, 0)]),
  (20, [(.return_, 0, 0)])]
def zB_LW_law : List (Nat × List zEnt) := [(0, [(.new 0, 10, 0), (.dup, 0, 0), (.invokevirtual 0, 122, 0), (.astore 1, 0, 0), (.new 0, 11, 0), (.dup, 0, 0), (.invokevirtual 0, 167, 0), (.astore 2, 0, 0), (.iconst (0), 0, 0), (.istore 3, 0, 0), (.goto_w 0, 1, 0)]),
  (18, [(.iload 3, 0, 0), (.aload 0, 0, 0), (.arraylength, 0, 0), (.iconst (6), 0, 0), (.isub, 0, 0), (.if_icmp .gt 0, 74, 0), (.goto_w 0, 2, 0)]),
  (27, [(.aload 0, 0, 0), (.iload 3, 0, 0), (.iaload, 0, 0), (.iconst (63), 0, 0), (.iand, 0, 0), (.tableswitch 73 (0) (34) #[3, 5, 7, 9, 11, 13, 15, 17, 19, 21, 23, 25, 27, 29, 31, 33, 35, 37, 39, 41, 43, 45, 47, 49, 51, 53, 55, 57, 59, 61, 63, 65, 67, 69, 71], 0, 0)]),
  (188, [(.aload 1, 0, 0), (.aload 0, 0, 0), (.iload 3, 0, 0), (.iconst (1), 0, 0), (.iadd, 0, 0), (.iaload, 0, 0), (.aload 0, 0, 0), (.iload 3, 0, 0), (.iconst (2), 0, 0), (.iadd, 0, 0), (.iaload, 0, 0), (.invokevirtual 0, 123, 0), (.aload 2, 0, 0), (.aload 0, 0, 0), (.iload 3, 0, 0), (.iconst (1), 0, 0), (.iadd, 0, 0), (.iaload, 0, 0), (.aload 0, 0, 0), (.iload 3, 0, 0), (.iconst (2), 0, 0), (.iadd, 0, 0), (.iaload, 0, 0), (.invokevirtual 0, 169, 0), (.if_icmp .eq 0, 73, 0), (.goto_w 0, 4, 0)]),
  (219, [(.iconst (0), 0, 0), (.ireturn, 0, 0)]),
  (221, [(.aload 1, 0, 0), (.aload 0, 0, 0), (.iload 3, 0, 0), (.iconst (1), 0, 0), (.iadd, 0, 0), (.iaload, 0, 0), (.aload 0, 0, 0), (.iload 3, 0, 0), (.iconst (2), 0, 0), (.iadd, 0, 0), (.iaload, 0, 0), (.aload 0, 0, 0), (.iload 3, 0, 0), (.iconst (3), 0, 0), (.iadd, 0, 0), (.iaload, 0, 0), (.invokevirtual 0, 124, 0), (.aload 2, 0, 0), (.aload 0, 0, 0), (.iload 3, 0, 0), (.iconst (1), 0, 0), (.iadd, 0, 0), (.iaload, 0, 0), (.aload 0, 0, 0), (.iload 3, 0, 0), (.iconst (2), 0, 0), (.iadd, 0, 0), (.iaload, 0, 0), (.aload 0, 0, 0), (.iload 3, 0, 0), (.iconst (3), 0, 0), (.iadd, 0, 0), (.iaload, 0, 0), (.invokevirtual 0, 174, 0), (.if_icmp .eq 0, 73, 0), (.goto_w 0, 6, 0)]),
  (262, [(.iconst (0), 0, 0), (.ireturn, 0, 0)]),
  (264, [(.aload 1, 0, 0), (.aload 0, 0, 0), (.iload 3, 0, 0), (.iconst (1), 0, 0), (.iadd, 0, 0), (.iaload, 0, 0), (.aload 0, 0, 0), (.iload 3, 0, 0), (.iconst (2), 0, 0), (.iadd, 0, 0), (.iaload, 0, 0), (.invokevirtual 0, 125, 0), (.aload 2, 0, 0), (.aload 0, 0, 0), (.iload 3, 0, 0), (.iconst (1), 0, 0), (.iadd, 0, 0), (.iaload, 0, 0), (.aload 0, 0, 0), (.iload 3, 0, 0), (.iconst (2), 0, 0), (.iadd, 0, 0), (.iaload, 0, 0), (.invokevirtual 0, 177, 0), (.if_icmp .eq 0, 73, 0), (.goto_w 0, 8, 0)]),
  (295, [(.iconst (0), 0, 0), (.ireturn, 0, 0)]),
  (297, [(.aload 1, 0, 0), (.aload 0, 0, 0), (.iload 3, 0, 0), (.iconst (1), 0, 0), (.iadd, 0, 0), (.iaload, 0, 0), (.aload 0, 0, 0), (.iload 3, 0, 0), (.iconst (2), 0, 0), (.iadd, 0, 0), (.iaload, 0, 0), (.aload 0, 0, 0), (.iload 3, 0, 0), (.iconst (3), 0, 0), (.iadd, 0, 0), (.iaload, 0, 0), (.invokevirtual 0, 126, 0), (.aload 2, 0, 0), (.aload 0, 0, 0), (.iload 3, 0, 0), (.iconst (1), 0, 0), (.iadd, 0, 0), (.iaload, 0, 0), (.aload 0, 0, 0), (.iload 3, 0, 0), (.iconst (2), 0, 0), (.iadd, 0, 0), (.iaload, 0, 0), (.aload 0, 0, 0), (.iload 3, 0, 0), (.iconst (3), 0, 0), (.iadd, 0, 0), (.iaload, 0, 0), (.invokevirtual 0, 179, 0), (.if_icmp .eq 0, 73, 0), (.goto_w 0, 10, 0)]),
  (338, [(.iconst (0), 0, 0), (.ireturn, 0, 0)]),
  (340, [(.aload 1, 0, 0), (.aload 0, 0, 0), (.iload 3, 0, 0), (.iconst (1), 0, 0), (.iadd, 0, 0), (.iaload, 0, 0), (.aload 0, 0, 0), (.iload 3, 0, 0), (.iconst (2), 0, 0), (.iadd, 0, 0), (.iaload, 0, 0), (.invokevirtual 0, 127, 0), (.aload 2, 0, 0), (.aload 0, 0, 0), (.iload 3, 0, 0), (.iconst (1), 0, 0), (.iadd, 0, 0), (.iaload, 0, 0), (.aload 0, 0, 0), (.iload 3, 0, 0), (.iconst (2), 0, 0), (.iadd, 0, 0), (.iaload, 0, 0), (.invokevirtual 0, 180, 0), (.if_icmp .eq 0, 73, 0), (.goto_w 0, 12, 0)]),
  (371, [(.iconst (0), 0, 0), (.ireturn, 0, 0)]),
  (373, [(.aload 1, 0, 0), (.aload 0, 0, 0), (.iload 3, 0, 0), (.iconst (1), 0, 0), (.iadd, 0, 0), (.iaload, 0, 0), (.aload 0, 0, 0), (.iload 3, 0, 0), (.iconst (2), 0, 0), (.iadd, 0, 0), (.iaload, 0, 0), (.invokevirtual 0, 128, 0), (.aload 2, 0, 0), (.aload 0, 0, 0), (.iload 3, 0, 0), (.iconst (1), 0, 0), (.iadd, 0, 0), (.iaload, 0, 0), (.aload 0, 0, 0), (.iload 3, 0, 0), (.iconst (2), 0, 0), (.iadd, 0, 0), (.iaload, 0, 0), (.invokevirtual 0, 181, 0), (.if_icmp .eq 0, 73, 0), (.goto_w 0, 14, 0)]),
  (404, [(.iconst (0), 0, 0), (.ireturn, 0, 0)]),
  (406, [(.aload 1, 0, 0), (.aload 0, 0, 0), (.iload 3, 0, 0), (.iconst (1), 0, 0), (.iadd, 0, 0), (.iaload, 0, 0), (.aload 0, 0, 0), (.iload 3, 0, 0), (.iconst (2), 0, 0), (.iadd, 0, 0), (.iaload, 0, 0), (.aload 0, 0, 0), (.iload 3, 0, 0), (.iconst (3), 0, 0), (.iadd, 0, 0), (.iaload, 0, 0), (.invokevirtual 0, 129, 0), (.aload 2, 0, 0), (.aload 0, 0, 0), (.iload 3, 0, 0), (.iconst (1), 0, 0), (.iadd, 0, 0), (.iaload, 0, 0), (.aload 0, 0, 0), (.iload 3, 0, 0), (.iconst (2), 0, 0), (.iadd, 0, 0), (.iaload, 0, 0), (.aload 0, 0, 0), (.iload 3, 0, 0), (.iconst (3), 0, 0), (.iadd, 0, 0), (.iaload, 0, 0), (.invokevirtual 0, 182, 0), (.if_icmp .eq 0, 73, 0), (.goto_w 0, 16, 0)]),
  (447, [(.iconst (0), 0, 0), (.ireturn, 0, 0)]),
  (449, [(.aload 1, 0, 0), (.aload 0, 0, 0), (.iload 3, 0, 0), (.iconst (1), 0, 0), (.iadd, 0, 0), (.iaload, 0, 0), (.aload 0, 0, 0), (.iload 3, 0, 0), (.iconst (2), 0, 0), (.iadd, 0, 0), (.iaload, 0, 0), (.aload 0, 0, 0), (.iload 3, 0, 0), (.iconst (3), 0, 0), (.iadd, 0, 0), (.iaload, 0, 0), (.aload 0, 0, 0), (.iload 3, 0, 0), (.iconst (4), 0, 0), (.iadd, 0, 0), (.iaload, 0, 0), (.invokevirtual 0, 130, 0), (.aload 2, 0, 0), (.aload 0, 0, 0), (.iload 3, 0, 0), (.iconst (1), 0, 0), (.iadd, 0, 0), (.iaload, 0, 0), (.aload 0, 0, 0), (.iload 3, 0, 0), (.iconst (2), 0, 0), (.iadd, 0, 0), (.iaload, 0, 0), (.aload 0, 0, 0), (.iload 3, 0, 0), (.iconst (3), 0, 0), (.iadd, 0, 0), (.iaload, 0, 0), (.aload 0, 0, 0), (.iload 3, 0, 0), (.iconst (4), 0, 0), (.iadd, 0, 0), (.iaload, 0, 0), (.invokevirtual 0, 183, 0), (.if_icmp .eq 0, 73, 0), (.goto_w 0, 18, 0)]),
  (500, [(.iconst (0), 0, 0), (.ireturn, 0, 0)]),
  (502, [(.aload 1, 0, 0), (.aload 0, 0, 0), (.iload 3, 0, 0), (.iconst (1), 0, 0), (.iadd, 0, 0), (.iaload, 0, 0), (.aload 0, 0, 0), (.iload 3, 0, 0), (.iconst (2), 0, 0), (.iadd, 0, 0), (.iaload, 0, 0), (.aload 0, 0, 0), (.iload 3, 0, 0), (.iconst (3), 0, 0), (.iadd, 0, 0), (.iaload, 0, 0), (.aload 0, 0, 0), (.iload 3, 0, 0), (.iconst (4), 0, 0), (.iadd, 0, 0), (.iaload, 0, 0), (.aload 0, 0, 0), (.iload 3, 0, 0), (.iconst (5), 0, 0), (.iadd, 0, 0), (.iaload, 0, 0), (.invokevirtual 0, 131, 0), (.aload 2, 0, 0), (.aload 0, 0, 0), (.iload 3, 0, 0), (.iconst (1), 0, 0), (.iadd, 0, 0), (.iaload, 0, 0), (.aload 0, 0, 0), (.iload 3, 0, 0), (.iconst (2), 0, 0), (.iadd, 0, 0), (.iaload, 0, 0), (.aload 0, 0, 0), (.iload 3, 0, 0), (.iconst (3), 0, 0), (.iadd, 0, 0), (.iaload, 0, 0), (.aload 0, 0, 0), (.iload 3, 0, 0), (.iconst (4), 0, 0), (.iadd, 0, 0), (.iaload, 0, 0), (.aload 0, 0, 0), (.iload 3, 0, 0), (.iconst (5), 0, 0), (.iadd, 0, 0), (.iaload, 0, 0), (.invokevirtual 0, 220, 0), (.if_icmp .eq 0, 73, 0), (.goto_w 0, 20, 0)]),
  (563, [(.iconst (0), 0, 0), (.ireturn, 0, 0)]),
  (565, [(.aload 1, 0, 0), (.aload 0, 0, 0), (.iload 3, 0, 0), (.iconst (1), 0, 0), (.iadd, 0, 0), (.iaload, 0, 0), (.i2l, 0, 0), (.iconst (32), 0, 0), (.lshl, 0, 0), (.aload 0, 0, 0), (.iload 3, 0, 0), (.iconst (2), 0, 0), (.iadd, 0, 0), (.iaload, 0, 0), (.i2l, 0, 0), (.sipush (4294967295), 0, 0), (.land, 0, 0), (.lor, 0, 0), (.aload 0, 0, 0), (.iload 3, 0, 0), (.iconst (3), 0, 0), (.iadd, 0, 0), (.iaload, 0, 0), (.invokevirtual 0, 132, 0), (.aload 2, 0, 0), (.aload 0, 0, 0), (.iload 3, 0, 0), (.iconst (1), 0, 0), (.iadd, 0, 0), (.iaload, 0, 0), (.i2l, 0, 0), (.iconst (32), 0, 0), (.lshl, 0, 0), (.aload 0, 0, 0), (.iload 3, 0, 0), (.iconst (2), 0, 0), (.iadd, 0, 0), (.iaload, 0, 0), (.i2l, 0, 0), (.sipush (4294967295), 0, 0), (.land, 0, 0), (.lor, 0, 0), (.aload 0, 0, 0), (.iload 3, 0, 0), (.iconst (3), 0, 0), (.iadd, 0, 0), (.iaload, 0, 0), (.invokevirtual 0, 188, 0), (.if_icmp .eq 0, 73, 0), (.goto_w 0, 22, 0)]),
  (626, [(.iconst (0), 0, 0), (.ireturn, 0, 0)]),
  (628, [(.aload 1, 0, 0), (.invokevirtual 0, 133, 0), (.aload 2, 0, 0), (.invokevirtual 0, 195, 0), (.if_icmp .eq 0, 73, 0), (.goto_w 0, 24, 0)]),
  (639, [(.iconst (0), 0, 0), (.ireturn, 0, 0)]),
  (641, [(.aload 1, 0, 0), (.invokevirtual 0, 134, 0), (.aload 2, 0, 0), (.invokevirtual 0, 203, 0), (.if_icmp .eq 0, 73, 0), (.goto_w 0, 26, 0)]),
  (652, [(.iconst (0), 0, 0), (.ireturn, 0, 0)]),
  (654, [(.aload 1, 0, 0), (.aload 0, 0, 0), (.iload 3, 0, 0), (.iconst (1), 0, 0), (.iadd, 0, 0), (.iaload, 0, 0), (.invokevirtual 0, 135, 0), (.aload 2, 0, 0), (.aload 0, 0, 0), (.iload 3, 0, 0), (.iconst (1), 0, 0), (.iadd, 0, 0), (.iaload, 0, 0), (.invokevirtual 0, 204, 0), (.if_icmp .eq 0, 73, 0), (.goto_w 0, 28, 0)]),
  (675, [(.iconst (0), 0, 0), (.ireturn, 0, 0)]),
  (677, [(.aload 1, 0, 0), (.aload 0, 0, 0), (.iload 3, 0, 0), (.iconst (1), 0, 0), (.iadd, 0, 0), (.iaload, 0, 0), (.aload 0, 0, 0), (.iload 3, 0, 0), (.iconst (2), 0, 0), (.iadd, 0, 0), (.iaload, 0, 0), (.aload 0, 0, 0), (.iload 3, 0, 0), (.iconst (3), 0, 0), (.iadd, 0, 0), (.iaload, 0, 0), (.invokevirtual 0, 136, 0), (.aload 2, 0, 0), (.aload 0, 0, 0), (.iload 3, 0, 0), (.iconst (1), 0, 0), (.iadd, 0, 0), (.iaload, 0, 0), (.aload 0, 0, 0), (.iload 3, 0, 0), (.iconst (2), 0, 0), (.iadd, 0, 0), (.iaload, 0, 0), (.aload 0, 0, 0), (.iload 3, 0, 0), (.iconst (3), 0, 0), (.iadd, 0, 0), (.iaload, 0, 0), (.invokevirtual 0, 187, 0), (.if_icmp .eq 0, 73, 0), (.goto_w 0, 30, 0)]),
  (718, [(.iconst (0), 0, 0), (.ireturn, 0, 0)]),
  (720, [(.aload 1, 0, 0), (.aload 0, 0, 0), (.iload 3, 0, 0), (.iconst (1), 0, 0), (.iadd, 0, 0), (.iaload, 0, 0), (.invokevirtual 0, 137, 0), (.aload 2, 0, 0), (.aload 0, 0, 0), (.iload 3, 0, 0), (.iconst (1), 0, 0), (.iadd, 0, 0), (.iaload, 0, 0), (.invokevirtual 0, 207, 0), (.if_icmp .eq 0, 73, 0), (.goto_w 0, 32, 0)]),
  (741, [(.iconst (0), 0, 0), (.ireturn, 0, 0)]),
  (743, [(.aload 1, 0, 0), (.aload 0, 0, 0), (.iload 3, 0, 0), (.iconst (1), 0, 0), (.iadd, 0, 0), (.iaload, 0, 0), (.invokevirtual 0, 138, 0), (.aload 2, 0, 0), (.aload 0, 0, 0), (.iload 3, 0, 0), (.iconst (1), 0, 0), (.iadd, 0, 0), (.iaload, 0, 0), (.invokevirtual 0, 210, 0), (.if_icmp .eq 0, 73, 0), (.goto_w 0, 34, 0)]),
  (764, [(.iconst (0), 0, 0), (.ireturn, 0, 0)]),
  (766, [(.aload 1, 0, 0), (.aload 0, 0, 0), (.iload 3, 0, 0), (.iconst (1), 0, 0), (.iadd, 0, 0), (.iaload, 0, 0), (.aload 0, 0, 0), (.iload 3, 0, 0), (.iconst (2), 0, 0), (.iadd, 0, 0), (.iaload, 0, 0), (.invokevirtual 0, 139, 0), (.aload 2, 0, 0), (.aload 0, 0, 0), (.iload 3, 0, 0), (.iconst (1), 0, 0), (.iadd, 0, 0), (.iaload, 0, 0), (.aload 0, 0, 0), (.iload 3, 0, 0), (.iconst (2), 0, 0), (.iadd, 0, 0), (.iaload, 0, 0), (.invokevirtual 0, 211, 0), (.if_icmp .eq 0, 73, 0), (.goto_w 0, 36, 0)]),
  (797, [(.iconst (0), 0, 0), (.ireturn, 0, 0)]),
  (799, [(.aload 1, 0, 0), (.aload 0, 0, 0), (.iload 3, 0, 0), (.iconst (1), 0, 0), (.iadd, 0, 0), (.iaload, 0, 0), (.invokevirtual 0, 140, 0), (.aload 2, 0, 0), (.aload 0, 0, 0), (.iload 3, 0, 0), (.iconst (1), 0, 0), (.iadd, 0, 0), (.iaload, 0, 0), (.invokevirtual 0, 214, 0), (.if_icmp .eq 0, 73, 0), (.goto_w 0, 38, 0)]),
  (820, [(.iconst (0), 0, 0), (.ireturn, 0, 0)]),
  (822, [(.aload 1, 0, 0), (.aload 0, 0, 0), (.iload 3, 0, 0), (.iconst (1), 0, 0), (.iadd, 0, 0), (.iaload, 0, 0), (.aload 0, 0, 0), (.iload 3, 0, 0), (.iconst (2), 0, 0), (.iadd, 0, 0), (.iaload, 0, 0), (.aload 0, 0, 0), (.iload 3, 0, 0), (.iconst (3), 0, 0), (.iadd, 0, 0), (.iaload, 0, 0), (.aload 0, 0, 0), (.iload 3, 0, 0), (.iconst (4), 0, 0), (.iadd, 0, 0), (.iaload, 0, 0), (.aload 0, 0, 0), (.iload 3, 0, 0), (.iconst (5), 0, 0), (.iadd, 0, 0), (.iaload, 0, 0), (.invokevirtual 0, 141, 0), (.aload 2, 0, 0), (.aload 0, 0, 0), (.iload 3, 0, 0), (.iconst (1), 0, 0), (.iadd, 0, 0), (.iaload, 0, 0), (.aload 0, 0, 0), (.iload 3, 0, 0), (.iconst (2), 0, 0), (.iadd, 0, 0), (.iaload, 0, 0), (.aload 0, 0, 0), (.iload 3, 0, 0), (.iconst (3), 0, 0), (.iadd, 0, 0), (.iaload, 0, 0), (.aload 0, 0, 0), (.iload 3, 0, 0), (.iconst (4), 0, 0), (.iadd, 0, 0), (.iaload, 0, 0), (.aload 0, 0, 0), (.iload 3, 0, 0), (.iconst (5), 0, 0), (.iadd, 0, 0), (.iaload, 0, 0), (.invokevirtual 0, 218, 0), (.if_icmp .eq 0, 73, 0), (.goto_w 0, 40, 0)]),
  (883, [(.iconst (0), 0, 0), (.ireturn, 0, 0)]),
  (885, [(.aload 1, 0, 0), (.aload 0, 0, 0), (.iload 3, 0, 0), (.iconst (1), 0, 0), (.iadd, 0, 0), (.iaload, 0, 0), (.invokevirtual 0, 142, 0), (.aload 2, 0, 0), (.aload 0, 0, 0), (.iload 3, 0, 0), (.iconst (1), 0, 0), (.iadd, 0, 0), (.iaload, 0, 0), (.invokevirtual 0, 219, 0), (.if_icmp .eq 0, 73, 0), (.goto_w 0, 42, 0)]),
  (906, [(.iconst (0), 0, 0), (.ireturn, 0, 0)]),
  (908, [(.aload 1, 0, 0), (.aload 0, 0, 0), (.iload 3, 0, 0), (.iconst (1), 0, 0), (.iadd, 0, 0), (.iaload, 0, 0), (.invokevirtual 0, 143, 0), (.aload 2, 0, 0), (.aload 0, 0, 0), (.iload 3, 0, 0), (.iconst (1), 0, 0), (.iadd, 0, 0), (.iaload, 0, 0), (.invokevirtual 0, 231, 0), (.if_icmp .eq 0, 73, 0), (.goto_w 0, 44, 0)]),
  (929, [(.iconst (0), 0, 0), (.ireturn, 0, 0)]),
  (931, [(.aload 1, 0, 0), (.aload 0, 0, 0), (.iload 3, 0, 0), (.iconst (1), 0, 0), (.iadd, 0, 0), (.iaload, 0, 0), (.aload 0, 0, 0), (.iload 3, 0, 0), (.iconst (2), 0, 0), (.iadd, 0, 0), (.iaload, 0, 0), (.aload 0, 0, 0), (.iload 3, 0, 0), (.iconst (3), 0, 0), (.iadd, 0, 0), (.iaload, 0, 0), (.invokevirtual 0, 144, 0), (.aload 2, 0, 0), (.aload 0, 0, 0), (.iload 3, 0, 0), (.iconst (1), 0, 0), (.iadd, 0, 0), (.iaload, 0, 0), (.aload 0, 0, 0), (.iload 3, 0, 0), (.iconst (2), 0, 0), (.iadd, 0, 0), (.iaload, 0, 0), (.aload 0, 0, 0), (.iload 3, 0, 0), (.iconst (3), 0, 0), (.iadd, 0, 0), (.iaload, 0, 0), (.invokevirtual 0, 232, 0), (.if_icmp .eq 0, 73, 0), (.goto_w 0, 46, 0)]),
  (972, [(.iconst (0), 0, 0), (.ireturn, 0, 0)]),
  (974, [(.aload 1, 0, 0), (.aload 0, 0, 0), (.iload 3, 0, 0), (.iconst (1), 0, 0), (.iadd, 0, 0), (.iaload, 0, 0), (.aload 0, 0, 0), (.iload 3, 0, 0), (.iconst (2), 0, 0), (.iadd, 0, 0), (.iaload, 0, 0), (.aload 0, 0, 0), (.iload 3, 0, 0), (.iconst (3), 0, 0), (.iadd, 0, 0), (.iaload, 0, 0), (.invokevirtual 0, 146, 0), (.aload 2, 0, 0), (.aload 0, 0, 0), (.iload 3, 0, 0), (.iconst (1), 0, 0), (.iadd, 0, 0), (.iaload, 0, 0), (.aload 0, 0, 0), (.iload 3, 0, 0), (.iconst (2), 0, 0), (.iadd, 0, 0), (.iaload, 0, 0), (.aload 0, 0, 0), (.iload 3, 0, 0), (.iconst (3), 0, 0), (.iadd, 0, 0), (.iaload, 0, 0), (.invokevirtual 0, 233, 0), (.if_icmp .eq 0, 73, 0), (.goto_w 0, 48, 0)]),
  (1015, [(.iconst (0), 0, 0), (.ireturn, 0, 0)]),
  (1017, [(.aload 1, 0, 0), (.aload 0, 0, 0), (.iload 3, 0, 0), (.iconst (1), 0, 0), (.iadd, 0, 0), (.iaload, 0, 0), (.invokevirtual 0, 147, 0), (.aload 2, 0, 0), (.aload 0, 0, 0), (.iload 3, 0, 0), (.iconst (1), 0, 0), (.iadd, 0, 0), (.iaload, 0, 0), (.invokevirtual 0, 234, 0), (.if_icmp .eq 0, 73, 0), (.goto_w 0, 50, 0)]),
  (1038, [(.iconst (0), 0, 0), (.ireturn, 0, 0)]),
  (1040, [(.aload 1, 0, 0), (.aload 0, 0, 0), (.iload 3, 0, 0), (.iconst (1), 0, 0), (.iadd, 0, 0), (.iaload, 0, 0), (.aload 0, 0, 0), (.iload 3, 0, 0), (.iconst (2), 0, 0), (.iadd, 0, 0), (.iaload, 0, 0), (.invokevirtual 0, 148, 0), (.aload 2, 0, 0), (.aload 0, 0, 0), (.iload 3, 0, 0), (.iconst (1), 0, 0), (.iadd, 0, 0), (.iaload, 0, 0), (.aload 0, 0, 0), (.iload 3, 0, 0), (.iconst (2), 0, 0), (.iadd, 0, 0), (.iaload, 0, 0), (.invokevirtual 0, 243, 0), (.lcmp, 0, 0), (.ifCond .eq 0, 73, 0), (.goto_w 0, 52, 0)]),
  (1072, [(.iconst (0), 0, 0), (.ireturn, 0, 0)]),
  (1074, [(.aload 1, 0, 0), (.aload 0, 0, 0), (.iload 3, 0, 0), (.iconst (1), 0, 0), (.iadd, 0, 0), (.iaload, 0, 0), (.aload 0, 0, 0), (.iload 3, 0, 0), (.iconst (2), 0, 0), (.iadd, 0, 0), (.iaload, 0, 0), (.invokevirtual 0, 149, 0), (.aload 2, 0, 0), (.aload 0, 0, 0), (.iload 3, 0, 0), (.iconst (1), 0, 0), (.iadd, 0, 0), (.iaload, 0, 0), (.aload 0, 0, 0), (.iload 3, 0, 0), (.iconst (2), 0, 0), (.iadd, 0, 0), (.iaload, 0, 0), (.invokevirtual 0, 244, 0), (.if_icmp .eq 0, 73, 0), (.goto_w 0, 54, 0)]),
  (1105, [(.iconst (0), 0, 0), (.ireturn, 0, 0)]),
  (1107, [(.aload 1, 0, 0), (.aload 0, 0, 0), (.iload 3, 0, 0), (.iconst (1), 0, 0), (.iadd, 0, 0), (.iaload, 0, 0), (.invokevirtual 0, 150, 0), (.aload 2, 0, 0), (.aload 0, 0, 0), (.iload 3, 0, 0), (.iconst (1), 0, 0), (.iadd, 0, 0), (.iaload, 0, 0), (.invokevirtual 0, 247, 0), (.if_icmp .eq 0, 73, 0), (.goto_w 0, 56, 0)]),
  (1128, [(.iconst (0), 0, 0), (.ireturn, 0, 0)]),
  (1130, [(.aload 1, 0, 0), (.aload 0, 0, 0), (.iload 3, 0, 0), (.iconst (1), 0, 0), (.iadd, 0, 0), (.iaload, 0, 0), (.invokevirtual 0, 151, 0), (.aload 2, 0, 0), (.aload 0, 0, 0), (.iload 3, 0, 0), (.iconst (1), 0, 0), (.iadd, 0, 0), (.iaload, 0, 0), (.invokevirtual 0, 250, 0), (.if_icmp .eq 0, 73, 0), (.goto_w 0, 58, 0)]),
  (1151, [(.iconst (0), 0, 0), (.ireturn, 0, 0)]),
  (1153, [(.aload 1, 0, 0), (.aload 0, 0, 0), (.iload 3, 0, 0), (.iconst (1), 0, 0), (.iadd, 0, 0), (.iaload, 0, 0), (.invokevirtual 0, 152, 0), (.aload 2, 0, 0), (.aload 0, 0, 0), (.iload 3, 0, 0), (.iconst (1), 0, 0), (.iadd, 0, 0), (.iaload, 0, 0), (.invokevirtual 0, 253, 0), (.if_icmp .eq 0, 73, 0), (.goto_w 0, 60, 0)]),
  (1174, [(.iconst (0), 0, 0), (.ireturn, 0, 0)]),
  (1176, [(.aload 1, 0, 0), (.aload 0, 0, 0), (.iload 3, 0, 0), (.iconst (1), 0, 0), (.iadd, 0, 0), (.iaload, 0, 0), (.invokevirtual 0, 153, 0), (.aload 2, 0, 0), (.aload 0, 0, 0), (.iload 3, 0, 0), (.iconst (1), 0, 0), (.iadd, 0, 0), (.iaload, 0, 0), (.invokevirtual 0, 256, 0), (.if_icmp .eq 0, 73, 0), (.goto_w 0, 62, 0)]),
  (1197, [(.iconst (0), 0, 0), (.ireturn, 0, 0)]),
  (1199, [(.aload 1, 0, 0), (.aload 0, 0, 0), (.iload 3, 0, 0), (.iconst (1), 0, 0), (.iadd, 0, 0), (.iaload, 0, 0), (.invokevirtual 0, 154, 0), (.aload 2, 0, 0), (.aload 0, 0, 0), (.iload 3, 0, 0), (.iconst (1), 0, 0), (.iadd, 0, 0), (.iaload, 0, 0), (.invokevirtual 0, 257, 0), (.if_icmp .eq 0, 73, 0), (.goto_w 0, 64, 0)]),
  (1220, [(.iconst (0), 0, 0), (.ireturn, 0, 0)]),
  (1222, [(.aload 1, 0, 0), (.aload 0, 0, 0), (.iload 3, 0, 0), (.iconst (1), 0, 0), (.iadd, 0, 0), (.iaload, 0, 0), (.aload 0, 0, 0), (.iload 3, 0, 0), (.iconst (2), 0, 0), (.iadd, 0, 0), (.iaload, 0, 0), (.aload 0, 0, 0), (.iload 3, 0, 0), (.iconst (3), 0, 0), (.iadd, 0, 0), (.iaload, 0, 0), (.invokevirtual 0, 155, 0), (.aload 2, 0, 0), (.aload 0, 0, 0), (.iload 3, 0, 0), (.iconst (1), 0, 0), (.iadd, 0, 0), (.iaload, 0, 0), (.aload 0, 0, 0), (.iload 3, 0, 0), (.iconst (2), 0, 0), (.iadd, 0, 0), (.iaload, 0, 0), (.aload 0, 0, 0), (.iload 3, 0, 0), (.iconst (3), 0, 0), (.iadd, 0, 0), (.iaload, 0, 0), (.invokevirtual 0, 258, 0), (.if_icmp .eq 0, 73, 0), (.goto_w 0, 66, 0)]),
  (1263, [(.iconst (0), 0, 0), (.ireturn, 0, 0)]),
  (1265, [(.aload 1, 0, 0), (.aload 0, 0, 0), (.iload 3, 0, 0), (.iconst (1), 0, 0), (.iadd, 0, 0), (.iaload, 0, 0), (.invokevirtual 0, 156, 0), (.aload 2, 0, 0), (.aload 0, 0, 0), (.iload 3, 0, 0), (.iconst (1), 0, 0), (.iadd, 0, 0), (.iaload, 0, 0), (.invokevirtual 0, 259, 0), (.if_icmp .eq 0, 73, 0), (.goto_w 0, 68, 0)]),
  (1286, [(.iconst (0), 0, 0), (.ireturn, 0, 0)]),
  (1288, [(.aload 1, 0, 0), (.aload 0, 0, 0), (.iload 3, 0, 0), (.iconst (1), 0, 0), (.iadd, 0, 0), (.iaload, 0, 0), (.aload 0, 0, 0), (.iload 3, 0, 0), (.iconst (2), 0, 0), (.iadd, 0, 0), (.iaload, 0, 0), (.aload 0, 0, 0), (.iload 3, 0, 0), (.iconst (3), 0, 0), (.iadd, 0, 0), (.iaload, 0, 0), (.aload 0, 0, 0), (.iload 3, 0, 0), (.iconst (4), 0, 0), (.iadd, 0, 0), (.iaload, 0, 0), (.invokevirtual 0, 157, 0), (.aload 2, 0, 0), (.aload 0, 0, 0), (.iload 3, 0, 0), (.iconst (1), 0, 0), (.iadd, 0, 0), (.iaload, 0, 0), (.aload 0, 0, 0), (.iload 3, 0, 0), (.iconst (2), 0, 0), (.iadd, 0, 0), (.iaload, 0, 0), (.aload 0, 0, 0), (.iload 3, 0, 0), (.iconst (3), 0, 0), (.iadd, 0, 0), (.iaload, 0, 0), (.aload 0, 0, 0), (.iload 3, 0, 0), (.iconst (4), 0, 0), (.iadd, 0, 0), (.iaload, 0, 0), (.invokevirtual 0, 260, 0), (.if_icmp .eq 0, 73, 0), (.goto_w 0, 70, 0)]),
  (1339, [(.iconst (0), 0, 0), (.ireturn, 0, 0)]),
  (1341, [(.aload 1, 0, 0), (.aload 0, 0, 0), (.iload 3, 0, 0), (.iconst (1), 0, 0), (.iadd, 0, 0), (.iaload, 0, 0), (.aload 0, 0, 0), (.iload 3, 0, 0), (.iconst (2), 0, 0), (.iadd, 0, 0), (.iaload, 0, 0), (.aload 0, 0, 0), (.iload 3, 0, 0), (.iconst (3), 0, 0), (.iadd, 0, 0), (.iaload, 0, 0), (.aload 0, 0, 0), (.iload 3, 0, 0), (.iconst (4), 0, 0), (.iadd, 0, 0), (.iaload, 0, 0), (.aload 0, 0, 0), (.iload 3, 0, 0), (.iconst (5), 0, 0), (.iadd, 0, 0), (.iaload, 0, 0), (.invokevirtual 0, 158, 0), (.aload 2, 0, 0), (.aload 0, 0, 0), (.iload 3, 0, 0), (.iconst (1), 0, 0), (.iadd, 0, 0), (.iaload, 0, 0), (.aload 0, 0, 0), (.iload 3, 0, 0), (.iconst (2), 0, 0), (.iadd, 0, 0), (.iaload, 0, 0), (.aload 0, 0, 0), (.iload 3, 0, 0), (.iconst (3), 0, 0), (.iadd, 0, 0), (.iaload, 0, 0), (.aload 0, 0, 0), (.iload 3, 0, 0), (.iconst (4), 0, 0), (.iadd, 0, 0), (.iaload, 0, 0), (.aload 0, 0, 0), (.iload 3, 0, 0), (.iconst (5), 0, 0), (.iadd, 0, 0), (.iaload, 0, 0), (.invokevirtual 0, 261, 0), (.if_icmp .eq 0, 73, 0), (.goto_w 0, 72, 0)]),
  (1402, [(.iconst (0), 0, 0), (.ireturn, 0, 0)]),
  (1404, [(.iinc 3 (6), 0, 0), (.goto 0, 1, 0)]),
  (1410, [(.iconst (1), 0, 0), (.ireturn, 0, 0)])]
def zBs : List (List (Nat × List zEnt)) := [zB_Bl_init, zB_Bl_prepare, zB_Bl_want, zB_Bl_fit, zB_Bl_search, zB_Bl_advance, zB_Bl_does, zB_Bl_spread, zB_Bl_endsBy, zB_Bl_endsOfAll, zB_Bl_staying, zB_Bl_sure, zB_Fo_init, zB_Fo_becomeTrue, zB_Fo_clear, zB_Fo_add, zB_Fo_set, zB_Fo_become, zB_Fo_kind, zB_Fo_left, zB_Fo_right, zB_Fo_group, zB_Fo_isLaw, zB_Fo_isOfGroup, zB_Fo_hasRounds, zB_Fo_hasToll, zB_Go_init, zB_Go_forget, zB_Go_passed, zB_Go_meeting, zB_Go_isStable, zB_Go_couldMeet, zB_Go_search, zB_Go_advance, zB_La_init, zB_La_whole, zB_La_refresh, zB_La_judge, zB_La_always, zB_La_until, zB_La_mark, zB_La_again, zB_La_ahead, zB_La_fewestMore, zB_Lo_init, zB_Lo_weigh, zB_Lo_countAll, zB_Lo_coming, zB_Lo_countInto, zB_Lo_line, zB_Lo_write, zB_Lo_solve, zB_Lo_clearBelow, zB_Lo_cell, zB_Lo_setCell, zB_Lo_shorten, zB_Ne_init, zB_Ne_begin, zB_Ne_leadBack, zB_Ne_hasState, zB_Ne_hasPlayer, zB_Ne_hasGroup, zB_Ne_hasSet, zB_Ne_hasMove, zB_Ne_hasJoint, zB_Ne_everyone, zB_Ne_everywhere, zB_Ne_movesOf, zB_Ne_heapOf, zB_Ne_target, zB_Ne_changeMoves, zB_Ne_changeTarget, zB_Ne_changeLetters, zB_Ne_bearing, zB_Ne_ways, zB_Ne_together, zB_Ne_leastInto, zB_Ne_sumOfPrices, zB_Ne_leastMoves, zB_Ne_next, zB_Ne_allPlans, zB_Pl_init, zB_Pl_move, zB_Pl_aim, zB_Pl_hinder, zB_Pl_leastSum, zB_Pl_cheapest, zB_Pl_worst, zB_Pl_forget, zB_Pl_startWalk, zB_Pl_goOn, zB_Pl_behind, zB_Sh_init, zB_Sh_hasPlace, zB_Sh_isEmptyPlace, zB_Sh_hasItems, zB_Sh_wrong, zB_Sh_start, zB_Sh_empty, zB_Sh_read, zB_Sh_write, zB_Sh_hasBelowZero, zB_Ta_init, zB_Ta_prepare, zB_Ta_fill, zB_Ta_share, zB_Ta_endsOf, zB_Ta_leastInto, zB_Ta_forcing, zB_Tp_init, zB_Tp_add, zB_Tp_byteOf, zB_Tp_understand, zB_Tp_here, zB_Tp_refuse, zB_Tp_take, zB_Tp_readForm, zB_Tp_readGroup, zB_Tp_readLaw, zB_Tp_readPair, zB_Tp_lawKind, zB_Tp_pairKind, zB_FN_init, zB_FN_net, zB_FN_moves, zB_FN_joint, zB_FN_step, zB_FN_leads, zB_FN_letters, zB_FN_heap, zB_FN_price, zB_FN_steps, zB_FN_type, zB_FN_form, zB_FN_holds, zB_FN_part, zB_FN_force, zB_FN_round, zB_FN_plan, zB_FN_answer, zB_FN_toll, zB_FN_walk, zB_FN_walked, zB_FN_blind, zB_FN_blindMove, zB_FN_findRow, zB_FN_choose, zB_FN_lot, zB_FN_chance, zB_FN_goal, zB_FN_content, zB_FN_stable, zB_FN_settle, zB_FN_helpers, zB_FN_count, zB_FN_sheet, zB_FN_drop, zB_FN_item, zB_FN_copy, zB_FN_at, zB_FN_put, zB_FN_swap, zB_FN_has, zB_FN_lowest, zB_FN_over, zB_FN_rest, zB_Md_in, zB_Md_init, zB_Md_begins, zB_Md_net, zB_Md_isState, zB_Md_isPlayer, zB_Md_isSet, zB_Md_isGroup, zB_Md_moves, zB_Md_jointOf, zB_Md_everybody, zB_Md_joint, zB_Md_isMove, zB_Md_step, zB_Md_leads, zB_Md_letters, zB_Md_heap, zB_Md_price, zB_Md_leadsBy, zB_Md_others, zB_Md_forces, zB_Md_force, zB_Md_type, zB_Md_next, zB_Md_needs, zB_Md_opens, zB_Md_group, zB_Md_isWhole, zB_Md_closes, zB_Md_form, zB_Md_whole, zB_Md_forcing, zB_Md_until, zB_Md_always, zB_Md_again, zB_Md_heldOf, zB_Md_tell, zB_Md_holds, zB_Md_part, zB_Md_isOfGroup, zB_Md_hasRounds, zB_Md_round, zB_Md_aim, zB_Md_planOf, zB_Md_plan, zB_Md_answer, zB_Md_sumOf, zB_Md_tollBy, zB_Md_toll, zB_Md_isSheet, zB_Md_isLane, zB_Md_finds, zB_Md_walk, zB_Md_walked, zB_Md_steps, zB_Md_mostOf, zB_Md_lays, zB_Md_digitOf, zB_Md_countsUp, zB_Md_links, zB_Md_surely, zB_Md_stays, zB_Md_does, zB_Md_fits, zB_Md_seeks, zB_Md_blind, zB_Md_blindMove, zB_Md_choose, zB_Md_lot, zB_Md_leadsWith, zB_Md_lotMany, zB_Md_common, zB_Md_coming, zB_Md_equations, zB_Md_shorten, zB_Md_swap, zB_Md_solve, zB_Md_chance, zB_Md_goal, zB_Md_way, zB_Md_contentOf, zB_Md_content, zB_Md_alone, zB_Md_isStable, zB_Md_stable, zB_Md_plansOfAll, zB_Md_plansUp, zB_Md_settle, zB_Md_many, zB_Md_isAhead, zB_Md_helpers, zB_Md_count, zB_Md_sheet, zB_Md_drop, zB_Md_item, zB_Md_copy, zB_JI_bitCount, zB_JA_fill, zB_LW_law]
def zMI : List (MethodName × ByteArray × Nat × Option FieldType × Nat × Nat × Bool × Bool) := [
  (yX0_init, cX0_init, 3, none, 0, 2, false, true),
  (yX0_prepare, cX0_prepare, 6, some .int, 0, 1, false, false),
  (yX0_want, cX0_want, 4, none, 0, 3, false, false),
  (yX0_fit, cX0_fit, 5, some .int, 0, 1, false, false),
  (yX0_search, cX0_search, 3, some .boolean, 0, 1, false, false),
  (yX0_advance, cX0_advance, 2, some .boolean, 0, 0, false, false),
  (yX0_does, cX0_does, 3, some .boolean, 0, 1, false, false),
  (yX0_spread, cX0_spread, 7, some .int, 0, 1, false, false),
  (yX0_endsBy, cX0_endsBy, 5, some .int, 0, 1, false, false),
  (yX0_endsOfAll, cX0_endsOfAll, 4, some .int, 0, 1, false, false),
  (yX0_staying, cX0_staying, 5, some .int, 0, 1, false, false),
  (yX0_sure, cX0_sure, 6, some .int, 0, 2, false, false),
  (yX1_init, cX1_init, 1, none, 1, 0, false, true),
  (yX1_becomeTrue, cX1_becomeTrue, 1, none, 1, 0, false, false),
  (yX1_clear, cX1_clear, 1, none, 1, 0, false, false),
  (yX1_add, cX1_add, 3, some .int, 1, 1, false, false),
  (yX1_set, cX1_set, 5, none, 1, 4, false, false),
  (yX1_become, cX1_become, 3, none, 1, 1, false, false),
  (yX1_kind, cX1_kind, 2, some .int, 1, 1, false, false),
  (yX1_left, cX1_left, 2, some .int, 1, 1, false, false),
  (yX1_right, cX1_right, 2, some .int, 1, 1, false, false),
  (yX1_group, cX1_group, 2, some .int, 1, 1, false, false),
  (yX1_isLaw, cX1_isLaw, 2, some .boolean, 1, 1, false, false),
  (yX1_isOfGroup, cX1_isOfGroup, 1, some .boolean, 1, 0, false, false),
  (yX1_hasRounds, cX1_hasRounds, 1, some .boolean, 1, 0, false, false),
  (yX1_hasToll, cX1_hasToll, 1, some .boolean, 1, 0, false, false),
  (yX2_init, cX2_init, 2, none, 2, 1, false, true),
  (yX2_forget, cX2_forget, 1, none, 2, 0, false, false),
  (yX2_passed, cX2_passed, 6, some .int, 2, 2, false, false),
  (yX2_meeting, cX2_meeting, 4, some .int, 2, 1, false, false),
  (yX2_isStable, cX2_isStable, 5, some .boolean, 2, 2, false, false),
  (yX2_couldMeet, cX2_couldMeet, 11, some .boolean, 2, 3, false, false),
  (yX2_search, cX2_search, 3, some .boolean, 2, 1, false, false),
  (yX2_advance, cX2_advance, 4, some .boolean, 2, 0, false, false),
  (yX3_init, cX3_init, 4, none, 3, 3, false, true),
  (yX3_whole, cX3_whole, 1, some .int, 3, 0, false, false),
  (yX3_refresh, cX3_refresh, 2, none, 3, 0, false, false),
  (yX3_judge, cX3_judge, 5, some .int, 3, 1, false, false),
  (yX3_always, cX3_always, 4, some .int, 3, 1, false, false),
  (yX3_until, cX3_until, 6, some .int, 3, 2, false, false),
  (yX3_mark, cX3_mark, 4, none, 3, 2, false, false),
  (yX3_again, cX3_again, 5, some .int, 3, 1, false, false),
  (yX3_ahead, cX3_ahead, 4, some .int, 3, 1, false, false),
  (yX3_fewestMore, cX3_fewestMore, 6, some .int, 3, 1, false, false),
  (yX4_init, cX4_init, 2, none, 4, 1, false, true),
  (yX4_weigh, cX4_weigh, 5, none, 4, 2, false, false),
  (yX4_countAll, cX4_countAll, 5, none, 4, 0, false, false),
  (yX4_coming, cX4_coming, 5, some .int, 4, 1, false, false),
  (yX4_countInto, cX4_countInto, 5, some .int, 4, 2, false, false),
  (yX4_line, cX4_line, 5, some .int, 4, 2, false, false),
  (yX4_write, cX4_write, 7, none, 4, 2, false, false),
  (yX4_solve, cX4_solve, 6, none, 4, 1, false, false),
  (yX4_clearBelow, cX4_clearBelow, 11, none, 4, 4, false, false),
  (yX4_cell, cX4_cell, 4, some .long, 4, 2, false, false),
  (yX4_setCell, cX4_setCell, 6, none, 4, 3, false, false),
  (yX4_shorten, cX4_shorten, 8, none, 4, 0, false, false),
  (yX5_init, cX5_init, 1, none, 5, 0, false, true),
  (yX5_begin, cX5_begin, 5, none, 5, 2, false, false),
  (yX5_leadBack, cX5_leadBack, 3, none, 5, 1, false, false),
  (yX5_hasState, cX5_hasState, 2, some .boolean, 5, 1, false, false),
  (yX5_hasPlayer, cX5_hasPlayer, 2, some .boolean, 5, 1, false, false),
  (yX5_hasGroup, cX5_hasGroup, 2, some .boolean, 5, 1, false, false),
  (yX5_hasSet, cX5_hasSet, 2, some .boolean, 5, 1, false, false),
  (yX5_hasMove, cX5_hasMove, 4, some .boolean, 5, 3, false, false),
  (yX5_hasJoint, cX5_hasJoint, 3, some .boolean, 5, 2, false, false),
  (yX5_everyone, cX5_everyone, 1, some .int, 5, 0, false, false),
  (yX5_everywhere, cX5_everywhere, 1, some .int, 5, 0, false, false),
  (yX5_movesOf, cX5_movesOf, 3, some .int, 5, 2, false, false),
  (yX5_heapOf, cX5_heapOf, 3, some .int, 5, 2, false, false),
  (yX5_target, cX5_target, 3, some .int, 5, 2, false, false),
  (yX5_changeMoves, cX5_changeMoves, 4, some .int, 5, 3, false, false),
  (yX5_changeTarget, cX5_changeTarget, 4, some .int, 5, 3, false, false),
  (yX5_changeLetters, cX5_changeLetters, 3, some .int, 5, 2, false, false),
  (yX5_bearing, cX5_bearing, 4, some .int, 5, 1, false, false),
  (yX5_ways, cX5_ways, 5, some .int, 5, 2, false, false),
  (yX5_together, cX5_together, 11, some .int, 5, 4, false, false),
  (yX5_leastInto, cX5_leastInto, 9, some .int, 5, 3, false, false),
  (yX5_sumOfPrices, cX5_sumOfPrices, 8, some .int, 5, 3, false, false),
  (yX5_leastMoves, cX5_leastMoves, 5, some .int, 5, 2, false, false),
  (yX5_next, cX5_next, 8, some .int, 5, 4, false, false),
  (yX5_allPlans, cX5_allPlans, 4, some .int, 5, 0, false, false),
  (yX6_init, cX6_init, 5, none, 6, 4, false, true),
  (yX6_move, cX6_move, 3, some .int, 6, 1, false, false),
  (yX6_aim, cX6_aim, 3, some .int, 6, 1, false, false),
  (yX6_hinder, cX6_hinder, 7, some .int, 6, 2, false, false),
  (yX6_leastSum, cX6_leastSum, 4, some .int, 6, 1, false, false),
  (yX6_cheapest, cX6_cheapest, 6, some .int, 6, 1, false, false),
  (yX6_worst, cX6_worst, 4, some .int, 6, 1, false, false),
  (yX6_forget, cX6_forget, 1, none, 6, 0, false, false),
  (yX6_startWalk, cX6_startWalk, 2, none, 6, 1, false, false),
  (yX6_goOn, cX6_goOn, 6, none, 6, 1, false, false),
  (yX6_behind, cX6_behind, 2, some .int, 6, 1, false, false),
  (yX7_init, cX7_init, 1, none, 7, 0, false, true),
  (yX7_hasPlace, cX7_hasPlace, 3, some .boolean, 7, 2, false, false),
  (yX7_isEmptyPlace, cX7_isEmptyPlace, 2, some .boolean, 7, 1, false, false),
  (yX7_hasItems, cX7_hasItems, 5, some .boolean, 7, 3, false, false),
  (yX7_wrong, cX7_wrong, 5, some .int, 7, 4, false, false),
  (yX7_start, cX7_start, 5, none, 7, 3, false, false),
  (yX7_empty, cX7_empty, 2, some .int, 7, 1, false, false),
  (yX7_read, cX7_read, 3, some .int, 7, 2, false, false),
  (yX7_write, cX7_write, 4, none, 7, 3, false, false),
  (yX7_hasBelowZero, cX7_hasBelowZero, 5, some .boolean, 7, 3, false, false),
  (yX8_init, cX8_init, 2, none, 8, 1, false, true),
  (yX8_prepare, cX8_prepare, 3, none, 8, 1, false, false),
  (yX8_fill, cX8_fill, 5, none, 8, 1, false, false),
  (yX8_share, cX8_share, 8, some .int, 8, 1, false, false),
  (yX8_endsOf, cX8_endsOf, 3, some .int, 8, 2, false, false),
  (yX8_leastInto, cX8_leastInto, 5, some .int, 8, 2, false, false),
  (yX8_forcing, cX8_forcing, 5, some .int, 8, 2, false, false),
  (yX9_init, cX9_init, 1, none, 9, 0, false, true),
  (yX9_add, cX9_add, 6, some .int, 9, 2, false, false),
  (yX9_byteOf, cX9_byteOf, 3, some .int, 9, 2, true, false),
  (yX9_understand, cX9_understand, 2, some .int, 9, 1, false, false),
  (yX9_here, cX9_here, 1, some .int, 9, 0, false, false),
  (yX9_refuse, cX9_refuse, 1, some .boolean, 9, 0, false, false),
  (yX9_take, cX9_take, 2, some .boolean, 9, 1, false, false),
  (yX9_readForm, cX9_readForm, 4, some .boolean, 9, 1, false, false),
  (yX9_readGroup, cX9_readGroup, 6, some .boolean, 9, 1, false, false),
  (yX9_readLaw, cX9_readLaw, 5, some .boolean, 9, 2, false, false),
  (yX9_readPair, cX9_readPair, 5, some .boolean, 9, 3, false, false),
  (yX9_lawKind, cX9_lawKind, 1, some .int, 9, 1, true, false),
  (yX9_pairKind, cX9_pairKind, 1, some .int, 9, 1, true, false),
  (yX10_init, cX10_init, 5, none, 10, 0, false, true),
  (yX10_net, cX10_net, 3, some .int, 10, 2, false, false),
  (yX10_moves, cX10_moves, 4, some .int, 10, 3, false, false),
  (yX10_joint, cX10_joint, 3, some .int, 10, 2, false, false),
  (yX10_step, cX10_step, 4, some .int, 10, 3, false, false),
  (yX10_leads, cX10_leads, 3, some .int, 10, 2, false, false),
  (yX10_letters, cX10_letters, 3, some .int, 10, 2, false, false),
  (yX10_heap, cX10_heap, 4, some .int, 10, 3, false, false),
  (yX10_price, cX10_price, 5, some .int, 10, 4, false, false),
  (yX10_steps, cX10_steps, 8, some .int, 10, 5, false, false),
  (yX10_type, cX10_type, 4, some .int, 10, 2, false, false),
  (yX10_form, cX10_form, 2, some .int, 10, 0, false, false),
  (yX10_holds, cX10_holds, 1, some .int, 10, 0, false, false),
  (yX10_part, cX10_part, 2, some .int, 10, 1, false, false),
  (yX10_force, cX10_force, 4, some .int, 10, 3, false, false),
  (yX10_round, cX10_round, 2, some .int, 10, 1, false, false),
  (yX10_plan, cX10_plan, 2, some .int, 10, 1, false, false),
  (yX10_answer, cX10_answer, 3, some .int, 10, 2, false, false),
  (yX10_toll, cX10_toll, 2, some .int, 10, 1, false, false),
  (yX10_walk, cX10_walk, 8, some .int, 10, 5, false, false),
  (yX10_walked, cX10_walked, 2, some .int, 10, 1, false, false),
  (yX10_blind, cX10_blind, 3, some .int, 10, 1, false, false),
  (yX10_blindMove, cX10_blindMove, 5, some .int, 10, 3, false, false),
  (yX10_findRow, cX10_findRow, 5, some .int, 10, 1, false, false),
  (yX10_choose, cX10_choose, 4, some .int, 10, 3, false, false),
  (yX10_lot, cX10_lot, 3, some .int, 10, 1, false, false),
  (yX10_chance, cX10_chance, 3, some .long, 10, 2, false, false),
  (yX10_goal, cX10_goal, 3, some .int, 10, 2, false, false),
  (yX10_content, cX10_content, 2, some .int, 10, 1, false, false),
  (yX10_stable, cX10_stable, 2, some .int, 10, 1, false, false),
  (yX10_settle, cX10_settle, 2, some .int, 10, 1, false, false),
  (yX10_helpers, cX10_helpers, 2, some .int, 10, 1, false, false),
  (yX10_count, cX10_count, 2, some .int, 10, 1, false, false),
  (yX10_sheet, cX10_sheet, 4, some .int, 10, 3, false, false),
  (yX10_drop, cX10_drop, 2, some .int, 10, 1, false, false),
  (yX10_item, cX10_item, 6, some .int, 10, 4, false, false),
  (yX10_copy, cX10_copy, 6, some .int, 10, 5, false, false),
  (yX10_at, cX10_at, 2, some .int, 10, 2, true, false),
  (yX10_put, cX10_put, 3, none, 10, 3, true, false),
  (yX10_swap, cX10_swap, 4, some .int, 10, 3, true, false),
  (yX10_has, cX10_has, 2, some .boolean, 10, 2, true, false),
  (yX10_lowest, cX10_lowest, 1, some .int, 10, 1, true, false),
  (yX10_over, cX10_over, 2, some .int, 10, 2, true, false),
  (yX10_rest, cX10_rest, 2, some .int, 10, 2, true, false),
  (yX11_in, cX11_in, 6, some .boolean, 11, 3, true, false),
  (yX11_init, cX11_init, 2, none, 11, 0, false, true),
  (yX11_begins, cX11_begins, 4, none, 11, 2, false, false),
  (yX11_net, cX11_net, 3, some .int, 11, 2, false, false),
  (yX11_isState, cX11_isState, 2, some .boolean, 11, 1, false, false),
  (yX11_isPlayer, cX11_isPlayer, 2, some .boolean, 11, 1, false, false),
  (yX11_isSet, cX11_isSet, 2, some .boolean, 11, 1, false, false),
  (yX11_isGroup, cX11_isGroup, 2, some .boolean, 11, 1, false, false),
  (yX11_moves, cX11_moves, 6, some .int, 11, 3, false, false),
  (yX11_jointOf, cX11_jointOf, 5, some .int, 11, 2, false, false),
  (yX11_everybody, cX11_everybody, 1, some .int, 11, 0, false, false),
  (yX11_joint, cX11_joint, 3, some .int, 11, 2, false, false),
  (yX11_isMove, cX11_isMove, 3, some .boolean, 11, 2, false, false),
  (yX11_step, cX11_step, 5, some .int, 11, 3, false, false),
  (yX11_leads, cX11_leads, 3, some .int, 11, 2, false, false),
  (yX11_letters, cX11_letters, 4, some .int, 11, 2, false, false),
  (yX11_heap, cX11_heap, 5, some .int, 11, 3, false, false),
  (yX11_price, cX11_price, 7, some .int, 11, 4, false, false),
  (yX11_leadsBy, cX11_leadsBy, 12, some .int, 11, 4, false, false),
  (yX11_others, cX11_others, 2, some .int, 11, 1, false, false),
  (yX11_forces, cX11_forces, 9, some .int, 11, 3, false, false),
  (yX11_force, cX11_force, 4, some .int, 11, 3, false, false),
  (yX11_type, cX11_type, 5, some .int, 11, 2, false, false),
  (yX11_next, cX11_next, 1, some .int, 11, 0, false, false),
  (yX11_needs, cX11_needs, 2, none, 11, 1, false, false),
  (yX11_opens, cX11_opens, 3, none, 11, 2, false, false),
  (yX11_group, cX11_group, 5, none, 11, 1, false, false),
  (yX11_isWhole, cX11_isWhole, 4, some .boolean, 11, 0, false, false),
  (yX11_closes, cX11_closes, 7, none, 11, 1, false, false),
  (yX11_form, cX11_form, 3, some .int, 11, 0, false, false),
  (yX11_whole, cX11_whole, 1, some .int, 11, 0, false, false),
  (yX11_forcing, cX11_forcing, 5, some .int, 11, 2, false, false),
  (yX11_until, cX11_until, 9, some .int, 11, 3, false, false),
  (yX11_always, cX11_always, 5, some .int, 11, 2, false, false),
  (yX11_again, cX11_again, 5, some .int, 11, 2, false, false),
  (yX11_heldOf, cX11_heldOf, 7, some .int, 11, 2, false, false),
  (yX11_tell, cX11_tell, 2, some .int, 11, 0, false, false),
  (yX11_holds, cX11_holds, 1, some .int, 11, 0, false, false),
  (yX11_part, cX11_part, 3, some .int, 11, 1, false, false),
  (yX11_isOfGroup, cX11_isOfGroup, 1, some .boolean, 11, 0, false, false),
  (yX11_hasRounds, cX11_hasRounds, 1, some .boolean, 11, 0, false, false),
  (yX11_round, cX11_round, 2, some .int, 11, 1, false, false),
  (yX11_aim, cX11_aim, 5, some .int, 11, 1, false, false),
  (yX11_planOf, cX11_planOf, 3, some .int, 11, 1, false, false),
  (yX11_plan, cX11_plan, 2, some .int, 11, 1, false, false),
  (yX11_answer, cX11_answer, 7, some .int, 11, 2, false, false),
  (yX11_sumOf, cX11_sumOf, 8, some .int, 11, 3, false, false),
  (yX11_tollBy, cX11_tollBy, 8, some .int, 11, 2, false, false),
  (yX11_toll, cX11_toll, 10, some .int, 11, 1, false, false),
  (yX11_isSheet, cX11_isSheet, 1, some .boolean, 11, 1, true, false),
  (yX11_isLane, cX11_isLane, 1, some .boolean, 11, 1, true, false),
  (yX11_finds, cX11_finds, 5, some .int, 11, 4, false, false),
  (yX11_walk, cX11_walk, 12, some .int, 11, 5, false, false),
  (yX11_walked, cX11_walked, 2, some .int, 11, 1, false, false),
  (yX11_steps, cX11_steps, 8, some .int, 11, 5, false, false),
  (yX11_mostOf, cX11_mostOf, 6, some .int, 11, 2, false, false),
  (yX11_lays, cX11_lays, 5, some .int, 11, 0, false, false),
  (yX11_digitOf, cX11_digitOf, 4, some .int, 11, 2, false, false),
  (yX11_countsUp, cX11_countsUp, 2, some .boolean, 11, 0, false, false),
  (yX11_links, cX11_links, 5, none, 11, 0, false, false),
  (yX11_surely, cX11_surely, 6, some .int, 11, 2, false, false),
  (yX11_stays, cX11_stays, 5, some .int, 11, 1, false, false),
  (yX11_does, cX11_does, 4, some .int, 11, 0, false, false),
  (yX11_fits, cX11_fits, 5, some .int, 11, 1, false, false),
  (yX11_seeks, cX11_seeks, 5, some .int, 11, 1, false, false),
  (yX11_blind, cX11_blind, 2, some .int, 11, 1, false, false),
  (yX11_blindMove, cX11_blindMove, 5, some .int, 11, 3, false, false),
  (yX11_choose, cX11_choose, 5, some .int, 11, 3, false, false),
  (yX11_lot, cX11_lot, 3, some .int, 11, 1, false, false),
  (yX11_leadsWith, cX11_leadsWith, 6, some .int, 11, 3, false, false),
  (yX11_lotMany, cX11_lotMany, 2, some .int, 11, 1, false, false),
  (yX11_common, cX11_common, 10, some .long, 11, 2, true, false),
  (yX11_coming, cX11_coming, 6, some .int, 11, 1, false, false),
  (yX11_equations, cX11_equations, 7, none, 11, 2, false, false),
  (yX11_shorten, cX11_shorten, 5, none, 11, 1, false, false),
  (yX11_swap, cX11_swap, 6, none, 11, 2, false, false),
  (yX11_solve, cX11_solve, 11, none, 11, 0, false, false),
  (yX11_chance, cX11_chance, 6, some .long, 11, 2, false, false),
  (yX11_goal, cX11_goal, 4, some .int, 11, 2, false, false),
  (yX11_way, cX11_way, 4, some .int, 11, 1, false, false),
  (yX11_contentOf, cX11_contentOf, 5, some .int, 11, 1, false, false),
  (yX11_content, cX11_content, 2, some .int, 11, 1, false, false),
  (yX11_alone, cX11_alone, 7, some .int, 11, 2, false, false),
  (yX11_isStable, cX11_isStable, 4, some .boolean, 11, 1, false, false),
  (yX11_stable, cX11_stable, 2, some .int, 11, 1, false, false),
  (yX11_plansOfAll, cX11_plansOfAll, 5, some .int, 11, 0, false, false),
  (yX11_plansUp, cX11_plansUp, 4, some .boolean, 11, 0, false, false),
  (yX11_settle, cX11_settle, 4, some .int, 11, 1, false, false),
  (yX11_many, cX11_many, 3, some .int, 11, 1, true, false),
  (yX11_isAhead, cX11_isAhead, 3, some .boolean, 11, 2, true, false),
  (yX11_helpers, cX11_helpers, 7, some .int, 11, 1, false, false),
  (yX11_count, cX11_count, 2, some .int, 11, 1, false, false),
  (yX11_sheet, cX11_sheet, 5, some .int, 11, 3, false, false),
  (yX11_drop, cX11_drop, 2, some .int, 11, 1, false, false),
  (yX11_item, cX11_item, 6, some .int, 11, 4, false, false),
  (yX11_copy, cX11_copy, 7, some .int, 11, 5, false, false),
  (yJ6_bitCount_0f7a4, cJ6_bitCount_0f7a4, 1, some .int, 12, 1, true, false),
  (yJ7_fill_53178, cJ7_fill_53178, 4, none, 14, 2, true, false),
  (yL_law, cL_law, 4, some .boolean, 15, 1, true, false)]
def zCN : List String := [RX0, RX1, RX2, RX3, RX4, RX5, RX6, RX7, RX8, RX9, RX10, RX11, RJ6, RJ9, RJ7, RL, RJ10]
def zFTy : List (List Nat) := [[3, 3, 3, 3, 3, 0, 0, 0, 0], [0, 0, 3, 3, 3, 3], [3, 3, 3], [3, 3, 3, 3, 3, 0, 0], [3, 0, 1, 1, 3, 3, 3, 3], [0, 0, 0, 3, 3, 3, 3, 3, 3], [3, 3, 3, 3, 3, 3, 0], [3, 3, 3], [3, 3, 3, 3, 0, 0], [3, 3, 0, 0, 0, 0], [3, 3, 3, 3, 3, 3, 3, 3, 3], [0, 0, 3, 3, 3, 3, 3, 3, 3, 0, 0, 3, 3, 3, 3, 0, 3, 3, 3, 3, 3, 3, 0, 3, 0, 0, 2, 3, 3, 3, 3, 0, 3, 3, 3, 3, 3, 3, 3, 3, 3, 0, 3, 3, 1, 1, 3]]
/-- own class, index, class, slot, place of the word in tables_1 -/
def zFT : List (Nat × Nat × Nat × Nat × Nat) := [(0, 9, 0, 2, 263), (0, 15, 0, 3, 265), (0, 18, 0, 4, 266), (0, 21, 0, 0, 261), (0, 25, 0, 1, 262), (0, 29, 0, 5, 267), (0, 33, 5, 1, 54), (0, 58, 0, 6, 268), (0, 61, 0, 7, 269), (0, 64, 0, 8, 270), (0, 67, 5, 0, 48), (0, 110, 5, 8, 72), (0, 113, 5, 3, 62), (0, 116, 8, 1, 148), (1, 9, 1, 2, 122), (1, 15, 1, 3, 123), (1, 18, 1, 4, 124), (1, 21, 1, 5, 125), (1, 38, 1, 0, 116), (1, 42, 1, 1, 120), (2, 9, 2, 1, 332), (2, 15, 2, 2, 334), (2, 18, 2, 0, 331), (2, 38, 5, 1, 55), (2, 72, 5, 0, 50), (3, 9, 3, 3, 176), (3, 15, 3, 4, 179), (3, 18, 3, 5, 182), (3, 22, 3, 6, 183), (3, 25, 3, 0, 173), (3, 29, 3, 1, 174), (3, 33, 3, 2, 175), (3, 41, 5, 2, 60), (3, 46, 1, 1, 121), (3, 49, 1, 0, 117), (3, 110, 5, 0, 51), (4, 9, 4, 1, 297), (4, 15, 4, 4, 303), (4, 19, 4, 5, 304), (4, 22, 4, 6, 305), (4, 25, 4, 7, 306), (4, 29, 4, 0, 296), (4, 37, 4, 2, 299), (4, 41, 4, 3, 301), (4, 76, 5, 0, 47), (4, 88, 5, 4, 64), (5, 9, 5, 3, 61), (5, 15, 5, 4, 63), (5, 18, 5, 5, 66), (5, 21, 5, 6, 68), (5, 24, 5, 7, 69), (5, 27, 5, 8, 70), (5, 34, 5, 0, 45), (5, 38, 5, 1, 53), (5, 55, 5, 2, 59), (6, 9, 6, 4, 237), (6, 15, 6, 5, 238), (6, 18, 6, 0, 233), (6, 22, 6, 1, 234), (6, 26, 6, 2, 235), (6, 30, 6, 3, 236), (6, 54, 3, 4, 180), (6, 66, 3, 3, 177), (6, 98, 5, 0, 49), (6, 105, 8, 2, 150), (6, 125, 6, 6, 239), (7, 9, 7, 0, 350), (7, 15, 7, 1, 352), (7, 18, 7, 2, 353), (8, 9, 8, 1, 147), (8, 15, 8, 2, 149), (8, 18, 8, 3, 151), (8, 21, 8, 4, 152), (8, 25, 8, 5, 153), (8, 28, 8, 0, 146), (8, 32, 5, 2, 58), (8, 41, 5, 0, 46), (8, 65, 5, 1, 56), (9, 9, 9, 0, 207), (9, 18, 9, 1, 208), (9, 26, 9, 2, 210), (9, 34, 9, 5, 213), (9, 37, 9, 3, 211), (9, 40, 9, 4, 212), (9, 62, 1, 0, 118), (9, 84, 1, 5, 126), (10, 23, 10, 0, 362), (10, 29, 10, 1, 363), (10, 36, 10, 2, 364), (10, 40, 10, 3, 365), (10, 49, 10, 4, 366), (10, 58, 10, 5, 367), (10, 65, 10, 6, 368), (10, 72, 10, 7, 369), (10, 79, 10, 8, 370), (10, 90, 4, 1, 298), (10, 129, 5, 8, 71), (10, 141, 5, 5, 67), (10, 162, 5, 1, 57), (10, 169, 9, 1, 209), (10, 176, 1, 0, 119), (10, 185, 3, 3, 178), (10, 205, 3, 4, 181), (10, 245, 0, 2, 264), (10, 270, 5, 4, 65), (10, 278, 4, 2, 300), (10, 282, 4, 3, 302), (10, 285, 2, 1, 333), (10, 302, 2, 2, 335), (10, 314, 5, 0, 52), (10, 329, 7, 0, 351), (10, 335, 7, 2, 354), (11, 7, 11, 2, 1088), (11, 13, 11, 3, 1089), (11, 16, 11, 4, 1090), (11, 19, 11, 5, 1091), (11, 22, 11, 6, 1092), (11, 25, 11, 7, 1093), (11, 28, 11, 8, 1094), (11, 31, 11, 11, 1097), (11, 34, 11, 12, 1098), (11, 37, 11, 13, 1099), (11, 40, 11, 14, 1100), (11, 43, 11, 16, 1102), (11, 46, 11, 17, 1103), (11, 49, 11, 18, 1104), (11, 52, 11, 19, 1105), (11, 55, 11, 20, 1106), (11, 58, 11, 21, 1107), (11, 62, 11, 23, 1109), (11, 65, 11, 27, 1113), (11, 68, 11, 28, 1114), (11, 71, 11, 29, 1115), (11, 74, 11, 30, 1116), (11, 77, 11, 32, 1118), (11, 80, 11, 33, 1119), (11, 83, 11, 34, 1120), (11, 86, 11, 35, 1121), (11, 89, 11, 36, 1122), (11, 92, 11, 37, 1123), (11, 95, 11, 38, 1124), (11, 98, 11, 39, 1125), (11, 101, 11, 40, 1126), (11, 104, 11, 42, 1128), (11, 107, 11, 43, 1129), (11, 111, 11, 46, 1132), (11, 118, 11, 0, 1086), (11, 122, 11, 1, 1087), (11, 125, 11, 9, 1095), (11, 128, 11, 10, 1096), (11, 131, 11, 31, 1117), (11, 195, 11, 24, 1110), (11, 198, 11, 25, 1111), (11, 201, 11, 26, 1112), (11, 207, 11, 22, 1108), (11, 223, 11, 15, 1101), (11, 286, 11, 41, 1127), (11, 346, 11, 44, 1130), (11, 350, 11, 45, 1131)]
/-- own class, index, method, kind (0 virtual, 1 static, 2 special), nest, place -/
def zCT : List (Nat × Nat × Nat × Nat × Nat × Nat) := [(0, 38, 162, 1, 1, 832), (0, 42, 78, 0, 0, 833), (0, 46, 160, 1, 1, 841), (0, 70, 68, 0, 0, 855), (0, 73, 263, 1, 0, 860), (0, 79, 6, 0, 0, 861), (0, 83, 5, 0, 0, 895), (0, 87, 159, 1, 1, 882), (0, 91, 7, 0, 0, 865), (0, 95, 9, 0, 0, 883), (0, 98, 10, 0, 0, 887), (0, 101, 11, 0, 0, 891), (0, 104, 163, 1, 1, 869), (0, 107, 8, 0, 0, 878), (1, 24, 13, 0, 0, 99), (1, 27, 14, 0, 0, 103), (1, 30, 15, 0, 0, 107), (1, 34, 16, 0, 0, 112), (1, 45, 160, 1, 1, 111), (1, 49, 21, 0, 0, 584), (1, 52, 18, 0, 0, 589), (1, 55, 19, 0, 0, 593), (1, 58, 20, 0, 0, 597), (1, 61, 159, 1, 1, 588), (1, 65, 22, 0, 0, 724), (2, 22, 263, 1, 0, 400), (2, 28, 162, 1, 1, 982), (2, 32, 79, 0, 0, 983), (2, 42, 159, 1, 1, 988), (2, 46, 28, 0, 0, 997), (2, 49, 29, 0, 0, 998), (2, 53, 31, 0, 0, 999), (2, 57, 163, 1, 1, 1003), (2, 60, 67, 0, 0, 1004), (2, 64, 30, 0, 0, 1021), (2, 68, 33, 0, 0, 1022), (2, 75, 160, 1, 1, 1026), (3, 37, 159, 1, 1, 638), (3, 52, 22, 0, 0, 609), (3, 56, 21, 0, 0, 613), (3, 60, 103, 0, 0, 614), (3, 66, 37, 0, 0, 633), (3, 69, 160, 1, 1, 666), (3, 73, 19, 0, 0, 637), (3, 76, 20, 0, 0, 639), (3, 79, 66, 0, 0, 640), (3, 83, 18, 0, 0, 644), (3, 86, 73, 0, 0, 645), (3, 89, 108, 0, 0, 649), (3, 93, 38, 0, 0, 657), (3, 96, 39, 0, 0, 661), (3, 99, 41, 0, 0, 671), (3, 102, 162, 1, 1, 665), (3, 106, 40, 0, 0, 667), (3, 116, 61, 0, 0, 1040), (4, 33, 162, 1, 1, 921), (4, 44, 46, 0, 0, 922), (4, 47, 47, 0, 0, 934), (4, 51, 49, 0, 0, 942), (4, 55, 50, 0, 0, 946), (4, 59, 51, 0, 0, 954), (4, 63, 53, 0, 0, 962), (4, 67, 55, 0, 0, 966), (4, 70, 263, 1, 0, 926), (4, 81, 67, 0, 0, 927), (4, 84, 160, 1, 1, 928), (4, 91, 79, 0, 0, 929), (4, 95, 159, 1, 1, 933), (4, 99, 48, 0, 0, 938), (4, 102, 54, 0, 0, 950), (4, 106, 52, 0, 0, 958), (5, 30, 57, 0, 0, 31), (5, 41, 263, 1, 0, 35), (5, 47, 58, 0, 0, 38), (5, 51, 160, 1, 1, 42), (5, 58, 65, 0, 0, 436), (5, 62, 66, 0, 0, 691), (5, 65, 59, 0, 0, 460), (5, 69, 60, 0, 0, 495), (5, 72, 67, 0, 0, 447), (5, 76, 74, 0, 0, 461), (5, 79, 159, 1, 1, 451), (5, 83, 161, 1, 1, 421), (5, 87, 162, 1, 1, 444), (5, 91, 165, 1, 1, 700), (5, 94, 164, 1, 1, 703), (5, 97, 75, 0, 0, 696), (5, 101, 69, 0, 0, 706), (5, 104, 68, 0, 0, 837), (6, 34, 35, 0, 0, 729), (6, 40, 162, 1, 1, 730), (6, 44, 83, 0, 0, 731), (6, 48, 107, 0, 0, 742), (6, 57, 159, 1, 1, 735), (6, 61, 18, 0, 0, 736), (6, 69, 19, 0, 0, 737), (6, 72, 42, 0, 0, 738), (6, 75, 21, 0, 0, 752), (6, 78, 65, 0, 0, 753), (6, 83, 74, 0, 0, 754), (6, 86, 75, 0, 0, 755), (6, 90, 69, 0, 0, 756), (6, 94, 160, 1, 1, 770), (6, 102, 86, 0, 0, 771), (6, 107, 77, 0, 0, 775), (6, 111, 106, 0, 0, 779), (6, 114, 87, 0, 0, 783), (6, 128, 165, 1, 1, 810), (6, 131, 82, 0, 0, 811), (7, 21, 263, 1, 0, 349), (7, 27, 159, 1, 1, 513), (7, 31, 94, 0, 0, 509), (7, 35, 95, 0, 0, 514), (7, 39, 160, 1, 1, 1053), (7, 43, 99, 0, 0, 801), (8, 35, 263, 1, 0, 618), (8, 44, 104, 0, 0, 619), (8, 47, 74, 0, 0, 623), (8, 50, 160, 1, 1, 624), (8, 54, 105, 0, 0, 625), (8, 58, 159, 1, 1, 630), (8, 62, 69, 0, 0, 632), (8, 68, 67, 0, 0, 629), (8, 71, 162, 1, 1, 631), (8, 75, 107, 0, 0, 653), (9, 17, 12, 2, 0, 206), (9, 22, 111, 1, 0, 530), (9, 30, 160, 1, 1, 533), (9, 43, 14, 0, 0, 542), (9, 46, 116, 0, 0, 543), (9, 50, 113, 0, 0, 547), (9, 54, 114, 0, 0, 552), (9, 58, 159, 1, 1, 551), (9, 65, 15, 0, 0, 556), (9, 69, 16, 0, 0, 557), (9, 73, 119, 0, 0, 558), (9, 77, 117, 0, 0, 569), (9, 80, 118, 0, 0, 573), (9, 87, 115, 0, 0, 565), (9, 90, 120, 1, 0, 577), (9, 93, 121, 1, 0, 562), (10, 9, 56, 2, 0, 27), (10, 12, 12, 2, 0, 95), (10, 15, 102, 2, 0, 142), (10, 20, 34, 2, 0, 169), (10, 35, 109, 2, 1, 201), (10, 46, 81, 2, 0, 229), (10, 55, 0, 2, 0, 257), (10, 64, 44, 2, 0, 292), (10, 71, 26, 2, 0, 327), (10, 78, 92, 2, 0, 345), (10, 83, 57, 0, 0, 394), (10, 87, 13, 0, 0, 395), (10, 94, 27, 0, 0, 396), (10, 97, 88, 0, 0, 401), (10, 98, 59, 0, 0, 409), (10, 102, 60, 0, 0, 413), (10, 105, 70, 0, 0, 417), (10, 109, 61, 0, 0, 432), (10, 112, 74, 0, 0, 440), (10, 116, 64, 0, 0, 456), (10, 120, 71, 0, 0, 462), (10, 123, 69, 0, 0, 470), (10, 126, 72, 0, 0, 478), (10, 133, 161, 1, 0, 486), (10, 137, 63, 0, 0, 491), (10, 144, 93, 0, 0, 500), (10, 147, 65, 0, 0, 504), (10, 151, 96, 0, 0, 505), (10, 155, 99, 0, 0, 518), (10, 158, 110, 0, 0, 526), (10, 165, 112, 0, 0, 538), (10, 172, 17, 0, 0, 580), (10, 179, 36, 0, 0, 605), (10, 182, 35, 0, 0, 675), (10, 188, 159, 1, 0, 424), (10, 192, 62, 0, 0, 687), (10, 195, 76, 0, 0, 692), (10, 198, 24, 0, 0, 711), (10, 202, 162, 1, 0, 715), (10, 208, 23, 0, 0, 720), (10, 211, 82, 0, 0, 725), (10, 214, 21, 0, 0, 747), (10, 217, 84, 0, 0, 748), (10, 220, 25, 0, 0, 761), (10, 223, 85, 0, 0, 765), (10, 226, 101, 0, 0, 797), (10, 229, 89, 0, 0, 802), (10, 233, 90, 0, 0, 806), (10, 236, 91, 0, 0, 812), (10, 239, 145, 0, 0, 824), (10, 242, 78, 0, 0, 903), (10, 248, 1, 0, 0, 828), (10, 251, 19, 0, 0, 844), (10, 254, 20, 0, 0, 845), (10, 257, 18, 0, 0, 846), (10, 260, 2, 0, 0, 847), (10, 264, 3, 0, 0, 851), (10, 267, 4, 0, 0, 856), (10, 275, 45, 0, 0, 917), (10, 288, 28, 0, 0, 978), (10, 291, 29, 0, 0, 984), (10, 294, 30, 0, 0, 993), (10, 298, 80, 0, 0, 1009), (10, 301, 32, 0, 0, 1017), (10, 311, 43, 0, 0, 1034), (10, 317, 97, 0, 0, 1049), (10, 320, 94, 0, 0, 1058), (10, 323, 98, 0, 0, 1059), (10, 326, 100, 0, 0, 1067), (10, 332, 95, 0, 0, 1075), (10, 338, 160, 1, 0, 427), (10, 342, 262, 1, 0, 872), (11, 114, 168, 0, 0, 1082), (11, 138, 166, 1, 0, 1235), (11, 144, 170, 0, 0, 1243), (11, 148, 171, 0, 0, 1247), (11, 153, 173, 0, 0, 1256), (11, 156, 175, 0, 0, 1260), (11, 160, 176, 0, 0, 1272), (11, 164, 178, 0, 0, 1268), (11, 174, 185, 0, 0, 1307), (11, 178, 184, 0, 0, 1311), (11, 182, 172, 0, 0, 1299), (11, 185, 186, 0, 0, 1303), (11, 205, 189, 0, 0, 1330), (11, 210, 190, 0, 0, 1340), (11, 216, 191, 0, 0, 1345), (11, 226, 192, 0, 0, 1336), (11, 229, 193, 0, 0, 1326), (11, 233, 194, 0, 0, 1349), (11, 236, 197, 0, 0, 1369), (11, 239, 196, 0, 0, 1365), (11, 242, 198, 0, 0, 1377), (11, 245, 199, 0, 0, 1373), (11, 248, 200, 0, 0, 1381), (11, 251, 201, 0, 0, 1361), (11, 254, 202, 0, 0, 1357), (11, 257, 206, 0, 0, 1393), (11, 260, 208, 0, 0, 1409), (11, 263, 205, 0, 0, 1401), (11, 266, 209, 0, 0, 1405), (11, 269, 212, 0, 0, 1425), (11, 272, 213, 0, 0, 1421), (11, 275, 215, 1, 0, 1433), (11, 278, 216, 1, 0, 1436), (11, 283, 217, 0, 0, 1440), (11, 289, 221, 0, 0, 1464), (11, 292, 223, 0, 0, 1476), (11, 295, 227, 0, 0, 1484), (11, 298, 226, 0, 0, 1488), (11, 301, 222, 0, 0, 1460), (11, 304, 229, 0, 0, 1468), (11, 307, 225, 0, 0, 1472), (11, 310, 228, 0, 0, 1480), (11, 313, 224, 0, 0, 1492), (11, 316, 230, 0, 0, 1456), (11, 321, 236, 0, 0, 1517), (11, 324, 235, 0, 0, 1521), (11, 327, 237, 1, 0, 1537), (11, 331, 241, 0, 0, 1533), (11, 334, 240, 0, 0, 1540), (11, 337, 238, 0, 0, 1513), (11, 340, 239, 0, 0, 1525), (11, 343, 242, 0, 0, 1529), (11, 353, 245, 0, 0, 1556), (11, 356, 246, 0, 0, 1552), (11, 359, 248, 0, 0, 1568), (11, 362, 249, 0, 0, 1564), (11, 367, 251, 0, 0, 1576), (11, 370, 252, 0, 0, 1581), (11, 373, 254, 1, 0, 1589), (11, 376, 255, 1, 0, 1592), (15, 9, 122, 2, 0, 19), (15, 12, 167, 2, 0, 1078), (15, 13, 123, 0, 0, 390), (15, 17, 169, 0, 0, 1229), (15, 18, 124, 0, 0, 405), (15, 22, 174, 0, 0, 1239), (15, 23, 125, 0, 0, 428), (15, 26, 177, 0, 0, 1252), (15, 27, 126, 0, 0, 452), (15, 30, 179, 0, 0, 1264), (15, 31, 127, 0, 0, 466), (15, 34, 180, 0, 0, 1276), (15, 35, 128, 0, 0, 474), (15, 38, 181, 0, 0, 1280), (15, 39, 129, 0, 0, 482), (15, 42, 182, 0, 0, 1285), (15, 43, 130, 0, 0, 487), (15, 47, 183, 0, 0, 1290), (15, 48, 131, 0, 0, 496), (15, 52, 220, 0, 0, 1448), (15, 55, 132, 0, 0, 522), (15, 59, 188, 0, 0, 1315), (15, 60, 133, 0, 0, 534), (15, 64, 195, 0, 0, 1322), (15, 65, 134, 0, 0, 601), (15, 68, 203, 0, 0, 1353), (15, 69, 135, 0, 0, 679), (15, 73, 204, 0, 0, 1385), (15, 74, 136, 0, 0, 683), (15, 77, 187, 0, 0, 1295), (15, 78, 137, 0, 0, 707), (15, 81, 207, 0, 0, 1389), (15, 82, 138, 0, 0, 716), (15, 85, 210, 0, 0, 1397), (15, 86, 139, 0, 0, 743), (15, 89, 211, 0, 0, 1413), (15, 90, 140, 0, 0, 757), (15, 93, 214, 0, 0, 1417), (15, 94, 141, 0, 0, 793), (15, 97, 218, 0, 0, 1429), (15, 98, 142, 0, 0, 816), (15, 101, 219, 0, 0, 1444), (15, 102, 143, 0, 0, 820), (15, 105, 231, 0, 0, 1452), (15, 106, 144, 0, 0, 899), (15, 109, 232, 0, 0, 1496), (15, 110, 146, 0, 0, 904), (15, 113, 233, 0, 0, 1500), (15, 114, 147, 0, 0, 908), (15, 117, 234, 0, 0, 1504), (15, 118, 148, 0, 0, 912), (15, 122, 243, 0, 0, 1509), (15, 123, 149, 0, 0, 970), (15, 126, 244, 0, 0, 1544), (15, 127, 150, 0, 0, 974), (15, 130, 247, 0, 0, 1548), (15, 131, 151, 0, 0, 989), (15, 134, 250, 0, 0, 1560), (15, 135, 152, 0, 0, 1005), (15, 138, 253, 0, 0, 1572), (15, 139, 153, 0, 0, 1030), (15, 142, 256, 0, 0, 1585), (15, 143, 154, 0, 0, 1041), (15, 146, 257, 0, 0, 1595), (15, 147, 155, 0, 0, 1045), (15, 150, 258, 0, 0, 1599), (15, 151, 156, 0, 0, 1054), (15, 154, 259, 0, 0, 1603), (15, 155, 157, 0, 0, 1063), (15, 158, 260, 0, 0, 1607), (15, 159, 158, 0, 0, 1071), (15, 162, 261, 0, 0, 1611)]
def zKT : List (Nat × Nat × Int × Nat) := [(6, 93, 1000000, 769), (12, 265, 1431655765, 875), (12, 266, 858993459, 876), (12, 267, 252645135, 877)]
def zKL : List (Nat × Nat × Int × Nat) := [(5, 107, 2000000000, 1013), (10, 273, -1, 916), (11, 134, 2, 1233), (11, 136, 12, 1234), (11, 142, 4, 1238), (11, 151, 3, 1251), (11, 168, 255, 1284), (11, 170, 11, 1289), (11, 172, 9, 1294), (11, 189, 8, 1319), (11, 191, 32, 1320), (11, 193, 126, 1321), (11, 214, 48, 1344), (11, 219, 97, 1334), (11, 221, 104, 1335), (11, 281, 40, 1439), (11, 319, -1, 1508), (11, 365, 2000000000, 1580), (15, 53, 4294967295, 1615)]
def zNT : List (Nat × Nat × Nat × Nat × Nat × Nat) := [(9, 15, 1, 205, 94, 4), (10, 7, 5, 25, 26, 2), (10, 10, 1, 93, 94, 4), (10, 13, 8, 140, 141, 5), (10, 18, 3, 167, 168, 6), (10, 33, 9, 199, 200, 7), (10, 44, 6, 227, 228, 8), (10, 53, 0, 255, 256, 9), (10, 62, 4, 290, 291, 10), (10, 69, 2, 325, 326, 11), (10, 76, 7, 343, 344, 12), (15, 7, 10, 17, 18, 1), (15, 10, 11, 1076, 1077, 13)]
def zOT : List (Nat × Nat × Nat) := [(0, 3, 260), (1, 3, 98), (2, 3, 330), (3, 3, 172), (4, 3, 295), (5, 3, 30), (6, 3, 232), (7, 3, 348), (8, 3, 145), (9, 3, 204), (10, 1, 22), (11, 1, 1081)]
def zAT : List (Nat × Nat × Nat) := [(10, 305, 1027)]
/-- own class, index, which of Math (0 max, 1 min, 2 min of longs), place -/
def zMT : List (Nat × Nat × Nat × Nat) := [(0, 50, 0, 842), (0, 55, 1, 843), (5, 109, 2, 1014), (6, 117, 1, 790), (6, 122, 0, 787)]
def zST : List (Nat × Nat × Nat) := [(3, 113, 1038)]
def zMP : List (Nat × Nat × Nat × Nat) := [(351, 101, 350, 0), (923, 101, 921, 922), (942, 101, 940, 941), (946, 101, 944, 945), (951, 101, 949, 950), (990, 101, 989, 25), (956, 101, 955, 19), (960, 101, 959, 20), (973, 101, 972, 21), (978, 101, 977, 22), (982, 101, 981, 23), (986, 101, 985, 24), (189, 96, 188, 0), (194, 96, 192, 193), (198, 96, 196, 197), (202, 96, 200, 201), (207, 96, 205, 206), (675, 96, 673, 674), (684, 96, 682, 683), (688, 96, 686, 687), (692, 96, 690, 691), (679, 96, 677, 678), (704, 96, 702, 703), (815, 96, 813, 814), (806, 96, 804, 805), (856, 96, 854, 855), (421, 103, 420, 0), (491, 103, 489, 490), (1073, 103, 1071, 1072), (1079, 103, 1077, 1078), (1088, 103, 1086, 1087), (1094, 103, 1093, 36), (1112, 103, 1110, 1111), (1117, 103, 1116, 37), (263, 98, 262, 0), (770, 98, 768, 769), (700, 98, 698, 699), (728, 98, 727, 10), (752, 98, 751, 11), (756, 98, 755, 12), (762, 98, 761, 13), (766, 98, 765, 14), (833, 98, 831, 832), (1129, 98, 1127, 1128), (386, 102, 385, 0), (1012, 102, 1010, 1011), (1017, 102, 1016, 26), (1029, 102, 1028, 27), (1033, 102, 1032, 28), (1037, 102, 1036, 29), (1041, 102, 1040, 30), (1049, 102, 1048, 32), (1053, 102, 1052, 33), (1057, 102, 1056, 34), (1045, 102, 1044, 31), (1061, 102, 1060, 35), (121, 94, 120, 0), (126, 94, 124, 125), (133, 94, 132, 0), (504, 94, 502, 503), (508, 94, 506, 507), (527, 94, 525, 526), (782, 94, 780, 781), (586, 94, 584, 585), (551, 94, 549, 550), (531, 94, 529, 530), (735, 94, 733, 734), (542, 94, 540, 541), (932, 94, 930, 931), (565, 94, 563, 564), (512, 94, 510, 511), (557, 94, 555, 556), (573, 94, 571, 572), (740, 94, 738, 739), (535, 94, 533, 534), (791, 94, 789, 790), (787, 94, 785, 786), (870, 94, 868, 869), (928, 94, 926, 927), (1024, 94, 1022, 1023), (1104, 94, 1102, 1103), (323, 100, 322, 0), (820, 100, 818, 819), (826, 100, 825, 15), (843, 100, 841, 842), (860, 100, 858, 859), (866, 100, 865, 16), (878, 100, 877, 17), (496, 100, 494, 495), (897, 100, 895, 896), (901, 100, 899, 900), (907, 100, 905, 906), (439, 104, 438, 0), (595, 104, 593, 594), (604, 104, 602, 603), (609, 104, 607, 608), (600, 104, 598, 599), (1144, 104, 1142, 1143), (1154, 104, 1152, 1153), (613, 104, 611, 612), (1162, 104, 1160, 1161), (892, 104, 890, 891), (236, 97, 235, 0), (709, 97, 707, 708), (714, 97, 713, 8), (720, 97, 719, 9), (874, 97, 872, 873), (748, 97, 746, 747), (744, 97, 742, 743), (295, 99, 294, 0), (621, 99, 619, 620), (624, 99, 623, 0), (633, 99, 631, 632), (642, 99, 641, 2), (647, 99, 646, 3), (660, 99, 659, 5), (638, 99, 637, 1), (664, 99, 663, 6), (668, 99, 667, 7), (653, 99, 652, 4), (671, 99, 670, 0), (656, 99, 655, 0), (113, 93, 112, 0), (485, 93, 483, 484), (500, 93, 498, 499), (523, 93, 521, 522), (547, 93, 545, 546), (561, 93, 559, 560), (569, 93, 567, 568), (577, 93, 575, 576), (582, 93, 580, 581), (591, 93, 589, 590), (617, 93, 615, 616), (629, 93, 627, 628), (696, 93, 694, 695), (774, 93, 772, 773), (778, 93, 776, 777), (802, 93, 800, 801), (811, 93, 809, 810), (838, 93, 836, 837), (852, 93, 850, 851), (888, 93, 886, 887), (911, 93, 909, 910), (915, 93, 913, 914), (994, 93, 992, 993), (919, 93, 918, 18), (999, 93, 997, 998), (1003, 93, 1001, 1002), (1007, 93, 1005, 1006), (1065, 93, 1063, 1064), (1069, 93, 1067, 1068), (1084, 93, 1082, 1083), (1100, 93, 1098, 1099), (1125, 93, 1123, 1124), (1136, 93, 1134, 1135), (1140, 93, 1138, 1139), (1149, 93, 1147, 1148), (1158, 93, 1156, 1157), (1166, 93, 1164, 1165), (518, 93, 517, 0), (136, 93, 135, 0), (515, 93, 514, 0), (538, 93, 537, 0), (963, 93, 962, 0), (797, 93, 796, 0), (794, 93, 793, 0), (1329, 105, 1328, 0), (1172, 105, 1171, 0), (1177, 105, 1176, 38), (1324, 105, 1322, 1323), (1338, 105, 1337, 39), (1342, 105, 1341, 40), (1394, 105, 1393, 45), (1351, 105, 1350, 41), (1334, 105, 1332, 1333), (1355, 105, 1354, 42), (1367, 105, 1366, 44), (1347, 105, 1345, 1346), (1363, 105, 1362, 43), (1359, 105, 1357, 1358), (1371, 105, 1369, 1370), (1375, 105, 1373, 1374), (1380, 105, 1378, 1379), (1385, 105, 1383, 1384), (1406, 105, 1405, 48), (1402, 105, 1401, 47), (1398, 105, 1397, 46), (1390, 105, 1388, 1389), (1410, 105, 1408, 1409), (1425, 105, 1424, 50), (1435, 105, 1434, 52), (1440, 105, 1439, 53), (1431, 105, 1430, 51), (1421, 105, 1420, 49), (1444, 105, 1443, 54), (1417, 105, 1415, 1416), (1460, 105, 1459, 57), (1464, 105, 1463, 58), (1472, 105, 1471, 60), (1468, 105, 1467, 59), (1476, 105, 1475, 61), (1456, 105, 1455, 56), (1452, 105, 1451, 55), (1448, 105, 1446, 1447), (1480, 105, 1478, 1479), (1496, 105, 1495, 63), (1488, 105, 1487, 62), (1484, 105, 1482, 1483), (1504, 105, 1503, 65), (1500, 105, 1499, 64), (1492, 105, 1490, 1491), (1508, 105, 1506, 1507), (1520, 105, 1519, 67), (1516, 105, 1515, 66), (1512, 105, 1510, 1511), (1527, 105, 1526, 0), (1530, 105, 1529, 0), (1535, 105, 1534, 68), (1524, 105, 1522, 1523), (1539, 105, 1537, 1538), (1543, 105, 1541, 1542), (1559, 105, 1558, 71), (1555, 105, 1554, 70), (1571, 105, 1570, 74), (1587, 105, 1586, 78), (1567, 105, 1566, 73), (1583, 105, 1582, 77), (1579, 105, 1578, 76), (1575, 105, 1574, 75), (1563, 105, 1562, 72), (1551, 105, 1550, 69), (1547, 105, 1545, 1546), (1591, 105, 1589, 1590), (1595, 105, 1593, 1594), (1599, 105, 1597, 1598), (1616, 105, 1615, 81), (1612, 105, 1611, 80), (1631, 105, 1630, 0), (1608, 105, 1607, 79), (1620, 105, 1619, 82), (1635, 105, 1634, 85), (1628, 105, 1627, 84), (1624, 105, 1623, 83), (1604, 105, 1602, 1603), (1639, 105, 1637, 1638), (1651, 105, 1650, 87), (1647, 105, 1646, 86), (1643, 105, 1641, 1642), (1663, 105, 1662, 89), (1659, 105, 1658, 88), (1655, 105, 1653, 1654), (1671, 105, 1670, 90), (1676, 105, 1675, 91), (1667, 105, 1665, 1666), (1683, 105, 1682, 0), (1686, 105, 1685, 0), (1680, 105, 1678, 1679), (1690, 105, 1688, 1689), (1694, 105, 1692, 1693), (1698, 105, 1696, 1697), (1702, 105, 1700, 1701), (1706, 105, 1704, 1705), (966, 107, 965, 0), (129, 95, 128, 0), (0, 0, 0, 0)]
def zVK : List Bool := [false, true, true, true, true, true, true, true, true, true, true, true, false, true, true, true, true, true, true, true, true, true, true, true, true, true, false, true, true, true, true, true, true, true, false, true, true, true, true, true, true, true, true, true, false, true, true, true, true, true, true, true, true, true, true, true, false, true, true, true, true, true, true, true, true, true, true, true, true, true, true, true, true, true, true, true, true, true, true, true, true, false, true, true, true, true, true, true, true, true, true, true, false, true, true, true, true, true, true, true, true, true, false, true, true, true, true, true, true, false, true, false, true, true, true, true, true, true, true, true, false, false, false, true, true, true, true, true, true, true, true, true, true, true, true, true, true, true, true, true, true, true, true, true, true, true, true, true, true, true, true, true, true, true, true, true, true, true, true, false, false, false, false, false, false, false, false, false, true, true, true, true, true, true, true, true, true, true, true, true, true, true, true, true, true, true, true, true, true, true, true, true, true, true, true, true, true, true, true, true, true, true, true, true, true, true, true, true, true, true, true, true, true, true, true, false, false, true, true, true, true, true, true, true, true, true, true, true, true, true, true, true, true, true, true, true, true, false, true, true, true, true, true, true, true, true, true, true, true, true, true, true, true, true, false, false, true, true, true, true, true, true, false, false, false]
