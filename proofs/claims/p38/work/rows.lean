section
-- ===== PART A: goes FIRST, ahead of the names: the tables' words, and 'selects' of the private methods out of them =====
/-- a private method of a class that the tables say can be made, by its rows of tables_1 -/
def lw_okq (q : MethodName × Nat) : Prop := (q.1.cls ≠ "java/lang/invoke/MethodHandle" ∧ q.1.cls ≠ "java/lang/invoke/VarHandle") ∧ Cond.instantiable q.1.cls q.2 ∈ tables_1 ∧ Cond.privateMethod q.1 ∈ tables_1 ∧ Cond.instanceMethod q.1 ∈ tables_1
theorem lw_p0 : lw_okq (⟨"ForceNet$Net", "leadBack", "(I)V"⟩, 9) := ⟨⟨by decide +kernel, by decide +kernel⟩, List.mem_of_getElem? (i := 23) (by decide +kernel), List.mem_of_getElem? (i := 36) (by decide +kernel), List.mem_of_getElem? (i := 37) (by decide +kernel)⟩
theorem lw_p1 : lw_okq (⟨"ForceNet$Table", "fill", "(I)V"⟩, 6) := ⟨⟨by decide +kernel, by decide +kernel⟩, List.mem_of_getElem? (i := 127) (by decide +kernel), List.mem_of_getElem? (i := 437) (by decide +kernel), List.mem_of_getElem? (i := 438) (by decide +kernel)⟩
theorem lw_p2 : lw_okq (⟨"ForceNet$Table", "share", "(I)I"⟩, 6) := ⟨⟨by decide +kernel, by decide +kernel⟩, List.mem_of_getElem? (i := 127) (by decide +kernel), List.mem_of_getElem? (i := 443) (by decide +kernel), List.mem_of_getElem? (i := 444) (by decide +kernel)⟩
theorem lw_p3 : lw_okq (⟨"ForceNet$Laws", "judge", "(I)I"⟩, 7) := ⟨⟨by decide +kernel, by decide +kernel⟩, List.mem_of_getElem? (i := 153) (by decide +kernel), List.mem_of_getElem? (i := 454) (by decide +kernel), List.mem_of_getElem? (i := 455) (by decide +kernel)⟩
theorem lw_p4 : lw_okq (⟨"ForceNet$Laws", "always", "(I)I"⟩, 7) := ⟨⟨by decide +kernel, by decide +kernel⟩, List.mem_of_getElem? (i := 153) (by decide +kernel), List.mem_of_getElem? (i := 484) (by decide +kernel), List.mem_of_getElem? (i := 485) (by decide +kernel)⟩
theorem lw_p5 : lw_okq (⟨"ForceNet$Laws", "until", "(II)I"⟩, 7) := ⟨⟨by decide +kernel, by decide +kernel⟩, List.mem_of_getElem? (i := 153) (by decide +kernel), List.mem_of_getElem? (i := 488) (by decide +kernel), List.mem_of_getElem? (i := 489) (by decide +kernel)⟩
theorem lw_p6 : lw_okq (⟨"ForceNet$Laws", "mark", "(II)V"⟩, 7) := ⟨⟨by decide +kernel, by decide +kernel⟩, List.mem_of_getElem? (i := 153) (by decide +kernel), List.mem_of_getElem? (i := 494) (by decide +kernel), List.mem_of_getElem? (i := 495) (by decide +kernel)⟩
theorem lw_p7 : lw_okq (⟨"ForceNet$Laws", "again", "(I)I"⟩, 7) := ⟨⟨by decide +kernel, by decide +kernel⟩, List.mem_of_getElem? (i := 153) (by decide +kernel), List.mem_of_getElem? (i := 498) (by decide +kernel), List.mem_of_getElem? (i := 499) (by decide +kernel)⟩
theorem lw_p8 : lw_okq (⟨"ForceNet$Plans", "aim", "(I)I"⟩, 7) := ⟨⟨by decide +kernel, by decide +kernel⟩, List.mem_of_getElem? (i := 213) (by decide +kernel), List.mem_of_getElem? (i := 534) (by decide +kernel), List.mem_of_getElem? (i := 535) (by decide +kernel)⟩
theorem lw_p9 : lw_okq (⟨"ForceNet$Plans", "cheapest", "(I)I"⟩, 7) := ⟨⟨by decide +kernel, by decide +kernel⟩, List.mem_of_getElem? (i := 213) (by decide +kernel), List.mem_of_getElem? (i := 583) (by decide +kernel), List.mem_of_getElem? (i := 584) (by decide +kernel)⟩
theorem lw_p10 : lw_okq (⟨"ForceNet$Plans", "worst", "(I)I"⟩, 7) := ⟨⟨by decide +kernel, by decide +kernel⟩, List.mem_of_getElem? (i := 213) (by decide +kernel), List.mem_of_getElem? (i := 595) (by decide +kernel), List.mem_of_getElem? (i := 596) (by decide +kernel)⟩
theorem lw_p11 : lw_okq (⟨"ForceNet$Tape", "readForm", "(I)Z"⟩, 6) := ⟨⟨by decide +kernel, by decide +kernel⟩, List.mem_of_getElem? (i := 185) (by decide +kernel), List.mem_of_getElem? (i := 765) (by decide +kernel), List.mem_of_getElem? (i := 766) (by decide +kernel)⟩
theorem lw_p12 : lw_okq (⟨"ForceNet$Tape", "here", "()I"⟩, 6) := ⟨⟨by decide +kernel, by decide +kernel⟩, List.mem_of_getElem? (i := 185) (by decide +kernel), List.mem_of_getElem? (i := 769) (by decide +kernel), List.mem_of_getElem? (i := 770) (by decide +kernel)⟩
theorem lw_p13 : lw_okq (⟨"ForceNet$Tape", "refuse", "()Z"⟩, 6) := ⟨⟨by decide +kernel, by decide +kernel⟩, List.mem_of_getElem? (i := 185) (by decide +kernel), List.mem_of_getElem? (i := 774) (by decide +kernel), List.mem_of_getElem? (i := 775) (by decide +kernel)⟩
theorem lw_p14 : lw_okq (⟨"ForceNet$Tape", "readPair", "(IZI)Z"⟩, 6) := ⟨⟨by decide +kernel, by decide +kernel⟩, List.mem_of_getElem? (i := 185) (by decide +kernel), List.mem_of_getElem? (i := 780) (by decide +kernel), List.mem_of_getElem? (i := 781) (by decide +kernel)⟩
theorem lw_p15 : lw_okq (⟨"ForceNet$Tape", "take", "(I)Z"⟩, 6) := ⟨⟨by decide +kernel, by decide +kernel⟩, List.mem_of_getElem? (i := 185) (by decide +kernel), List.mem_of_getElem? (i := 787) (by decide +kernel), List.mem_of_getElem? (i := 788) (by decide +kernel)⟩
def lw_privs_1 : List (MethodName × Nat) := [(⟨"ForceNet$Net", "leadBack", "(I)V"⟩, 9), (⟨"ForceNet$Table", "fill", "(I)V"⟩, 6), (⟨"ForceNet$Table", "share", "(I)I"⟩, 6), (⟨"ForceNet$Laws", "judge", "(I)I"⟩, 7), (⟨"ForceNet$Laws", "always", "(I)I"⟩, 7), (⟨"ForceNet$Laws", "until", "(II)I"⟩, 7), (⟨"ForceNet$Laws", "mark", "(II)V"⟩, 7), (⟨"ForceNet$Laws", "again", "(I)I"⟩, 7), (⟨"ForceNet$Plans", "aim", "(I)I"⟩, 7), (⟨"ForceNet$Plans", "cheapest", "(I)I"⟩, 7), (⟨"ForceNet$Plans", "worst", "(I)I"⟩, 7), (⟨"ForceNet$Tape", "readForm", "(I)Z"⟩, 6), (⟨"ForceNet$Tape", "here", "()I"⟩, 6), (⟨"ForceNet$Tape", "refuse", "()Z"⟩, 6), (⟨"ForceNet$Tape", "readPair", "(IZI)Z"⟩, 6), (⟨"ForceNet$Tape", "take", "(I)Z"⟩, 6)]
theorem lw_r1 : ∀ q ∈ lw_privs_1, lw_okq q := List.forall_mem_cons.mpr ⟨lw_p0, List.forall_mem_cons.mpr ⟨lw_p1, List.forall_mem_cons.mpr ⟨lw_p2, List.forall_mem_cons.mpr ⟨lw_p3, List.forall_mem_cons.mpr ⟨lw_p4, List.forall_mem_cons.mpr ⟨lw_p5, List.forall_mem_cons.mpr ⟨lw_p6, List.forall_mem_cons.mpr ⟨lw_p7, List.forall_mem_cons.mpr ⟨lw_p8, List.forall_mem_cons.mpr ⟨lw_p9, List.forall_mem_cons.mpr ⟨lw_p10, List.forall_mem_cons.mpr ⟨lw_p11, List.forall_mem_cons.mpr ⟨lw_p12, List.forall_mem_cons.mpr ⟨lw_p13, List.forall_mem_cons.mpr ⟨lw_p14, List.forall_mem_cons.mpr ⟨lw_p15, fun _ h => absurd h List.not_mem_nil⟩⟩⟩⟩⟩⟩⟩⟩⟩⟩⟩⟩⟩⟩⟩⟩
theorem lw_p16 : lw_okq (⟨"ForceNet$Tape", "readGroup", "(I)Z"⟩, 6) := ⟨⟨by decide +kernel, by decide +kernel⟩, List.mem_of_getElem? (i := 185) (by decide +kernel), List.mem_of_getElem? (i := 791) (by decide +kernel), List.mem_of_getElem? (i := 792) (by decide +kernel)⟩
theorem lw_p17 : lw_okq (⟨"ForceNet$Tape", "readLaw", "(II)Z"⟩, 6) := ⟨⟨by decide +kernel, by decide +kernel⟩, List.mem_of_getElem? (i := 185) (by decide +kernel), List.mem_of_getElem? (i := 795) (by decide +kernel), List.mem_of_getElem? (i := 796) (by decide +kernel)⟩
def lw_privs_2 : List (MethodName × Nat) := [(⟨"ForceNet$Tape", "readGroup", "(I)Z"⟩, 6), (⟨"ForceNet$Tape", "readLaw", "(II)Z"⟩, 6)]
theorem lw_r2 : ∀ q ∈ lw_privs_2, lw_okq q := List.forall_mem_cons.mpr ⟨lw_p16, List.forall_mem_cons.mpr ⟨lw_p17, fun _ h => absurd h List.not_mem_nil⟩⟩
def lw_privs : List (MethodName × Nat) := lw_privs_1 ++ (lw_privs_2)
def lw_tbl : List Cond := k2_sels lw_privs ++ tables_1
theorem lw_privs_ok : ∀ q ∈ lw_privs, lw_okq q := by
  show ∀ q ∈ lw_privs_1 ++ (lw_privs_2), lw_okq q
  exact List.forall_mem_append.mpr ⟨lw_r1, lw_r2⟩
-- ===== end of PART A; then your names; then what follows =====
end
section
/-! names and fields: from claim/NAMES.whole.lean.txt -/
def RX0 : String := "ForceNet$Blind"
def TX0 : u_T := fun k => match k with
  | 0 => ("ForceNet$Blind", "net", "LForceNet$Net;", true)
  | 1 => ("ForceNet$Blind", "table", "LForceNet$Table;", true)
  | 2 => ("ForceNet$Blind", "row", "[I", true)
  | 3 => ("ForceNet$Blind", "bases", "[I", true)
  | 4 => ("ForceNet$Blind", "ends", "[I", true)
  | 5 => ("ForceNet$Blind", "group", "I", false)
  | 6 => ("ForceNet$Blind", "kind", "I", false)
  | 7 => ("ForceNet$Blind", "first", "I", false)
  | _ => ("ForceNet$Blind", "second", "I", false)
def tyX0 : Nat → FieldType := fun k => match k with
  | 0 => .object "ForceNet$Net"
  | 1 => .object "ForceNet$Table"
  | 2 => .array .int
  | 3 => .array .int
  | 4 => .array .int
  | 5 => .int
  | 6 => .int
  | 7 => .int
  | _ => .int
abbrev wsX00 : List Cond := u_ws RX0 TX0 9
theorem nmX0 : ∀ a, a < 9 → ∀ b, b < 9 → a ≠ b → (TX0 a).2.1 ≠ (TX0 b).2.1 := by decide +kernel
theorem tyX0_ok : ∀ k, k < 9 → parseFieldDescriptor (TX0 k).2.2.1 = some (tyX0 k) := by decide +kernel
abbrev cX0_init : ByteArray := prog_2_method_1_code
def yX0_init : MethodName := ⟨RX0, "<init>", "(LForceNet$Net;LForceNet$Table;)V"⟩
def RX1 : String := "ForceNet$Form"
def TX1 : u_T := fun k => match k with
  | 0 => ("ForceNet$Form", "parts", "I", false)
  | 1 => ("ForceNet$Form", "version", "I", false)
  | 2 => ("ForceNet$Form", "kinds", "[I", true)
  | 3 => ("ForceNet$Form", "lefts", "[I", true)
  | 4 => ("ForceNet$Form", "rights", "[I", true)
  | _ => ("ForceNet$Form", "groups", "[I", true)
def tyX1 : Nat → FieldType := fun k => match k with
  | 0 => .int
  | 1 => .int
  | 2 => .array .int
  | 3 => .array .int
  | 4 => .array .int
  | _ => .array .int
abbrev wsX10 : List Cond := u_ws RX1 TX1 6
theorem nmX1 : ∀ a, a < 6 → ∀ b, b < 6 → a ≠ b → (TX1 a).2.1 ≠ (TX1 b).2.1 := by decide +kernel
theorem tyX1_ok : ∀ k, k < 6 → parseFieldDescriptor (TX1 k).2.2.1 = some (tyX1 k) := by decide +kernel
abbrev cX1_init : ByteArray := prog_3_method_1_code
def yX1_init : MethodName := ⟨RX1, "<init>", "()V"⟩
abbrev cX1_becomeTrue : ByteArray := prog_3_method_2_code
def yX1_becomeTrue : MethodName := ⟨RX1, "becomeTrue", "()V"⟩
abbrev cX1_clear : ByteArray := prog_3_method_3_code
def yX1_clear : MethodName := ⟨RX1, "clear", "()V"⟩
abbrev cX1_add : ByteArray := prog_3_method_4_code
def yX1_add : MethodName := ⟨RX1, "add", "(I)I"⟩
abbrev cX1_set : ByteArray := prog_3_method_5_code
def yX1_set : MethodName := ⟨RX1, "set", "(IIII)V"⟩
abbrev cX1_become : ByteArray := prog_3_method_6_code
def yX1_become : MethodName := ⟨RX1, "become", "(LForceNet$Form;)V"⟩
abbrev cX1_kind : ByteArray := prog_3_method_7_code
def yX1_kind : MethodName := ⟨RX1, "kind", "(I)I"⟩
abbrev cX1_left : ByteArray := prog_3_method_8_code
def yX1_left : MethodName := ⟨RX1, "left", "(I)I"⟩
abbrev cX1_right : ByteArray := prog_3_method_9_code
def yX1_right : MethodName := ⟨RX1, "right", "(I)I"⟩
abbrev cX1_group : ByteArray := prog_3_method_10_code
def yX1_group : MethodName := ⟨RX1, "group", "(I)I"⟩
abbrev cX1_isLaw : ByteArray := prog_3_method_11_code
def yX1_isLaw : MethodName := ⟨RX1, "isLaw", "(I)Z"⟩
abbrev cX1_isOfGroup : ByteArray := prog_3_method_12_code
def yX1_isOfGroup : MethodName := ⟨RX1, "isOfGroup", "()Z"⟩
abbrev cX1_hasRounds : ByteArray := prog_3_method_13_code
def yX1_hasRounds : MethodName := ⟨RX1, "hasRounds", "()Z"⟩
abbrev cX1_hasToll : ByteArray := prog_3_method_14_code
def yX1_hasToll : MethodName := ⟨RX1, "hasToll", "()Z"⟩
def RX2 : String := "ForceNet$Goals"
def TX2 : u_T := fun k => match k with
  | 0 => ("ForceNet$Goals", "net", "LForceNet$Net;", true)
  | 1 => ("ForceNet$Goals", "sets", "[I", true)
  | _ => ("ForceNet$Goals", "tried", "[I", true)
def tyX2 : Nat → FieldType := fun k => match k with
  | 0 => .object "ForceNet$Net"
  | 1 => .array .int
  | _ => .array .int
abbrev wsX20 : List Cond := u_ws RX2 TX2 3
theorem nmX2 : ∀ a, a < 3 → ∀ b, b < 3 → a ≠ b → (TX2 a).2.1 ≠ (TX2 b).2.1 := by decide +kernel
theorem tyX2_ok : ∀ k, k < 3 → parseFieldDescriptor (TX2 k).2.2.1 = some (tyX2 k) := by decide +kernel
abbrev cX2_init : ByteArray := prog_4_method_1_code
def yX2_init : MethodName := ⟨RX2, "<init>", "(LForceNet$Net;)V"⟩
abbrev cX2_forget : ByteArray := prog_4_method_2_code
def yX2_forget : MethodName := ⟨RX2, "forget", "()V"⟩
def RX3 : String := "ForceNet$Laws"
def TX3 : u_T := fun k => match k with
  | 0 => ("ForceNet$Laws", "net", "LForceNet$Net;", true)
  | 1 => ("ForceNet$Laws", "form", "LForceNet$Form;", true)
  | 2 => ("ForceNet$Laws", "table", "LForceNet$Table;", true)
  | 3 => ("ForceNet$Laws", "held", "[I", true)
  | 4 => ("ForceNet$Laws", "rounds", "[I", true)
  | 5 => ("ForceNet$Laws", "netVersion", "I", false)
  | _ => ("ForceNet$Laws", "formVersion", "I", false)
def tyX3 : Nat → FieldType := fun k => match k with
  | 0 => .object "ForceNet$Net"
  | 1 => .object "ForceNet$Form"
  | 2 => .object "ForceNet$Table"
  | 3 => .array .int
  | 4 => .array .int
  | 5 => .int
  | _ => .int
abbrev wsX30 : List Cond := u_ws RX3 TX3 7
theorem nmX3 : ∀ a, a < 7 → ∀ b, b < 7 → a ≠ b → (TX3 a).2.1 ≠ (TX3 b).2.1 := by decide +kernel
theorem tyX3_ok : ∀ k, k < 7 → parseFieldDescriptor (TX3 k).2.2.1 = some (tyX3 k) := by decide +kernel
abbrev cX3_init : ByteArray := prog_5_method_1_code
def yX3_init : MethodName := ⟨RX3, "<init>", "(LForceNet$Net;LForceNet$Form;LForceNet$Table;)V"⟩
abbrev cX3_whole : ByteArray := prog_5_method_2_code
def yX3_whole : MethodName := ⟨RX3, "whole", "()I"⟩
abbrev cX3_refresh : ByteArray := prog_5_method_3_code
def yX3_refresh : MethodName := ⟨RX3, "refresh", "()V"⟩
abbrev cX3_judge : ByteArray := prog_5_method_4_code
def yX3_judge : MethodName := ⟨RX3, "judge", "(I)I"⟩
abbrev cX3_always : ByteArray := prog_5_method_5_code
def yX3_always : MethodName := ⟨RX3, "always", "(I)I"⟩
abbrev cX3_until : ByteArray := prog_5_method_6_code
def yX3_until : MethodName := ⟨RX3, "until", "(II)I"⟩
abbrev cX3_mark : ByteArray := prog_5_method_7_code
def yX3_mark : MethodName := ⟨RX3, "mark", "(II)V"⟩
abbrev cX3_again : ByteArray := prog_5_method_8_code
def yX3_again : MethodName := ⟨RX3, "again", "(I)I"⟩
abbrev cX3_ahead : ByteArray := prog_5_method_9_code
def yX3_ahead : MethodName := ⟨RX3, "ahead", "(I)I"⟩
def RX4 : String := "ForceNet$Lots"
def TX4 : u_T := fun k => match k with
  | 0 => ("ForceNet$Lots", "net", "LForceNet$Net;", true)
  | 1 => ("ForceNet$Lots", "player", "I", false)
  | 2 => ("ForceNet$Lots", "above", "J", false)
  | 3 => ("ForceNet$Lots", "below", "J", false)
  | 4 => ("ForceNet$Lots", "counts", "[I", true)
  | 5 => ("ForceNet$Lots", "totals", "[I", true)
  | 6 => ("ForceNet$Lots", "order", "[I", true)
  | _ => ("ForceNet$Lots", "grid", "[J", true)
def tyX4 : Nat → FieldType := fun k => match k with
  | 0 => .object "ForceNet$Net"
  | 1 => .int
  | 2 => .long
  | 3 => .long
  | 4 => .array .int
  | 5 => .array .int
  | 6 => .array .int
  | _ => .array .long
abbrev wsX40 : List Cond := u_ws RX4 TX4 8
theorem nmX4 : ∀ a, a < 8 → ∀ b, b < 8 → a ≠ b → (TX4 a).2.1 ≠ (TX4 b).2.1 := by decide +kernel
theorem tyX4_ok : ∀ k, k < 8 → parseFieldDescriptor (TX4 k).2.2.1 = some (tyX4 k) := by decide +kernel
abbrev cX4_init : ByteArray := prog_6_method_1_code
def yX4_init : MethodName := ⟨RX4, "<init>", "(LForceNet$Net;)V"⟩
def RX5 : String := "ForceNet$Net"
def TX5 : u_T := fun k => match k with
  | 0 => ("ForceNet$Net", "states", "I", false)
  | 1 => ("ForceNet$Net", "players", "I", false)
  | 2 => ("ForceNet$Net", "version", "I", false)
  | 3 => ("ForceNet$Net", "moves", "[I", true)
  | 4 => ("ForceNet$Net", "chosen", "[I", true)
  | 5 => ("ForceNet$Net", "prices", "[I", true)
  | 6 => ("ForceNet$Net", "targets", "[I", true)
  | 7 => ("ForceNet$Net", "letters", "[I", true)
  | _ => ("ForceNet$Net", "heaps", "[I", true)
def tyX5 : Nat → FieldType := fun k => match k with
  | 0 => .int
  | 1 => .int
  | 2 => .int
  | 3 => .array .int
  | 4 => .array .int
  | 5 => .array .int
  | 6 => .array .int
  | 7 => .array .int
  | _ => .array .int
abbrev wsX50 : List Cond := u_ws RX5 TX5 9
theorem nmX5 : ∀ a, a < 9 → ∀ b, b < 9 → a ≠ b → (TX5 a).2.1 ≠ (TX5 b).2.1 := by decide +kernel
theorem tyX5_ok : ∀ k, k < 9 → parseFieldDescriptor (TX5 k).2.2.1 = some (tyX5 k) := by decide +kernel
abbrev cX5_init : ByteArray := prog_7_method_1_code
def yX5_init : MethodName := ⟨RX5, "<init>", "()V"⟩
abbrev cX5_begin : ByteArray := prog_7_method_2_code
def yX5_begin : MethodName := ⟨RX5, "begin", "(II)V"⟩
abbrev cX5_leadBack : ByteArray := prog_7_method_3_code
def yX5_leadBack : MethodName := ⟨RX5, "leadBack", "(I)V"⟩
abbrev cX5_hasState : ByteArray := prog_7_method_4_code
def yX5_hasState : MethodName := ⟨RX5, "hasState", "(I)Z"⟩
abbrev cX5_hasPlayer : ByteArray := prog_7_method_5_code
def yX5_hasPlayer : MethodName := ⟨RX5, "hasPlayer", "(I)Z"⟩
abbrev cX5_hasGroup : ByteArray := prog_7_method_6_code
def yX5_hasGroup : MethodName := ⟨RX5, "hasGroup", "(I)Z"⟩
abbrev cX5_hasMove : ByteArray := prog_7_method_8_code
def yX5_hasMove : MethodName := ⟨RX5, "hasMove", "(III)Z"⟩
abbrev cX5_hasJoint : ByteArray := prog_7_method_9_code
def yX5_hasJoint : MethodName := ⟨RX5, "hasJoint", "(II)Z"⟩
abbrev cX5_everyone : ByteArray := prog_7_method_10_code
def yX5_everyone : MethodName := ⟨RX5, "everyone", "()I"⟩
abbrev cX5_everywhere : ByteArray := prog_7_method_11_code
def yX5_everywhere : MethodName := ⟨RX5, "everywhere", "()I"⟩
abbrev cX5_movesOf : ByteArray := prog_7_method_12_code
def yX5_movesOf : MethodName := ⟨RX5, "movesOf", "(II)I"⟩
abbrev cX5_target : ByteArray := prog_7_method_14_code
def yX5_target : MethodName := ⟨RX5, "target", "(II)I"⟩
abbrev cX5_changeMoves : ByteArray := prog_7_method_15_code
def yX5_changeMoves : MethodName := ⟨RX5, "changeMoves", "(III)I"⟩
abbrev cX5_changeTarget : ByteArray := prog_7_method_16_code
def yX5_changeTarget : MethodName := ⟨RX5, "changeTarget", "(III)I"⟩
abbrev cX5_changeLetters : ByteArray := prog_7_method_17_code
def yX5_changeLetters : MethodName := ⟨RX5, "changeLetters", "(II)I"⟩
abbrev cX5_bearing : ByteArray := prog_7_method_18_code
def yX5_bearing : MethodName := ⟨RX5, "bearing", "(I)I"⟩
abbrev cX5_ways : ByteArray := prog_7_method_19_code
def yX5_ways : MethodName := ⟨RX5, "ways", "(II)I"⟩
abbrev cX5_together : ByteArray := prog_7_method_20_code
def yX5_together : MethodName := ⟨RX5, "together", "(IIII)I"⟩
abbrev cX5_sumOfPrices : ByteArray := prog_7_method_22_code
def yX5_sumOfPrices : MethodName := ⟨RX5, "sumOfPrices", "(III)I"⟩
def RX6 : String := "ForceNet$Plans"
def TX6 : u_T := fun k => match k with
  | 0 => ("ForceNet$Plans", "net", "LForceNet$Net;", true)
  | 1 => ("ForceNet$Plans", "form", "LForceNet$Form;", true)
  | 2 => ("ForceNet$Plans", "table", "LForceNet$Table;", true)
  | 3 => ("ForceNet$Plans", "laws", "LForceNet$Laws;", true)
  | 4 => ("ForceNet$Plans", "tolls", "[I", true)
  | 5 => ("ForceNet$Plans", "trail", "[I", true)
  | _ => ("ForceNet$Plans", "trailLength", "I", false)
def tyX6 : Nat → FieldType := fun k => match k with
  | 0 => .object "ForceNet$Net"
  | 1 => .object "ForceNet$Form"
  | 2 => .object "ForceNet$Table"
  | 3 => .object "ForceNet$Laws"
  | 4 => .array .int
  | 5 => .array .int
  | _ => .int
abbrev wsX60 : List Cond := u_ws RX6 TX6 7
theorem nmX6 : ∀ a, a < 7 → ∀ b, b < 7 → a ≠ b → (TX6 a).2.1 ≠ (TX6 b).2.1 := by decide +kernel
theorem tyX6_ok : ∀ k, k < 7 → parseFieldDescriptor (TX6 k).2.2.1 = some (tyX6 k) := by decide +kernel
abbrev cX6_init : ByteArray := prog_8_method_1_code
def yX6_init : MethodName := ⟨RX6, "<init>", "(LForceNet$Net;LForceNet$Form;LForceNet$Table;LForceNet$Laws;)V"⟩
abbrev cX6_move : ByteArray := prog_8_method_2_code
def yX6_move : MethodName := ⟨RX6, "move", "(I)I"⟩
abbrev cX6_aim : ByteArray := prog_8_method_3_code
def yX6_aim : MethodName := ⟨RX6, "aim", "(I)I"⟩
abbrev cX6_hinder : ByteArray := prog_8_method_4_code
def yX6_hinder : MethodName := ⟨RX6, "hinder", "(II)I"⟩
abbrev cX6_leastSum : ByteArray := prog_8_method_5_code
def yX6_leastSum : MethodName := ⟨RX6, "leastSum", "(I)I"⟩
abbrev cX6_cheapest : ByteArray := prog_8_method_6_code
def yX6_cheapest : MethodName := ⟨RX6, "cheapest", "(I)I"⟩
abbrev cX6_worst : ByteArray := prog_8_method_7_code
def yX6_worst : MethodName := ⟨RX6, "worst", "(I)I"⟩
abbrev cX6_forget : ByteArray := prog_8_method_8_code
def yX6_forget : MethodName := ⟨RX6, "forget", "()V"⟩
abbrev cX6_startWalk : ByteArray := prog_8_method_9_code
def yX6_startWalk : MethodName := ⟨RX6, "startWalk", "(I)V"⟩
abbrev cX6_goOn : ByteArray := prog_8_method_10_code
def yX6_goOn : MethodName := ⟨RX6, "goOn", "(I)V"⟩
abbrev cX6_behind : ByteArray := prog_8_method_11_code
def yX6_behind : MethodName := ⟨RX6, "behind", "(I)I"⟩
def RX7 : String := "ForceNet$Sheets"
def TX7 : u_T := fun k => match k with
  | 0 => ("ForceNet$Sheets", "lanes", "[I", true)
  | 1 => ("ForceNet$Sheets", "sizes", "[I", true)
  | _ => ("ForceNet$Sheets", "items", "[I", true)
def tyX7 : Nat → FieldType := fun k => match k with
  | 0 => .array .int
  | 1 => .array .int
  | _ => .array .int
abbrev wsX70 : List Cond := u_ws RX7 TX7 3
theorem nmX7 : ∀ a, a < 3 → ∀ b, b < 3 → a ≠ b → (TX7 a).2.1 ≠ (TX7 b).2.1 := by decide +kernel
theorem tyX7_ok : ∀ k, k < 3 → parseFieldDescriptor (TX7 k).2.2.1 = some (tyX7 k) := by decide +kernel
abbrev cX7_init : ByteArray := prog_9_method_1_code
def yX7_init : MethodName := ⟨RX7, "<init>", "()V"⟩
abbrev cX7_hasPlace : ByteArray := prog_9_method_2_code
def yX7_hasPlace : MethodName := ⟨RX7, "hasPlace", "(II)Z"⟩
abbrev cX7_isEmptyPlace : ByteArray := prog_9_method_3_code
def yX7_isEmptyPlace : MethodName := ⟨RX7, "isEmptyPlace", "(I)Z"⟩
abbrev cX7_hasItems : ByteArray := prog_9_method_4_code
def yX7_hasItems : MethodName := ⟨RX7, "hasItems", "(III)Z"⟩
abbrev cX7_wrong : ByteArray := prog_9_method_5_code
def yX7_wrong : MethodName := ⟨RX7, "wrong", "(IIII)I"⟩
abbrev cX7_start : ByteArray := prog_9_method_6_code
def yX7_start : MethodName := ⟨RX7, "start", "(III)V"⟩
abbrev cX7_read : ByteArray := prog_9_method_8_code
def yX7_read : MethodName := ⟨RX7, "read", "(II)I"⟩
abbrev cX7_write : ByteArray := prog_9_method_9_code
def yX7_write : MethodName := ⟨RX7, "write", "(III)V"⟩
abbrev cX7_hasBelowZero : ByteArray := prog_9_method_10_code
def yX7_hasBelowZero : MethodName := ⟨RX7, "hasBelowZero", "(III)Z"⟩
def RX8 : String := "ForceNet$Table"
def TX8 : u_T := fun k => match k with
  | 0 => ("ForceNet$Table", "net", "LForceNet$Net;", true)
  | 1 => ("ForceNet$Table", "ends", "[I", true)
  | 2 => ("ForceNet$Table", "ways", "[I", true)
  | 3 => ("ForceNet$Table", "shares", "[I", true)
  | 4 => ("ForceNet$Table", "group", "I", false)
  | _ => ("ForceNet$Table", "version", "I", false)
def tyX8 : Nat → FieldType := fun k => match k with
  | 0 => .object "ForceNet$Net"
  | 1 => .array .int
  | 2 => .array .int
  | 3 => .array .int
  | 4 => .int
  | _ => .int
abbrev wsX80 : List Cond := u_ws RX8 TX8 6
theorem nmX8 : ∀ a, a < 6 → ∀ b, b < 6 → a ≠ b → (TX8 a).2.1 ≠ (TX8 b).2.1 := by decide +kernel
theorem tyX8_ok : ∀ k, k < 6 → parseFieldDescriptor (TX8 k).2.2.1 = some (tyX8 k) := by decide +kernel
abbrev cX8_init : ByteArray := prog_10_method_1_code
def yX8_init : MethodName := ⟨RX8, "<init>", "(LForceNet$Net;)V"⟩
abbrev cX8_prepare : ByteArray := prog_10_method_2_code
def yX8_prepare : MethodName := ⟨RX8, "prepare", "(I)V"⟩
abbrev cX8_fill : ByteArray := prog_10_method_3_code
def yX8_fill : MethodName := ⟨RX8, "fill", "(I)V"⟩
abbrev cX8_share : ByteArray := prog_10_method_4_code
def yX8_share : MethodName := ⟨RX8, "share", "(I)I"⟩
abbrev cX8_endsOf : ByteArray := prog_10_method_5_code
def yX8_endsOf : MethodName := ⟨RX8, "endsOf", "(II)I"⟩
abbrev cX8_leastInto : ByteArray := prog_10_method_6_code
def yX8_leastInto : MethodName := ⟨RX8, "leastInto", "(II)I"⟩
abbrev cX8_forcing : ByteArray := prog_10_method_7_code
def yX8_forcing : MethodName := ⟨RX8, "forcing", "(II)I"⟩
def RX9 : String := "ForceNet$Tape"
def TX9 : u_T := fun k => match k with
  | 0 => ("ForceNet$Tape", "bytes", "[I", true)
  | 1 => ("ForceNet$Tape", "draft", "LForceNet$Form;", true)
  | 2 => ("ForceNet$Tape", "length", "I", false)
  | 3 => ("ForceNet$Tape", "place", "I", false)
  | 4 => ("ForceNet$Tape", "fault", "I", false)
  | _ => ("ForceNet$Tape", "players", "I", false)
def tyX9 : Nat → FieldType := fun k => match k with
  | 0 => .array .int
  | 1 => .object "ForceNet$Form"
  | 2 => .int
  | 3 => .int
  | 4 => .int
  | _ => .int
abbrev wsX90 : List Cond := u_ws RX9 TX9 6
theorem nmX9 : ∀ a, a < 6 → ∀ b, b < 6 → a ≠ b → (TX9 a).2.1 ≠ (TX9 b).2.1 := by decide +kernel
theorem tyX9_ok : ∀ k, k < 6 → parseFieldDescriptor (TX9 k).2.2.1 = some (tyX9 k) := by decide +kernel
abbrev cX9_init : ByteArray := prog_11_method_1_code
def yX9_init : MethodName := ⟨RX9, "<init>", "()V"⟩
abbrev cX9_add : ByteArray := prog_11_method_2_code
def yX9_add : MethodName := ⟨RX9, "add", "(JI)I"⟩
abbrev cX9_byteOf : ByteArray := prog_11_method_3_code
def yX9_byteOf : MethodName := ⟨RX9, "byteOf", "(JI)I"⟩
abbrev cX9_understand : ByteArray := prog_11_method_4_code
def yX9_understand : MethodName := ⟨RX9, "understand", "(I)I"⟩
abbrev cX9_here : ByteArray := prog_11_method_5_code
def yX9_here : MethodName := ⟨RX9, "here", "()I"⟩
abbrev cX9_refuse : ByteArray := prog_11_method_6_code
def yX9_refuse : MethodName := ⟨RX9, "refuse", "()Z"⟩
abbrev cX9_take : ByteArray := prog_11_method_7_code
def yX9_take : MethodName := ⟨RX9, "take", "(I)Z"⟩
abbrev cX9_readForm : ByteArray := prog_11_method_8_code
def yX9_readForm : MethodName := ⟨RX9, "readForm", "(I)Z"⟩
abbrev cX9_readGroup : ByteArray := prog_11_method_9_code
def yX9_readGroup : MethodName := ⟨RX9, "readGroup", "(I)Z"⟩
abbrev cX9_readLaw : ByteArray := prog_11_method_10_code
def yX9_readLaw : MethodName := ⟨RX9, "readLaw", "(II)Z"⟩
abbrev cX9_readPair : ByteArray := prog_11_method_11_code
def yX9_readPair : MethodName := ⟨RX9, "readPair", "(IZI)Z"⟩
abbrev cX9_lawKind : ByteArray := prog_11_method_12_code
def yX9_lawKind : MethodName := ⟨RX9, "lawKind", "(I)I"⟩
abbrev cX9_pairKind : ByteArray := prog_11_method_13_code
def yX9_pairKind : MethodName := ⟨RX9, "pairKind", "(I)I"⟩
def RX10 : String := "ForceNet"
def TX10 : u_T := fun k => match k with
  | 0 => ("ForceNet", "net", "LForceNet$Net;", true)
  | 1 => ("ForceNet", "form", "LForceNet$Form;", true)
  | 2 => ("ForceNet", "tape", "LForceNet$Tape;", true)
  | 3 => ("ForceNet", "laws", "LForceNet$Laws;", true)
  | 4 => ("ForceNet", "plans", "LForceNet$Plans;", true)
  | 5 => ("ForceNet", "rows", "LForceNet$Blind;", true)
  | 6 => ("ForceNet", "lots", "LForceNet$Lots;", true)
  | 7 => ("ForceNet", "goals", "LForceNet$Goals;", true)
  | _ => ("ForceNet", "sheets", "LForceNet$Sheets;", true)
def tyX10 : Nat → FieldType := fun k => match k with
  | 0 => .object "ForceNet$Net"
  | 1 => .object "ForceNet$Form"
  | 2 => .object "ForceNet$Tape"
  | 3 => .object "ForceNet$Laws"
  | 4 => .object "ForceNet$Plans"
  | 5 => .object "ForceNet$Blind"
  | 6 => .object "ForceNet$Lots"
  | 7 => .object "ForceNet$Goals"
  | _ => .object "ForceNet$Sheets"
abbrev wsX100 : List Cond := u_ws RX10 TX10 9
theorem nmX10 : ∀ a, a < 9 → ∀ b, b < 9 → a ≠ b → (TX10 a).2.1 ≠ (TX10 b).2.1 := by decide +kernel
theorem tyX10_ok : ∀ k, k < 9 → parseFieldDescriptor (TX10 k).2.2.1 = some (tyX10 k) := by decide +kernel
abbrev cX10_init : ByteArray := prog_1_method_1_code
def yX10_init : MethodName := ⟨RX10, "<init>", "()V"⟩
abbrev cX10_net : ByteArray := prog_1_method_2_code
def yX10_net : MethodName := ⟨RX10, "net", "(II)I"⟩
abbrev cX10_moves : ByteArray := prog_1_method_3_code
def yX10_moves : MethodName := ⟨RX10, "moves", "(III)I"⟩
abbrev cX10_joint : ByteArray := prog_1_method_4_code
def yX10_joint : MethodName := ⟨RX10, "joint", "(II)I"⟩
abbrev cX10_step : ByteArray := prog_1_method_5_code
def yX10_step : MethodName := ⟨RX10, "step", "(III)I"⟩
abbrev cX10_letters : ByteArray := prog_1_method_7_code
def yX10_letters : MethodName := ⟨RX10, "letters", "(II)I"⟩
abbrev cX10_price : ByteArray := prog_1_method_9_code
def yX10_price : MethodName := ⟨RX10, "price", "(IIII)I"⟩
abbrev cX10_type : ByteArray := prog_1_method_11_code
def yX10_type : MethodName := ⟨RX10, "type", "(JI)I"⟩
abbrev cX10_form : ByteArray := prog_1_method_12_code
def yX10_form : MethodName := ⟨RX10, "form", "()I"⟩
abbrev cX10_holds : ByteArray := prog_1_method_13_code
def yX10_holds : MethodName := ⟨RX10, "holds", "()I"⟩
abbrev cX10_part : ByteArray := prog_1_method_14_code
def yX10_part : MethodName := ⟨RX10, "part", "(I)I"⟩
abbrev cX10_round : ByteArray := prog_1_method_16_code
def yX10_round : MethodName := ⟨RX10, "round", "(I)I"⟩
abbrev cX10_plan : ByteArray := prog_1_method_17_code
def yX10_plan : MethodName := ⟨RX10, "plan", "(I)I"⟩
abbrev cX10_answer : ByteArray := prog_1_method_18_code
def yX10_answer : MethodName := ⟨RX10, "answer", "(II)I"⟩
abbrev cX10_toll : ByteArray := prog_1_method_19_code
def yX10_toll : MethodName := ⟨RX10, "toll", "(I)I"⟩
abbrev cX10_walk : ByteArray := prog_1_method_20_code
def yX10_walk : MethodName := ⟨RX10, "walk", "(IIIII)I"⟩
abbrev cX10_walked : ByteArray := prog_1_method_21_code
def yX10_walked : MethodName := ⟨RX10, "walked", "(I)I"⟩
abbrev cX10_sheet : ByteArray := prog_1_method_34_code
def yX10_sheet : MethodName := ⟨RX10, "sheet", "(III)I"⟩
abbrev cX10_item : ByteArray := prog_1_method_36_code
def yX10_item : MethodName := ⟨RX10, "item", "(IIII)I"⟩
abbrev cX10_at : ByteArray := prog_1_method_38_code
def yX10_at : MethodName := ⟨RX10, "at", "([II)I"⟩
abbrev cX10_put : ByteArray := prog_1_method_39_code
def yX10_put : MethodName := ⟨RX10, "put", "([III)V"⟩
abbrev cX10_swap : ByteArray := prog_1_method_40_code
def yX10_swap : MethodName := ⟨RX10, "swap", "([III)I"⟩
abbrev cX10_has : ByteArray := prog_1_method_41_code
def yX10_has : MethodName := ⟨RX10, "has", "(II)Z"⟩
abbrev cX10_over : ByteArray := prog_1_method_43_code
def yX10_over : MethodName := ⟨RX10, "over", "(II)I"⟩
abbrev cX10_rest : ByteArray := prog_1_method_44_code
def yX10_rest : MethodName := ⟨RX10, "rest", "(II)I"⟩
def RX11 : String := "ForceNetModel"
def TX11 : u_T := fun k => match k with
  | _ => ("", "", "", false)
def tyX11 : Nat → FieldType := fun k => match k with
  | _ => .int
abbrev wsX110 : List Cond := u_ws RX11 TX11 0
theorem nmX11 : ∀ a, a < 0 → ∀ b, b < 0 → a ≠ b → (TX11 a).2.1 ≠ (TX11 b).2.1 := by decide +kernel
theorem tyX11_ok : ∀ k, k < 0 → parseFieldDescriptor (TX11 k).2.2.1 = some (tyX11 k) := by decide +kernel
def RJ9 : String := "java/lang/Math"
def TJ9 : u_T := fun k => match k with
  | _ => ("", "", "", false)
def tyJ9 : Nat → FieldType := fun k => match k with
  | _ => .int
abbrev wsJ90 : List Cond := u_ws RJ9 TJ9 0
theorem nmJ9 : ∀ a, a < 0 → ∀ b, b < 0 → a ≠ b → (TJ9 a).2.1 ≠ (TJ9 b).2.1 := by decide +kernel
theorem tyJ9_ok : ∀ k, k < 0 → parseFieldDescriptor (TJ9 k).2.2.1 = some (tyJ9 k) := by decide +kernel
abbrev cJ9_max_7cf53 : ByteArray := prog_14_method_65_code
def yJ9_max_7cf53 : MethodName := ⟨RJ9, "max", "(II)I"⟩
abbrev cJ9_min_7cf53 : ByteArray := prog_14_method_69_code
def yJ9_min_7cf53 : MethodName := ⟨RJ9, "min", "(II)I"⟩
def RJ7 : String := "java/util/Arrays"
def TJ7 : u_T := fun k => match k with
  | _ => ("", "", "", false)
def tyJ7 : Nat → FieldType := fun k => match k with
  | _ => .int
abbrev wsJ70 : List Cond := u_ws RJ7 TJ7 0
theorem nmJ7 : ∀ a, a < 0 → ∀ b, b < 0 → a ≠ b → (TJ7 a).2.1 ≠ (TJ7 b).2.1 := by decide +kernel
theorem tyJ7_ok : ∀ k, k < 0 → parseFieldDescriptor (TJ7 k).2.2.1 = some (tyJ7 k) := by decide +kernel
abbrev cJ7_fill_53178 : ByteArray := prog_15_method_103_code
def yJ7_fill_53178 : MethodName := ⟨RJ7, "fill", "([II)V"⟩
def RL : String := "ForceNetLaw"
abbrev cL_cell : ByteArray := method_2_code
def yL_cell : MethodName := ⟨RL, "cell", "([II)I"⟩
abbrev cL_lays : ByteArray := method_3_code
def yL_lays : MethodName := ⟨RL, "lays", "(LForceNet;[I)V"⟩
abbrev cL_statesOf : ByteArray := method_4_code
def yL_statesOf : MethodName := ⟨RL, "statesOf", "([I)I"⟩
abbrev cL_playersOf : ByteArray := method_5_code
def yL_playersOf : MethodName := ⟨RL, "playersOf", "([I)I"⟩
abbrev cL_group : ByteArray := method_6_code
def yL_group : MethodName := ⟨RL, "group", "(LForceNet;I)Z"⟩
abbrev cL_outermost : ByteArray := method_7_code
def yL_outermost : MethodName := ⟨RL, "outermost", "(LForceNet;II)Z"⟩
abbrev cL_law : ByteArray := code
def yL_law : MethodName := ⟨RL, "law", "([I)Z"⟩
abbrev vwCl : List vw_C := [(RX0, TX0, 9), (RX1, TX1, 6), (RX2, TX2, 3), (RX3, TX3, 7), (RX4, TX4, 8), (RX5, TX5, 9), (RX6, TX6, 7), (RX7, TX7, 3), (RX8, TX8, 6), (RX9, TX9, 6), (RX10, TX10, 9)]
end
section
/-! the code of each method, its instructions with their targets, laid by wip/whole/gen.py -/
abbrev zEnt : Type := Instr × Nat × Nat
abbrev i_Bl_init : Nat := 0
abbrev i_Fo_init : Nat := 1
abbrev i_Fo_becomeTrue : Nat := 2
abbrev i_Fo_clear : Nat := 3
abbrev i_Fo_add : Nat := 4
abbrev i_Fo_set : Nat := 5
abbrev i_Fo_become : Nat := 6
abbrev i_Fo_kind : Nat := 7
abbrev i_Fo_left : Nat := 8
abbrev i_Fo_right : Nat := 9
abbrev i_Fo_group : Nat := 10
abbrev i_Fo_isLaw : Nat := 11
abbrev i_Fo_isOfGroup : Nat := 12
abbrev i_Fo_hasRounds : Nat := 13
abbrev i_Fo_hasToll : Nat := 14
abbrev i_Go_init : Nat := 15
abbrev i_Go_forget : Nat := 16
abbrev i_La_init : Nat := 17
abbrev i_La_whole : Nat := 18
abbrev i_La_refresh : Nat := 19
abbrev i_La_judge : Nat := 20
abbrev i_La_always : Nat := 21
abbrev i_La_until : Nat := 22
abbrev i_La_mark : Nat := 23
abbrev i_La_again : Nat := 24
abbrev i_La_ahead : Nat := 25
abbrev i_Lo_init : Nat := 26
abbrev i_Ne_init : Nat := 27
abbrev i_Ne_begin : Nat := 28
abbrev i_Ne_leadBack : Nat := 29
abbrev i_Ne_hasState : Nat := 30
abbrev i_Ne_hasPlayer : Nat := 31
abbrev i_Ne_hasGroup : Nat := 32
abbrev i_Ne_hasMove : Nat := 33
abbrev i_Ne_hasJoint : Nat := 34
abbrev i_Ne_everyone : Nat := 35
abbrev i_Ne_everywhere : Nat := 36
abbrev i_Ne_movesOf : Nat := 37
abbrev i_Ne_target : Nat := 38
abbrev i_Ne_changeMoves : Nat := 39
abbrev i_Ne_changeTarget : Nat := 40
abbrev i_Ne_changeLetters : Nat := 41
abbrev i_Ne_bearing : Nat := 42
abbrev i_Ne_ways : Nat := 43
abbrev i_Ne_together : Nat := 44
abbrev i_Ne_sumOfPrices : Nat := 45
abbrev i_Pl_init : Nat := 46
abbrev i_Pl_move : Nat := 47
abbrev i_Pl_aim : Nat := 48
abbrev i_Pl_hinder : Nat := 49
abbrev i_Pl_leastSum : Nat := 50
abbrev i_Pl_cheapest : Nat := 51
abbrev i_Pl_worst : Nat := 52
abbrev i_Pl_forget : Nat := 53
abbrev i_Pl_startWalk : Nat := 54
abbrev i_Pl_goOn : Nat := 55
abbrev i_Pl_behind : Nat := 56
abbrev i_Sh_init : Nat := 57
abbrev i_Sh_hasPlace : Nat := 58
abbrev i_Sh_isEmptyPlace : Nat := 59
abbrev i_Sh_hasItems : Nat := 60
abbrev i_Sh_wrong : Nat := 61
abbrev i_Sh_start : Nat := 62
abbrev i_Sh_read : Nat := 63
abbrev i_Sh_write : Nat := 64
abbrev i_Sh_hasBelowZero : Nat := 65
abbrev i_Ta_init : Nat := 66
abbrev i_Ta_prepare : Nat := 67
abbrev i_Ta_fill : Nat := 68
abbrev i_Ta_share : Nat := 69
abbrev i_Ta_endsOf : Nat := 70
abbrev i_Ta_leastInto : Nat := 71
abbrev i_Ta_forcing : Nat := 72
abbrev i_Tp_init : Nat := 73
abbrev i_Tp_add : Nat := 74
abbrev i_Tp_byteOf : Nat := 75
abbrev i_Tp_understand : Nat := 76
abbrev i_Tp_here : Nat := 77
abbrev i_Tp_refuse : Nat := 78
abbrev i_Tp_take : Nat := 79
abbrev i_Tp_readForm : Nat := 80
abbrev i_Tp_readGroup : Nat := 81
abbrev i_Tp_readLaw : Nat := 82
abbrev i_Tp_readPair : Nat := 83
abbrev i_Tp_lawKind : Nat := 84
abbrev i_Tp_pairKind : Nat := 85
abbrev i_FN_init : Nat := 86
abbrev i_FN_net : Nat := 87
abbrev i_FN_moves : Nat := 88
abbrev i_FN_joint : Nat := 89
abbrev i_FN_step : Nat := 90
abbrev i_FN_letters : Nat := 91
abbrev i_FN_price : Nat := 92
abbrev i_FN_type : Nat := 93
abbrev i_FN_form : Nat := 94
abbrev i_FN_holds : Nat := 95
abbrev i_FN_part : Nat := 96
abbrev i_FN_round : Nat := 97
abbrev i_FN_plan : Nat := 98
abbrev i_FN_answer : Nat := 99
abbrev i_FN_toll : Nat := 100
abbrev i_FN_walk : Nat := 101
abbrev i_FN_walked : Nat := 102
abbrev i_FN_sheet : Nat := 103
abbrev i_FN_item : Nat := 104
abbrev i_FN_at : Nat := 105
abbrev i_FN_put : Nat := 106
abbrev i_FN_swap : Nat := 107
abbrev i_FN_has : Nat := 108
abbrev i_FN_over : Nat := 109
abbrev i_FN_rest : Nat := 110
abbrev i_JA_fill : Nat := 111
abbrev i_LW_cell : Nat := 112
abbrev i_LW_lays : Nat := 113
abbrev i_LW_statesOf : Nat := 114
abbrev i_LW_playersOf : Nat := 115
abbrev i_LW_group : Nat := 116
abbrev i_LW_outermost : Nat := 117
abbrev i_LW_law : Nat := 118
def zB_Bl_init : List (Nat × List zEnt) := [(0, [(.aload 0, 0, 0), (.nop, 0, 0), (.aload 0, 0, 0), (.iconst (48), 0, 0), (.newarray .int, 0, 0), (.putfield 0, 0, 2), (.aload 0, 0, 0), (.iconst (48), 0, 0), (.newarray .int, 0, 0), (.putfield 0, 0, 3), (.aload 0, 0, 0), (.iconst (12), 0, 0), (.newarray .int, 0, 0), (.putfield 0, 0, 4), (.aload 0, 0, 0), (.aload 1, 0, 0), (.putfield 0, 0, 0), (.aload 0, 0, 0), (.aload 2, 0, 0), (.putfield 0, 0, 1), (.return_, 0, 0)])]
def zB_Fo_init : List (Nat × List zEnt) := [(0, [(.aload 0, 0, 0), (.nop, 0, 0), (.aload 0, 0, 0), (.iconst (24), 0, 0), (.newarray .int, 0, 0), (.putfield 0, 1, 2), (.aload 0, 0, 0), (.iconst (24), 0, 0), (.newarray .int, 0, 0), (.putfield 0, 1, 3), (.aload 0, 0, 0), (.iconst (24), 0, 0), (.newarray .int, 0, 0), (.putfield 0, 1, 4), (.aload 0, 0, 0), (.iconst (24), 0, 0), (.newarray .int, 0, 0), (.putfield 0, 1, 5), (.aload 0, 0, 0), (.invokevirtual 0, 2, 0), (.return_, 0, 0)])]
def zB_Fo_becomeTrue : List (Nat × List zEnt) := [(0, [(.aload 0, 0, 0), (.invokevirtual 0, 3, 0), (.aload 0, 0, 0), (.aload 0, 0, 0), (.iconst (0), 0, 0), (.invokevirtual 0, 4, 0), (.iconst (0), 0, 0), (.iconst (0), 0, 0), (.iconst (0), 0, 0), (.invokevirtual 0, 5, 0), (.return_, 0, 0)])]
def zB_Fo_clear : List (Nat × List zEnt) := [(0, [(.aload 0, 0, 0), (.iconst (0), 0, 0), (.putfield 0, 1, 0), (.aload 0, 0, 0), (.dup, 0, 0), (.getfield 0, 1, 1), (.iconst (1), 0, 0), (.iadd, 0, 0), (.putfield 0, 1, 1), (.return_, 0, 0)])]
def zB_Fo_add : List (Nat × List zEnt) := [(0, [(.aload 0, 0, 0), (.getfield 0, 1, 0), (.istore 2, 0, 0), (.aload 0, 0, 0), (.getfield 0, 1, 5), (.iload 2, 0, 0), (.iload 1, 0, 0), (.invokestatic 0, 106, 0), (.aload 0, 0, 0), (.dup, 0, 0), (.getfield 0, 1, 0), (.iconst (1), 0, 0), (.iadd, 0, 0), (.putfield 0, 1, 0), (.iload 2, 0, 0), (.ireturn, 0, 0)])]
def zB_Fo_set : List (Nat × List zEnt) := [(0, [(.aload 0, 0, 0), (.getfield 0, 1, 2), (.iload 1, 0, 0), (.iload 2, 0, 0), (.invokestatic 0, 106, 0), (.aload 0, 0, 0), (.getfield 0, 1, 3), (.iload 1, 0, 0), (.iload 3, 0, 0), (.invokestatic 0, 106, 0), (.aload 0, 0, 0), (.getfield 0, 1, 4), (.iload 1, 0, 0), (.iload 4, 0, 0), (.invokestatic 0, 106, 0), (.return_, 0, 0)])]
def zB_Fo_become : List (Nat × List zEnt) := [(0, [(.aload 0, 0, 0), (.invokevirtual 0, 3, 0), (.iconst (0), 0, 0), (.istore 2, 0, 0), (.goto_w 0, 1, 0)]),
  (6, [(.iload 2, 0, 0), (.aload 1, 0, 0), (.getfield 0, 1, 0), (.if_icmp .ge 0, 3, 0), (.goto_w 0, 2, 0)]),
  (14, [(.aload 0, 0, 0), (.aload 0, 0, 0), (.aload 1, 0, 0), (.iload 2, 0, 0), (.invokevirtual 0, 10, 0), (.invokevirtual 0, 4, 0), (.aload 1, 0, 0), (.iload 2, 0, 0), (.invokevirtual 0, 7, 0), (.aload 1, 0, 0), (.iload 2, 0, 0), (.invokevirtual 0, 8, 0), (.aload 1, 0, 0), (.iload 2, 0, 0), (.invokevirtual 0, 9, 0), (.invokevirtual 0, 5, 0), (.iinc 2 (1), 0, 0), (.goto 0, 1, 0)]),
  (48, [(.return_, 0, 0)])]
def zB_Fo_kind : List (Nat × List zEnt) := [(0, [(.aload 0, 0, 0), (.getfield 0, 1, 2), (.iload 1, 0, 0), (.invokestatic 0, 105, 0), (.ireturn, 0, 0)])]
def zB_Fo_left : List (Nat × List zEnt) := [(0, [(.aload 0, 0, 0), (.getfield 0, 1, 3), (.iload 1, 0, 0), (.invokestatic 0, 105, 0), (.ireturn, 0, 0)])]
def zB_Fo_right : List (Nat × List zEnt) := [(0, [(.aload 0, 0, 0), (.getfield 0, 1, 4), (.iload 1, 0, 0), (.invokestatic 0, 105, 0), (.ireturn, 0, 0)])]
def zB_Fo_group : List (Nat × List zEnt) := [(0, [(.aload 0, 0, 0), (.getfield 0, 1, 5), (.iload 1, 0, 0), (.invokestatic 0, 105, 0), (.ireturn, 0, 0)])]
def zB_Fo_isLaw : List (Nat × List zEnt) := [(0, [(.aload 0, 0, 0), (.iload 1, 0, 0), (.invokevirtual 0, 7, 0), (.iconst (5), 0, 0), (.if_icmp .lt 0, 2, 0), (.goto_w 0, 1, 0)]),
  (9, [(.iconst (1), 0, 0), (.goto 0, 3, 0)]),
  (13, [(.iconst (0), 0, 0), (.goto_w 0, 3, 0)]),
  (14, [(.ireturn, 0, 0)])]
def zB_Fo_isOfGroup : List (Nat × List zEnt) := [(0, [(.aload 0, 0, 0), (.iconst (0), 0, 0), (.invokevirtual 0, 11, 0), (.ireturn, 0, 0)])]
def zB_Fo_hasRounds : List (Nat × List zEnt) := [(0, [(.aload 0, 0, 0), (.iconst (0), 0, 0), (.invokevirtual 0, 7, 0), (.iconst (7), 0, 0), (.if_icmp .lt 0, 2, 0), (.goto_w 0, 1, 0)]),
  (10, [(.iconst (1), 0, 0), (.goto 0, 3, 0)]),
  (14, [(.iconst (0), 0, 0), (.goto_w 0, 3, 0)]),
  (15, [(.ireturn, 0, 0)])]
def zB_Fo_hasToll : List (Nat × List zEnt) := [(0, [(.aload 0, 0, 0), (.iconst (0), 0, 0), (.invokevirtual 0, 7, 0), (.iconst (7), 0, 0), (.if_icmp .eq 0, 2, 0), (.goto_w 0, 1, 0)]),
  (10, [(.aload 0, 0, 0), (.iconst (0), 0, 0), (.invokevirtual 0, 7, 0), (.iconst (8), 0, 0), (.if_icmp .ne 0, 3, 0), (.goto_w 0, 2, 0)]),
  (20, [(.iconst (1), 0, 0), (.goto 0, 4, 0)]),
  (24, [(.iconst (0), 0, 0), (.goto_w 0, 4, 0)]),
  (25, [(.ireturn, 0, 0)])]
def zB_Go_init : List (Nat × List zEnt) := [(0, [(.aload 0, 0, 0), (.nop, 0, 0), (.aload 0, 0, 0), (.iconst (4), 0, 0), (.newarray .int, 0, 0), (.putfield 0, 2, 1), (.aload 0, 0, 0), (.iconst (48), 0, 0), (.newarray .int, 0, 0), (.putfield 0, 2, 2), (.aload 0, 0, 0), (.aload 1, 0, 0), (.putfield 0, 2, 0), (.return_, 0, 0)])]
def zB_Go_forget : List (Nat × List zEnt) := [(0, [(.aload 0, 0, 0), (.getfield 0, 2, 1), (.iconst (0), 0, 0), (.invokestatic 0, 111, 0), (.return_, 0, 0)])]
def zB_La_init : List (Nat × List zEnt) := [(0, [(.aload 0, 0, 0), (.nop, 0, 0), (.aload 0, 0, 0), (.iconst (24), 0, 0), (.newarray .int, 0, 0), (.putfield 0, 3, 3), (.aload 0, 0, 0), (.iconst (12), 0, 0), (.newarray .int, 0, 0), (.putfield 0, 3, 4), (.aload 0, 0, 0), (.iconst (-1), 0, 0), (.putfield 0, 3, 5), (.aload 0, 0, 0), (.iconst (-1), 0, 0), (.putfield 0, 3, 6), (.aload 0, 0, 0), (.aload 1, 0, 0), (.putfield 0, 3, 0), (.aload 0, 0, 0), (.aload 2, 0, 0), (.putfield 0, 3, 1), (.aload 0, 0, 0), (.aload 3, 0, 0), (.putfield 0, 3, 2), (.return_, 0, 0)])]
def zB_La_whole : List (Nat × List zEnt) := [(0, [(.aload 0, 0, 0), (.getfield 0, 3, 3), (.iconst (0), 0, 0), (.invokestatic 0, 105, 0), (.ireturn, 0, 0)])]
def zB_La_refresh : List (Nat × List zEnt) := [(0, [(.aload 0, 0, 0), (.getfield 0, 3, 5), (.aload 0, 0, 0), (.getfield 0, 3, 0), (.getfield 0, 5, 2), (.if_icmp .ne 0, 2, 0), (.goto_w 0, 1, 0)]),
  (14, [(.aload 0, 0, 0), (.getfield 0, 3, 6), (.aload 0, 0, 0), (.getfield 0, 3, 1), (.getfield 0, 1, 1), (.if_icmp .eq 0, 8, 0), (.goto_w 0, 2, 0)]),
  (28, [(.aload 0, 0, 0), (.getfield 0, 3, 1), (.getfield 0, 1, 0), (.iconst (1), 0, 0), (.isub, 0, 0), (.istore 1, 0, 0), (.goto_w 0, 3, 0)]),
  (38, [(.iload 1, 0, 0), (.ifCond .lt 0, 7, 0), (.goto_w 0, 4, 0)]),
  (42, [(.aload 0, 0, 0), (.getfield 0, 3, 1), (.iload 1, 0, 0), (.invokevirtual 0, 11, 0), (.ifCond .eq 0, 6, 0), (.goto_w 0, 5, 0)]),
  (53, [(.aload 0, 0, 0), (.getfield 0, 3, 2), (.aload 0, 0, 0), (.getfield 0, 3, 1), (.iload 1, 0, 0), (.invokevirtual 0, 10, 0), (.invokevirtual 0, 67, 0), (.goto_w 0, 6, 0)]),
  (68, [(.aload 0, 0, 0), (.getfield 0, 3, 3), (.iload 1, 0, 0), (.aload 0, 0, 0), (.iload 1, 0, 0), (.invokevirtual 0, 20, 0), (.invokestatic 0, 106, 0), (.iinc 1 (-1), 0, 0), (.goto 0, 3, 0)]),
  (87, [(.aload 0, 0, 0), (.aload 0, 0, 0), (.getfield 0, 3, 0), (.getfield 0, 5, 2), (.putfield 0, 3, 5), (.aload 0, 0, 0), (.aload 0, 0, 0), (.getfield 0, 3, 1), (.getfield 0, 1, 1), (.putfield 0, 3, 6), (.goto_w 0, 8, 0)]),
  (109, [(.return_, 0, 0)])]
def zB_La_judge : List (Nat × List zEnt) := [(0, [(.aload 0, 0, 0), (.getfield 0, 3, 3), (.aload 0, 0, 0), (.getfield 0, 3, 1), (.iload 1, 0, 0), (.invokevirtual 0, 8, 0), (.invokestatic 0, 105, 0), (.istore 2, 0, 0), (.aload 0, 0, 0), (.getfield 0, 3, 3), (.aload 0, 0, 0), (.getfield 0, 3, 1), (.iload 1, 0, 0), (.invokevirtual 0, 9, 0), (.invokestatic 0, 105, 0), (.istore 3, 0, 0), (.aload 0, 0, 0), (.getfield 0, 3, 0), (.invokevirtual 0, 36, 0), (.istore 4, 0, 0), (.aload 0, 0, 0), (.getfield 0, 3, 1), (.iload 1, 0, 0), (.invokevirtual 0, 7, 0), (.tableswitch 10 (0) (8) #[1, 2, 3, 4, 5, 6, 7, 8, 9], 0, 0)]),
  (100, [(.iload 4, 0, 0), (.ireturn, 0, 0)]),
  (103, [(.aload 0, 0, 0), (.getfield 0, 3, 0), (.aload 0, 0, 0), (.getfield 0, 3, 1), (.iload 1, 0, 0), (.invokevirtual 0, 8, 0), (.invokevirtual 0, 42, 0), (.ireturn, 0, 0)]),
  (119, [(.iload 4, 0, 0), (.iload 2, 0, 0), (.iconst (-1), 0, 0), (.ixor, 0, 0), (.iand, 0, 0), (.ireturn, 0, 0)]),
  (126, [(.iload 2, 0, 0), (.iload 3, 0, 0), (.iand, 0, 0), (.ireturn, 0, 0)]),
  (130, [(.iload 2, 0, 0), (.iload 3, 0, 0), (.ior, 0, 0), (.ireturn, 0, 0)]),
  (134, [(.aload 0, 0, 0), (.getfield 0, 3, 2), (.iload 4, 0, 0), (.iload 2, 0, 0), (.invokevirtual 0, 72, 0), (.ireturn, 0, 0)]),
  (145, [(.aload 0, 0, 0), (.iload 2, 0, 0), (.invokevirtual 0, 21, 0), (.ireturn, 0, 0)]),
  (151, [(.aload 0, 0, 0), (.iload 4, 0, 0), (.iload 2, 0, 0), (.invokevirtual 0, 22, 0), (.ireturn, 0, 0)]),
  (159, [(.aload 0, 0, 0), (.iload 2, 0, 0), (.iload 3, 0, 0), (.invokevirtual 0, 22, 0), (.ireturn, 0, 0)]),
  (166, [(.aload 0, 0, 0), (.iload 2, 0, 0), (.invokevirtual 0, 24, 0), (.ireturn, 0, 0)])]
def zB_La_always : List (Nat × List zEnt) := [(0, [(.iload 1, 0, 0), (.istore 2, 0, 0), (.iconst (0), 0, 0), (.istore 3, 0, 0), (.goto_w 0, 1, 0)]),
  (4, [(.iload 3, 0, 0), (.iconst (12), 0, 0), (.if_icmp .ge 0, 3, 0), (.goto_w 0, 2, 0)]),
  (10, [(.aload 0, 0, 0), (.getfield 0, 3, 2), (.iload 2, 0, 0), (.iload 2, 0, 0), (.invokevirtual 0, 72, 0), (.istore 2, 0, 0), (.iinc 3 (1), 0, 0), (.goto 0, 1, 0)]),
  (26, [(.iload 2, 0, 0), (.ireturn, 0, 0)])]
def zB_La_until : List (Nat × List zEnt) := [(0, [(.iload 2, 0, 0), (.istore 3, 0, 0), (.iconst (0), 0, 0), (.istore 4, 0, 0), (.goto_w 0, 1, 0)]),
  (5, [(.iload 4, 0, 0), (.iconst (12), 0, 0), (.if_icmp .ge 0, 6, 0), (.goto_w 0, 2, 0)]),
  (12, [(.aload 0, 0, 0), (.getfield 0, 3, 4), (.iload 4, 0, 0), (.iload 2, 0, 0), (.iload 4, 0, 0), (.invokestatic 0, 108, 0), (.ifCond .eq 0, 4, 0), (.goto_w 0, 3, 0)]),
  (27, [(.iconst (0), 0, 0), (.goto 0, 5, 0)]),
  (31, [(.iconst (-1), 0, 0), (.goto_w 0, 5, 0)]),
  (32, [(.invokestatic 0, 106, 0), (.iinc 4 (1), 0, 0), (.goto 0, 1, 0)]),
  (41, [(.iconst (1), 0, 0), (.istore 4, 0, 0), (.goto_w 0, 7, 0)]),
  (44, [(.iload 4, 0, 0), (.iconst (12), 0, 0), (.if_icmp .gt 0, 11, 0), (.goto_w 0, 8, 0)]),
  (51, [(.aload 0, 0, 0), (.getfield 0, 3, 2), (.iload 1, 0, 0), (.iload 3, 0, 0), (.iconst (-1), 0, 0), (.ixor, 0, 0), (.iand, 0, 0), (.iload 3, 0, 0), (.invokevirtual 0, 72, 0), (.istore 5, 0, 0), (.iload 5, 0, 0), (.ifCond .ne 0, 10, 0), (.goto_w 0, 9, 0)]),
  (71, [(.goto 0, 11, 0)]),
  (74, [(.aload 0, 0, 0), (.iload 5, 0, 0), (.iload 4, 0, 0), (.invokevirtual 0, 23, 0), (.iload 3, 0, 0), (.iload 5, 0, 0), (.ior, 0, 0), (.istore 3, 0, 0), (.iinc 4 (1), 0, 0), (.goto 0, 7, 0)]),
  (93, [(.iload 3, 0, 0), (.ireturn, 0, 0)])]
def zB_La_mark : List (Nat × List zEnt) := [(0, [(.iconst (0), 0, 0), (.istore 3, 0, 0), (.goto_w 0, 1, 0)]),
  (2, [(.iload 3, 0, 0), (.iconst (12), 0, 0), (.if_icmp .ge 0, 5, 0), (.goto_w 0, 2, 0)]),
  (8, [(.iload 1, 0, 0), (.iload 3, 0, 0), (.invokestatic 0, 108, 0), (.ifCond .eq 0, 4, 0), (.goto_w 0, 3, 0)]),
  (16, [(.aload 0, 0, 0), (.getfield 0, 3, 4), (.iload 3, 0, 0), (.iload 2, 0, 0), (.invokestatic 0, 106, 0), (.goto_w 0, 4, 0)]),
  (25, [(.iinc 3 (1), 0, 0), (.goto 0, 1, 0)]),
  (31, [(.return_, 0, 0)])]
def zB_La_again : List (Nat × List zEnt) := [(0, [(.aload 0, 0, 0), (.getfield 0, 3, 0), (.invokevirtual 0, 36, 0), (.istore 2, 0, 0), (.iconst (0), 0, 0), (.istore 3, 0, 0), (.goto_w 0, 1, 0)]),
  (10, [(.iload 3, 0, 0), (.iconst (12), 0, 0), (.if_icmp .gt 0, 5, 0), (.goto_w 0, 2, 0)]),
  (16, [(.aload 0, 0, 0), (.aload 0, 0, 0), (.getfield 0, 3, 0), (.invokevirtual 0, 36, 0), (.aload 0, 0, 0), (.getfield 0, 3, 2), (.iload 1, 0, 0), (.iload 2, 0, 0), (.invokevirtual 0, 72, 0), (.invokevirtual 0, 22, 0), (.istore 4, 0, 0), (.iload 4, 0, 0), (.iload 2, 0, 0), (.if_icmp .ne 0, 4, 0), (.goto_w 0, 3, 0)]),
  (44, [(.goto 0, 5, 0)]),
  (47, [(.iload 4, 0, 0), (.istore 2, 0, 0), (.iinc 3 (1), 0, 0), (.goto 0, 1, 0)]),
  (56, [(.iload 2, 0, 0), (.ireturn, 0, 0)])]
def zB_La_ahead : List (Nat × List zEnt) := [(0, [(.iconst (0), 0, 0), (.istore 2, 0, 0), (.iconst (0), 0, 0), (.istore 3, 0, 0), (.goto_w 0, 1, 0)]),
  (4, [(.iload 3, 0, 0), (.aload 0, 0, 0), (.getfield 0, 3, 0), (.getfield 0, 5, 0), (.if_icmp .ge 0, 6, 0), (.goto_w 0, 2, 0)]),
  (15, [(.aload 0, 0, 0), (.getfield 0, 3, 4), (.iload 3, 0, 0), (.invokestatic 0, 105, 0), (.ifCond .lt 0, 5, 0), (.goto_w 0, 3, 0)]),
  (26, [(.aload 0, 0, 0), (.getfield 0, 3, 4), (.iload 3, 0, 0), (.invokestatic 0, 105, 0), (.iload 1, 0, 0), (.if_icmp .ge 0, 5, 0), (.goto_w 0, 4, 0)]),
  (38, [(.iload 2, 0, 0), (.iconst (1), 0, 0), (.iload 3, 0, 0), (.ishl, 0, 0), (.ior, 0, 0), (.istore 2, 0, 0), (.goto_w 0, 5, 0)]),
  (44, [(.iinc 3 (1), 0, 0), (.goto 0, 1, 0)]),
  (50, [(.iload 2, 0, 0), (.ireturn, 0, 0)])]
def zB_Lo_init : List (Nat × List zEnt) := [(0, [(.aload 0, 0, 0), (.nop, 0, 0), (.aload 0, 0, 0), (.iconst (-1), 0, 0), (.putfield 0, 4, 1), (.aload 0, 0, 0), (.iconst (144), 0, 0), (.newarray .int, 0, 0), (.putfield 0, 4, 4), (.aload 0, 0, 0), (.iconst (12), 0, 0), (.newarray .int, 0, 0), (.putfield 0, 4, 5), (.aload 0, 0, 0), (.iconst (12), 0, 0), (.newarray .int, 0, 0), (.putfield 0, 4, 6), (.aload 0, 0, 0), (.iconst (156), 0, 0), (.newarray .long, 0, 0), (.putfield 0, 4, 7), (.aload 0, 0, 0), (.aload 1, 0, 0), (.putfield 0, 4, 0), (.return_, 0, 0)])]
def zB_Ne_init : List (Nat × List zEnt) := [(0, [(.aload 0, 0, 0), (.nop, 0, 0), (.aload 0, 0, 0), (.iconst (48), 0, 0), (.newarray .int, 0, 0), (.putfield 0, 5, 3), (.aload 0, 0, 0), (.iconst (48), 0, 0), (.newarray .int, 0, 0), (.putfield 0, 5, 4), (.aload 0, 0, 0), (.iconst (144), 0, 0), (.newarray .int, 0, 0), (.putfield 0, 5, 5), (.aload 0, 0, 0), (.iconst (972), 0, 0), (.newarray .int, 0, 0), (.putfield 0, 5, 6), (.aload 0, 0, 0), (.iconst (12), 0, 0), (.newarray .int, 0, 0), (.putfield 0, 5, 7), (.aload 0, 0, 0), (.iconst (48), 0, 0), (.newarray .int, 0, 0), (.putfield 0, 5, 8), (.aload 0, 0, 0), (.iconst (4), 0, 0), (.iconst (2), 0, 0), (.invokevirtual 0, 28, 0), (.return_, 0, 0)])]
def zB_Ne_begin : List (Nat × List zEnt) := [(0, [(.aload 0, 0, 0), (.iload 1, 0, 0), (.putfield 0, 5, 0), (.aload 0, 0, 0), (.iload 2, 0, 0), (.putfield 0, 5, 1), (.aload 0, 0, 0), (.getfield 0, 5, 3), (.iconst (1), 0, 0), (.invokestatic 0, 111, 0), (.aload 0, 0, 0), (.getfield 0, 5, 7), (.iconst (0), 0, 0), (.invokestatic 0, 111, 0), (.iconst (0), 0, 0), (.istore 3, 0, 0), (.goto_w 0, 1, 0)]),
  (28, [(.iload 3, 0, 0), (.iconst (12), 0, 0), (.if_icmp .ge 0, 6, 0), (.goto_w 0, 2, 0)]),
  (34, [(.aload 0, 0, 0), (.iload 3, 0, 0), (.invokevirtual 0, 29, 0), (.iconst (0), 0, 0), (.istore 4, 0, 0), (.goto_w 0, 3, 0)]),
  (42, [(.iload 4, 0, 0), (.iconst (4), 0, 0), (.if_icmp .ge 0, 5, 0), (.goto_w 0, 4, 0)]),
  (48, [(.aload 0, 0, 0), (.getfield 0, 5, 8), (.iload 4, 0, 0), (.iconst (12), 0, 0), (.imul, 0, 0), (.iload 3, 0, 0), (.iadd, 0, 0), (.iload 3, 0, 0), (.invokestatic 0, 106, 0), (.iinc 4 (1), 0, 0), (.goto 0, 3, 0)]),
  (69, [(.iinc 3 (1), 0, 0), (.goto 0, 1, 0)]),
  (75, [(.aload 0, 0, 0), (.dup, 0, 0), (.getfield 0, 5, 2), (.iconst (1), 0, 0), (.iadd, 0, 0), (.putfield 0, 5, 2), (.return_, 0, 0)])]
def zB_Ne_leadBack : List (Nat × List zEnt) := [(0, [(.iconst (0), 0, 0), (.istore 2, 0, 0), (.goto_w 0, 1, 0)]),
  (2, [(.iload 2, 0, 0), (.iconst (81), 0, 0), (.if_icmp .ge 0, 3, 0), (.goto_w 0, 2, 0)]),
  (8, [(.aload 0, 0, 0), (.getfield 0, 5, 6), (.iload 1, 0, 0), (.iconst (81), 0, 0), (.imul, 0, 0), (.iload 2, 0, 0), (.iadd, 0, 0), (.iload 1, 0, 0), (.invokestatic 0, 106, 0), (.iinc 2 (1), 0, 0), (.goto 0, 1, 0)]),
  (28, [(.iconst (0), 0, 0), (.istore 2, 0, 0), (.goto_w 0, 4, 0)]),
  (30, [(.iload 2, 0, 0), (.iconst (4), 0, 0), (.if_icmp .ge 0, 6, 0), (.goto_w 0, 5, 0)]),
  (35, [(.aload 0, 0, 0), (.getfield 0, 5, 4), (.iload 1, 0, 0), (.iconst (4), 0, 0), (.imul, 0, 0), (.iload 2, 0, 0), (.iadd, 0, 0), (.iconst (0), 0, 0), (.invokestatic 0, 106, 0), (.iinc 2 (1), 0, 0), (.goto 0, 4, 0)]),
  (54, [(.iconst (0), 0, 0), (.istore 2, 0, 0), (.goto_w 0, 7, 0)]),
  (56, [(.iload 2, 0, 0), (.iconst (12), 0, 0), (.if_icmp .ge 0, 9, 0), (.goto_w 0, 8, 0)]),
  (62, [(.aload 0, 0, 0), (.getfield 0, 5, 5), (.iload 1, 0, 0), (.iconst (4), 0, 0), (.imul, 0, 0), (.iconst (3), 0, 0), (.imul, 0, 0), (.iload 2, 0, 0), (.iadd, 0, 0), (.iconst (0), 0, 0), (.invokestatic 0, 106, 0), (.iinc 2 (1), 0, 0), (.goto 0, 7, 0)]),
  (83, [(.return_, 0, 0)])]
def zB_Ne_hasState : List (Nat × List zEnt) := [(0, [(.iload 1, 0, 0), (.ifCond .lt 0, 3, 0), (.goto_w 0, 1, 0)]),
  (4, [(.iload 1, 0, 0), (.aload 0, 0, 0), (.getfield 0, 5, 0), (.if_icmp .ge 0, 3, 0), (.goto_w 0, 2, 0)]),
  (12, [(.iconst (1), 0, 0), (.goto 0, 4, 0)]),
  (16, [(.iconst (0), 0, 0), (.goto_w 0, 4, 0)]),
  (17, [(.ireturn, 0, 0)])]
def zB_Ne_hasPlayer : List (Nat × List zEnt) := [(0, [(.iload 1, 0, 0), (.ifCond .lt 0, 3, 0), (.goto_w 0, 1, 0)]),
  (4, [(.iload 1, 0, 0), (.aload 0, 0, 0), (.getfield 0, 5, 1), (.if_icmp .ge 0, 3, 0), (.goto_w 0, 2, 0)]),
  (12, [(.iconst (1), 0, 0), (.goto 0, 4, 0)]),
  (16, [(.iconst (0), 0, 0), (.goto_w 0, 4, 0)]),
  (17, [(.ireturn, 0, 0)])]
def zB_Ne_hasGroup : List (Nat × List zEnt) := [(0, [(.iload 1, 0, 0), (.ifCond .lt 0, 3, 0), (.goto_w 0, 1, 0)]),
  (4, [(.iload 1, 0, 0), (.aload 0, 0, 0), (.invokevirtual 0, 35, 0), (.if_icmp .gt 0, 3, 0), (.goto_w 0, 2, 0)]),
  (12, [(.iconst (1), 0, 0), (.goto 0, 4, 0)]),
  (16, [(.iconst (0), 0, 0), (.goto_w 0, 4, 0)]),
  (17, [(.ireturn, 0, 0)])]
def zB_Ne_hasMove : List (Nat × List zEnt) := [(0, [(.aload 0, 0, 0), (.iload 1, 0, 0), (.invokevirtual 0, 30, 0), (.ifCond .eq 0, 5, 0), (.goto_w 0, 1, 0)]),
  (8, [(.aload 0, 0, 0), (.iload 2, 0, 0), (.invokevirtual 0, 31, 0), (.ifCond .eq 0, 5, 0), (.goto_w 0, 2, 0)]),
  (16, [(.iload 3, 0, 0), (.ifCond .lt 0, 5, 0), (.goto_w 0, 3, 0)]),
  (20, [(.iload 3, 0, 0), (.aload 0, 0, 0), (.iload 1, 0, 0), (.iload 2, 0, 0), (.invokevirtual 0, 37, 0), (.if_icmp .ge 0, 5, 0), (.goto_w 0, 4, 0)]),
  (30, [(.iconst (1), 0, 0), (.goto 0, 6, 0)]),
  (34, [(.iconst (0), 0, 0), (.goto_w 0, 6, 0)]),
  (35, [(.ireturn, 0, 0)])]
def zB_Ne_hasJoint : List (Nat × List zEnt) := [(0, [(.aload 0, 0, 0), (.iload 1, 0, 0), (.invokevirtual 0, 30, 0), (.ifCond .eq 0, 4, 0), (.goto_w 0, 1, 0)]),
  (8, [(.iload 2, 0, 0), (.ifCond .lt 0, 4, 0), (.goto_w 0, 2, 0)]),
  (12, [(.iload 2, 0, 0), (.aload 0, 0, 0), (.iload 1, 0, 0), (.aload 0, 0, 0), (.invokevirtual 0, 35, 0), (.invokevirtual 0, 43, 0), (.if_icmp .ge 0, 4, 0), (.goto_w 0, 3, 0)]),
  (25, [(.iconst (1), 0, 0), (.goto 0, 5, 0)]),
  (29, [(.iconst (0), 0, 0), (.goto_w 0, 5, 0)]),
  (30, [(.ireturn, 0, 0)])]
def zB_Ne_everyone : List (Nat × List zEnt) := [(0, [(.iconst (1), 0, 0), (.aload 0, 0, 0), (.getfield 0, 5, 1), (.ishl, 0, 0), (.iconst (1), 0, 0), (.isub, 0, 0), (.ireturn, 0, 0)])]
def zB_Ne_everywhere : List (Nat × List zEnt) := [(0, [(.iconst (1), 0, 0), (.aload 0, 0, 0), (.getfield 0, 5, 0), (.ishl, 0, 0), (.iconst (1), 0, 0), (.isub, 0, 0), (.ireturn, 0, 0)])]
def zB_Ne_movesOf : List (Nat × List zEnt) := [(0, [(.aload 0, 0, 0), (.getfield 0, 5, 3), (.iload 1, 0, 0), (.iconst (4), 0, 0), (.imul, 0, 0), (.iload 2, 0, 0), (.iadd, 0, 0), (.invokestatic 0, 105, 0), (.ireturn, 0, 0)])]
def zB_Ne_target : List (Nat × List zEnt) := [(0, [(.aload 0, 0, 0), (.getfield 0, 5, 6), (.iload 1, 0, 0), (.iconst (81), 0, 0), (.imul, 0, 0), (.iload 2, 0, 0), (.iadd, 0, 0), (.invokestatic 0, 105, 0), (.ireturn, 0, 0)])]
def zB_Ne_changeMoves : List (Nat × List zEnt) := [(0, [(.aload 0, 0, 0), (.dup, 0, 0), (.getfield 0, 5, 2), (.iconst (1), 0, 0), (.iadd, 0, 0), (.putfield 0, 5, 2), (.aload 0, 0, 0), (.iload 1, 0, 0), (.invokevirtual 0, 29, 0), (.aload 0, 0, 0), (.getfield 0, 5, 3), (.iload 1, 0, 0), (.iconst (4), 0, 0), (.imul, 0, 0), (.iload 2, 0, 0), (.iadd, 0, 0), (.iload 3, 0, 0), (.invokestatic 0, 107, 0), (.ireturn, 0, 0)])]
def zB_Ne_changeTarget : List (Nat × List zEnt) := [(0, [(.aload 0, 0, 0), (.dup, 0, 0), (.getfield 0, 5, 2), (.iconst (1), 0, 0), (.iadd, 0, 0), (.putfield 0, 5, 2), (.aload 0, 0, 0), (.getfield 0, 5, 6), (.iload 1, 0, 0), (.iconst (81), 0, 0), (.imul, 0, 0), (.iload 2, 0, 0), (.iadd, 0, 0), (.iload 3, 0, 0), (.invokestatic 0, 107, 0), (.ireturn, 0, 0)])]
def zB_Ne_changeLetters : List (Nat × List zEnt) := [(0, [(.aload 0, 0, 0), (.dup, 0, 0), (.getfield 0, 5, 2), (.iconst (1), 0, 0), (.iadd, 0, 0), (.putfield 0, 5, 2), (.aload 0, 0, 0), (.getfield 0, 5, 7), (.iload 1, 0, 0), (.iload 2, 0, 0), (.invokestatic 0, 107, 0), (.ireturn, 0, 0)])]
def zB_Ne_bearing : List (Nat × List zEnt) := [(0, [(.iconst (0), 0, 0), (.istore 2, 0, 0), (.iconst (0), 0, 0), (.istore 3, 0, 0), (.goto_w 0, 1, 0)]),
  (4, [(.iload 3, 0, 0), (.aload 0, 0, 0), (.getfield 0, 5, 0), (.if_icmp .ge 0, 5, 0), (.goto_w 0, 2, 0)]),
  (12, [(.aload 0, 0, 0), (.getfield 0, 5, 7), (.iload 3, 0, 0), (.invokestatic 0, 105, 0), (.iload 1, 0, 0), (.invokestatic 0, 108, 0), (.ifCond .eq 0, 4, 0), (.goto_w 0, 3, 0)]),
  (27, [(.iload 2, 0, 0), (.iconst (1), 0, 0), (.iload 3, 0, 0), (.ishl, 0, 0), (.ior, 0, 0), (.istore 2, 0, 0), (.goto_w 0, 4, 0)]),
  (33, [(.iinc 3 (1), 0, 0), (.goto 0, 1, 0)]),
  (39, [(.iload 2, 0, 0), (.ireturn, 0, 0)])]
def zB_Ne_ways : List (Nat × List zEnt) := [(0, [(.iconst (1), 0, 0), (.istore 3, 0, 0), (.iconst (0), 0, 0), (.istore 4, 0, 0), (.goto_w 0, 1, 0)]),
  (5, [(.iload 4, 0, 0), (.aload 0, 0, 0), (.getfield 0, 5, 1), (.if_icmp .ge 0, 5, 0), (.goto_w 0, 2, 0)]),
  (14, [(.iload 2, 0, 0), (.iload 4, 0, 0), (.invokestatic 0, 108, 0), (.ifCond .eq 0, 4, 0), (.goto_w 0, 3, 0)]),
  (23, [(.iload 3, 0, 0), (.aload 0, 0, 0), (.iload 1, 0, 0), (.iload 4, 0, 0), (.invokevirtual 0, 37, 0), (.imul, 0, 0), (.istore 3, 0, 0), (.goto_w 0, 4, 0)]),
  (33, [(.iinc 4 (1), 0, 0), (.goto 0, 1, 0)]),
  (39, [(.iload 3, 0, 0), (.ireturn, 0, 0)])]
def zB_Ne_together : List (Nat × List zEnt) := [(0, [(.iload 3, 0, 0), (.istore 5, 0, 0), (.iload 4, 0, 0), (.istore 6, 0, 0), (.iconst (0), 0, 0), (.istore 7, 0, 0), (.iconst (1), 0, 0), (.istore 8, 0, 0), (.aload 0, 0, 0), (.getfield 0, 5, 1), (.iconst (1), 0, 0), (.isub, 0, 0), (.istore 9, 0, 0), (.goto_w 0, 1, 0)]),
  (21, [(.iload 9, 0, 0), (.ifCond .lt 0, 6, 0), (.goto_w 0, 2, 0)]),
  (26, [(.aload 0, 0, 0), (.iload 1, 0, 0), (.iload 9, 0, 0), (.invokevirtual 0, 37, 0), (.istore 10, 0, 0), (.iload 2, 0, 0), (.iload 9, 0, 0), (.invokestatic 0, 108, 0), (.ifCond .eq 0, 4, 0), (.goto_w 0, 3, 0)]),
  (44, [(.iload 7, 0, 0), (.iload 5, 0, 0), (.iload 10, 0, 0), (.invokestatic 0, 110, 0), (.iload 8, 0, 0), (.imul, 0, 0), (.iadd, 0, 0), (.istore 7, 0, 0), (.iload 5, 0, 0), (.iload 10, 0, 0), (.invokestatic 0, 109, 0), (.istore 5, 0, 0), (.goto 0, 5, 0)]),
  (71, [(.iload 7, 0, 0), (.iload 6, 0, 0), (.iload 10, 0, 0), (.invokestatic 0, 110, 0), (.iload 8, 0, 0), (.imul, 0, 0), (.iadd, 0, 0), (.istore 7, 0, 0), (.iload 6, 0, 0), (.iload 10, 0, 0), (.invokestatic 0, 109, 0), (.istore 6, 0, 0), (.goto_w 0, 5, 0)]),
  (95, [(.iload 8, 0, 0), (.iload 10, 0, 0), (.imul, 0, 0), (.istore 8, 0, 0), (.iinc 9 (-1), 0, 0), (.goto 0, 1, 0)]),
  (108, [(.iload 7, 0, 0), (.ireturn, 0, 0)])]
def zB_Ne_sumOfPrices : List (Nat × List zEnt) := [(0, [(.iload 3, 0, 0), (.istore 4, 0, 0), (.iconst (0), 0, 0), (.istore 5, 0, 0), (.aload 0, 0, 0), (.getfield 0, 5, 1), (.iconst (1), 0, 0), (.isub, 0, 0), (.istore 6, 0, 0), (.goto_w 0, 1, 0)]),
  (14, [(.iload 6, 0, 0), (.ifCond .lt 0, 5, 0), (.goto_w 0, 2, 0)]),
  (19, [(.iload 2, 0, 0), (.iload 6, 0, 0), (.invokestatic 0, 108, 0), (.ifCond .eq 0, 4, 0), (.goto_w 0, 3, 0)]),
  (28, [(.aload 0, 0, 0), (.iload 1, 0, 0), (.iload 6, 0, 0), (.invokevirtual 0, 37, 0), (.istore 7, 0, 0), (.iload 5, 0, 0), (.aload 0, 0, 0), (.getfield 0, 5, 5), (.iload 1, 0, 0), (.iconst (4), 0, 0), (.imul, 0, 0), (.iload 6, 0, 0), (.iadd, 0, 0), (.iconst (3), 0, 0), (.imul, 0, 0), (.iload 4, 0, 0), (.iload 7, 0, 0), (.invokestatic 0, 110, 0), (.iadd, 0, 0), (.invokestatic 0, 105, 0), (.iadd, 0, 0), (.istore 5, 0, 0), (.iload 4, 0, 0), (.iload 7, 0, 0), (.invokestatic 0, 109, 0), (.istore 4, 0, 0), (.goto_w 0, 4, 0)]),
  (74, [(.iinc 6 (-1), 0, 0), (.goto 0, 1, 0)]),
  (80, [(.iload 5, 0, 0), (.ireturn, 0, 0)])]
def zB_Pl_init : List (Nat × List zEnt) := [(0, [(.aload 0, 0, 0), (.nop, 0, 0), (.aload 0, 0, 0), (.iconst (12), 0, 0), (.newarray .int, 0, 0), (.putfield 0, 6, 4), (.aload 0, 0, 0), (.iconst (41), 0, 0), (.newarray .int, 0, 0), (.putfield 0, 6, 5), (.aload 0, 0, 0), (.aload 1, 0, 0), (.putfield 0, 6, 0), (.aload 0, 0, 0), (.aload 2, 0, 0), (.putfield 0, 6, 1), (.aload 0, 0, 0), (.aload 3, 0, 0), (.putfield 0, 6, 2), (.aload 0, 0, 0), (.aload 4, 0, 0), (.putfield 0, 6, 3), (.return_, 0, 0)])]
def zB_Pl_move : List (Nat × List zEnt) := [(0, [(.aload 0, 0, 0), (.getfield 0, 6, 3), (.invokevirtual 0, 18, 0), (.iload 1, 0, 0), (.invokestatic 0, 108, 0), (.ifCond .ne 0, 2, 0), (.goto_w 0, 1, 0)]),
  (14, [(.iconst (-4), 0, 0), (.ireturn, 0, 0)]),
  (17, [(.aload 0, 0, 0), (.getfield 0, 6, 2), (.iload 1, 0, 0), (.aload 0, 0, 0), (.iload 1, 0, 0), (.invokevirtual 0, 48, 0), (.invokevirtual 0, 71, 0), (.istore 2, 0, 0), (.iload 2, 0, 0), (.ifCond .ge 0, 4, 0), (.goto_w 0, 3, 0)]),
  (35, [(.iconst (-4), 0, 0), (.goto 0, 5, 0)]),
  (40, [(.iload 2, 0, 0), (.goto_w 0, 5, 0)]),
  (41, [(.ireturn, 0, 0)])]
def zB_Pl_aim : List (Nat × List zEnt) := [(0, [(.aload 0, 0, 0), (.getfield 0, 6, 3), (.getfield 0, 3, 4), (.iload 1, 0, 0), (.invokestatic 0, 105, 0), (.istore 2, 0, 0), (.aload 0, 0, 0), (.getfield 0, 6, 1), (.iconst (0), 0, 0), (.invokevirtual 0, 7, 0), (.tableswitch 7 (5) (9) #[1, 2, 7, 7, 3], 0, 0)]),
  (56, [(.aload 0, 0, 0), (.getfield 0, 6, 3), (.getfield 0, 3, 3), (.aload 0, 0, 0), (.getfield 0, 6, 1), (.iconst (0), 0, 0), (.invokevirtual 0, 8, 0), (.invokestatic 0, 105, 0), (.ireturn, 0, 0)]),
  (75, [(.aload 0, 0, 0), (.getfield 0, 6, 3), (.invokevirtual 0, 18, 0), (.ireturn, 0, 0)]),
  (83, [(.iload 2, 0, 0), (.ifCond .ne 0, 5, 0), (.goto_w 0, 4, 0)]),
  (87, [(.aload 0, 0, 0), (.getfield 0, 6, 3), (.invokevirtual 0, 18, 0), (.goto 0, 6, 0)]),
  (97, [(.aload 0, 0, 0), (.getfield 0, 6, 3), (.iload 2, 0, 0), (.invokevirtual 0, 25, 0), (.goto_w 0, 6, 0)]),
  (105, [(.ireturn, 0, 0)]),
  (106, [(.aload 0, 0, 0), (.getfield 0, 6, 3), (.iload 2, 0, 0), (.invokevirtual 0, 25, 0), (.ireturn, 0, 0)])]
def zB_Pl_hinder : List (Nat × List zEnt) := [(0, [(.aload 0, 0, 0), (.getfield 0, 6, 1), (.iconst (0), 0, 0), (.invokevirtual 0, 10, 0), (.istore 3, 0, 0), (.aload 0, 0, 0), (.getfield 0, 6, 1), (.iconst (0), 0, 0), (.invokevirtual 0, 7, 0), (.iconst (5), 0, 0), (.if_icmp .ne 0, 2, 0), (.goto_w 0, 1, 0)]),
  (21, [(.aload 0, 0, 0), (.getfield 0, 6, 3), (.getfield 0, 3, 3), (.aload 0, 0, 0), (.getfield 0, 6, 1), (.iconst (0), 0, 0), (.invokevirtual 0, 8, 0), (.invokestatic 0, 105, 0), (.goto 0, 3, 0)]),
  (42, [(.aload 0, 0, 0), (.getfield 0, 6, 3), (.invokevirtual 0, 18, 0), (.goto_w 0, 3, 0)]),
  (49, [(.istore 4, 0, 0), (.aload 0, 0, 0), (.getfield 0, 6, 0), (.iload 1, 0, 0), (.aload 0, 0, 0), (.getfield 0, 6, 0), (.invokevirtual 0, 35, 0), (.iload 3, 0, 0), (.iconst (-1), 0, 0), (.ixor, 0, 0), (.iand, 0, 0), (.invokevirtual 0, 43, 0), (.istore 5, 0, 0), (.iconst (0), 0, 0), (.istore 6, 0, 0), (.goto_w 0, 4, 0)]),
  (75, [(.iload 6, 0, 0), (.iload 5, 0, 0), (.if_icmp .ge 0, 8, 0), (.goto_w 0, 5, 0)]),
  (82, [(.iload 4, 0, 0), (.aload 0, 0, 0), (.getfield 0, 6, 0), (.iload 1, 0, 0), (.aload 0, 0, 0), (.getfield 0, 6, 0), (.iload 1, 0, 0), (.iload 3, 0, 0), (.iload 2, 0, 0), (.iload 6, 0, 0), (.invokevirtual 0, 44, 0), (.invokevirtual 0, 38, 0), (.invokestatic 0, 108, 0), (.ifCond .ne 0, 7, 0), (.goto_w 0, 6, 0)]),
  (110, [(.iload 6, 0, 0), (.ireturn, 0, 0)]),
  (113, [(.iinc 6 (1), 0, 0), (.goto 0, 4, 0)]),
  (119, [(.iconst (-4), 0, 0), (.ireturn, 0, 0)])]
def zB_Pl_leastSum : List (Nat × List zEnt) := [(0, [(.iconst (0), 0, 0), (.istore 2, 0, 0), (.goto_w 0, 1, 0)]),
  (2, [(.iload 2, 0, 0), (.iconst (12), 0, 0), (.if_icmp .ge 0, 3, 0), (.goto_w 0, 2, 0)]),
  (8, [(.aload 0, 0, 0), (.getfield 0, 6, 4), (.iload 2, 0, 0), (.iconst (1000000), 0, 0), (.invokestatic 0, 106, 0), (.iinc 2 (1), 0, 0), (.goto 0, 1, 0)]),
  (24, [(.iconst (0), 0, 0), (.istore 2, 0, 0), (.goto_w 0, 4, 0)]),
  (26, [(.iload 2, 0, 0), (.aload 0, 0, 0), (.getfield 0, 6, 0), (.getfield 0, 5, 0), (.if_icmp .gt 0, 14, 0), (.goto_w 0, 5, 0)]),
  (37, [(.iconst (0), 0, 0), (.istore 3, 0, 0), (.goto_w 0, 6, 0)]),
  (39, [(.iload 3, 0, 0), (.aload 0, 0, 0), (.getfield 0, 6, 0), (.getfield 0, 5, 0), (.if_icmp .ge 0, 13, 0), (.goto_w 0, 7, 0)]),
  (50, [(.aload 0, 0, 0), (.getfield 0, 6, 3), (.invokevirtual 0, 18, 0), (.iload 3, 0, 0), (.invokestatic 0, 108, 0), (.ifCond .eq 0, 12, 0), (.goto_w 0, 8, 0)]),
  (64, [(.aload 0, 0, 0), (.getfield 0, 6, 4), (.iload 3, 0, 0), (.aload 0, 0, 0), (.getfield 0, 6, 3), (.getfield 0, 3, 4), (.iload 3, 0, 0), (.invokestatic 0, 105, 0), (.ifCond .ne 0, 10, 0), (.goto_w 0, 9, 0)]),
  (83, [(.iconst (0), 0, 0), (.goto 0, 11, 0)]),
  (87, [(.aload 0, 0, 0), (.iload 3, 0, 0), (.invokevirtual 0, 51, 0), (.goto_w 0, 11, 0)]),
  (92, [(.invokestatic 0, 106, 0), (.goto_w 0, 12, 0)]),
  (95, [(.iinc 3 (1), 0, 0), (.goto 0, 6, 0)]),
  (101, [(.iinc 2 (1), 0, 0), (.goto 0, 4, 0)]),
  (107, [(.aload 0, 0, 0), (.getfield 0, 6, 4), (.iload 1, 0, 0), (.invokestatic 0, 105, 0), (.ireturn, 0, 0)])]
def zB_Pl_cheapest : List (Nat × List zEnt) := [(0, [(.iconst (1000000), 0, 0), (.istore 2, 0, 0), (.aload 0, 0, 0), (.getfield 0, 6, 2), (.getfield 0, 8, 2), (.iload 1, 0, 0), (.invokestatic 0, 105, 0), (.istore 3, 0, 0), (.iconst (0), 0, 0), (.istore 4, 0, 0), (.goto_w 0, 1, 0)]),
  (18, [(.iload 4, 0, 0), (.iload 3, 0, 0), (.if_icmp .ge 0, 3, 0), (.goto_w 0, 2, 0)]),
  (24, [(.aload 0, 0, 0), (.getfield 0, 6, 0), (.iload 1, 0, 0), (.aload 0, 0, 0), (.getfield 0, 6, 1), (.iconst (0), 0, 0), (.invokevirtual 0, 10, 0), (.iload 4, 0, 0), (.invokevirtual 0, 45, 0), (.aload 0, 0, 0), (.aload 0, 0, 0), (.getfield 0, 6, 2), (.iload 1, 0, 0), (.iload 4, 0, 0), (.invokevirtual 0, 70, 0), (.invokevirtual 0, 52, 0), (.iadd, 0, 0), (.istore 5, 0, 0), (.iload 2, 0, 0), (.iload 5, 0, 0), (.fsub, 0, 0), (.istore 2, 0, 0), (.iinc 4 (1), 0, 0), (.goto 0, 1, 0)]),
  (72, [(.iload 2, 0, 0), (.ireturn, 0, 0)])]
def zB_Pl_worst : List (Nat × List zEnt) := [(0, [(.iconst (0), 0, 0), (.istore 2, 0, 0), (.iconst (0), 0, 0), (.istore 3, 0, 0), (.goto_w 0, 1, 0)]),
  (4, [(.iload 3, 0, 0), (.aload 0, 0, 0), (.getfield 0, 6, 0), (.getfield 0, 5, 0), (.if_icmp .ge 0, 5, 0), (.goto_w 0, 2, 0)]),
  (15, [(.iload 1, 0, 0), (.iload 3, 0, 0), (.invokestatic 0, 108, 0), (.ifCond .eq 0, 4, 0), (.goto_w 0, 3, 0)]),
  (23, [(.iload 2, 0, 0), (.aload 0, 0, 0), (.getfield 0, 6, 4), (.iload 3, 0, 0), (.invokestatic 0, 105, 0), (.fadd, 0, 0), (.istore 2, 0, 0), (.goto_w 0, 4, 0)]),
  (36, [(.iinc 3 (1), 0, 0), (.goto 0, 1, 0)]),
  (42, [(.iload 2, 0, 0), (.ireturn, 0, 0)])]
def zB_Pl_forget : List (Nat × List zEnt) := [(0, [(.aload 0, 0, 0), (.iconst (0), 0, 0), (.putfield 0, 6, 6), (.return_, 0, 0)])]
def zB_Pl_startWalk : List (Nat × List zEnt) := [(0, [(.aload 0, 0, 0), (.getfield 0, 6, 5), (.iconst (0), 0, 0), (.iload 1, 0, 0), (.invokestatic 0, 106, 0), (.aload 0, 0, 0), (.iconst (1), 0, 0), (.putfield 0, 6, 6), (.return_, 0, 0)])]
def zB_Pl_goOn : List (Nat × List zEnt) := [(0, [(.aload 0, 0, 0), (.getfield 0, 6, 5), (.aload 0, 0, 0), (.getfield 0, 6, 6), (.iconst (1), 0, 0), (.isub, 0, 0), (.invokestatic 0, 105, 0), (.istore 2, 0, 0), (.aload 0, 0, 0), (.getfield 0, 6, 1), (.iconst (0), 0, 0), (.invokevirtual 0, 10, 0), (.istore 3, 0, 0), (.iload 1, 0, 0), (.aload 0, 0, 0), (.getfield 0, 6, 0), (.iload 2, 0, 0), (.aload 0, 0, 0), (.getfield 0, 6, 0), (.invokevirtual 0, 35, 0), (.iload 3, 0, 0), (.iconst (-1), 0, 0), (.ixor, 0, 0), (.iand, 0, 0), (.invokevirtual 0, 43, 0), (.invokestatic 0, 110, 0), (.istore 4, 0, 0), (.aload 0, 0, 0), (.iload 2, 0, 0), (.invokevirtual 0, 47, 0), (.iconst (0), 0, 0), (.fadd, 0, 0), (.istore 5, 0, 0), (.aload 0, 0, 0), (.getfield 0, 6, 5), (.aload 0, 0, 0), (.getfield 0, 6, 6), (.aload 0, 0, 0), (.getfield 0, 6, 0), (.iload 2, 0, 0), (.aload 0, 0, 0), (.getfield 0, 6, 0), (.iload 2, 0, 0), (.iload 3, 0, 0), (.iload 5, 0, 0), (.iload 4, 0, 0), (.invokevirtual 0, 44, 0), (.invokevirtual 0, 38, 0), (.invokestatic 0, 106, 0), (.aload 0, 0, 0), (.dup, 0, 0), (.getfield 0, 6, 6), (.iconst (1), 0, 0), (.iadd, 0, 0), (.putfield 0, 6, 6), (.return_, 0, 0)])]
def zB_Pl_behind : List (Nat × List zEnt) := [(0, [(.iload 1, 0, 0), (.ifCond .lt 0, 3, 0), (.goto_w 0, 1, 0)]),
  (4, [(.iload 1, 0, 0), (.aload 0, 0, 0), (.getfield 0, 6, 6), (.if_icmp .ge 0, 3, 0), (.goto_w 0, 2, 0)]),
  (12, [(.aload 0, 0, 0), (.getfield 0, 6, 5), (.iload 1, 0, 0), (.invokestatic 0, 105, 0), (.goto 0, 4, 0)]),
  (23, [(.iconst (-1), 0, 0), (.goto_w 0, 4, 0)]),
  (24, [(.ireturn, 0, 0)])]
def zB_Sh_init : List (Nat × List zEnt) := [(0, [(.aload 0, 0, 0), (.nop, 0, 0), (.aload 0, 0, 0), (.iconst (4), 0, 0), (.newarray .int, 0, 0), (.putfield 0, 7, 0), (.aload 0, 0, 0), (.iconst (4), 0, 0), (.newarray .int, 0, 0), (.putfield 0, 7, 1), (.aload 0, 0, 0), (.iconst (324), 0, 0), (.newarray .int, 0, 0), (.putfield 0, 7, 2), (.aload 0, 0, 0), (.getfield 0, 7, 0), (.iconst (-1), 0, 0), (.invokestatic 0, 111, 0), (.return_, 0, 0)])]
def zB_Sh_hasPlace : List (Nat × List zEnt) := [(0, [(.iload 1, 0, 0), (.ifCond .lt 0, 5, 0), (.goto_w 0, 1, 0)]),
  (4, [(.iload 1, 0, 0), (.iconst (4), 0, 0), (.if_icmp .ge 0, 5, 0), (.goto_w 0, 2, 0)]),
  (9, [(.iload 2, 0, 0), (.ifCond .lt 0, 5, 0), (.goto_w 0, 3, 0)]),
  (13, [(.iload 2, 0, 0), (.iconst (3), 0, 0), (.if_icmp .ge 0, 5, 0), (.goto_w 0, 4, 0)]),
  (18, [(.iconst (1), 0, 0), (.goto 0, 6, 0)]),
  (22, [(.iconst (0), 0, 0), (.goto_w 0, 6, 0)]),
  (23, [(.ireturn, 0, 0)])]
def zB_Sh_isEmptyPlace : List (Nat × List zEnt) := [(0, [(.aload 0, 0, 0), (.getfield 0, 7, 0), (.iload 1, 0, 0), (.invokestatic 0, 105, 0), (.iconst (-1), 0, 0), (.if_icmp .ne 0, 2, 0), (.goto_w 0, 1, 0)]),
  (12, [(.iconst (1), 0, 0), (.goto 0, 3, 0)]),
  (16, [(.iconst (0), 0, 0), (.goto_w 0, 3, 0)]),
  (17, [(.ireturn, 0, 0)])]
def zB_Sh_hasItems : List (Nat × List zEnt) := [(0, [(.aload 0, 0, 0), (.getfield 0, 7, 1), (.iload 1, 0, 0), (.invokestatic 0, 105, 0), (.istore 4, 0, 0), (.iload 3, 0, 0), (.ifCond .lt 0, 5, 0), (.goto_w 0, 1, 0)]),
  (14, [(.iload 2, 0, 0), (.ifCond .lt 0, 5, 0), (.goto_w 0, 2, 0)]),
  (18, [(.iload 2, 0, 0), (.iload 4, 0, 0), (.if_icmp .gt 0, 5, 0), (.goto_w 0, 3, 0)]),
  (24, [(.iload 3, 0, 0), (.iload 4, 0, 0), (.iload 2, 0, 0), (.isub, 0, 0), (.if_icmp .gt 0, 5, 0), (.goto_w 0, 4, 0)]),
  (32, [(.iconst (1), 0, 0), (.goto 0, 6, 0)]),
  (36, [(.iconst (0), 0, 0), (.goto_w 0, 6, 0)]),
  (37, [(.ireturn, 0, 0)])]
def zB_Sh_wrong : List (Nat × List zEnt) := [(0, [(.aload 0, 0, 0), (.iload 1, 0, 0), (.invokevirtual 0, 59, 0), (.ifCond .eq 0, 2, 0), (.goto_w 0, 1, 0)]),
  (8, [(.iconst (-11), 0, 0), (.ireturn, 0, 0)]),
  (11, [(.aload 0, 0, 0), (.getfield 0, 7, 0), (.iload 1, 0, 0), (.invokestatic 0, 105, 0), (.iload 2, 0, 0), (.if_icmp .eq 0, 4, 0), (.goto_w 0, 3, 0)]),
  (23, [(.iconst (-12), 0, 0), (.ireturn, 0, 0)]),
  (26, [(.aload 0, 0, 0), (.iload 1, 0, 0), (.iload 3, 0, 0), (.iload 4, 0, 0), (.invokevirtual 0, 60, 0), (.ifCond .eq 0, 6, 0), (.goto_w 0, 5, 0)]),
  (37, [(.iconst (0), 0, 0), (.goto 0, 7, 0)]),
  (41, [(.iconst (-13), 0, 0), (.goto_w 0, 7, 0)]),
  (43, [(.ireturn, 0, 0)])]
def zB_Sh_start : List (Nat × List zEnt) := [(0, [(.aload 0, 0, 0), (.getfield 0, 7, 0), (.iload 1, 0, 0), (.iload 2, 0, 0), (.invokestatic 0, 106, 0), (.aload 0, 0, 0), (.getfield 0, 7, 1), (.iload 1, 0, 0), (.iload 3, 0, 0), (.invokestatic 0, 106, 0), (.iconst (0), 0, 0), (.istore 4, 0, 0), (.goto_w 0, 1, 0)]),
  (21, [(.iload 4, 0, 0), (.iconst (81), 0, 0), (.if_icmp .ge 0, 3, 0), (.goto_w 0, 2, 0)]),
  (28, [(.aload 0, 0, 0), (.getfield 0, 7, 2), (.iload 1, 0, 0), (.iconst (81), 0, 0), (.imul, 0, 0), (.iload 4, 0, 0), (.iadd, 0, 0), (.iconst (0), 0, 0), (.invokestatic 0, 106, 0), (.iinc 4 (1), 0, 0), (.goto 0, 1, 0)]),
  (49, [(.return_, 0, 0)])]
def zB_Sh_read : List (Nat × List zEnt) := [(0, [(.aload 0, 0, 0), (.getfield 0, 7, 2), (.iload 1, 0, 0), (.iconst (81), 0, 0), (.imul, 0, 0), (.iload 2, 0, 0), (.iadd, 0, 0), (.invokestatic 0, 105, 0), (.ireturn, 0, 0)])]
def zB_Sh_write : List (Nat × List zEnt) := [(0, [(.aload 0, 0, 0), (.getfield 0, 7, 2), (.iload 1, 0, 0), (.iconst (81), 0, 0), (.imul, 0, 0), (.iload 2, 0, 0), (.iadd, 0, 0), (.aload 0, 0, 0), (.getfield 0, 7, 0), (.iload 1, 0, 0), (.invokestatic 0, 105, 0), (.ifCond .ne 0, 2, 0), (.goto_w 0, 1, 0)]),
  (21, [(.iload 3, 0, 0), (.i2b, 0, 0), (.goto 0, 3, 0)]),
  (26, [(.iload 3, 0, 0), (.goto_w 0, 3, 0)]),
  (27, [(.invokestatic 0, 106, 0), (.return_, 0, 0)])]
def zB_Sh_hasBelowZero : List (Nat × List zEnt) := [(0, [(.iconst (0), 0, 0), (.istore 4, 0, 0), (.goto_w 0, 1, 0)]),
  (3, [(.iload 4, 0, 0), (.iload 3, 0, 0), (.if_icmp .ge 0, 5, 0), (.goto_w 0, 2, 0)]),
  (9, [(.aload 0, 0, 0), (.iload 1, 0, 0), (.iload 2, 0, 0), (.iload 4, 0, 0), (.iadd, 0, 0), (.invokevirtual 0, 63, 0), (.ifCond .ge 0, 4, 0), (.goto_w 0, 3, 0)]),
  (21, [(.iconst (1), 0, 0), (.ireturn, 0, 0)]),
  (23, [(.iinc 4 (1), 0, 0), (.goto 0, 1, 0)]),
  (29, [(.iconst (0), 0, 0), (.ireturn, 0, 0)])]
def zB_Ta_init : List (Nat × List zEnt) := [(0, [(.aload 0, 0, 0), (.nop, 0, 0), (.aload 0, 0, 0), (.iconst (972), 0, 0), (.newarray .int, 0, 0), (.putfield 0, 8, 1), (.aload 0, 0, 0), (.iconst (12), 0, 0), (.newarray .int, 0, 0), (.putfield 0, 8, 2), (.aload 0, 0, 0), (.iconst (81), 0, 0), (.newarray .int, 0, 0), (.putfield 0, 8, 3), (.aload 0, 0, 0), (.iconst (-1), 0, 0), (.putfield 0, 8, 4), (.aload 0, 0, 0), (.iconst (-1), 0, 0), (.putfield 0, 8, 5), (.aload 0, 0, 0), (.aload 1, 0, 0), (.putfield 0, 8, 0), (.return_, 0, 0)])]
def zB_Ta_prepare : List (Nat × List zEnt) := [(0, [(.iload 1, 0, 0), (.aload 0, 0, 0), (.getfield 0, 8, 4), (.if_icmp .ne 0, 3, 0), (.goto_w 0, 1, 0)]),
  (8, [(.aload 0, 0, 0), (.getfield 0, 8, 5), (.aload 0, 0, 0), (.getfield 0, 8, 0), (.getfield 0, 5, 2), (.if_icmp .ne 0, 3, 0), (.goto_w 0, 2, 0)]),
  (22, [(.return_, 0, 0)]),
  (23, [(.aload 0, 0, 0), (.iload 1, 0, 0), (.putfield 0, 8, 4), (.aload 0, 0, 0), (.aload 0, 0, 0), (.getfield 0, 8, 0), (.getfield 0, 5, 2), (.putfield 0, 8, 5), (.aload 0, 0, 0), (.getfield 0, 8, 1), (.iconst (0), 0, 0), (.invokestatic 0, 111, 0), (.iconst (0), 0, 0), (.istore 2, 0, 0), (.goto_w 0, 4, 0)]),
  (49, [(.iload 2, 0, 0), (.aload 0, 0, 0), (.getfield 0, 8, 0), (.getfield 0, 5, 0), (.if_icmp .ge 0, 6, 0), (.goto_w 0, 5, 0)]),
  (60, [(.aload 0, 0, 0), (.iload 2, 0, 0), (.invokevirtual 0, 68, 0), (.iinc 2 (1), 0, 0), (.goto 0, 4, 0)]),
  (71, [(.return_, 0, 0)])]
def zB_Ta_fill : List (Nat × List zEnt) := [(0, [(.aload 0, 0, 0), (.getfield 0, 8, 2), (.iload 1, 0, 0), (.aload 0, 0, 0), (.getfield 0, 8, 0), (.iload 1, 0, 0), (.aload 0, 0, 0), (.getfield 0, 8, 4), (.invokevirtual 0, 43, 0), (.invokestatic 0, 106, 0), (.aload 0, 0, 0), (.iload 1, 0, 0), (.invokevirtual 0, 69, 0), (.istore 2, 0, 0), (.iconst (0), 0, 0), (.istore 3, 0, 0), (.goto_w 0, 1, 0)]),
  (28, [(.iload 3, 0, 0), (.iload 2, 0, 0), (.if_icmp .ge 0, 3, 0), (.goto_w 0, 2, 0)]),
  (33, [(.iload 1, 0, 0), (.iconst (81), 0, 0), (.imul, 0, 0), (.aload 0, 0, 0), (.getfield 0, 8, 3), (.iload 3, 0, 0), (.invokestatic 0, 105, 0), (.iadd, 0, 0), (.istore 4, 0, 0), (.aload 0, 0, 0), (.getfield 0, 8, 1), (.iload 4, 0, 0), (.aload 0, 0, 0), (.getfield 0, 8, 1), (.iload 4, 0, 0), (.invokestatic 0, 105, 0), (.iconst (1), 0, 0), (.aload 0, 0, 0), (.getfield 0, 8, 0), (.iload 1, 0, 0), (.iload 3, 0, 0), (.invokevirtual 0, 38, 0), (.ishl, 0, 0), (.ior, 0, 0), (.invokestatic 0, 106, 0), (.iinc 3 (1), 0, 0), (.goto 0, 1, 0)]),
  (84, [(.return_, 0, 0)])]
def zB_Ta_share : List (Nat × List zEnt) := [(0, [(.iconst (1), 0, 0), (.istore 2, 0, 0), (.aload 0, 0, 0), (.getfield 0, 8, 3), (.iconst (0), 0, 0), (.iconst (0), 0, 0), (.invokestatic 0, 106, 0), (.iconst (0), 0, 0), (.istore 3, 0, 0), (.goto_w 0, 1, 0)]),
  (13, [(.iload 3, 0, 0), (.aload 0, 0, 0), (.getfield 0, 8, 0), (.getfield 0, 5, 1), (.if_icmp .ge 0, 12, 0), (.goto_w 0, 2, 0)]),
  (24, [(.aload 0, 0, 0), (.getfield 0, 8, 0), (.iload 1, 0, 0), (.iload 3, 0, 0), (.invokevirtual 0, 37, 0), (.istore 4, 0, 0), (.iload 2, 0, 0), (.iconst (1), 0, 0), (.isub, 0, 0), (.istore 5, 0, 0), (.goto_w 0, 3, 0)]),
  (40, [(.iload 5, 0, 0), (.ifCond .lt 0, 11, 0), (.goto_w 0, 4, 0)]),
  (45, [(.aload 0, 0, 0), (.getfield 0, 8, 3), (.iload 5, 0, 0), (.invokestatic 0, 105, 0), (.istore 6, 0, 0), (.iconst (0), 0, 0), (.istore 7, 0, 0), (.goto_w 0, 5, 0)]),
  (59, [(.iload 7, 0, 0), (.iload 4, 0, 0), (.if_icmp .ge 0, 10, 0), (.goto_w 0, 6, 0)]),
  (66, [(.aload 0, 0, 0), (.getfield 0, 8, 3), (.iload 5, 0, 0), (.iload 4, 0, 0), (.imul, 0, 0), (.iload 7, 0, 0), (.iadd, 0, 0), (.aload 0, 0, 0), (.getfield 0, 8, 4), (.iload 3, 0, 0), (.invokestatic 0, 108, 0), (.ifCond .eq 0, 8, 0), (.goto_w 0, 7, 0)]),
  (89, [(.iload 6, 0, 0), (.iload 4, 0, 0), (.imul, 0, 0), (.iload 7, 0, 0), (.iadd, 0, 0), (.goto 0, 9, 0)]),
  (100, [(.iload 6, 0, 0), (.goto_w 0, 9, 0)]),
  (102, [(.invokestatic 0, 106, 0), (.iinc 7 (1), 0, 0), (.goto 0, 5, 0)]),
  (111, [(.iinc 5 (-1), 0, 0), (.goto 0, 3, 0)]),
  (117, [(.iload 2, 0, 0), (.iload 4, 0, 0), (.imul, 0, 0), (.istore 2, 0, 0), (.iinc 3 (1), 0, 0), (.goto 0, 1, 0)]),
  (128, [(.iload 2, 0, 0), (.ireturn, 0, 0)])]
def zB_Ta_endsOf : List (Nat × List zEnt) := [(0, [(.aload 0, 0, 0), (.getfield 0, 8, 1), (.iload 1, 0, 0), (.iconst (81), 0, 0), (.imul, 0, 0), (.iload 2, 0, 0), (.iadd, 0, 0), (.invokestatic 0, 105, 0), (.ireturn, 0, 0)])]
def zB_Ta_leastInto : List (Nat × List zEnt) := [(0, [(.aload 0, 0, 0), (.getfield 0, 8, 2), (.iload 1, 0, 0), (.invokestatic 0, 105, 0), (.istore 3, 0, 0), (.iconst (0), 0, 0), (.istore 4, 0, 0), (.goto_w 0, 1, 0)]),
  (12, [(.iload 4, 0, 0), (.iload 3, 0, 0), (.if_icmp .ge 0, 5, 0), (.goto_w 0, 2, 0)]),
  (18, [(.aload 0, 0, 0), (.getfield 0, 8, 1), (.iload 1, 0, 0), (.iconst (81), 0, 0), (.imul, 0, 0), (.iload 4, 0, 0), (.iadd, 0, 0), (.invokestatic 0, 105, 0), (.iload 2, 0, 0), (.iconst (-1), 0, 0), (.ixor, 0, 0), (.iand, 0, 0), (.ifCond .ne 0, 4, 0), (.goto_w 0, 3, 0)]),
  (39, [(.iload 4, 0, 0), (.ireturn, 0, 0)]),
  (42, [(.iinc 4 (1), 0, 0), (.goto 0, 1, 0)]),
  (48, [(.iconst (-1), 0, 0), (.ireturn, 0, 0)])]
def zB_Ta_forcing : List (Nat × List zEnt) := [(0, [(.iconst (0), 0, 0), (.istore 3, 0, 0), (.iconst (0), 0, 0), (.istore 4, 0, 0), (.goto_w 0, 1, 0)]),
  (5, [(.iload 4, 0, 0), (.aload 0, 0, 0), (.getfield 0, 8, 0), (.getfield 0, 5, 0), (.if_icmp .ge 0, 6, 0), (.goto_w 0, 2, 0)]),
  (17, [(.iload 1, 0, 0), (.iload 4, 0, 0), (.invokestatic 0, 108, 0), (.ifCond .eq 0, 5, 0), (.goto_w 0, 3, 0)]),
  (26, [(.aload 0, 0, 0), (.iload 4, 0, 0), (.iload 2, 0, 0), (.invokevirtual 0, 71, 0), (.ifCond .lt 0, 5, 0), (.goto_w 0, 4, 0)]),
  (36, [(.iload 3, 0, 0), (.iconst (1), 0, 0), (.iload 4, 0, 0), (.ishl, 0, 0), (.ior, 0, 0), (.istore 3, 0, 0), (.goto_w 0, 5, 0)]),
  (43, [(.iinc 4 (1), 0, 0), (.goto 0, 1, 0)]),
  (49, [(.iload 3, 0, 0), (.ireturn, 0, 0)])]
def zB_Tp_init : List (Nat × List zEnt) := [(0, [(.aload 0, 0, 0), (.nop, 0, 0), (.aload 0, 0, 0), (.iconst (100), 0, 0), (.newarray .int, 0, 0), (.putfield 0, 9, 0), (.aload 0, 0, 0), (.new 0, 1, 0), (.dup, 0, 0), (.invokevirtual 0, 1, 0), (.putfield 0, 9, 1), (.return_, 0, 0)])]
def zB_Tp_add : List (Nat × List zEnt) := [(0, [(.iconst (0), 0, 0), (.istore 4, 0, 0), (.goto_w 0, 1, 0)]),
  (3, [(.iload 4, 0, 0), (.iload 3, 0, 0), (.if_icmp .ge 0, 6, 0), (.goto_w 0, 2, 0)]),
  (9, [(.lload 1, 0, 0), (.iload 4, 0, 0), (.invokestatic 0, 75, 0), (.istore 5, 0, 0), (.iload 5, 0, 0), (.iconst (32), 0, 0), (.if_icmp .lt 0, 4, 0), (.goto_w 0, 3, 0)]),
  (24, [(.iload 5, 0, 0), (.iconst (126), 0, 0), (.if_icmp .le 0, 5, 0), (.goto_w 0, 4, 0)]),
  (31, [(.iconst (-1), 0, 0), (.ireturn, 0, 0)]),
  (33, [(.iinc 4 (1), 0, 0), (.goto 0, 1, 0)]),
  (39, [(.iload 3, 0, 0), (.iconst (100), 0, 0), (.aload 0, 0, 0), (.getfield 0, 9, 2), (.isub, 0, 0), (.if_icmp .le 0, 8, 0), (.goto_w 0, 7, 0)]),
  (50, [(.iconst (-3), 0, 0), (.ireturn, 0, 0)]),
  (53, [(.iload 3, 0, 0), (.iconst (1), 0, 0), (.isub, 0, 0), (.istore 4, 0, 0), (.goto_w 0, 9, 0)]),
  (58, [(.iload 4, 0, 0), (.ifCond .lt 0, 11, 0), (.goto_w 0, 10, 0)]),
  (63, [(.aload 0, 0, 0), (.getfield 0, 9, 0), (.aload 0, 0, 0), (.getfield 0, 9, 2), (.lload 1, 0, 0), (.iload 4, 0, 0), (.invokestatic 0, 75, 0), (.invokestatic 0, 106, 0), (.aload 0, 0, 0), (.dup, 0, 0), (.getfield 0, 9, 2), (.iconst (1), 0, 0), (.iadd, 0, 0), (.putfield 0, 9, 2), (.iinc 4 (-1), 0, 0), (.goto 0, 9, 0)]),
  (96, [(.aload 0, 0, 0), (.getfield 0, 9, 2), (.ireturn, 0, 0)])]
def zB_Tp_byteOf : List (Nat × List zEnt) := [(0, [(.lload 0, 0, 0), (.iconst (8), 0, 0), (.iload 2, 0, 0), (.imul, 0, 0), (.lshr, 0, 0), (.l2i, 0, 0), (.iconst (255), 0, 0), (.iand, 0, 0), (.ireturn, 0, 0)])]
def zB_Tp_understand : List (Nat × List zEnt) := [(0, [(.aload 0, 0, 0), (.iload 1, 0, 0), (.putfield 0, 9, 5), (.aload 0, 0, 0), (.iconst (0), 0, 0), (.putfield 0, 9, 3), (.aload 0, 0, 0), (.iconst (-1), 0, 0), (.putfield 0, 9, 4), (.aload 0, 0, 0), (.getfield 0, 9, 1), (.invokevirtual 0, 3, 0), (.aload 0, 0, 0), (.iconst (0), 0, 0), (.invokevirtual 0, 80, 0), (.ifCond .eq 0, 3, 0), (.goto_w 0, 1, 0)]),
  (30, [(.aload 0, 0, 0), (.invokevirtual 0, 77, 0), (.iconst (-1), 0, 0), (.if_icmp .eq 0, 3, 0), (.goto_w 0, 2, 0)]),
  (38, [(.aload 0, 0, 0), (.invokevirtual 0, 78, 0), (.pop, 0, 0), (.goto_w 0, 3, 0)]),
  (43, [(.aload 0, 0, 0), (.iconst (0), 0, 0), (.putfield 0, 9, 2), (.aload 0, 0, 0), (.getfield 0, 9, 4), (.ifCond .ge 0, 5, 0), (.goto_w 0, 4, 0)]),
  (55, [(.iconst (0), 0, 0), (.goto 0, 6, 0)]),
  (59, [(.iconst (-20), 0, 0), (.aload 0, 0, 0), (.getfield 0, 9, 4), (.isub, 0, 0), (.goto_w 0, 6, 0)]),
  (66, [(.ireturn, 0, 0)])]
def zB_Tp_here : List (Nat × List zEnt) := [(0, [(.aload 0, 0, 0), (.getfield 0, 9, 3), (.aload 0, 0, 0), (.getfield 0, 9, 2), (.if_icmp .ge 0, 3, 0), (.goto_w 0, 1, 0)]),
  (11, [(.aload 0, 0, 0), (.getfield 0, 9, 0), (.aload 0, 0, 0), (.getfield 0, 9, 3), (.invokestatic 0, 105, 0), (.iconst (32), 0, 0), (.if_icmp .ne 0, 3, 0), (.goto_w 0, 2, 0)]),
  (27, [(.aload 0, 0, 0), (.dup, 0, 0), (.getfield 0, 9, 3), (.iconst (1), 0, 0), (.iadd, 0, 0), (.putfield 0, 9, 3), (.goto 0, 0, 0)]),
  (40, [(.aload 0, 0, 0), (.getfield 0, 9, 3), (.aload 0, 0, 0), (.getfield 0, 9, 2), (.if_icmp .ge 0, 5, 0), (.goto_w 0, 4, 0)]),
  (51, [(.aload 0, 0, 0), (.getfield 0, 9, 0), (.aload 0, 0, 0), (.getfield 0, 9, 3), (.invokestatic 0, 105, 0), (.goto 0, 6, 0)]),
  (65, [(.iconst (-1), 0, 0), (.goto_w 0, 6, 0)]),
  (66, [(.ireturn, 0, 0)])]
def zB_Tp_refuse : List (Nat × List zEnt) := [(0, [(.aload 0, 0, 0), (.aload 0, 0, 0), (.getfield 0, 9, 3), (.putfield 0, 9, 4), (.iconst (0), 0, 0), (.ireturn, 0, 0)])]
def zB_Tp_take : List (Nat × List zEnt) := [(0, [(.aload 0, 0, 0), (.invokevirtual 0, 77, 0), (.iload 1, 0, 0), (.if_icmp .eq 0, 2, 0), (.goto_w 0, 1, 0)]),
  (8, [(.aload 0, 0, 0), (.invokevirtual 0, 78, 0), (.ireturn, 0, 0)]),
  (13, [(.aload 0, 0, 0), (.dup, 0, 0), (.getfield 0, 9, 3), (.iconst (1), 0, 0), (.iadd, 0, 0), (.putfield 0, 9, 3), (.iconst (1), 0, 0), (.ireturn, 0, 0)])]
def zB_Tp_readForm : List (Nat × List zEnt) := [(0, [(.aload 0, 0, 0), (.invokevirtual 0, 77, 0), (.istore 2, 0, 0), (.iload 1, 0, 0), (.iconst (24), 0, 0), (.if_icmp .ge 0, 2, 0), (.goto_w 0, 1, 0)]),
  (11, [(.aload 0, 0, 0), (.getfield 0, 9, 1), (.getfield 0, 1, 0), (.iconst (24), 0, 0), (.if_icmp .lt 0, 3, 0), (.goto_w 0, 2, 0)]),
  (23, [(.aload 0, 0, 0), (.invokevirtual 0, 78, 0), (.ireturn, 0, 0)]),
  (28, [(.iload 2, 0, 0), (.iconst (84), 0, 0), (.if_icmp .eq 0, 6, 0), (.goto_w 0, 4, 0)]),
  (34, [(.iload 2, 0, 0), (.iconst (97), 0, 0), (.if_icmp .lt 0, 10, 0), (.goto_w 0, 5, 0)]),
  (40, [(.iload 2, 0, 0), (.iconst (104), 0, 0), (.if_icmp .gt 0, 10, 0), (.goto_w 0, 6, 0)]),
  (46, [(.aload 0, 0, 0), (.dup, 0, 0), (.getfield 0, 9, 3), (.iconst (1), 0, 0), (.iadd, 0, 0), (.putfield 0, 9, 3), (.aload 0, 0, 0), (.getfield 0, 9, 1), (.aload 0, 0, 0), (.getfield 0, 9, 1), (.iconst (0), 0, 0), (.invokevirtual 0, 4, 0), (.iload 2, 0, 0), (.iconst (84), 0, 0), (.if_icmp .ne 0, 8, 0), (.goto_w 0, 7, 0)]),
  (74, [(.iconst (0), 0, 0), (.goto 0, 9, 0)]),
  (78, [(.iconst (1), 0, 0), (.goto_w 0, 9, 0)]),
  (79, [(.iload 2, 0, 0), (.iconst (97), 0, 0), (.isub, 0, 0), (.iconst (0), 0, 0), (.invokevirtual 0, 5, 0), (.iconst (1), 0, 0), (.ireturn, 0, 0)]),
  (89, [(.iload 2, 0, 0), (.iconst (33), 0, 0), (.if_icmp .eq 0, 14, 0), (.goto_w 0, 11, 0)]),
  (95, [(.iload 2, 0, 0), (.iconst (40), 0, 0), (.if_icmp .eq 0, 14, 0), (.goto_w 0, 12, 0)]),
  (101, [(.iload 2, 0, 0), (.iconst (60), 0, 0), (.if_icmp .eq 0, 14, 0), (.goto_w 0, 13, 0)]),
  (107, [(.aload 0, 0, 0), (.invokevirtual 0, 78, 0), (.ireturn, 0, 0)]),
  (112, [(.aload 0, 0, 0), (.dup, 0, 0), (.getfield 0, 9, 3), (.iconst (1), 0, 0), (.iadd, 0, 0), (.putfield 0, 9, 3), (.aload 0, 0, 0), (.getfield 0, 9, 1), (.iconst (0), 0, 0), (.invokevirtual 0, 4, 0), (.istore 3, 0, 0), (.iload 2, 0, 0), (.iconst (33), 0, 0), (.if_icmp .ne 0, 16, 0), (.goto_w 0, 15, 0)]),
  (137, [(.aload 0, 0, 0), (.getfield 0, 9, 1), (.iload 3, 0, 0), (.iconst (2), 0, 0), (.iload 3, 0, 0), (.iconst (1), 0, 0), (.iadd, 0, 0), (.iconst (0), 0, 0), (.invokevirtual 0, 5, 0), (.aload 0, 0, 0), (.iload 1, 0, 0), (.iconst (1), 0, 0), (.iadd, 0, 0), (.invokevirtual 0, 80, 0), (.ireturn, 0, 0)]),
  (158, [(.iload 2, 0, 0), (.iconst (40), 0, 0), (.if_icmp .ne 0, 18, 0), (.goto_w 0, 17, 0)]),
  (164, [(.aload 0, 0, 0), (.iload 3, 0, 0), (.iconst (0), 0, 0), (.iload 1, 0, 0), (.invokevirtual 0, 83, 0), (.goto 0, 22, 0)]),
  (174, [(.aload 0, 0, 0), (.iload 3, 0, 0), (.invokevirtual 0, 81, 0), (.ifCond .eq 0, 21, 0), (.goto_w 0, 19, 0)]),
  (182, [(.aload 0, 0, 0), (.iload 3, 0, 0), (.iload 1, 0, 0), (.invokevirtual 0, 82, 0), (.ifCond .eq 0, 21, 0), (.goto_w 0, 20, 0)]),
  (191, [(.iconst (1), 0, 0), (.goto 0, 22, 0)]),
  (195, [(.iconst (0), 0, 0), (.goto_w 0, 22, 0)]),
  (196, [(.ireturn, 0, 0)])]
def zB_Tp_readGroup : List (Nat × List zEnt) := [(0, [(.iconst (0), 0, 0), (.istore 2, 0, 0), (.iconst (0), 0, 0), (.istore 3, 0, 0), (.iconst (0), 0, 0), (.istore 4, 0, 0), (.goto_w 0, 1, 0)]),
  (7, [(.iload 4, 0, 0), (.iconst (4), 0, 0), (.if_icmp .ge 0, 6, 0), (.goto_w 0, 2, 0)]),
  (13, [(.aload 0, 0, 0), (.invokevirtual 0, 77, 0), (.iconst (48), 0, 0), (.isub, 0, 0), (.istore 5, 0, 0), (.iload 5, 0, 0), (.iload 3, 0, 0), (.if_icmp .lt 0, 6, 0), (.goto_w 0, 3, 0)]),
  (28, [(.iload 5, 0, 0), (.aload 0, 0, 0), (.getfield 0, 9, 5), (.if_icmp .lt 0, 5, 0), (.goto_w 0, 4, 0)]),
  (37, [(.goto 0, 6, 0)]),
  (40, [(.iload 2, 0, 0), (.iconst (1), 0, 0), (.iload 5, 0, 0), (.ishl, 0, 0), (.ior, 0, 0), (.istore 2, 0, 0), (.iload 5, 0, 0), (.iconst (1), 0, 0), (.iadd, 0, 0), (.istore 3, 0, 0), (.aload 0, 0, 0), (.dup, 0, 0), (.getfield 0, 9, 3), (.iconst (1), 0, 0), (.iadd, 0, 0), (.putfield 0, 9, 3), (.iinc 4 (1), 0, 0), (.goto 0, 1, 0)]),
  (68, [(.aload 0, 0, 0), (.getfield 0, 9, 1), (.getfield 0, 1, 5), (.iload 1, 0, 0), (.iload 2, 0, 0), (.invokestatic 0, 106, 0), (.aload 0, 0, 0), (.iconst (62), 0, 0), (.invokevirtual 0, 79, 0), (.ireturn, 0, 0)])]
def zB_Tp_readLaw : List (Nat × List zEnt) := [(0, [(.aload 0, 0, 0), (.invokevirtual 0, 77, 0), (.istore 3, 0, 0), (.iload 3, 0, 0), (.invokestatic 0, 84, 0), (.istore 4, 0, 0), (.iload 4, 0, 0), (.ifCond .ge 0, 2, 0), (.goto_w 0, 1, 0)]),
  (16, [(.aload 0, 0, 0), (.invokevirtual 0, 78, 0), (.ireturn, 0, 0)]),
  (21, [(.aload 0, 0, 0), (.dup, 0, 0), (.getfield 0, 9, 3), (.iconst (1), 0, 0), (.iadd, 0, 0), (.putfield 0, 9, 3), (.iload 4, 0, 0), (.iconst (8), 0, 0), (.if_icmp .ne 0, 4, 0), (.goto_w 0, 3, 0)]),
  (38, [(.aload 0, 0, 0), (.iload 1, 0, 0), (.iconst (1), 0, 0), (.iload 2, 0, 0), (.invokevirtual 0, 83, 0), (.ireturn, 0, 0)]),
  (46, [(.aload 0, 0, 0), (.getfield 0, 9, 1), (.iload 1, 0, 0), (.iload 4, 0, 0), (.iload 1, 0, 0), (.iconst (1), 0, 0), (.iadd, 0, 0), (.iconst (0), 0, 0), (.invokevirtual 0, 5, 0), (.aload 0, 0, 0), (.iload 2, 0, 0), (.iconst (1), 0, 0), (.iadd, 0, 0), (.invokevirtual 0, 80, 0), (.ireturn, 0, 0)])]
def zB_Tp_readPair : List (Nat × List zEnt) := [(0, [(.aload 0, 0, 0), (.iload 3, 0, 0), (.iconst (1), 0, 0), (.iadd, 0, 0), (.invokevirtual 0, 80, 0), (.ifCond .ne 0, 2, 0), (.goto_w 0, 1, 0)]),
  (10, [(.iconst (0), 0, 0), (.ireturn, 0, 0)]),
  (12, [(.aload 0, 0, 0), (.invokevirtual 0, 77, 0), (.invokestatic 0, 85, 0), (.istore 4, 0, 0), (.iload 4, 0, 0), (.ifCond .lt 0, 7, 0), (.goto_w 0, 3, 0)]),
  (26, [(.iload 2, 0, 0), (.iload 4, 0, 0), (.iconst (8), 0, 0), (.if_icmp .ne 0, 5, 0), (.goto_w 0, 4, 0)]),
  (34, [(.iconst (1), 0, 0), (.goto 0, 6, 0)]),
  (38, [(.iconst (0), 0, 0), (.goto_w 0, 6, 0)]),
  (39, [(.if_icmp .eq 0, 8, 0), (.goto_w 0, 7, 0)]),
  (42, [(.aload 0, 0, 0), (.invokevirtual 0, 78, 0), (.ireturn, 0, 0)]),
  (47, [(.aload 0, 0, 0), (.dup, 0, 0), (.getfield 0, 9, 3), (.iconst (1), 0, 0), (.iadd, 0, 0), (.putfield 0, 9, 3), (.aload 0, 0, 0), (.getfield 0, 9, 1), (.iload 1, 0, 0), (.iload 4, 0, 0), (.iload 1, 0, 0), (.iconst (1), 0, 0), (.iadd, 0, 0), (.aload 0, 0, 0), (.getfield 0, 9, 1), (.getfield 0, 1, 0), (.invokevirtual 0, 5, 0), (.aload 0, 0, 0), (.iload 3, 0, 0), (.iconst (1), 0, 0), (.iadd, 0, 0), (.invokevirtual 0, 80, 0), (.ifCond .eq 0, 11, 0), (.goto_w 0, 9, 0)]),
  (87, [(.aload 0, 0, 0), (.iconst (41), 0, 0), (.invokevirtual 0, 79, 0), (.ifCond .eq 0, 11, 0), (.goto_w 0, 10, 0)]),
  (96, [(.iconst (1), 0, 0), (.goto 0, 12, 0)]),
  (100, [(.iconst (0), 0, 0), (.goto_w 0, 12, 0)]),
  (101, [(.ireturn, 0, 0)])]
def zB_Tp_lawKind : List (Nat × List zEnt) := [(0, [(.iload 0, 0, 0), (.lookupswitch 6 #[(40, 5), (70, 3), (71, 2), (73, 4), (88, 1)], 0, 0)]),
  (52, [(.iconst (5), 0, 0), (.ireturn, 0, 0)]),
  (54, [(.iconst (6), 0, 0), (.ireturn, 0, 0)]),
  (57, [(.iconst (7), 0, 0), (.ireturn, 0, 0)]),
  (60, [(.iconst (9), 0, 0), (.ireturn, 0, 0)]),
  (63, [(.iconst (8), 0, 0), (.ireturn, 0, 0)]),
  (66, [(.iconst (-1), 0, 0), (.ireturn, 0, 0)])]
def zB_Tp_pairKind : List (Nat × List zEnt) := [(0, [(.iload 0, 0, 0), (.lookupswitch 4 #[(38, 1), (85, 3), (124, 2)], 0, 0)]),
  (36, [(.iconst (3), 0, 0), (.ireturn, 0, 0)]),
  (38, [(.iconst (4), 0, 0), (.ireturn, 0, 0)]),
  (40, [(.iconst (8), 0, 0), (.ireturn, 0, 0)]),
  (43, [(.iconst (-1), 0, 0), (.ireturn, 0, 0)])]
def zB_FN_init : List (Nat × List zEnt) := [(0, [(.aload 0, 0, 0), (.nop, 0, 0), (.new 0, 5, 0), (.dup, 0, 0), (.invokevirtual 0, 27, 0), (.astore 1, 0, 0), (.new 0, 1, 0), (.dup, 0, 0), (.invokevirtual 0, 1, 0), (.astore 2, 0, 0), (.new 0, 8, 0), (.dup, 0, 0), (.aload 1, 0, 0), (.invokevirtual 0, 66, 0), (.astore 3, 0, 0), (.new 0, 3, 0), (.dup, 0, 0), (.aload 1, 0, 0), (.aload 2, 0, 0), (.aload 3, 0, 0), (.invokevirtual 0, 17, 0), (.astore 4, 0, 0), (.aload 0, 0, 0), (.aload 1, 0, 0), (.putfield 0, 10, 0), (.aload 0, 0, 0), (.aload 2, 0, 0), (.putfield 0, 10, 1), (.aload 0, 0, 0), (.new 0, 9, 0), (.dup, 0, 0), (.invokevirtual 0, 73, 0), (.putfield 0, 10, 2), (.aload 0, 0, 0), (.aload 4, 0, 0), (.putfield 0, 10, 3), (.aload 0, 0, 0), (.new 0, 6, 0), (.dup, 0, 0), (.aload 1, 0, 0), (.aload 2, 0, 0), (.aload 3, 0, 0), (.aload 4, 0, 0), (.invokevirtual 0, 46, 0), (.putfield 0, 10, 4), (.aload 0, 0, 0), (.new 0, 0, 0), (.dup, 0, 0), (.aload 1, 0, 0), (.aload 3, 0, 0), (.invokevirtual 0, 0, 0), (.putfield 0, 10, 5), (.aload 0, 0, 0), (.new 0, 4, 0), (.dup, 0, 0), (.aload 1, 0, 0), (.invokevirtual 0, 26, 0), (.putfield 0, 10, 6), (.aload 0, 0, 0), (.new 0, 2, 0), (.dup, 0, 0), (.aload 1, 0, 0), (.invokevirtual 0, 15, 0), (.putfield 0, 10, 7), (.aload 0, 0, 0), (.new 0, 7, 0), (.dup, 0, 0), (.invokevirtual 0, 57, 0), (.putfield 0, 10, 8), (.return_, 0, 0)])]
def zB_FN_net : List (Nat × List zEnt) := [(0, [(.iload 1, 0, 0), (.iconst (2), 0, 0), (.if_icmp .lt 0, 4, 0), (.goto_w 0, 1, 0)]),
  (5, [(.iload 1, 0, 0), (.iconst (12), 0, 0), (.if_icmp .gt 0, 4, 0), (.goto_w 0, 2, 0)]),
  (11, [(.iload 2, 0, 0), (.iconst (1), 0, 0), (.if_icmp .lt 0, 4, 0), (.goto_w 0, 3, 0)]),
  (16, [(.iload 2, 0, 0), (.iconst (4), 0, 0), (.if_icmp .le 0, 5, 0), (.goto_w 0, 4, 0)]),
  (21, [(.iconst (-1), 0, 0), (.ireturn, 0, 0)]),
  (23, [(.aload 0, 0, 0), (.getfield 0, 10, 0), (.iload 1, 0, 0), (.iload 2, 0, 0), (.invokevirtual 0, 28, 0), (.aload 0, 0, 0), (.getfield 0, 10, 1), (.invokevirtual 0, 2, 0), (.aload 0, 0, 0), (.getfield 0, 10, 6), (.iconst (-1), 0, 0), (.putfield 0, 4, 1), (.aload 0, 0, 0), (.getfield 0, 10, 7), (.invokevirtual 0, 16, 0), (.aload 0, 0, 0), (.getfield 0, 10, 4), (.invokevirtual 0, 53, 0), (.iconst (1), 0, 0), (.ireturn, 0, 0)])]
def zB_FN_moves : List (Nat × List zEnt) := [(0, [(.aload 0, 0, 0), (.getfield 0, 10, 0), (.iload 1, 0, 0), (.invokevirtual 0, 30, 0), (.ifCond .eq 0, 4, 0), (.goto_w 0, 1, 0)]),
  (11, [(.aload 0, 0, 0), (.getfield 0, 10, 0), (.iload 2, 0, 0), (.invokevirtual 0, 31, 0), (.ifCond .eq 0, 4, 0), (.goto_w 0, 2, 0)]),
  (22, [(.iload 3, 0, 0), (.iconst (1), 0, 0), (.if_icmp .lt 0, 4, 0), (.goto_w 0, 3, 0)]),
  (27, [(.iload 3, 0, 0), (.iconst (3), 0, 0), (.if_icmp .le 0, 5, 0), (.goto_w 0, 4, 0)]),
  (32, [(.iconst (-1), 0, 0), (.ireturn, 0, 0)]),
  (34, [(.aload 0, 0, 0), (.getfield 0, 10, 0), (.iload 1, 0, 0), (.iload 2, 0, 0), (.iload 3, 0, 0), (.invokevirtual 0, 39, 0), (.ireturn, 0, 0)])]
def zB_FN_joint : List (Nat × List zEnt) := [(0, [(.aload 0, 0, 0), (.getfield 0, 10, 0), (.iload 1, 0, 0), (.invokevirtual 0, 30, 0), (.ifCond .eq 0, 2, 0), (.goto_w 0, 1, 0)]),
  (11, [(.aload 0, 0, 0), (.getfield 0, 10, 0), (.iload 2, 0, 0), (.invokevirtual 0, 32, 0), (.ifCond .ne 0, 3, 0), (.goto_w 0, 2, 0)]),
  (22, [(.iconst (-1), 0, 0), (.ireturn, 0, 0)]),
  (24, [(.aload 0, 0, 0), (.getfield 0, 10, 0), (.iload 1, 0, 0), (.iload 2, 0, 0), (.invokevirtual 0, 43, 0), (.ireturn, 0, 0)])]
def zB_FN_step : List (Nat × List zEnt) := [(0, [(.aload 0, 0, 0), (.getfield 0, 10, 0), (.iload 1, 0, 0), (.iload 2, 0, 0), (.invokevirtual 0, 34, 0), (.ifCond .eq 0, 2, 0), (.goto_w 0, 1, 0)]),
  (12, [(.aload 0, 0, 0), (.getfield 0, 10, 0), (.iload 3, 0, 0), (.invokevirtual 0, 30, 0), (.ifCond .ne 0, 3, 0), (.goto_w 0, 2, 0)]),
  (23, [(.iconst (-1), 0, 0), (.ireturn, 0, 0)]),
  (25, [(.aload 0, 0, 0), (.getfield 0, 10, 0), (.iload 1, 0, 0), (.iload 2, 0, 0), (.iload 3, 0, 0), (.invokevirtual 0, 40, 0), (.ireturn, 0, 0)])]
def zB_FN_letters : List (Nat × List zEnt) := [(0, [(.aload 0, 0, 0), (.getfield 0, 10, 0), (.iload 1, 0, 0), (.invokevirtual 0, 30, 0), (.ifCond .eq 0, 3, 0), (.goto_w 0, 1, 0)]),
  (11, [(.iload 2, 0, 0), (.ifCond .lt 0, 3, 0), (.goto_w 0, 2, 0)]),
  (15, [(.iload 2, 0, 0), (.iconst (256), 0, 0), (.if_icmp .lt 0, 4, 0), (.goto_w 0, 3, 0)]),
  (22, [(.iconst (-1), 0, 0), (.ireturn, 0, 0)]),
  (24, [(.aload 0, 0, 0), (.getfield 0, 10, 0), (.iload 1, 0, 0), (.iload 2, 0, 0), (.invokevirtual 0, 41, 0), (.ireturn, 0, 0)])]
def zB_FN_price : List (Nat × List zEnt) := [(0, [(.aload 0, 0, 0), (.getfield 0, 10, 0), (.iload 1, 0, 0), (.iload 2, 0, 0), (.iload 3, 0, 0), (.invokevirtual 0, 33, 0), (.ifCond .eq 0, 3, 0), (.goto_w 0, 1, 0)]),
  (13, [(.iload 4, 0, 0), (.ifCond .lt 0, 3, 0), (.goto_w 0, 2, 0)]),
  (18, [(.iload 4, 0, 0), (.iconst (9), 0, 0), (.if_icmp .le 0, 4, 0), (.goto_w 0, 3, 0)]),
  (25, [(.iconst (-1), 0, 0), (.ireturn, 0, 0)]),
  (27, [(.aload 0, 0, 0), (.getfield 0, 10, 0), (.getfield 0, 5, 5), (.iload 1, 0, 0), (.iconst (4), 0, 0), (.imul, 0, 0), (.iload 2, 0, 0), (.iadd, 0, 0), (.iconst (3), 0, 0), (.imul, 0, 0), (.iload 3, 0, 0), (.iadd, 0, 0), (.iload 4, 0, 0), (.invokestatic 0, 107, 0), (.ireturn, 0, 0)])]
def zB_FN_type : List (Nat × List zEnt) := [(0, [(.iload 3, 0, 0), (.iconst (1), 0, 0), (.if_icmp .lt 0, 2, 0), (.goto_w 0, 1, 0)]),
  (5, [(.iload 3, 0, 0), (.iconst (8), 0, 0), (.if_icmp .le 0, 3, 0), (.goto_w 0, 2, 0)]),
  (11, [(.iconst (-1), 0, 0), (.ireturn, 0, 0)]),
  (13, [(.aload 0, 0, 0), (.getfield 0, 10, 2), (.lload 1, 0, 0), (.iload 3, 0, 0), (.invokevirtual 0, 74, 0), (.ireturn, 0, 0)])]
def zB_FN_form : List (Nat × List zEnt) := [(0, [(.aload 0, 0, 0), (.getfield 0, 10, 2), (.aload 0, 0, 0), (.getfield 0, 10, 0), (.getfield 0, 5, 1), (.invokevirtual 0, 76, 0), (.istore 1, 0, 0), (.iload 1, 0, 0), (.ifCond .eq 0, 2, 0), (.goto_w 0, 1, 0)]),
  (19, [(.iload 1, 0, 0), (.ireturn, 0, 0)]),
  (21, [(.aload 0, 0, 0), (.getfield 0, 10, 1), (.aload 0, 0, 0), (.getfield 0, 10, 2), (.getfield 0, 9, 1), (.invokevirtual 0, 6, 0), (.aload 0, 0, 0), (.getfield 0, 10, 1), (.getfield 0, 1, 0), (.ireturn, 0, 0)])]
def zB_FN_holds : List (Nat × List zEnt) := [(0, [(.aload 0, 0, 0), (.getfield 0, 10, 3), (.invokevirtual 0, 19, 0), (.aload 0, 0, 0), (.getfield 0, 10, 3), (.invokevirtual 0, 18, 0), (.ireturn, 0, 0)])]
def zB_FN_part : List (Nat × List zEnt) := [(0, [(.iload 1, 0, 0), (.ifCond .lt 0, 2, 0), (.goto_w 0, 1, 0)]),
  (4, [(.iload 1, 0, 0), (.aload 0, 0, 0), (.getfield 0, 10, 1), (.getfield 0, 1, 0), (.if_icmp .lt 0, 3, 0), (.goto_w 0, 2, 0)]),
  (15, [(.iconst (-1), 0, 0), (.ireturn, 0, 0)]),
  (17, [(.aload 0, 0, 0), (.getfield 0, 10, 3), (.invokevirtual 0, 19, 0), (.aload 0, 0, 0), (.getfield 0, 10, 3), (.getfield 0, 3, 3), (.iload 1, 0, 0), (.invokestatic 0, 105, 0), (.ireturn, 0, 0)])]
def zB_FN_round : List (Nat × List zEnt) := [(0, [(.aload 0, 0, 0), (.getfield 0, 10, 0), (.iload 1, 0, 0), (.invokevirtual 0, 30, 0), (.ifCond .ne 0, 2, 0), (.goto_w 0, 1, 0)]),
  (11, [(.iconst (-1), 0, 0), (.ireturn, 0, 0)]),
  (13, [(.aload 0, 0, 0), (.getfield 0, 10, 1), (.invokevirtual 0, 13, 0), (.ifCond .ne 0, 4, 0), (.goto_w 0, 3, 0)]),
  (23, [(.iconst (-2), 0, 0), (.ireturn, 0, 0)]),
  (26, [(.aload 0, 0, 0), (.getfield 0, 10, 3), (.invokevirtual 0, 19, 0), (.aload 0, 0, 0), (.getfield 0, 10, 3), (.invokevirtual 0, 18, 0), (.iload 1, 0, 0), (.invokestatic 0, 108, 0), (.ifCond .eq 0, 6, 0), (.goto_w 0, 5, 0)]),
  (47, [(.aload 0, 0, 0), (.getfield 0, 10, 3), (.getfield 0, 3, 4), (.iload 1, 0, 0), (.invokestatic 0, 105, 0), (.goto 0, 7, 0)]),
  (61, [(.iconst (-4), 0, 0), (.goto_w 0, 7, 0)]),
  (63, [(.ireturn, 0, 0)])]
def zB_FN_plan : List (Nat × List zEnt) := [(0, [(.aload 0, 0, 0), (.getfield 0, 10, 0), (.iload 1, 0, 0), (.invokevirtual 0, 30, 0), (.ifCond .ne 0, 2, 0), (.goto_w 0, 1, 0)]),
  (11, [(.iconst (-1), 0, 0), (.ireturn, 0, 0)]),
  (13, [(.aload 0, 0, 0), (.getfield 0, 10, 1), (.invokevirtual 0, 12, 0), (.ifCond .ne 0, 4, 0), (.goto_w 0, 3, 0)]),
  (23, [(.iconst (-2), 0, 0), (.ireturn, 0, 0)]),
  (26, [(.aload 0, 0, 0), (.getfield 0, 10, 3), (.invokevirtual 0, 19, 0), (.aload 0, 0, 0), (.getfield 0, 10, 4), (.iload 1, 0, 0), (.invokevirtual 0, 47, 0), (.ireturn, 0, 0)])]
def zB_FN_answer : List (Nat × List zEnt) := [(0, [(.aload 0, 0, 0), (.getfield 0, 10, 0), (.iload 1, 0, 0), (.invokevirtual 0, 30, 0), (.ifCond .ne 0, 2, 0), (.goto_w 0, 1, 0)]),
  (11, [(.iconst (-1), 0, 0), (.ireturn, 0, 0)]),
  (13, [(.aload 0, 0, 0), (.getfield 0, 10, 1), (.invokevirtual 0, 12, 0), (.ifCond .ne 0, 4, 0), (.goto_w 0, 3, 0)]),
  (23, [(.iconst (-2), 0, 0), (.ireturn, 0, 0)]),
  (26, [(.iload 2, 0, 0), (.ifCond .lt 0, 6, 0), (.goto_w 0, 5, 0)]),
  (30, [(.iload 2, 0, 0), (.aload 0, 0, 0), (.getfield 0, 10, 0), (.iload 1, 0, 0), (.aload 0, 0, 0), (.getfield 0, 10, 1), (.iconst (0), 0, 0), (.invokevirtual 0, 10, 0), (.invokevirtual 0, 43, 0), (.if_icmp .lt 0, 7, 0), (.goto_w 0, 6, 0)]),
  (50, [(.iconst (-1), 0, 0), (.ireturn, 0, 0)]),
  (52, [(.aload 0, 0, 0), (.getfield 0, 10, 3), (.invokevirtual 0, 19, 0), (.aload 0, 0, 0), (.getfield 0, 10, 4), (.iload 1, 0, 0), (.iload 2, 0, 0), (.invokevirtual 0, 49, 0), (.ireturn, 0, 0)])]
def zB_FN_toll : List (Nat × List zEnt) := [(0, [(.aload 0, 0, 0), (.getfield 0, 10, 0), (.iload 1, 0, 0), (.invokevirtual 0, 30, 0), (.ifCond .ne 0, 2, 0), (.goto_w 0, 1, 0)]),
  (11, [(.iconst (-1), 0, 0), (.ireturn, 0, 0)]),
  (13, [(.aload 0, 0, 0), (.getfield 0, 10, 1), (.invokevirtual 0, 14, 0), (.ifCond .ne 0, 4, 0), (.goto_w 0, 3, 0)]),
  (23, [(.iconst (-2), 0, 0), (.ireturn, 0, 0)]),
  (26, [(.aload 0, 0, 0), (.getfield 0, 10, 3), (.invokevirtual 0, 19, 0), (.aload 0, 0, 0), (.getfield 0, 10, 3), (.invokevirtual 0, 18, 0), (.iload 1, 0, 0), (.invokestatic 0, 108, 0), (.ifCond .eq 0, 6, 0), (.goto_w 0, 5, 0)]),
  (47, [(.aload 0, 0, 0), (.getfield 0, 10, 4), (.iload 1, 0, 0), (.invokevirtual 0, 50, 0), (.goto 0, 7, 0)]),
  (58, [(.iconst (-4), 0, 0), (.goto_w 0, 7, 0)]),
  (60, [(.ireturn, 0, 0)])]
def zB_FN_walk : List (Nat × List zEnt) := [(0, [(.aload 0, 0, 0), (.getfield 0, 10, 0), (.iload 1, 0, 0), (.invokevirtual 0, 30, 0), (.ifCond .eq 0, 4, 0), (.goto_w 0, 1, 0)]),
  (11, [(.aload 0, 0, 0), (.getfield 0, 10, 8), (.iload 2, 0, 0), (.iload 3, 0, 0), (.invokevirtual 0, 58, 0), (.ifCond .eq 0, 4, 0), (.goto_w 0, 2, 0)]),
  (23, [(.iload 5, 0, 0), (.ifCond .lt 0, 4, 0), (.goto_w 0, 3, 0)]),
  (28, [(.iload 5, 0, 0), (.iconst (40), 0, 0), (.if_icmp .le 0, 5, 0), (.goto_w 0, 4, 0)]),
  (35, [(.iconst (-1), 0, 0), (.ireturn, 0, 0)]),
  (37, [(.aload 0, 0, 0), (.getfield 0, 10, 8), (.iload 2, 0, 0), (.iload 3, 0, 0), (.iload 4, 0, 0), (.iload 5, 0, 0), (.invokevirtual 0, 61, 0), (.istore 6, 0, 0), (.iload 6, 0, 0), (.ifCond .eq 0, 7, 0), (.goto_w 0, 6, 0)]),
  (57, [(.iload 6, 0, 0), (.ireturn, 0, 0)]),
  (60, [(.aload 0, 0, 0), (.getfield 0, 10, 1), (.invokevirtual 0, 12, 0), (.ifCond .eq 0, 9, 0), (.goto_w 0, 8, 0)]),
  (70, [(.aload 0, 0, 0), (.getfield 0, 10, 8), (.iload 2, 0, 0), (.iload 4, 0, 0), (.iload 5, 0, 0), (.invokevirtual 0, 65, 0), (.ifCond .eq 0, 10, 0), (.goto_w 0, 9, 0)]),
  (85, [(.iconst (-2), 0, 0), (.ireturn, 0, 0)]),
  (88, [(.aload 0, 0, 0), (.getfield 0, 10, 3), (.invokevirtual 0, 19, 0), (.aload 0, 0, 0), (.getfield 0, 10, 4), (.iload 1, 0, 0), (.invokevirtual 0, 54, 0), (.iconst (0), 0, 0), (.istore 7, 0, 0), (.goto_w 0, 11, 0)]),
  (106, [(.iload 7, 0, 0), (.iload 5, 0, 0), (.if_icmp .ge 0, 13, 0), (.goto_w 0, 12, 0)]),
  (113, [(.aload 0, 0, 0), (.getfield 0, 10, 4), (.aload 0, 0, 0), (.getfield 0, 10, 8), (.iload 2, 0, 0), (.iload 4, 0, 0), (.iload 7, 0, 0), (.iadd, 0, 0), (.invokevirtual 0, 63, 0), (.invokevirtual 0, 55, 0), (.iinc 7 (1), 0, 0), (.goto 0, 11, 0)]),
  (139, [(.aload 0, 0, 0), (.getfield 0, 10, 4), (.iload 5, 0, 0), (.invokevirtual 0, 56, 0), (.ireturn, 0, 0)])]
def zB_FN_walked : List (Nat × List zEnt) := [(0, [(.aload 0, 0, 0), (.getfield 0, 10, 4), (.iload 1, 0, 0), (.invokevirtual 0, 56, 0), (.ireturn, 0, 0)])]
def zB_FN_sheet : List (Nat × List zEnt) := [(0, [(.aload 0, 0, 0), (.getfield 0, 10, 8), (.iload 1, 0, 0), (.iload 2, 0, 0), (.invokevirtual 0, 58, 0), (.ifCond .eq 0, 2, 0), (.goto_w 0, 1, 0)]),
  (12, [(.iload 3, 0, 0), (.iconst (81), 0, 0), (.if_icmp .le 0, 3, 0), (.goto_w 0, 2, 0)]),
  (18, [(.iconst (-1), 0, 0), (.ireturn, 0, 0)]),
  (20, [(.iload 3, 0, 0), (.ifCond .ge 0, 5, 0), (.goto_w 0, 4, 0)]),
  (24, [(.iconst (-14), 0, 0), (.ireturn, 0, 0)]),
  (27, [(.aload 0, 0, 0), (.getfield 0, 10, 8), (.iload 1, 0, 0), (.iload 2, 0, 0), (.iload 3, 0, 0), (.invokevirtual 0, 62, 0), (.iload 3, 0, 0), (.ireturn, 0, 0)])]
def zB_FN_item : List (Nat × List zEnt) := [(0, [(.aload 0, 0, 0), (.getfield 0, 10, 8), (.iload 1, 0, 0), (.iload 2, 0, 0), (.invokevirtual 0, 58, 0), (.ifCond .ne 0, 2, 0), (.goto_w 0, 1, 0)]),
  (12, [(.iconst (-1), 0, 0), (.ireturn, 0, 0)]),
  (14, [(.aload 0, 0, 0), (.getfield 0, 10, 8), (.iload 1, 0, 0), (.iload 2, 0, 0), (.iload 3, 0, 0), (.iconst (1), 0, 0), (.invokevirtual 0, 61, 0), (.istore 5, 0, 0), (.iload 5, 0, 0), (.ifCond .eq 0, 4, 0), (.goto_w 0, 3, 0)]),
  (32, [(.iload 5, 0, 0), (.ireturn, 0, 0)]),
  (35, [(.aload 0, 0, 0), (.getfield 0, 10, 8), (.iload 1, 0, 0), (.iload 3, 0, 0), (.iload 4, 0, 0), (.invokevirtual 0, 64, 0), (.iconst (1), 0, 0), (.ireturn, 0, 0)])]
def zB_FN_at : List (Nat × List zEnt) := [(0, [(.iload 1, 0, 0), (.ifCond .lt 0, 3, 0), (.goto_w 0, 1, 0)]),
  (4, [(.iload 1, 0, 0), (.aload 0, 0, 0), (.arraylength, 0, 0), (.if_icmp .ge 0, 3, 0), (.goto_w 0, 2, 0)]),
  (10, [(.aload 0, 0, 0), (.iload 1, 0, 0), (.iaload, 0, 0), (.goto 0, 4, 0)]),
  (16, [(.iconst (0), 0, 0), (.goto_w 0, 4, 0)]),
  (17, [(.ireturn, 0, 0)])]
def zB_FN_put : List (Nat × List zEnt) := [(0, [(.iload 1, 0, 0), (.ifCond .lt 0, 3, 0), (.goto_w 0, 1, 0)]),
  (4, [(.iload 1, 0, 0), (.aload 0, 0, 0), (.arraylength, 0, 0), (.if_icmp .ge 0, 3, 0), (.goto_w 0, 2, 0)]),
  (10, [(.aload 0, 0, 0), (.iload 1, 0, 0), (.iload 2, 0, 0), (.iastore, 0, 0), (.goto_w 0, 3, 0)]),
  (14, [(.return_, 0, 0)])]
def zB_FN_swap : List (Nat × List zEnt) := [(0, [(.aload 0, 0, 0), (.iload 1, 0, 0), (.invokestatic 0, 105, 0), (.istore 3, 0, 0), (.aload 0, 0, 0), (.iload 1, 0, 0), (.iload 2, 0, 0), (.invokestatic 0, 106, 0), (.iload 3, 0, 0), (.ireturn, 0, 0)])]
def zB_FN_has : List (Nat × List zEnt) := [(0, [(.iload 0, 0, 0), (.iload 1, 0, 0), (.ishr, 0, 0), (.iconst (1), 0, 0), (.iand, 0, 0), (.ifCond .eq 0, 2, 0), (.goto_w 0, 1, 0)]),
  (8, [(.iconst (1), 0, 0), (.goto 0, 3, 0)]),
  (12, [(.iconst (0), 0, 0), (.goto_w 0, 3, 0)]),
  (13, [(.ireturn, 0, 0)])]
def zB_FN_over : List (Nat × List zEnt) := [(0, [(.iload 1, 0, 0), (.iconst (1), 0, 0), (.if_icmp .ge 0, 2, 0), (.goto_w 0, 1, 0)]),
  (5, [(.iconst (0), 0, 0), (.goto 0, 3, 0)]),
  (9, [(.iload 0, 0, 0), (.iload 1, 0, 0), (.idiv, 0, 0), (.goto_w 0, 3, 0)]),
  (12, [(.ireturn, 0, 0)])]
def zB_FN_rest : List (Nat × List zEnt) := [(0, [(.iload 1, 0, 0), (.iconst (1), 0, 0), (.if_icmp .ge 0, 2, 0), (.goto_w 0, 1, 0)]),
  (5, [(.iconst (0), 0, 0), (.goto 0, 3, 0)]),
  (9, [(.iload 0, 0, 0), (.iload 1, 0, 0), (.irem, 0, 0), (.goto_w 0, 3, 0)]),
  (12, [(.ireturn, 0, 0)])]
def zB_JA_fill : List (Nat × List zEnt) := [(0, [(.iconst (0), 0, 0), (.istore 2, 0, 0), (.aload 0, 0, 0), (.arraylength, 0, 0), (.istore 3, 0, 0), (.goto_w 0, 1, 0)]),
  (5, [(.iload 2, 0, 0), (.iload 3, 0, 0), (.if_icmp .ge 0, 3, 0), (.goto_w 0, 2, 0)]),
  (10, [(.aload 0, 0, 0), (.iload 2, 0, 0), (.iload 1, 0, 0), (.iastore, 0, 0), (.iinc 2 (1), 0, 0), (.goto 0, 1, 0)]),
  (20, [(.return_, 0, 0)])]
def zB_LW_cell : List (Nat × List zEnt) := [(0, [(.iload 1, 0, 0), (.aload 0, 0, 0), (.arraylength, 0, 0), (.if_icmp .ge 0, 2, 0), (.goto_w 0, 1, 0)]),
  (6, [(.aload 0, 0, 0), (.iload 1, 0, 0), (.iaload, 0, 0), (.goto 0, 3, 0)]),
  (12, [(.iconst (15485957), 0, 0), (.iload 1, 0, 0), (.imul, 0, 0), (.iconst (107), 0, 0), (.iadd, 0, 0), (.goto_w 0, 3, 0)]),
  (19, [(.iconst (2147483647), 0, 0), (.iand, 0, 0), (.ireturn, 0, 0)])]
def zB_LW_lays : List (Nat × List zEnt) := [(0, [(.iconst (2), 0, 0), (.aload 1, 0, 0), (.iconst (0), 0, 0), (.invokestatic 0, 112, 0), (.iconst (7), 0, 0), (.irem, 0, 0), (.iadd, 0, 0), (.istore 2, 0, 0), (.iconst (1), 0, 0), (.aload 1, 0, 0), (.iconst (0), 0, 0), (.invokestatic 0, 112, 0), (.iconst (4), 0, 0), (.ishr, 0, 0), (.iconst (3), 0, 0), (.irem, 0, 0), (.iadd, 0, 0), (.istore 3, 0, 0), (.aload 0, 0, 0), (.iload 2, 0, 0), (.iload 3, 0, 0), (.invokevirtual 0, 87, 0), (.istore 4, 0, 0), (.iconst (0), 0, 0), (.istore 5, 0, 0), (.goto_w 0, 1, 0)]),
  (34, [(.iload 5, 0, 0), (.iload 2, 0, 0), (.if_icmp .ge 0, 9, 0), (.goto_w 0, 2, 0)]),
  (40, [(.iconst (0), 0, 0), (.istore 6, 0, 0), (.goto_w 0, 3, 0)]),
  (43, [(.iload 6, 0, 0), (.iload 3, 0, 0), (.if_icmp .ge 0, 5, 0), (.goto_w 0, 4, 0)]),
  (49, [(.aload 0, 0, 0), (.iload 5, 0, 0), (.iload 6, 0, 0), (.iconst (1), 0, 0), (.aload 1, 0, 0), (.iconst (1), 0, 0), (.iload 5, 0, 0), (.iadd, 0, 0), (.invokestatic 0, 112, 0), (.iconst (2), 0, 0), (.iload 6, 0, 0), (.imul, 0, 0), (.ishr, 0, 0), (.iconst (3), 0, 0), (.irem, 0, 0), (.iadd, 0, 0), (.invokevirtual 0, 88, 0), (.istore 4, 0, 0), (.iinc 6 (1), 0, 0), (.goto 0, 3, 0)]),
  (82, [(.aload 0, 0, 0), (.iload 5, 0, 0), (.aload 1, 0, 0), (.iconst (1), 0, 0), (.iload 5, 0, 0), (.iadd, 0, 0), (.invokestatic 0, 112, 0), (.iconst (8), 0, 0), (.ishr, 0, 0), (.iconst (15), 0, 0), (.iand, 0, 0), (.invokevirtual 0, 91, 0), (.istore 4, 0, 0), (.aload 0, 0, 0), (.iload 5, 0, 0), (.iconst (1), 0, 0), (.iload 3, 0, 0), (.ishl, 0, 0), (.iconst (1), 0, 0), (.isub, 0, 0), (.invokevirtual 0, 89, 0), (.istore 6, 0, 0), (.iconst (0), 0, 0), (.istore 7, 0, 0), (.goto_w 0, 6, 0)]),
  (120, [(.iload 7, 0, 0), (.iload 6, 0, 0), (.if_icmp .ge 0, 8, 0), (.goto_w 0, 7, 0)]),
  (127, [(.aload 0, 0, 0), (.iload 5, 0, 0), (.iload 7, 0, 0), (.aload 1, 0, 0), (.iconst (1), 0, 0), (.iload 5, 0, 0), (.iadd, 0, 0), (.invokestatic 0, 112, 0), (.iload 7, 0, 0), (.iconst (20), 0, 0), (.irem, 0, 0), (.ishr, 0, 0), (.iconst (13), 0, 0), (.irem, 0, 0), (.iload 7, 0, 0), (.iconst (3), 0, 0), (.iadd, 0, 0), (.imul, 0, 0), (.iload 2, 0, 0), (.irem, 0, 0), (.invokevirtual 0, 90, 0), (.istore 4, 0, 0), (.iinc 7 (1), 0, 0), (.goto 0, 6, 0)]),
  (167, [(.iinc 5 (1), 0, 0), (.goto 0, 1, 0)]),
  (173, [(.return_, 0, 0)])]
def zB_LW_statesOf : List (Nat × List zEnt) := [(0, [(.iconst (2), 0, 0), (.aload 0, 0, 0), (.iconst (0), 0, 0), (.invokestatic 0, 112, 0), (.iconst (7), 0, 0), (.irem, 0, 0), (.iadd, 0, 0), (.ireturn, 0, 0)])]
def zB_LW_playersOf : List (Nat × List zEnt) := [(0, [(.iconst (1), 0, 0), (.aload 0, 0, 0), (.iconst (0), 0, 0), (.invokestatic 0, 112, 0), (.iconst (4), 0, 0), (.ishr, 0, 0), (.iconst (3), 0, 0), (.irem, 0, 0), (.iadd, 0, 0), (.ireturn, 0, 0)])]
def zB_LW_group : List (Nat × List zEnt) := [(0, [(.aload 0, 0, 0), (.sipush (60), 0, 0), (.iconst (1), 0, 0), (.invokevirtual 0, 93, 0), (.ifCond .le 0, 2, 0), (.goto_w 0, 1, 0)]),
  (11, [(.iconst (1), 0, 0), (.goto 0, 3, 0)]),
  (15, [(.iconst (0), 0, 0), (.goto_w 0, 3, 0)]),
  (16, [(.istore 2, 0, 0), (.iconst (0), 0, 0), (.istore 3, 0, 0), (.goto_w 0, 4, 0)]),
  (19, [(.iload 3, 0, 0), (.iconst (4), 0, 0), (.if_icmp .ge 0, 11, 0), (.goto_w 0, 5, 0)]),
  (24, [(.iload 2, 0, 0), (.ifCond .eq 0, 9, 0), (.goto_w 0, 6, 0)]),
  (28, [(.iload 1, 0, 0), (.iload 3, 0, 0), (.ishr, 0, 0), (.iconst (1), 0, 0), (.iand, 0, 0), (.ifCond .eq 0, 8, 0), (.goto_w 0, 7, 0)]),
  (36, [(.aload 0, 0, 0), (.sipush (48), 0, 0), (.iload 3, 0, 0), (.i2l, 0, 0), (.ladd, 0, 0), (.iconst (1), 0, 0), (.invokevirtual 0, 93, 0), (.ifCond .le 0, 9, 0), (.goto_w 0, 8, 0)]),
  (50, [(.iconst (1), 0, 0), (.goto 0, 10, 0)]),
  (54, [(.iconst (0), 0, 0), (.goto_w 0, 10, 0)]),
  (55, [(.istore 2, 0, 0), (.iinc 3 (1), 0, 0), (.goto 0, 4, 0)]),
  (62, [(.iload 2, 0, 0), (.ifCond .eq 0, 14, 0), (.goto_w 0, 12, 0)]),
  (66, [(.aload 0, 0, 0), (.sipush (62), 0, 0), (.iconst (1), 0, 0), (.invokevirtual 0, 93, 0), (.ifCond .le 0, 14, 0), (.goto_w 0, 13, 0)]),
  (77, [(.iconst (1), 0, 0), (.goto 0, 15, 0)]),
  (81, [(.iconst (0), 0, 0), (.goto_w 0, 15, 0)]),
  (82, [(.ireturn, 0, 0)])]
def zB_LW_outermost : List (Nat × List zEnt) := [(0, [(.aload 0, 0, 0), (.iload 1, 0, 0), (.invokestatic 0, 116, 0), (.istore 3, 0, 0), (.iload 3, 0, 0), (.ifCond .eq 0, 17, 0), (.goto_w 0, 1, 0)]),
  (10, [(.iload 2, 0, 0), (.iconst (4), 0, 0), (.if_icmp .ne 0, 4, 0), (.goto_w 0, 2, 0)]),
  (15, [(.aload 0, 0, 0), (.sipush (173431677481), 0, 0), (.iconst (5), 0, 0), (.invokevirtual 0, 93, 0), (.ifCond .le 0, 17, 0), (.goto_w 0, 3, 0)]),
  (26, [(.goto 0, 12, 0)]),
  (29, [(.aload 0, 0, 0), (.iload 2, 0, 0), (.ifCond .ne 0, 6, 0), (.goto_w 0, 5, 0)]),
  (34, [(.sipush (22625), 0, 0), (.goto 0, 11, 0)]),
  (40, [(.iload 2, 0, 0), (.iconst (1), 0, 0), (.if_icmp .ne 0, 8, 0), (.goto_w 0, 7, 0)]),
  (45, [(.sipush (18273), 0, 0), (.goto 0, 11, 0)]),
  (51, [(.iload 2, 0, 0), (.iconst (2), 0, 0), (.if_icmp .ne 0, 10, 0), (.goto_w 0, 9, 0)]),
  (56, [(.sipush (18017), 0, 0), (.goto 0, 11, 0)]),
  (62, [(.sipush (18785), 0, 0), (.goto_w 0, 11, 0)]),
  (65, [(.iconst (2), 0, 0), (.invokevirtual 0, 93, 0), (.ifCond .le 0, 17, 0), (.goto_w 0, 12, 0)]),
  (72, [(.aload 0, 0, 0), (.invokevirtual 0, 94, 0), (.iload 2, 0, 0), (.iconst (4), 0, 0), (.if_icmp .ne 0, 14, 0), (.goto_w 0, 13, 0)]),
  (81, [(.iconst (3), 0, 0), (.goto 0, 15, 0)]),
  (85, [(.iconst (2), 0, 0), (.goto_w 0, 15, 0)]),
  (86, [(.if_icmp .ne 0, 17, 0), (.goto_w 0, 16, 0)]),
  (89, [(.iconst (1), 0, 0), (.goto 0, 18, 0)]),
  (93, [(.iconst (0), 0, 0), (.goto_w 0, 18, 0)]),
  (94, [(.ireturn, 0, 0)])]
def zB_LW_law : List (Nat × List zEnt) := [(0, [(.new 0, 10, 0), (.dup, 0, 0), (.invokevirtual 0, 86, 0), (.astore 1, 0, 0), (.aload 1, 0, 0), (.aload 0, 0, 0), (.invokestatic 0, 113, 0), (.aload 0, 0, 0), (.invokestatic 0, 114, 0), (.istore 2, 0, 0), (.aload 0, 0, 0), (.invokestatic 0, 115, 0), (.istore 3, 0, 0), (.aload 0, 0, 0), (.iconst (9), 0, 0), (.invokestatic 0, 112, 0), (.iconst (3), 0, 0), (.ishr, 0, 0), (.iconst (1), 0, 0), (.iload 3, 0, 0), (.ishl, 0, 0), (.iconst (1), 0, 0), (.isub, 0, 0), (.iand, 0, 0), (.istore 4, 0, 0), (.aload 0, 0, 0), (.iconst (10), 0, 0), (.invokestatic 0, 112, 0), (.iconst (5), 0, 0), (.irem, 0, 0), (.istore 5, 0, 0), (.aload 1, 0, 0), (.iload 4, 0, 0), (.iload 5, 0, 0), (.invokestatic 0, 117, 0), (.ifCond .eq 0, 3, 0), (.goto_w 0, 1, 0)]),
  (60, [(.aload 1, 0, 0), (.iconst (1), 0, 0), (.iconst (1), 0, 0), (.iconst (40), 0, 0), (.invokevirtual 0, 103, 0), (.iconst (40), 0, 0), (.if_icmp .ne 0, 3, 0), (.goto_w 0, 2, 0)]),
  (73, [(.iconst (1), 0, 0), (.goto 0, 4, 0)]),
  (77, [(.iconst (0), 0, 0), (.goto_w 0, 4, 0)]),
  (78, [(.istore 6, 0, 0), (.iconst (0), 0, 0), (.istore 7, 0, 0), (.goto_w 0, 5, 0)]),
  (83, [(.iload 7, 0, 0), (.iload 2, 0, 0), (.if_icmp .ge 0, 18, 0), (.goto_w 0, 6, 0)]),
  (89, [(.iload 6, 0, 0), (.ifCond .eq 0, 18, 0), (.goto_w 0, 7, 0)]),
  (94, [(.iconst (0), 0, 0), (.istore 8, 0, 0), (.goto_w 0, 8, 0)]),
  (97, [(.iload 8, 0, 0), (.iload 3, 0, 0), (.if_icmp .ge 0, 17, 0), (.goto_w 0, 9, 0)]),
  (103, [(.iconst (0), 0, 0), (.istore 9, 0, 0), (.goto_w 0, 10, 0)]),
  (106, [(.iload 9, 0, 0), (.aload 1, 0, 0), (.iload 7, 0, 0), (.iconst (1), 0, 0), (.iload 8, 0, 0), (.ishl, 0, 0), (.invokevirtual 0, 89, 0), (.if_icmp .ge 0, 16, 0), (.goto_w 0, 11, 0)]),
  (121, [(.iload 6, 0, 0), (.ifCond .eq 0, 14, 0), (.goto_w 0, 12, 0)]),
  (126, [(.aload 1, 0, 0), (.iload 7, 0, 0), (.iload 8, 0, 0), (.iload 9, 0, 0), (.aload 0, 0, 0), (.iconst (11), 0, 0), (.iload 7, 0, 0), (.iadd, 0, 0), (.invokestatic 0, 112, 0), (.iconst (3), 0, 0), (.iload 8, 0, 0), (.iload 9, 0, 0), (.iadd, 0, 0), (.imul, 0, 0), (.ishr, 0, 0), (.iconst (10), 0, 0), (.irem, 0, 0), (.invokevirtual 0, 92, 0), (.ifCond .ne 0, 14, 0), (.goto_w 0, 13, 0)]),
  (159, [(.iconst (1), 0, 0), (.goto 0, 15, 0)]),
  (163, [(.iconst (0), 0, 0), (.goto_w 0, 15, 0)]),
  (164, [(.istore 6, 0, 0), (.iinc 9 (1), 0, 0), (.goto 0, 10, 0)]),
  (172, [(.iinc 8 (1), 0, 0), (.goto 0, 8, 0)]),
  (178, [(.iinc 7 (1), 0, 0), (.goto 0, 5, 0)]),
  (184, [(.iconst (0), 0, 0), (.istore 7, 0, 0), (.goto_w 0, 19, 0)]),
  (187, [(.iload 7, 0, 0), (.iconst (40), 0, 0), (.if_icmp .ge 0, 25, 0), (.goto_w 0, 20, 0)]),
  (194, [(.iload 6, 0, 0), (.ifCond .eq 0, 25, 0), (.goto_w 0, 21, 0)]),
  (199, [(.aload 1, 0, 0), (.iconst (1), 0, 0), (.iconst (1), 0, 0), (.iload 7, 0, 0), (.aload 0, 0, 0), (.iconst (20), 0, 0), (.iload 7, 0, 0), (.iconst (10), 0, 0), (.irem, 0, 0), (.iadd, 0, 0), (.invokestatic 0, 112, 0), (.iload 7, 0, 0), (.iconst (10), 0, 0), (.idiv, 0, 0), (.ishr, 0, 0), (.invokevirtual 0, 104, 0), (.iconst (1), 0, 0), (.if_icmp .ne 0, 23, 0), (.goto_w 0, 22, 0)]),
  (229, [(.iconst (1), 0, 0), (.goto 0, 24, 0)]),
  (233, [(.iconst (0), 0, 0), (.goto_w 0, 24, 0)]),
  (234, [(.istore 6, 0, 0), (.iinc 7 (1), 0, 0), (.goto 0, 19, 0)]),
  (242, [(.aload 1, 0, 0), (.invokevirtual 0, 95, 0), (.istore 7, 0, 0), (.aload 1, 0, 0), (.iconst (1), 0, 0), (.invokevirtual 0, 96, 0), (.istore 8, 0, 0), (.iload 5, 0, 0), (.iconst (4), 0, 0), (.if_icmp .ne 0, 27, 0), (.goto_w 0, 26, 0)]),
  (261, [(.aload 1, 0, 0), (.iconst (2), 0, 0), (.invokevirtual 0, 96, 0), (.goto 0, 28, 0)]),
  (269, [(.iload 8, 0, 0), (.goto_w 0, 28, 0)]),
  (271, [(.istore 9, 0, 0), (.iconst (0), 0, 0), (.istore 10, 0, 0), (.goto_w 0, 29, 0)]),
  (276, [(.iload 10, 0, 0), (.iload 2, 0, 0), (.if_icmp .ge 0, 113, 0), (.goto_w 0, 30, 0)]),
  (282, [(.iload 6, 0, 0), (.ifCond .eq 0, 113, 0), (.goto_w 0, 31, 0)]),
  (287, [(.aload 1, 0, 0), (.iload 10, 0, 0), (.iconst (1), 0, 0), (.iconst (1), 0, 0), (.iconst (0), 0, 0), (.iconst (40), 0, 0), (.invokevirtual 0, 101, 0), (.istore 11, 0, 0), (.iload 11, 0, 0), (.ifCond .lt 0, 37, 0), (.goto_w 0, 32, 0)]),
  (305, [(.iload 11, 0, 0), (.iload 2, 0, 0), (.if_icmp .ge 0, 37, 0), (.goto_w 0, 33, 0)]),
  (311, [(.aload 1, 0, 0), (.iconst (0), 0, 0), (.invokevirtual 0, 102, 0), (.iload 10, 0, 0), (.if_icmp .ne 0, 37, 0), (.goto_w 0, 34, 0)]),
  (321, [(.aload 1, 0, 0), (.iconst (40), 0, 0), (.invokevirtual 0, 102, 0), (.iload 11, 0, 0), (.if_icmp .ne 0, 37, 0), (.goto_w 0, 35, 0)]),
  (332, [(.aload 1, 0, 0), (.iconst (41), 0, 0), (.invokevirtual 0, 102, 0), (.iconst (-1), 0, 0), (.if_icmp .ne 0, 37, 0), (.goto_w 0, 36, 0)]),
  (342, [(.iconst (1), 0, 0), (.goto 0, 38, 0)]),
  (346, [(.iconst (0), 0, 0), (.goto_w 0, 38, 0)]),
  (347, [(.istore 6, 0, 0), (.iload 7, 0, 0), (.iload 10, 0, 0), (.ishr, 0, 0), (.iconst (1), 0, 0), (.iand, 0, 0), (.iconst (1), 0, 0), (.if_icmp .ne 0, 40, 0), (.goto_w 0, 39, 0)]),
  (360, [(.iconst (1), 0, 0), (.goto 0, 41, 0)]),
  (364, [(.iconst (0), 0, 0), (.goto_w 0, 41, 0)]),
  (365, [(.istore 12, 0, 0), (.iload 12, 0, 0), (.ifCond .ne 0, 59, 0), (.goto_w 0, 42, 0)]),
  (372, [(.iconst (0), 0, 0), (.istore 13, 0, 0), (.goto_w 0, 43, 0)]),
  (375, [(.iload 13, 0, 0), (.aload 1, 0, 0), (.iload 10, 0, 0), (.iload 4, 0, 0), (.invokevirtual 0, 89, 0), (.if_icmp .ge 0, 54, 0), (.goto_w 0, 44, 0)]),
  (388, [(.iload 6, 0, 0), (.ifCond .eq 0, 54, 0), (.goto_w 0, 45, 0)]),
  (393, [(.iload 5, 0, 0), (.iconst (1), 0, 0), (.if_icmp .ne 0, 47, 0), (.goto_w 0, 46, 0)]),
  (399, [(.iload 8, 0, 0), (.iload 10, 0, 0), (.ishr, 0, 0), (.iconst (1), 0, 0), (.iand, 0, 0), (.ifCond .eq 0, 51, 0), (.goto_w 0, 47, 0)]),
  (409, [(.aload 1, 0, 0), (.iload 10, 0, 0), (.iload 13, 0, 0), (.invokevirtual 0, 99, 0), (.ifCond .ge 0, 51, 0), (.goto_w 0, 48, 0)]),
  (420, [(.iload 5, 0, 0), (.iconst (4), 0, 0), (.if_icmp .ne 0, 50, 0), (.goto_w 0, 49, 0)]),
  (426, [(.iload 8, 0, 0), (.iload 10, 0, 0), (.ishr, 0, 0), (.iconst (1), 0, 0), (.iand, 0, 0), (.ifCond .eq 0, 51, 0), (.goto_w 0, 50, 0)]),
  (436, [(.iload 5, 0, 0), (.iconst (3), 0, 0), (.if_icmp .ne 0, 52, 0), (.goto_w 0, 51, 0)]),
  (442, [(.iconst (1), 0, 0), (.goto 0, 53, 0)]),
  (446, [(.iconst (0), 0, 0), (.goto_w 0, 53, 0)]),
  (447, [(.istore 6, 0, 0), (.iinc 13 (1), 0, 0), (.goto 0, 43, 0)]),
  (455, [(.iload 6, 0, 0), (.ifCond .eq 0, 57, 0), (.goto_w 0, 55, 0)]),
  (460, [(.aload 1, 0, 0), (.iload 10, 0, 0), (.invokevirtual 0, 98, 0), (.iconst (-4), 0, 0), (.if_icmp .ne 0, 57, 0), (.goto_w 0, 56, 0)]),
  (471, [(.iconst (1), 0, 0), (.goto 0, 58, 0)]),
  (475, [(.iconst (0), 0, 0), (.goto_w 0, 58, 0)]),
  (476, [(.istore 6, 0, 0), (.goto 0, 112, 0)]),
  (481, [(.iload 5, 0, 0), (.ifCond .ne 0, 65, 0), (.goto_w 0, 60, 0)]),
  (486, [(.iload 8, 0, 0), (.aload 1, 0, 0), (.iconst (1), 0, 0), (.invokevirtual 0, 102, 0), (.ishr, 0, 0), (.iconst (1), 0, 0), (.iand, 0, 0), (.iconst (1), 0, 0), (.if_icmp .ne 0, 63, 0), (.goto_w 0, 61, 0)]),
  (500, [(.aload 1, 0, 0), (.iload 10, 0, 0), (.invokevirtual 0, 97, 0), (.iconst (-2), 0, 0), (.if_icmp .ne 0, 63, 0), (.goto_w 0, 62, 0)]),
  (511, [(.iconst (1), 0, 0), (.goto 0, 64, 0)]),
  (515, [(.iconst (0), 0, 0), (.goto_w 0, 64, 0)]),
  (516, [(.istore 6, 0, 0), (.goto 0, 112, 0)]),
  (521, [(.iload 5, 0, 0), (.iconst (1), 0, 0), (.if_icmp .ne 0, 74, 0), (.goto_w 0, 66, 0)]),
  (527, [(.iconst (0), 0, 0), (.istore 13, 0, 0), (.goto_w 0, 67, 0)]),
  (530, [(.iload 13, 0, 0), (.iconst (40), 0, 0), (.if_icmp .gt 0, 73, 0), (.goto_w 0, 68, 0)]),
  (537, [(.iload 6, 0, 0), (.ifCond .eq 0, 73, 0), (.goto_w 0, 69, 0)]),
  (542, [(.iload 8, 0, 0), (.aload 1, 0, 0), (.iload 13, 0, 0), (.invokevirtual 0, 102, 0), (.ishr, 0, 0), (.iload 7, 0, 0), (.aload 1, 0, 0), (.iload 13, 0, 0), (.invokevirtual 0, 102, 0), (.ishr, 0, 0), (.iand, 0, 0), (.iconst (1), 0, 0), (.iand, 0, 0), (.iconst (1), 0, 0), (.if_icmp .ne 0, 71, 0), (.goto_w 0, 70, 0)]),
  (567, [(.iconst (1), 0, 0), (.goto 0, 72, 0)]),
  (571, [(.iconst (0), 0, 0), (.goto_w 0, 72, 0)]),
  (572, [(.istore 6, 0, 0), (.iinc 13 (1), 0, 0), (.goto 0, 67, 0)]),
  (580, [(.goto 0, 112, 0)]),
  (583, [(.iload 5, 0, 0), (.iconst (3), 0, 0), (.if_icmp .ne 0, 90, 0), (.goto_w 0, 75, 0)]),
  (589, [(.iconst (0), 0, 0), (.istore 13, 0, 0), (.iconst (0), 0, 0), (.istore 14, 0, 0), (.goto_w 0, 76, 0)]),
  (595, [(.iload 14, 0, 0), (.iconst (40), 0, 0), (.if_icmp .gt 0, 89, 0), (.goto_w 0, 77, 0)]),
  (602, [(.iload 6, 0, 0), (.ifCond .eq 0, 89, 0), (.goto_w 0, 78, 0)]),
  (607, [(.aload 1, 0, 0), (.iload 14, 0, 0), (.invokevirtual 0, 102, 0), (.istore 15, 0, 0), (.iload 8, 0, 0), (.iload 15, 0, 0), (.ishr, 0, 0), (.iconst (1), 0, 0), (.iand, 0, 0), (.iconst (1), 0, 0), (.if_icmp .ne 0, 80, 0), (.goto_w 0, 79, 0)]),
  (626, [(.iconst (0), 0, 0), (.goto 0, 81, 0)]),
  (630, [(.iload 13, 0, 0), (.iconst (1), 0, 0), (.iadd, 0, 0), (.goto_w 0, 81, 0)]),
  (634, [(.istore 13, 0, 0), (.iload 7, 0, 0), (.iload 15, 0, 0), (.ishr, 0, 0), (.iconst (1), 0, 0), (.iand, 0, 0), (.iconst (1), 0, 0), (.if_icmp .ne 0, 87, 0), (.goto_w 0, 82, 0)]),
  (647, [(.iload 13, 0, 0), (.iload 2, 0, 0), (.if_icmp .gt 0, 87, 0), (.goto_w 0, 83, 0)]),
  (653, [(.iload 14, 0, 0), (.iconst (40), 0, 0), (.if_icmp .eq 0, 86, 0), (.goto_w 0, 84, 0)]),
  (660, [(.aload 1, 0, 0), (.iload 15, 0, 0), (.invokevirtual 0, 97, 0), (.ifCond .eq 0, 86, 0), (.goto_w 0, 85, 0)]),
  (669, [(.aload 1, 0, 0), (.aload 1, 0, 0), (.iload 14, 0, 0), (.iconst (1), 0, 0), (.iadd, 0, 0), (.invokevirtual 0, 102, 0), (.invokevirtual 0, 97, 0), (.aload 1, 0, 0), (.iload 15, 0, 0), (.invokevirtual 0, 97, 0), (.if_icmp .ge 0, 87, 0), (.goto_w 0, 86, 0)]),
  (690, [(.iconst (1), 0, 0), (.goto 0, 88, 0)]),
  (694, [(.iconst (0), 0, 0), (.goto_w 0, 88, 0)]),
  (695, [(.istore 6, 0, 0), (.iinc 14 (1), 0, 0), (.goto 0, 76, 0)]),
  (703, [(.goto 0, 112, 0)]),
  (706, [(.iconst (0), 0, 0), (.istore 13, 0, 0), (.goto_w 0, 91, 0)]),
  (709, [(.iload 6, 0, 0), (.ifCond .eq 0, 102, 0), (.goto_w 0, 92, 0)]),
  (714, [(.aload 1, 0, 0), (.aload 1, 0, 0), (.iload 13, 0, 0), (.invokevirtual 0, 102, 0), (.invokevirtual 0, 97, 0), (.ifCond .le 0, 102, 0), (.goto_w 0, 93, 0)]),
  (727, [(.aload 1, 0, 0), (.iload 13, 0, 0), (.invokevirtual 0, 102, 0), (.istore 14, 0, 0), (.aload 1, 0, 0), (.iload 13, 0, 0), (.iconst (1), 0, 0), (.iadd, 0, 0), (.invokevirtual 0, 102, 0), (.istore 15, 0, 0), (.iload 13, 0, 0), (.iload 2, 0, 0), (.if_icmp .ge 0, 100, 0), (.goto_w 0, 94, 0)]),
  (751, [(.iload 7, 0, 0), (.iload 14, 0, 0), (.ishr, 0, 0), (.iconst (1), 0, 0), (.iand, 0, 0), (.iconst (1), 0, 0), (.if_icmp .ne 0, 100, 0), (.goto_w 0, 95, 0)]),
  (762, [(.aload 1, 0, 0), (.iload 15, 0, 0), (.invokevirtual 0, 97, 0), (.ifCond .lt 0, 100, 0), (.goto_w 0, 96, 0)]),
  (771, [(.aload 1, 0, 0), (.iload 15, 0, 0), (.invokevirtual 0, 97, 0), (.aload 1, 0, 0), (.iload 14, 0, 0), (.invokevirtual 0, 97, 0), (.if_icmp .ge 0, 100, 0), (.goto_w 0, 97, 0)]),
  (786, [(.iload 5, 0, 0), (.iconst (2), 0, 0), (.if_icmp .eq 0, 99, 0), (.goto_w 0, 98, 0)]),
  (792, [(.iload 8, 0, 0), (.iload 14, 0, 0), (.ishr, 0, 0), (.iconst (1), 0, 0), (.iand, 0, 0), (.iconst (1), 0, 0), (.if_icmp .ne 0, 100, 0), (.goto_w 0, 99, 0)]),
  (803, [(.iconst (1), 0, 0), (.goto 0, 101, 0)]),
  (807, [(.iconst (0), 0, 0), (.goto_w 0, 101, 0)]),
  (808, [(.istore 6, 0, 0), (.iinc 13 (1), 0, 0), (.goto 0, 91, 0)]),
  (816, [(.iload 6, 0, 0), (.ifCond .eq 0, 110, 0), (.goto_w 0, 103, 0)]),
  (821, [(.iload 9, 0, 0), (.aload 1, 0, 0), (.iload 13, 0, 0), (.invokevirtual 0, 102, 0), (.ishr, 0, 0), (.iconst (1), 0, 0), (.iand, 0, 0), (.iconst (1), 0, 0), (.if_icmp .ne 0, 110, 0), (.goto_w 0, 104, 0)]),
  (836, [(.iload 13, 0, 0), (.aload 1, 0, 0), (.iload 10, 0, 0), (.invokevirtual 0, 97, 0), (.if_icmp .gt 0, 110, 0), (.goto_w 0, 105, 0)]),
  (847, [(.aload 1, 0, 0), (.iload 10, 0, 0), (.invokevirtual 0, 100, 0), (.ifCond .lt 0, 110, 0), (.goto_w 0, 106, 0)]),
  (856, [(.aload 1, 0, 0), (.iload 10, 0, 0), (.invokevirtual 0, 97, 0), (.ifCond .gt 0, 108, 0), (.goto_w 0, 107, 0)]),
  (865, [(.aload 1, 0, 0), (.iload 10, 0, 0), (.invokevirtual 0, 100, 0), (.ifCond .ne 0, 110, 0), (.goto_w 0, 108, 0)]),
  (874, [(.aload 1, 0, 0), (.iload 10, 0, 0), (.invokevirtual 0, 100, 0), (.iconst (9), 0, 0), (.iload 3, 0, 0), (.imul, 0, 0), (.iload 2, 0, 0), (.imul, 0, 0), (.if_icmp .gt 0, 110, 0), (.goto_w 0, 109, 0)]),
  (889, [(.iconst (1), 0, 0), (.goto 0, 111, 0)]),
  (893, [(.iconst (0), 0, 0), (.goto_w 0, 111, 0)]),
  (894, [(.istore 6, 0, 0), (.goto_w 0, 112, 0)]),
  (896, [(.iinc 10 (1), 0, 0), (.goto 0, 29, 0)]),
  (902, [(.iload 6, 0, 0), (.ireturn, 0, 0)])]
def zBs : List (List (Nat × List zEnt)) := [zB_Bl_init, zB_Fo_init, zB_Fo_becomeTrue, zB_Fo_clear, zB_Fo_add, zB_Fo_set, zB_Fo_become, zB_Fo_kind, zB_Fo_left, zB_Fo_right, zB_Fo_group, zB_Fo_isLaw, zB_Fo_isOfGroup, zB_Fo_hasRounds, zB_Fo_hasToll, zB_Go_init, zB_Go_forget, zB_La_init, zB_La_whole, zB_La_refresh, zB_La_judge, zB_La_always, zB_La_until, zB_La_mark, zB_La_again, zB_La_ahead, zB_Lo_init, zB_Ne_init, zB_Ne_begin, zB_Ne_leadBack, zB_Ne_hasState, zB_Ne_hasPlayer, zB_Ne_hasGroup, zB_Ne_hasMove, zB_Ne_hasJoint, zB_Ne_everyone, zB_Ne_everywhere, zB_Ne_movesOf, zB_Ne_target, zB_Ne_changeMoves, zB_Ne_changeTarget, zB_Ne_changeLetters, zB_Ne_bearing, zB_Ne_ways, zB_Ne_together, zB_Ne_sumOfPrices, zB_Pl_init, zB_Pl_move, zB_Pl_aim, zB_Pl_hinder, zB_Pl_leastSum, zB_Pl_cheapest, zB_Pl_worst, zB_Pl_forget, zB_Pl_startWalk, zB_Pl_goOn, zB_Pl_behind, zB_Sh_init, zB_Sh_hasPlace, zB_Sh_isEmptyPlace, zB_Sh_hasItems, zB_Sh_wrong, zB_Sh_start, zB_Sh_read, zB_Sh_write, zB_Sh_hasBelowZero, zB_Ta_init, zB_Ta_prepare, zB_Ta_fill, zB_Ta_share, zB_Ta_endsOf, zB_Ta_leastInto, zB_Ta_forcing, zB_Tp_init, zB_Tp_add, zB_Tp_byteOf, zB_Tp_understand, zB_Tp_here, zB_Tp_refuse, zB_Tp_take, zB_Tp_readForm, zB_Tp_readGroup, zB_Tp_readLaw, zB_Tp_readPair, zB_Tp_lawKind, zB_Tp_pairKind, zB_FN_init, zB_FN_net, zB_FN_moves, zB_FN_joint, zB_FN_step, zB_FN_letters, zB_FN_price, zB_FN_type, zB_FN_form, zB_FN_holds, zB_FN_part, zB_FN_round, zB_FN_plan, zB_FN_answer, zB_FN_toll, zB_FN_walk, zB_FN_walked, zB_FN_sheet, zB_FN_item, zB_FN_at, zB_FN_put, zB_FN_swap, zB_FN_has, zB_FN_over, zB_FN_rest, zB_JA_fill, zB_LW_cell, zB_LW_lays, zB_LW_statesOf, zB_LW_playersOf, zB_LW_group, zB_LW_outermost, zB_LW_law]
def zMI : List (MethodName × ByteArray × Nat × Option FieldType × Nat × Nat × Bool × Bool) := [
  (yX0_init, cX0_init, 3, none, 0, 2, false, true),
  (yX1_init, cX1_init, 1, none, 1, 0, false, true),
  (yX1_becomeTrue, cX1_becomeTrue, 1, none, 1, 0, false, false),
  (yX1_clear, cX1_clear, 1, none, 1, 0, false, false),
  (yX1_add, cX1_add, 3, some .int, 1, 1, false, false),
  (yX1_set, cX1_set, 5, none, 1, 4, false, false),
  (yX1_become, cX1_become, 3, none, 1, 1, false, false),
  (yX1_kind, cX1_kind, 2, some .int, 1, 1, false, false),
  (yX1_left, cX1_left, 2, some .int, 1, 1, false, false),
  (yX1_right, cX1_right, 2, some .int, 1, 1, false, false),
  (yX1_group, cX1_group, 2, some .int, 1, 1, false, false),
  (yX1_isLaw, cX1_isLaw, 2, some .boolean, 1, 1, false, false),
  (yX1_isOfGroup, cX1_isOfGroup, 1, some .boolean, 1, 0, false, false),
  (yX1_hasRounds, cX1_hasRounds, 1, some .boolean, 1, 0, false, false),
  (yX1_hasToll, cX1_hasToll, 1, some .boolean, 1, 0, false, false),
  (yX2_init, cX2_init, 2, none, 2, 1, false, true),
  (yX2_forget, cX2_forget, 1, none, 2, 0, false, false),
  (yX3_init, cX3_init, 4, none, 3, 3, false, true),
  (yX3_whole, cX3_whole, 1, some .int, 3, 0, false, false),
  (yX3_refresh, cX3_refresh, 2, none, 3, 0, false, false),
  (yX3_judge, cX3_judge, 5, some .int, 3, 1, false, false),
  (yX3_always, cX3_always, 4, some .int, 3, 1, false, false),
  (yX3_until, cX3_until, 6, some .int, 3, 2, false, false),
  (yX3_mark, cX3_mark, 4, none, 3, 2, false, false),
  (yX3_again, cX3_again, 5, some .int, 3, 1, false, false),
  (yX3_ahead, cX3_ahead, 4, some .int, 3, 1, false, false),
  (yX4_init, cX4_init, 2, none, 4, 1, false, true),
  (yX5_init, cX5_init, 1, none, 5, 0, false, true),
  (yX5_begin, cX5_begin, 5, none, 5, 2, false, false),
  (yX5_leadBack, cX5_leadBack, 3, none, 5, 1, false, false),
  (yX5_hasState, cX5_hasState, 2, some .boolean, 5, 1, false, false),
  (yX5_hasPlayer, cX5_hasPlayer, 2, some .boolean, 5, 1, false, false),
  (yX5_hasGroup, cX5_hasGroup, 2, some .boolean, 5, 1, false, false),
  (yX5_hasMove, cX5_hasMove, 4, some .boolean, 5, 3, false, false),
  (yX5_hasJoint, cX5_hasJoint, 3, some .boolean, 5, 2, false, false),
  (yX5_everyone, cX5_everyone, 1, some .int, 5, 0, false, false),
  (yX5_everywhere, cX5_everywhere, 1, some .int, 5, 0, false, false),
  (yX5_movesOf, cX5_movesOf, 3, some .int, 5, 2, false, false),
  (yX5_target, cX5_target, 3, some .int, 5, 2, false, false),
  (yX5_changeMoves, cX5_changeMoves, 4, some .int, 5, 3, false, false),
  (yX5_changeTarget, cX5_changeTarget, 4, some .int, 5, 3, false, false),
  (yX5_changeLetters, cX5_changeLetters, 3, some .int, 5, 2, false, false),
  (yX5_bearing, cX5_bearing, 4, some .int, 5, 1, false, false),
  (yX5_ways, cX5_ways, 5, some .int, 5, 2, false, false),
  (yX5_together, cX5_together, 11, some .int, 5, 4, false, false),
  (yX5_sumOfPrices, cX5_sumOfPrices, 8, some .int, 5, 3, false, false),
  (yX6_init, cX6_init, 5, none, 6, 4, false, true),
  (yX6_move, cX6_move, 3, some .int, 6, 1, false, false),
  (yX6_aim, cX6_aim, 3, some .int, 6, 1, false, false),
  (yX6_hinder, cX6_hinder, 7, some .int, 6, 2, false, false),
  (yX6_leastSum, cX6_leastSum, 4, some .int, 6, 1, false, false),
  (yX6_cheapest, cX6_cheapest, 6, some .int, 6, 1, false, false),
  (yX6_worst, cX6_worst, 4, some .int, 6, 1, false, false),
  (yX6_forget, cX6_forget, 1, none, 6, 0, false, false),
  (yX6_startWalk, cX6_startWalk, 2, none, 6, 1, false, false),
  (yX6_goOn, cX6_goOn, 6, none, 6, 1, false, false),
  (yX6_behind, cX6_behind, 2, some .int, 6, 1, false, false),
  (yX7_init, cX7_init, 1, none, 7, 0, false, true),
  (yX7_hasPlace, cX7_hasPlace, 3, some .boolean, 7, 2, false, false),
  (yX7_isEmptyPlace, cX7_isEmptyPlace, 2, some .boolean, 7, 1, false, false),
  (yX7_hasItems, cX7_hasItems, 5, some .boolean, 7, 3, false, false),
  (yX7_wrong, cX7_wrong, 5, some .int, 7, 4, false, false),
  (yX7_start, cX7_start, 5, none, 7, 3, false, false),
  (yX7_read, cX7_read, 3, some .int, 7, 2, false, false),
  (yX7_write, cX7_write, 4, none, 7, 3, false, false),
  (yX7_hasBelowZero, cX7_hasBelowZero, 5, some .boolean, 7, 3, false, false),
  (yX8_init, cX8_init, 2, none, 8, 1, false, true),
  (yX8_prepare, cX8_prepare, 3, none, 8, 1, false, false),
  (yX8_fill, cX8_fill, 5, none, 8, 1, false, false),
  (yX8_share, cX8_share, 8, some .int, 8, 1, false, false),
  (yX8_endsOf, cX8_endsOf, 3, some .int, 8, 2, false, false),
  (yX8_leastInto, cX8_leastInto, 5, some .int, 8, 2, false, false),
  (yX8_forcing, cX8_forcing, 5, some .int, 8, 2, false, false),
  (yX9_init, cX9_init, 1, none, 9, 0, false, true),
  (yX9_add, cX9_add, 6, some .int, 9, 2, false, false),
  (yX9_byteOf, cX9_byteOf, 3, some .int, 9, 2, true, false),
  (yX9_understand, cX9_understand, 2, some .int, 9, 1, false, false),
  (yX9_here, cX9_here, 1, some .int, 9, 0, false, false),
  (yX9_refuse, cX9_refuse, 1, some .boolean, 9, 0, false, false),
  (yX9_take, cX9_take, 2, some .boolean, 9, 1, false, false),
  (yX9_readForm, cX9_readForm, 4, some .boolean, 9, 1, false, false),
  (yX9_readGroup, cX9_readGroup, 6, some .boolean, 9, 1, false, false),
  (yX9_readLaw, cX9_readLaw, 5, some .boolean, 9, 2, false, false),
  (yX9_readPair, cX9_readPair, 5, some .boolean, 9, 3, false, false),
  (yX9_lawKind, cX9_lawKind, 1, some .int, 9, 1, true, false),
  (yX9_pairKind, cX9_pairKind, 1, some .int, 9, 1, true, false),
  (yX10_init, cX10_init, 5, none, 10, 0, false, true),
  (yX10_net, cX10_net, 3, some .int, 10, 2, false, false),
  (yX10_moves, cX10_moves, 4, some .int, 10, 3, false, false),
  (yX10_joint, cX10_joint, 3, some .int, 10, 2, false, false),
  (yX10_step, cX10_step, 4, some .int, 10, 3, false, false),
  (yX10_letters, cX10_letters, 3, some .int, 10, 2, false, false),
  (yX10_price, cX10_price, 5, some .int, 10, 4, false, false),
  (yX10_type, cX10_type, 4, some .int, 10, 2, false, false),
  (yX10_form, cX10_form, 2, some .int, 10, 0, false, false),
  (yX10_holds, cX10_holds, 1, some .int, 10, 0, false, false),
  (yX10_part, cX10_part, 2, some .int, 10, 1, false, false),
  (yX10_round, cX10_round, 2, some .int, 10, 1, false, false),
  (yX10_plan, cX10_plan, 2, some .int, 10, 1, false, false),
  (yX10_answer, cX10_answer, 3, some .int, 10, 2, false, false),
  (yX10_toll, cX10_toll, 2, some .int, 10, 1, false, false),
  (yX10_walk, cX10_walk, 8, some .int, 10, 5, false, false),
  (yX10_walked, cX10_walked, 2, some .int, 10, 1, false, false),
  (yX10_sheet, cX10_sheet, 4, some .int, 10, 3, false, false),
  (yX10_item, cX10_item, 6, some .int, 10, 4, false, false),
  (yX10_at, cX10_at, 2, some .int, 10, 2, true, false),
  (yX10_put, cX10_put, 3, none, 10, 3, true, false),
  (yX10_swap, cX10_swap, 4, some .int, 10, 3, true, false),
  (yX10_has, cX10_has, 2, some .boolean, 10, 2, true, false),
  (yX10_over, cX10_over, 2, some .int, 10, 2, true, false),
  (yX10_rest, cX10_rest, 2, some .int, 10, 2, true, false),
  (yJ7_fill_53178, cJ7_fill_53178, 4, none, 14, 2, true, false),
  (yL_cell, cL_cell, 2, some .int, 12, 2, true, false),
  (yL_lays, cL_lays, 8, none, 12, 2, true, false),
  (yL_statesOf, cL_statesOf, 1, some .int, 12, 1, true, false),
  (yL_playersOf, cL_playersOf, 1, some .int, 12, 1, true, false),
  (yL_group, cL_group, 4, some .boolean, 12, 2, true, false),
  (yL_outermost, cL_outermost, 4, some .boolean, 12, 3, true, false),
  (yL_law, cL_law, 16, some .boolean, 12, 1, true, false)]
def zCN : List String := [RX0, RX1, RX2, RX3, RX4, RX5, RX6, RX7, RX8, RX9, RX10, RX11, RL, RJ9, RJ7]
def zFTy : List (List Nat) := [[3, 3, 3, 3, 3, 0, 0, 0, 0], [0, 0, 3, 3, 3, 3], [3, 3, 3], [3, 3, 3, 3, 3, 0, 0], [3, 0, 1, 1, 3, 3, 3, 3], [0, 0, 0, 3, 3, 3, 3, 3, 3], [3, 3, 3, 3, 3, 3, 0], [3, 3, 3], [3, 3, 3, 3, 0, 0], [3, 3, 0, 0, 0, 0], [3, 3, 3, 3, 3, 3, 3, 3, 3]]
/-- own class, index, class, slot, place of the word in tables_1 -/
def zFT : List (Nat × Nat × Nat × Nat × Nat) := [(0, 9, 0, 2, 248), (0, 15, 0, 3, 249), (0, 18, 0, 4, 250), (0, 21, 0, 0, 246), (0, 25, 0, 1, 247), (1, 9, 1, 2, 108), (1, 15, 1, 3, 109), (1, 18, 1, 4, 110), (1, 21, 1, 5, 111), (1, 38, 1, 0, 102), (1, 42, 1, 1, 106), (2, 9, 2, 1, 308), (2, 15, 2, 2, 309), (2, 18, 2, 0, 307), (3, 9, 3, 3, 161), (3, 15, 3, 4, 164), (3, 18, 3, 5, 167), (3, 22, 3, 6, 168), (3, 25, 3, 0, 158), (3, 29, 3, 1, 159), (3, 33, 3, 2, 160), (3, 41, 5, 2, 51), (3, 46, 1, 1, 107), (3, 49, 1, 0, 103), (3, 110, 5, 0, 45), (4, 9, 4, 1, 277), (4, 15, 4, 4, 279), (4, 19, 4, 5, 280), (4, 22, 4, 6, 281), (4, 25, 4, 7, 282), (4, 29, 4, 0, 276), (5, 9, 5, 3, 52), (5, 15, 5, 4, 53), (5, 18, 5, 5, 54), (5, 21, 5, 6, 56), (5, 24, 5, 7, 57), (5, 27, 5, 8, 58), (5, 34, 5, 0, 42), (5, 38, 5, 1, 46), (5, 55, 5, 2, 50), (6, 9, 6, 4, 222), (6, 15, 6, 5, 223), (6, 18, 6, 0, 218), (6, 22, 6, 1, 219), (6, 26, 6, 2, 220), (6, 30, 6, 3, 221), (6, 54, 3, 4, 165), (6, 66, 3, 3, 162), (6, 98, 5, 0, 44), (6, 105, 8, 2, 135), (6, 125, 6, 6, 224), (7, 9, 7, 0, 324), (7, 15, 7, 1, 325), (7, 18, 7, 2, 326), (8, 9, 8, 1, 133), (8, 15, 8, 2, 134), (8, 18, 8, 3, 136), (8, 21, 8, 4, 137), (8, 25, 8, 5, 138), (8, 28, 8, 0, 132), (8, 32, 5, 2, 49), (8, 41, 5, 0, 43), (8, 65, 5, 1, 47), (9, 9, 9, 0, 192), (9, 18, 9, 1, 193), (9, 26, 9, 2, 195), (9, 34, 9, 5, 198), (9, 37, 9, 3, 196), (9, 40, 9, 4, 197), (9, 62, 1, 0, 104), (9, 84, 1, 5, 112), (10, 23, 10, 0, 334), (10, 29, 10, 1, 335), (10, 36, 10, 2, 336), (10, 40, 10, 3, 337), (10, 49, 10, 4, 338), (10, 58, 10, 5, 339), (10, 65, 10, 6, 340), (10, 72, 10, 7, 341), (10, 79, 10, 8, 342), (10, 90, 4, 1, 278), (10, 141, 5, 5, 55), (10, 162, 5, 1, 48), (10, 169, 9, 1, 194), (10, 176, 1, 0, 105), (10, 185, 3, 3, 163), (10, 205, 3, 4, 166)]
/-- own class, index, method, kind (0 virtual, 1 static, 2 special), nest, place -/
def zCT : List (Nat × Nat × Nat × Nat × Nat × Nat) := [(1, 24, 2, 0, 0, 85), (1, 27, 3, 0, 0, 89), (1, 30, 4, 0, 0, 93), (1, 34, 5, 0, 0, 98), (1, 45, 106, 1, 1, 97), (1, 49, 10, 0, 0, 805), (1, 52, 7, 0, 0, 422), (1, 55, 8, 0, 0, 806), (1, 58, 9, 0, 0, 807), (1, 61, 105, 1, 1, 426), (1, 65, 11, 0, 0, 526), (2, 22, 111, 1, 0, 687), (3, 37, 105, 1, 1, 461), (3, 52, 11, 0, 0, 418), (3, 56, 10, 0, 0, 427), (3, 60, 67, 0, 0, 431), (3, 66, 20, 0, 0, 453), (3, 69, 106, 1, 1, 492), (3, 73, 8, 0, 0, 457), (3, 76, 9, 0, 0, 462), (3, 79, 36, 0, 0, 466), (3, 83, 7, 0, 0, 470), (3, 86, 42, 0, 0, 471), (3, 89, 72, 0, 0, 475), (3, 93, 21, 0, 0, 483), (3, 96, 22, 0, 0, 487), (3, 99, 24, 0, 0, 497), (3, 102, 108, 1, 1, 491), (3, 106, 23, 0, 0, 493), (5, 30, 28, 0, 0, 28), (5, 41, 111, 1, 0, 32), (5, 47, 29, 0, 0, 35), (5, 51, 106, 1, 1, 39), (5, 58, 35, 0, 0, 374), (5, 65, 30, 0, 0, 400), (5, 69, 31, 0, 0, 401), (5, 72, 37, 0, 0, 385), (5, 76, 43, 0, 0, 718), (5, 79, 105, 1, 1, 389), (5, 83, 107, 1, 1, 701), (5, 87, 108, 1, 1, 382), (5, 91, 110, 1, 1, 561), (5, 94, 109, 1, 1, 564), (6, 34, 18, 0, 0, 531), (6, 40, 108, 1, 1, 532), (6, 44, 48, 0, 0, 533), (6, 48, 71, 0, 0, 544), (6, 57, 105, 1, 1, 537), (6, 61, 7, 0, 0, 538), (6, 69, 8, 0, 0, 539), (6, 72, 25, 0, 0, 540), (6, 75, 10, 0, 0, 554), (6, 78, 35, 0, 0, 555), (6, 83, 43, 0, 0, 556), (6, 86, 44, 0, 0, 557), (6, 90, 38, 0, 0, 567), (6, 94, 106, 1, 1, 581), (6, 102, 51, 0, 0, 582), (6, 107, 45, 0, 0, 586), (6, 111, 70, 0, 0, 590), (6, 114, 52, 0, 0, 594), (6, 128, 110, 1, 1, 642), (6, 131, 47, 0, 0, 643), (7, 21, 111, 1, 0, 323), (7, 27, 105, 1, 1, 620), (7, 31, 59, 0, 0, 616), (7, 35, 60, 0, 0, 621), (7, 39, 106, 1, 1, 660), (7, 43, 63, 0, 0, 629), (8, 35, 111, 1, 0, 435), (8, 44, 68, 0, 0, 436), (8, 47, 43, 0, 0, 440), (8, 50, 106, 1, 1, 441), (8, 54, 69, 0, 0, 442), (8, 58, 105, 1, 1, 447), (8, 62, 38, 0, 0, 449), (8, 68, 37, 0, 0, 446), (8, 71, 108, 1, 1, 448), (8, 75, 71, 0, 0, 479), (9, 17, 1, 2, 0, 191), (9, 22, 75, 1, 0, 744), (9, 30, 106, 1, 1, 747), (9, 43, 3, 0, 0, 763), (9, 46, 80, 0, 0, 764), (9, 50, 77, 0, 0, 768), (9, 54, 78, 0, 0, 773), (9, 58, 105, 1, 1, 772), (9, 65, 4, 0, 0, 777), (9, 69, 5, 0, 0, 778), (9, 73, 83, 0, 0, 779), (9, 77, 81, 0, 0, 790), (9, 80, 82, 0, 0, 794), (9, 87, 79, 0, 0, 786), (9, 90, 84, 1, 0, 798), (9, 93, 85, 1, 0, 783), (10, 9, 27, 2, 0, 24), (10, 12, 1, 2, 0, 81), (10, 15, 66, 2, 0, 128), (10, 20, 17, 2, 0, 154), (10, 35, 73, 2, 1, 186), (10, 46, 46, 2, 0, 214), (10, 55, 0, 2, 0, 242), (10, 64, 26, 2, 0, 272), (10, 71, 15, 2, 0, 303), (10, 78, 57, 2, 0, 319), (10, 83, 28, 0, 0, 681), (10, 87, 2, 0, 0, 682), (10, 94, 16, 0, 0, 683), (10, 97, 53, 0, 0, 688), (10, 98, 30, 0, 0, 366), (10, 102, 31, 0, 0, 696), (10, 105, 39, 0, 0, 697), (10, 109, 32, 0, 0, 370), (10, 112, 43, 0, 0, 378), (10, 116, 34, 0, 0, 714), (10, 120, 40, 0, 0, 719), (10, 126, 41, 0, 0, 706), (10, 133, 107, 1, 0, 405), (10, 137, 33, 0, 0, 396), (10, 144, 58, 0, 0, 608), (10, 151, 61, 0, 0, 612), (10, 155, 63, 0, 0, 637), (10, 158, 74, 0, 0, 740), (10, 165, 76, 0, 0, 759), (10, 172, 6, 0, 0, 801), (10, 179, 19, 0, 0, 414), (10, 182, 18, 0, 0, 501), (10, 188, 105, 1, 0, 408), (10, 198, 13, 0, 0, 513), (10, 202, 108, 1, 0, 517), (10, 208, 12, 0, 0, 522), (10, 211, 47, 0, 0, 527), (10, 214, 10, 0, 0, 549), (10, 217, 49, 0, 0, 550), (10, 220, 14, 0, 0, 572), (10, 223, 50, 0, 0, 576), (10, 226, 65, 0, 0, 625), (10, 229, 54, 0, 0, 633), (10, 233, 55, 0, 0, 638), (10, 236, 56, 0, 0, 644), (10, 317, 62, 0, 0, 656), (10, 326, 64, 0, 0, 665), (10, 338, 106, 1, 0, 409), (12, 9, 112, 1, 0, 669), (12, 15, 87, 0, 0, 677), (12, 21, 88, 0, 0, 692), (12, 25, 91, 0, 0, 702), (12, 28, 89, 0, 0, 362), (12, 31, 90, 0, 0, 710), (12, 36, 93, 0, 0, 736), (12, 44, 116, 1, 0, 732), (12, 58, 94, 0, 0, 755), (12, 62, 86, 2, 0, 16), (12, 63, 113, 1, 0, 674), (12, 67, 114, 1, 0, 723), (12, 71, 115, 1, 0, 726), (12, 74, 117, 1, 0, 729), (12, 78, 103, 0, 0, 652), (12, 81, 92, 0, 0, 392), (12, 85, 104, 0, 0, 661), (12, 88, 95, 0, 0, 410), (12, 91, 96, 0, 0, 505), (12, 95, 101, 0, 0, 604), (12, 99, 102, 0, 0, 648), (12, 102, 99, 0, 0, 545), (12, 105, 98, 0, 0, 518), (12, 108, 97, 0, 0, 509), (12, 111, 100, 0, 0, 568)]
def zKT : List (Nat × Nat × Int × Nat) := [(6, 93, 1000000, 580), (12, 7, 15485957, 672), (12, 8, 2147483647, 673)]
def zKL : List (Nat × Nat × Int × Nat) := [(12, 34, 60, 735), (12, 40, 48, 748), (12, 42, 62, 749), (12, 48, 173431677481, 750), (12, 50, 22625, 751), (12, 52, 18273, 752), (12, 54, 18017, 753), (12, 56, 18785, 754)]
def zNT : List (Nat × Nat × Nat × Nat × Nat × Nat) := [(9, 15, 1, 190, 80, 4), (10, 7, 5, 22, 23, 2), (10, 10, 1, 79, 80, 4), (10, 13, 8, 126, 127, 5), (10, 18, 3, 152, 153, 6), (10, 33, 9, 184, 185, 7), (10, 44, 6, 212, 213, 8), (10, 53, 0, 240, 241, 9), (10, 62, 4, 270, 271, 10), (10, 69, 2, 301, 302, 11), (10, 76, 7, 317, 318, 12), (12, 16, 10, 14, 15, 1)]
def zOT : List (Nat × Nat × Nat) := [(0, 3, 245), (1, 3, 84), (2, 3, 306), (3, 3, 157), (4, 3, 275), (5, 3, 27), (6, 3, 217), (7, 3, 322), (8, 3, 131), (9, 3, 189), (10, 1, 19)]
def zAT : List (Nat × Nat × Nat) := []
/-- own class, index, which of Math (0 max, 1 min, 2 min of longs), place -/
def zMT : List (Nat × Nat × Nat × Nat) := [(6, 117, 1, 601), (6, 122, 0, 598)]
def zST : List (Nat × Nat × Nat) := []
def zMP : List (Nat × Nat × Nat × Nat) := [(262, 27, 261, 0), (101, 22, 100, 0), (106, 22, 104, 105), (110, 22, 108, 109), (114, 22, 112, 113), (119, 22, 117, 118), (822, 22, 820, 821), (443, 22, 441, 442), (478, 22, 476, 477), (483, 22, 481, 482), (448, 22, 446, 447), (439, 22, 437, 438), (543, 22, 541, 542), (534, 22, 532, 533), (593, 22, 591, 592), (323, 29, 322, 0), (704, 29, 702, 703), (174, 24, 173, 0), (522, 24, 520, 521), (435, 24, 433, 434), (474, 24, 473, 3), (504, 24, 503, 4), (508, 24, 507, 5), (514, 24, 513, 6), (518, 24, 517, 7), (561, 24, 559, 560), (292, 28, 291, 0), (44, 20, 43, 0), (49, 20, 47, 48), (56, 20, 55, 0), (387, 20, 385, 386), (422, 20, 420, 421), (391, 20, 389, 390), (417, 20, 415, 416), (735, 20, 733, 734), (395, 20, 393, 394), (487, 20, 485, 486), (406, 20, 404, 405), (470, 20, 468, 469), (718, 20, 716, 717), (740, 20, 738, 739), (727, 20, 725, 726), (492, 20, 490, 491), (399, 20, 397, 398), (578, 20, 576, 577), (607, 20, 605, 606), (234, 26, 233, 0), (548, 26, 546, 547), (554, 26, 553, 8), (571, 26, 569, 570), (597, 26, 595, 596), (603, 26, 602, 9), (615, 26, 614, 10), (709, 26, 707, 708), (654, 26, 652, 653), (659, 26, 657, 658), (665, 26, 663, 664), (339, 30, 338, 0), (629, 30, 627, 628), (637, 30, 635, 636), (642, 30, 640, 641), (633, 30, 631, 632), (677, 30, 675, 676), (650, 30, 648, 649), (686, 30, 684, 685), (646, 30, 644, 645), (148, 23, 147, 0), (452, 23, 450, 451), (457, 23, 456, 1), (463, 23, 462, 2), (611, 23, 609, 610), (500, 23, 498, 499), (496, 23, 494, 495), (206, 25, 205, 0), (761, 25, 759, 760), (764, 25, 763, 0), (780, 25, 778, 779), (789, 25, 788, 12), (794, 25, 793, 13), (807, 25, 806, 15), (785, 25, 784, 11), (811, 25, 810, 16), (815, 25, 814, 17), (800, 25, 799, 14), (818, 25, 817, 0), (803, 25, 802, 0), (36, 19, 35, 0), (698, 19, 696, 697), (713, 19, 711, 712), (383, 19, 381, 382), (731, 19, 729, 730), (723, 19, 721, 722), (413, 19, 411, 412), (757, 19, 755, 756), (776, 19, 774, 775), (431, 19, 429, 430), (526, 19, 524, 525), (530, 19, 528, 529), (539, 19, 537, 538), (566, 19, 564, 565), (589, 19, 587, 588), (625, 19, 623, 624), (669, 19, 667, 668), (673, 19, 671, 672), (682, 19, 680, 681), (409, 19, 408, 0), (59, 19, 58, 0), (425, 19, 424, 0), (402, 19, 401, 0), (584, 19, 583, 0), (581, 19, 580, 0), (52, 21, 51, 0), (689, 18, 688, 0), (694, 18, 693, 0), (743, 18, 742, 0), (746, 18, 745, 0), (752, 18, 751, 0), (749, 18, 748, 0), (0, 0, 0, 0)]
def zVK : List Bool := [false, false, true, true, true, true, true, true, true, true, true, true, true, true, true, false, true, false, true, true, true, true, true, true, true, true, false, false, true, true, true, true, true, true, true, true, true, true, true, true, true, true, true, true, true, true, false, true, true, true, true, true, true, true, true, true, true, false, true, true, true, true, true, true, true, true, false, true, true, true, true, true, true, false, true, false, true, true, true, true, true, true, true, true, false, false, false, true, true, true, true, true, true, true, true, true, true, true, true, true, true, true, true, true, true, false, false, false, false, false, false, false, false, false, false, false, false, false, false]
end
section
/-! A small machine: values are whole numbers, references are places in a list of cells. What it computes, the JVM computes (part 06). -/
abbrev zMV : Type := Int ⊕ (Int ⊕ Option Nat)
abbrev zI (x : Int) : zMV := .inl x
abbrev zL (x : Int) : zMV := .inr (.inl x)
abbrev zR (k : Nat) : zMV := .inr (.inr (some k))
abbrev zU : zMV := .inr (.inr none)
/-- a cell's kind (0 ints, 1 longs, 2 booleans, 3 + class), how many slots, the references of an object -/
abbrev zSh : Type := Nat × Nat × List (Option Nat)
/-- the cells, and what their numbers are -/
abbrev zWd : Type := List zSh × (Nat → Int → Int)
def zup (M : Nat → Int → Int) (k : Nat) (i v : Int) : Nat → Int → Int := fun k' i' => if k' = k ∧ i' = i then v else M k' i'
def zzero (M : Nat → Int → Int) (k : Nat) : Nat → Int → Int := fun k' i' => if k' = k then 0 else M k' i'
def zfty (ci k : Nat) : Nat := (zFTy.getD ci []).getD k 9
def znf (ci : Nat) : Nat := (zFTy.getD ci []).length
def zmi (mi : Nat) : MethodName × ByteArray × Nat × Option FieldType × Nat × Nat × Bool × Bool := zMI.getD mi (yL_law, cL_law, 0, none, 0, 0, false, false)
def zmN (mi : Nat) : MethodName := (zmi mi).1
def zmC (mi : Nat) : ByteArray := (zmi mi).2.1
def zmL (mi : Nat) : Nat := (zmi mi).2.2.1
def zmR (mi : Nat) : Option FieldType := (zmi mi).2.2.2.1
def zmO (mi : Nat) : Nat := (zmi mi).2.2.2.2.1
def zmA (mi : Nat) : Nat := (zmi mi).2.2.2.2.2.1
def zmI (mi : Nat) : Bool := (zmi mi).2.2.2.2.2.2.2
def zmS (mi : Nat) : Bool := (zmi mi).2.2.2.2.2.2.1
def zBk (mi : Nat) : List (Nat × List zEnt) := zBs.getD mi []
def zblk (mi b : Nat) : List zEnt := ((zBk mi).getD b (0, [])).2
-- numbers
def zadd (x y : Int) : Int := (Int32.ofInt x + Int32.ofInt y).toInt
def zsub (x y : Int) : Int := (Int32.ofInt x - Int32.ofInt y).toInt
def zmul (x y : Int) : Int := (Int32.ofInt x * Int32.ofInt y).toInt
def zdiv (x y : Int) : Int := (Int32.ofInt x / Int32.ofInt y).toInt
def zrem (x y : Int) : Int := (Int32.ofInt x - Int32.ofInt x / Int32.ofInt y * Int32.ofInt y).toInt
def zand (x y : Int) : Int := (Int32.ofInt x &&& Int32.ofInt y).toInt
def zor (x y : Int) : Int := (Int32.ofInt x ||| Int32.ofInt y).toInt
def zxor (x y : Int) : Int := (Int32.ofInt x ^^^ Int32.ofInt y).toInt
def zshl (x y : Int) : Int := (Int32.ofInt x <<< (Int32.ofInt y &&& 31)).toInt
def zshr (x y : Int) : Int := (Int32.ofInt x >>> (Int32.ofInt y &&& 31)).toInt
def zushr (x y : Int) : Int := ((Int32.ofInt x).toUInt32 >>> ((Int32.ofInt y).toUInt32 &&& Int32.toUInt32 31)).toInt32.toInt
def zi2b (x : Int) : Int := ((Int32.ofInt x).toInt8.toInt32).toInt
def zl2i (x : Int) : Int := ((Int64.ofInt x).toInt32).toInt
def zladd (x y : Int) : Int := (Int64.ofInt x + Int64.ofInt y).toInt
def zlsub (x y : Int) : Int := (Int64.ofInt x - Int64.ofInt y).toInt
def zlmul (x y : Int) : Int := (Int64.ofInt x * Int64.ofInt y).toInt
def zldiv (x y : Int) : Int := (Int64.ofInt x / Int64.ofInt y).toInt
def zlrem (x y : Int) : Int := (Int64.ofInt x - Int64.ofInt x / Int64.ofInt y * Int64.ofInt y).toInt
def zland (x y : Int) : Int := (Int64.ofInt x &&& Int64.ofInt y).toInt
def zlor (x y : Int) : Int := (Int64.ofInt x ||| Int64.ofInt y).toInt
def zlshl (x y : Int) : Int := (Int64.ofInt x <<< ((Int32.ofInt y).toInt64 &&& 63)).toInt
def zlshr (x y : Int) : Int := (Int64.ofInt x >>> ((Int32.ofInt y).toInt64 &&& 63)).toInt
def zlcmp (x y : Int) : Int := if x < y then -1 else if x = y then 0 else 1
def zcmp (c : ClassFile.Cond) (x y : Int) : Bool := match c with
  | .eq => decide (x = y)
  | .ne => decide (x ≠ y)
  | .lt => decide (x < y)
  | .ge => decide (y ≤ x)
  | .gt => decide (y < x)
  | .le => decide (x ≤ y)
-- stack and locals
def zcat (v : zMV) : Nat := match v with
  | .inr (.inl _) => 2
  | _ => 1
def zcats (st : List zMV) : Nat := (st.map zcat).sum
def zspread : List zMV → List zMV
  | [] => []
  | v :: vs => match v with
    | .inr (.inl x) => .inr (.inl x) :: zU :: zspread vs
    | v => v :: zspread vs
def zlocs (vs : List zMV) (n : Nat) : List zMV := zspread vs ++ List.replicate (n - (zspread vs).length) zU
def zset1 (L : List zMV) (j : Nat) (v : zMV) : List zMV := match j with
  | 0 => L.set 0 v
  | i + 1 => (match L[i]? with
    | some (.inr (.inl _)) => L.set i zU
    | _ => L).set (i + 1) v
def zset2 (L : List zMV) (j : Nat) (v : zMV) : List zMV := (zset1 L j v).set (j + 1) zU
def ztsw (d : Nat) (lo hi : Int) (offs : Array Int) (x : Int) : Nat := if x < lo ∨ hi < x then d else ((offs.toList)[(x - lo).toNat]?.getD 0).toNat
def zlsw (d : Nat) (ps : List (Int × Int)) (x : Int) : Nat := match ps with
  | [] => d
  | (a, t) :: r => if x = a then t.toNat else zlsw d r x
abbrev zNx : Type := Option Nat × List zMV × List zMV × zWd
/-- two ints on the stack -/
def zii (st : List zMV) (f : Int → Int → Option zMV) : Option (List zMV) := match st with
  | .inl y :: .inl x :: r => (f x y).map (· :: r)
  | _ => none
def zll (st : List zMV) (f : Int → Int → Option zMV) : Option (List zMV) := match st with
  | .inr (.inl y) :: .inr (.inl x) :: r => (f x y).map (· :: r)
  | _ => none
def zli (st : List zMV) (f : Int → Int → Option zMV) : Option (List zMV) := match st with
  | .inl y :: .inr (.inl x) :: r => (f x y).map (· :: r)
  | _ => none
/-- what a field holds -/
def zgetf (w : zWd) (k ci j : Nat) : Option zMV := match w.1[k]? with
  | some (kd, _, rs) => if kd = 3 + ci ∧ j < znf ci then (match zfty ci j with
      | 0 => some (zI (w.2 k j))
      | 1 => some (zL (w.2 k j))
      | 2 => some (zI (w.2 k j))
      | _ => match rs[j]? with
        | some (some r) => some (zR r)
        | _ => none) else none
  | none => none
def zputf (w : zWd) (k ci j : Nat) (v : zMV) : Option zWd := match w.1[k]? with
  | some (kd, n, rs) => if kd = 3 + ci ∧ j < znf ci ∧ 2 ≤ k then (match zfty ci j, v with
      | 0, .inl x => some (w.1, zup w.2 k j x)
      | 1, .inr (.inl x) => some (w.1, zup w.2 k j x)
      | 2, .inl x => if x = 0 ∨ x = 1 then some (w.1, zup w.2 k j x) else none
      | 3, .inr (.inr (some r)) => some (w.1.set k (kd, n, rs.set j (some r)), w.2)
      | _, _ => none) else none
  | none => none
/-- how long a row of a kind is -/
def zlen (w : zWd) (k kd : Nat) : Option Nat := match w.1[k]? with
  | some (k', n, _) => if k' = kd then some n else none
  | none => none
/-- how long a row of ints or longs is -/
def zlen1 (w : zWd) (k : Nat) : Option Nat := match zlen w k 0 with
  | some n => some n
  | none => if 2 ≤ k then zlen w k 1 else none
def zaget (w : zWd) (k kd : Nat) (i : Int) : Option Int := match zlen w k kd with
  | some n => if 0 ≤ i ∧ i < n then some (w.2 k i) else none
  | none => none
def zaput (w : zWd) (k kd : Nat) (i v : Int) : Option zWd := match zlen w k kd with
  | some n => if 0 ≤ i ∧ i < n ∧ 2 ≤ k then some (w.1, zup w.2 k i v) else none
  | none => none
def zfall (L : List zMV) (w : zWd) (st : Option (List zMV)) : Option zNx := st.map fun st => (none, L, st, w)
def zkd (t : ArrayType) : Option Nat := match t with
  | .int => some 0
  | .long => some 1
  | _ => none
/-- ints copied as if all were taken ahead -/
def zcpy (M : Nat → Int → Int) (a : Nat) (i : Int) (b : Nat) (j n : Int) : Nat → Int → Int := fun k x => if k = b ∧ j ≤ x ∧ x < j + n then M a (i + (x - j)) else M k x
/-- one instruction that neither calls nor returns; some b: on at block b -/
def znxt (e : zEnt) (L st : List zMV) (w : zWd) : Option zNx := match e.1 with
  | .iconst v => zfall L w (some (zI v :: st))
  | .sipush v => zfall L w (some (zL v :: st))
  | .iload j => match L[j]? with
    | some (.inl x) => zfall L w (some (zI x :: st))
    | _ => none
  | .lload j => match L[j]? with
    | some (.inr (.inl x)) => zfall L w (some (zL x :: st))
    | _ => none
  | .aload j => match L[j]? with
    | some (.inr (.inr (some k))) => zfall L w (some (zR k :: st))
    | _ => none
  | .istore j => match st with
    | .inl x :: r => if j < L.length then zfall (zset1 L j (zI x)) w (some r) else none
    | _ => none
  | .astore j => match st with
    | .inr (.inr (some k)) :: r => if j < L.length then zfall (zset1 L j (zR k)) w (some r) else none
    | _ => none
  | .lstore j => match st with
    | .inr (.inl x) :: r => if j + 1 < L.length then zfall (zset2 L j (zL x)) w (some r) else none
    | _ => none
  | .iinc j n => match L[j]? with
    | some (.inl x) => if j < L.length then zfall (zset1 L j (zI (zadd x n))) w (some st) else none
    | _ => none
  | .iadd => zfall L w (zii st fun x y => some (zI (zadd x y)))
  | .isub => zfall L w (zii st fun x y => some (zI (zsub x y)))
  | .imul => zfall L w (zii st fun x y => some (zI (zmul x y)))
  | .idiv => zfall L w (zii st fun x y => if y = 0 then none else some (zI (zdiv x y)))
  | .irem => zfall L w (zii st fun x y => if y = 0 then none else some (zI (zrem x y)))
  | .iand => zfall L w (zii st fun x y => some (zI (zand x y)))
  | .ior => zfall L w (zii st fun x y => some (zI (zor x y)))
  | .ixor => zfall L w (zii st fun x y => some (zI (zxor x y)))
  | .ishl => zfall L w (zii st fun x y => some (zI (zshl x y)))
  | .ishr => zfall L w (zii st fun x y => some (zI (zshr x y)))
  | .iushr => zfall L w (zii st fun x y => some (zI (zushr x y)))
  | .ladd => zfall L w (zll st fun x y => some (zL (zladd x y)))
  | .lsub => zfall L w (zll st fun x y => some (zL (zlsub x y)))
  | .lmul => zfall L w (zll st fun x y => some (zL (zlmul x y)))
  | .ldiv => zfall L w (zll st fun x y => if y = 0 then none else some (zL (zldiv x y)))
  | .lrem => zfall L w (zll st fun x y => if y = 0 then none else some (zL (zlrem x y)))
  | .land => zfall L w (zll st fun x y => some (zL (zland x y)))
  | .lor => zfall L w (zll st fun x y => some (zL (zlor x y)))
  | .lcmp => zfall L w (zll st fun x y => some (zI (zlcmp x y)))
  | .lshl => zfall L w (zli st fun x y => some (zL (zlshl x y)))
  | .lshr => zfall L w (zli st fun x y => some (zL (zlshr x y)))
  | .fadd => if zcats st ≤ 12 then zfall L w (zii st fun x y => some (zI (if x < y then y else x))) else none
  | .fsub => if zcats st ≤ 12 then zfall L w (zii st fun x y => some (zI (if y < x then y else x))) else none
  | .dsub => if zcats st ≤ 12 then zfall L w (zll st fun x y => some (zL (if y < x then y else x))) else none
  | .i2l => match st with
    | .inl x :: r => zfall L w (some (zL x :: r))
    | _ => none
  | .i2b => match st with
    | .inl x :: r => zfall L w (some (zI (zi2b x) :: r))
    | _ => none
  | .l2i => match st with
    | .inr (.inl x) :: r => zfall L w (some (zI (zl2i x) :: r))
    | _ => none
  | .dup => match st with
    | v :: r => if v = zU ∨ zcat v ≠ 1 then none else zfall L w (some (v :: v :: r))
    | _ => none
  | .dup2 => match st with
    | v :: u :: r => if v = zU ∨ zcat v ≠ 1 ∨ u = zU ∨ zcat u ≠ 1 then none else zfall L w (some (v :: u :: v :: u :: r))
    | _ => none
  | .pop => match st with
    | v :: r => if v = zU ∨ zcat v ≠ 1 then none else zfall L w (some r)
    | _ => none
  | .ifCond c _ => match st with
    | .inl x :: r => some (if zcmp c x 0 = true then some e.2.1 else none, L, r, w)
    | _ => none
  | .if_icmp c _ => match st with
    | .inl y :: .inl x :: r => some (if zcmp c x y = true then some e.2.1 else none, L, r, w)
    | _ => none
  | .goto _ => some (some e.2.1, L, st, w)
  | .goto_w _ => some (some e.2.1, L, st, w)
  | .tableswitch d lo hi offs => match st with
    | .inl x :: r => some (some (ztsw d.toNat lo hi offs x), L, r, w)
    | _ => none
  | .lookupswitch d ps => match st with
    | .inl x :: r => some (some (zlsw d.toNat ps.toList x), L, r, w)
    | _ => none
  | .getfield _ => match st with
    | .inr (.inr (some k)) :: r => zfall L w ((zgetf w k e.2.1 e.2.2).map (· :: r))
    | _ => none
  | .putfield _ => match st with
    | v :: .inr (.inr (some k)) :: r => (zputf w k e.2.1 e.2.2 v).map fun w' => (none, L, r, w')
    | _ => none
  | .getstatic _ => none
  | .iaload => match st with
    | .inl i :: .inr (.inr (some k)) :: r => zfall L w ((zaget w k 0 i).map (zI · :: r))
    | _ => none
  | .laload => match st with
    | .inl i :: .inr (.inr (some k)) :: r => zfall L w ((if 2 ≤ k then zaget w k 1 i else none).map (zL · :: r))
    | _ => none
  | .baload => none
  | .iastore => match st with
    | .inl v :: .inl i :: .inr (.inr (some k)) :: r => (zaput w k 0 i v).map fun w' => (none, L, r, w')
    | _ => none
  | .lastore => match st with
    | .inr (.inl v) :: .inl i :: .inr (.inr (some k)) :: r => (zaput w k 1 i v).map fun w' => (none, L, r, w')
    | _ => none
  | .bastore => none
  | .arraylength => match st with
    | .inr (.inr (some k)) :: r => zfall L w ((zlen1 w k).map fun n => zI n :: r)
    | _ => none
  | .new _ => some (none, L, zR w.1.length :: st, (w.1 ++ [(3 + e.2.1, znf e.2.1, List.replicate (znf e.2.1) none)], zzero w.2 w.1.length))
  | .newarray t => match st with
    | .inl n :: r => match zkd t with
      | some kd => if 0 ≤ n ∧ n ≤ 100000 then some (none, L, zR w.1.length :: r, (w.1 ++ [(kd, n.toNat, [])], zzero w.2 w.1.length)) else none
      | none => none
    | _ => none
  | .nop => match st with
    | .inr (.inr (some _)) :: r => if zcats r ≤ 8 then some (none, L, r, w) else none
    | _ => none
  | .swap => match st with
    | .inl n :: .inl j :: .inr (.inr (some b)) :: .inl i :: .inr (.inr (some a)) :: r => match zlen w a 0, zlen w b 0 with
      | some na, some nb => if 0 ≤ n ∧ 0 ≤ i ∧ 0 ≤ j ∧ i + n ≤ na ∧ j + n ≤ nb ∧ 2 ≤ a ∧ 2 ≤ b ∧ zcats r ≤ 8 then some (none, L, r, (w.1, zcpy w.2 a i b j n)) else none
      | _, _ => none
    | _ => none
  | _ => none
/-- does a value fit what a method answers -/
def zrok (t : Option FieldType) (i : Instr) (st : List zMV) : Option (Option zMV) := match i, t, st with
  | .return_, none, [] => some none
  | .ireturn, some .int, [.inl x] => some (some (zI x))
  | .ireturn, some .boolean, [.inl x] => if x = 0 ∨ x = 1 then some (some (zI x)) else none
  | .lreturn, some .long, [.inr (.inl x)] => some (some (zL x))
  | _, _, _ => none
/-- a call's receiver is of the class -/
def zrecv (w : zWd) (mi : Nat) (vs : List zMV) : Bool := match vs with
  | .inr (.inr (some k)) :: _ => match w.1[k]? with
    | some (kd, _) => decide (kd = 3 + zmO mi) && decide (2 ≤ k)
    | none => false
  | _ => false
abbrev zRn : Type := Nat → Nat → List zEnt → List zMV → List zMV → zWd → Option (Option zMV × zWd)
/-- a call, then the rest -/
def zcall (rc : zRn) (d mi m2 : Nat) (es : List zEnt) (L vs r : List zMV) (w : zWd) : Option (Option zMV × zWd) := match d with
  | 0 => none
  | d' + 1 => if zcats r ≤ 8 ∧ (zspread vs).length ≤ zmL m2 then
      match rc d' m2 (zblk m2 0) (zlocs vs (zmL m2)) [] w with
      | some (v, w') => rc (d' + 1) mi es L (v.toList ++ r) w'
      | none => none
    else none
def zbody (rc : zRn) (d mi : Nat) (e : zEnt) (es : List zEnt) (L st : List zMV) (w : zWd) : Option (Option zMV × zWd) := match e.1 with
  | .invokevirtual _ => if (st.take (zmA e.2.1 + 1)).length = zmA e.2.1 + 1 ∧ zrecv w e.2.1 (st.take (zmA e.2.1 + 1)).reverse = true then zcall rc d mi e.2.1 es L (st.take (zmA e.2.1 + 1)).reverse (st.drop (zmA e.2.1 + 1)) w else none
  | .invokestatic _ => if (st.take (zmA e.2.1)).length = zmA e.2.1 then zcall rc d mi e.2.1 es L (st.take (zmA e.2.1)).reverse (st.drop (zmA e.2.1)) w else none
  | .return_ => (zrok (zmR mi) .return_ st).map (·, w)
  | .ireturn => (zrok (zmR mi) .ireturn st).map (·, w)
  | .lreturn => (zrok (zmR mi) .lreturn st).map (·, w)
  | _ => match znxt e L st w with
    | some (none, L', st', w') => rc d mi es L' st' w'
    | some (some b, L', st', w') => rc d mi (zblk mi b) L' st' w'
    | none => none
def zrun : Nat → zRn
  | 0, _, _, _, _, _, _ => none
  | n + 1, d, mi, es, L, st, w => match es with
    | [] => none
    | e :: es => zbody (zrun n) d mi e es L st w
theorem zrun_eq (n d mi : Nat) (e : zEnt) (es : List zEnt) (L st : List zMV) (w : zWd) : zrun (n + 1) d mi (e :: es) L st w = zbody (zrun n) d mi e es L st w := rfl
end
section
/-! How the small machine's state stands for the JVM's -/
def zin32 (x : Int) : Prop := -2147483648 ≤ x ∧ x < 2147483648
def zin64 (x : Int) : Prop := -9223372036854775808 ≤ x ∧ x < 9223372036854775808
theorem zin32_toInt (x : Int32) : zin32 x.toInt := ⟨by have := Int32.le_toInt x; simpa using this, by have := Int32.toInt_lt x; simpa using this⟩
theorem zin64_toInt (x : Int64) : zin64 x.toInt := ⟨by have := Int64.le_toInt x; simpa using this, by have := Int64.toInt_lt x; simpa using this⟩
theorem zofI (x : Int32) : Int32.ofInt x.toInt = x := Int32.ofInt_toInt x
theorem zofL (x : Int64) : Int64.ofInt x.toInt = x := Int64.ofInt_toInt x
theorem ztoI {x : Int} (h : zin32 x) : (Int32.ofInt x).toInt = x := Int32.toInt_ofInt_of_le (by simpa using h.1) (by simpa using h.2)
theorem ztoL {x : Int} (h : zin64 x) : (Int64.ofInt x).toInt = x := Int64.toInt_ofInt_of_le (by simpa using h.1) (by simpa using h.2)
theorem zltI {x y : Int} (hx : zin32 x) (hy : zin32 y) : Int32.ofInt x < Int32.ofInt y ↔ x < y := by rw [Int32.lt_iff_toInt_lt, ztoI hx, ztoI hy]
theorem zleI {x y : Int} (hx : zin32 x) (hy : zin32 y) : Int32.ofInt x ≤ Int32.ofInt y ↔ x ≤ y := by rw [Int32.le_iff_toInt_le, ztoI hx, ztoI hy]
theorem zeqI {x y : Int} (hx : zin32 x) (hy : zin32 y) : Int32.ofInt x = Int32.ofInt y ↔ x = y := ⟨fun h => by rw [← ztoI hx, ← ztoI hy, h], fun h => by rw [h]⟩
theorem zltL {x y : Int} (hx : zin64 x) (hy : zin64 y) : Int64.ofInt x < Int64.ofInt y ↔ x < y := by rw [Int64.lt_iff_toInt_lt, ztoL hx, ztoL hy]
theorem zeqL {x y : Int} (hx : zin64 x) (hy : zin64 y) : Int64.ofInt x = Int64.ofInt y ↔ x = y := ⟨fun h => by rw [← ztoL hx, ← ztoL hy, h], fun h => by rw [h]⟩
theorem zclamp {i : Int} (h : zin32 i) : (Int32.ofInt i).toNatClampNeg = i.toNat := by show (Int32.ofInt i).toInt.toNat = i.toNat; rw [ztoI h]
theorem zin0 : zin32 0 := ⟨by decide, by decide⟩
theorem zvpin {i : Int} {n : Nat} (h : zin32 i) (h0 : 0 ≤ i) (h1 : i < n) : vp_in (Int32.ofInt i) n := by
  unfold vp_in
  rw [show (0 : Int32) = Int32.ofInt 0 from rfl, zltI h zin0, zclamp h]
  omega
/-- values -/
def ztr (adr : Nat → Nat) (v : zMV) : Value := match v with
  | .inl x => .int (Int32.ofInt x)
  | .inr (.inl x) => .long (Int64.ofInt x)
  | .inr (.inr (some k)) => .ref (adr k)
  | .inr (.inr none) => .null
def zokv (n : Nat) (v : zMV) : Prop := match v with
  | .inl x => zin32 x
  | .inr (.inl x) => zin64 x
  | .inr (.inr (some k)) => k < n
  | .inr (.inr none) => True
theorem zokv_mono {n n' : Nat} (h : n ≤ n') {v : zMV} (hv : zokv n v) : zokv n' v := by
  match v, hv with
  | .inl _, hv => exact hv
  | .inr (.inl _), hv => exact hv
  | .inr (.inr (some _)), hv => exact Nat.lt_of_lt_of_le hv h
  | .inr (.inr none), _ => trivial
theorem ztr_agree {n : Nat} {adr adr' : Nat → Nat} (h : ∀ k, k < n → adr' k = adr k) {v : zMV} (hv : zokv n v) : ztr adr' v = ztr adr v := by
  match v, hv with
  | .inl _, _ => rfl
  | .inr (.inl _), _ => rfl
  | .inr (.inr (some k)), hv => show Value.ref (adr' k) = Value.ref (adr k); rw [h k hv]
  | .inr (.inr none), _ => rfl
theorem zcat_tr (adr : Nat → Nat) (v : zMV) : (ztr adr v).category = zcat v := by
  match v with
  | .inl _ => rfl
  | .inr (.inl _) => rfl
  | .inr (.inr (some k)) => rfl
  | .inr (.inr none) => rfl
theorem zcats_tr (adr : Nat → Nat) (st : List zMV) : ((st.map (ztr adr)).map fun v => v.category).sum = zcats st := by
  unfold zcats
  rw [List.map_map]
  congr 1
  apply List.map_congr_left
  intro v _
  exact zcat_tr adr v
/-- locals -/
def zlv (adr : Nat → Nat) (ls : Array Slot) (n : Nat) (L : List zMV) : Prop := ls.size = n ∧ lv_wf ls ∧ L.length = n ∧ ∀ (j : Nat) (v : zMV), L[j]? = some v → v ≠ zU → ls[j]? = some (.val (ztr adr v))
def zll2 (adr : Nat → Nat) (L : List zMV) : List (Nat × Value) := (List.range L.length).filterMap fun j => match L[j]? with
  | some v => if v = zU then none else some (j, ztr adr v)
  | none => none
theorem zll2_mem {adr : Nat → Nat} {L : List zMV} {q : Nat × Value} : q ∈ zll2 adr L ↔ ∃ v, L[q.1]? = some v ∧ v ≠ zU ∧ q.2 = ztr adr v := by
  unfold zll2
  rw [List.mem_filterMap]
  constructor
  · rintro ⟨j, hj, h⟩
    cases hv : L[j]? with
    | none => rw [hv] at h; cases h
    | some v =>
      rw [hv] at h
      by_cases hu : v = zU
      · simp [hu] at h
      · simp only [hu, if_false] at h
        cases h
        exact ⟨v, hv, hu, rfl⟩
  · rintro ⟨v, h1, h2, h3⟩
    refine ⟨q.1, List.mem_range.mpr (List.getElem?_eq_some_iff.mp h1).1, ?_⟩
    rw [h1]
    simp only [h2, if_false]
    rw [← h3]
theorem zlv_has {adr : Nat → Nat} {ls : Array Slot} {n : Nat} {L : List zMV} (h : zlv adr ls n L) : lv_has ls n (zll2 adr L) := by
  refine ⟨h.1, h.2.1, fun q hq => ?_⟩
  obtain ⟨v, h1, h2, h3⟩ := zll2_mem.mp hq
  rw [h.2.2.2 q.1 v h1 h2, h3]
theorem zset1_len (L : List zMV) (j : Nat) (v : zMV) : (zset1 L j v).length = L.length := by
  cases j with
  | zero => simp [zset1]
  | succ i =>
    simp only [zset1, List.length_set]
    split <;> simp
theorem zset1_get {L : List zMV} {j : Nat} {v : zMV} (hj : j < L.length) {k : Nat} {u : zMV} (h : (zset1 L j v)[k]? = some u) (hu : u ≠ zU) : (k = j ∧ u = v) ∨ (k ≠ j ∧ L[k]? = some u ∧ ¬ (k + 1 = j ∧ zcat u = 2)) := by
  cases j with
  | zero =>
    simp only [zset1, List.getElem?_set] at h
    by_cases hk : 0 = k
    · rw [if_pos hk, if_pos (by omega)] at h
      cases h
      exact Or.inl ⟨hk.symm, rfl⟩
    · rw [if_neg hk] at h
      exact Or.inr ⟨fun e => hk e.symm, h, fun q => by omega⟩
  | succ i =>
    simp only [zset1] at h
    rw [List.getElem?_set] at h
    by_cases hk : i + 1 = k
    · rw [if_pos hk] at h
      split at h <;> (split at h <;> first | (cases h; exact Or.inl ⟨hk.symm, rfl⟩) | cases h)
    · rw [if_neg hk] at h
      refine Or.inr ⟨fun e => hk e.symm, ?_⟩
      split at h
      · next x hx =>
        rw [List.getElem?_set] at h
        by_cases hi : i = k
        · rw [if_pos hi] at h
          split at h
          · cases h; exact absurd rfl hu
          · cases h
        · rw [if_neg hi] at h
          exact ⟨h, fun q => by omega⟩
      · next hx =>
        refine ⟨h, fun q => ?_⟩
        have : k = i := by omega
        subst this
        match u, q.2 with
        | .inr (.inl x), _ => exact hx x h
theorem zlv_set1 {adr : Nat → Nat} {ls ls' : Array Slot} {n : Nat} {L : List zMV} {j : Nat} {v : zMV} (h : zlv adr ls n L) (hj : j < L.length)
    (h' : lv_has ls' n ((j, ztr adr v) :: (zll2 adr L).filter (fun q => !(q.1 == j) && !(q.1 + 1 == j && q.2.category == 2)))) : zlv adr ls' n (zset1 L j v) := by
  refine ⟨h'.1, h'.2.1, by rw [zset1_len]; exact h.2.2.1, fun k u hk hu => ?_⟩
  rcases zset1_get hj hk hu with ⟨rfl, rfl⟩ | ⟨h1, h2, h3⟩
  · exact h'.2.2 (k, ztr adr u) List.mem_cons_self
  · refine h'.2.2 (k, ztr adr u) (List.mem_cons_of_mem _ (List.mem_filter.mpr ⟨zll2_mem.mpr ⟨u, h2, hu, rfl⟩, ?_⟩))
    rw [zcat_tr]
    simp only [Bool.and_eq_true, Bool.not_eq_true', beq_eq_false_iff_ne, ne_eq, Bool.and_eq_false_iff]
    refine ⟨h1, ?_⟩
    by_cases q : k + 1 = j
    · exact Or.inr fun z => h3 ⟨q, z⟩
    · exact Or.inl q
theorem zlv_set2 {adr : Nat → Nat} {ls ls' : Array Slot} {n : Nat} {L : List zMV} {j : Nat} {v : zMV} (h : zlv adr ls n L) (hj : j + 1 < L.length)
    (h' : lv_has ls' n ((j, ztr adr v) :: (zll2 adr L).filter (fun q => !(q.1 == j) && (!(q.1 == j + 1) && !(q.1 + 1 == j && q.2.category == 2))))) : zlv adr ls' n (zset2 L j v) := by
  refine ⟨h'.1, h'.2.1, by simp [zset2, zset1_len]; exact h.2.2.1, fun k u hk hu => ?_⟩
  unfold zset2 at hk
  rw [List.getElem?_set] at hk
  by_cases hkj : j + 1 = k
  · rw [if_pos hkj] at hk
    split at hk
    · cases hk; exact absurd rfl hu
    · cases hk
  · rw [if_neg hkj] at hk
    rcases zset1_get (by omega) hk hu with ⟨rfl, rfl⟩ | ⟨h1, h2, h3⟩
    · exact h'.2.2 (k, ztr adr u) List.mem_cons_self
    · refine h'.2.2 (k, ztr adr u) (List.mem_cons_of_mem _ (List.mem_filter.mpr ⟨zll2_mem.mpr ⟨u, h2, hu, rfl⟩, ?_⟩))
      rw [zcat_tr]
      simp only [Bool.and_eq_true, Bool.not_eq_true', beq_eq_false_iff_ne, ne_eq, Bool.and_eq_false_iff]
      refine ⟨h1, fun z => hkj z.symm, ?_⟩
      by_cases q : k + 1 = j
      · exact Or.inr fun z => h3 ⟨q, z⟩
      · exact Or.inl q
theorem zset1_ok {n : Nat} {L : List zMV} {j : Nat} {v : zMV} (hj : j < L.length) (h : ∀ u ∈ L, zokv n u) (hv : zokv n v) : ∀ u ∈ zset1 L j v, zokv n u := by
  intro u hu
  obtain ⟨k, hk⟩ := List.getElem?_of_mem hu
  by_cases hz : u = zU
  · subst hz; exact trivial
  · rcases zset1_get hj hk hz with ⟨-, rfl⟩ | ⟨-, h2, -⟩
    · exact hv
    · exact h u (List.mem_of_getElem? h2)
theorem zset2_ok {n : Nat} {L : List zMV} {j : Nat} {v : zMV} (hj : j < L.length) (h : ∀ u ∈ L, zokv n u) (hv : zokv n v) : ∀ u ∈ zset2 L j v, zokv n u := by
  intro u hu
  unfold zset2 at hu
  rcases List.mem_or_eq_of_mem_set hu with h1 | h1
  · exact zset1_ok hj h hv u h1
  · subst h1; exact trivial
theorem zlv_agree {n k : Nat} {adr adr' : Nat → Nat} {ls : Array Slot} {L : List zMV} (h : zlv adr ls n L) (ha : ∀ j, j < k → adr' j = adr j) (ho : ∀ v ∈ L, zokv k v) : zlv adr' ls n L :=
  ⟨h.1, h.2.1, h.2.2.1, fun j v h1 h2 => by rw [ztr_agree ha (ho v (List.mem_of_getElem? h1))]; exact h.2.2.2 j v h1 h2⟩
/-- the world -/
def zfv (adr : Nat → Nat) (g : Int → Int) (ci : Nat) (rs : List (Option Nat)) (j : Nat) : Value := match zfty ci j with
  | 0 => .int (Int32.ofInt (g j))
  | 1 => .long (Int64.ofInt (g j))
  | 2 => .int (Int32.ofInt (g j))
  | _ => match rs[j]? with
    | some (some r) => .ref (adr r)
    | _ => .null
def zent (adr : Nat → Nat) (cI cL cZ : ClassId) (g : Int → Int) (sh : zSh) : va_E := match sh.1 with
  | 0 => .inl (cI, (sh.2.1, .inl (fun j => Int32.ofInt (g j))))
  | 1 => .inl (cL, (sh.2.1, .inr (.inl (fun j => Int64.ofInt (g j)))))
  | 2 => .inl (cZ, (sh.2.1, .inl (fun j => Int32.ofInt (g j))))
  | ci + 3 => .inr (ci, (List.range (znf ci)).map (zfv adr g ci sh.2.2))
def zws (adr : Nat → Nat) (cI cL cZ : ClassId) (w : zWd) : va_W := (List.range (w.1.length - 2)).map fun k => (adr (k + 2), zent adr cI cL cZ (w.2 (k + 2)) (w.1.getD (k + 2) (0, 0, [])))
theorem zws_len (adr : Nat → Nat) (cI cL cZ : ClassId) (w : zWd) : (zws adr cI cL cZ w).length = w.1.length - 2 := by simp [zws]
theorem zws_get {adr : Nat → Nat} {cI cL cZ : ClassId} {w : zWd} {k : Nat} {sh : zSh} (h : w.1[k + 2]? = some sh) : (zws adr cI cL cZ w)[k]? = some (adr (k + 2), zent adr cI cL cZ (w.2 (k + 2)) sh) := by
  have hlt := (List.getElem?_eq_some_iff.mp h).1
  unfold zws
  rw [List.getElem?_map, List.getElem?_range (by omega)]
  simp [h]
theorem zws_set {adr : Nat → Nat} {cI cL cZ : ClassId} {w w' : zWd} {k : Nat} {sh : zSh} (hlen : w'.1.length = w.1.length) (ho : ∀ j, j ≠ k + 2 → w'.1[j]? = w.1[j]? ∧ w'.2 j = w.2 j) (hk : w'.1[k + 2]? = some sh) : zws adr cI cL cZ w' = (zws adr cI cL cZ w).set k (adr (k + 2), zent adr cI cL cZ (w'.2 (k + 2)) sh) := by
  have hlt := (List.getElem?_eq_some_iff.mp hk).1
  apply List.ext_getElem?
  intro j
  rw [List.getElem?_set]
  by_cases hj : k = j
  · subst hj
    rw [if_pos rfl, if_pos (by rw [zws_len]; omega), zws_get hk]
  · rw [if_neg hj]
    by_cases hl : j + 2 < w.1.length
    · have h1 : w.1[j + 2]? = some (w.1[j + 2]) := List.getElem?_eq_getElem hl
      have h2 := ho (j + 2) (by omega)
      rw [zws_get h1, zws_get (h2.1.trans h1), h2.2]
    · rw [List.getElem?_eq_none (by rw [zws_len]; omega), List.getElem?_eq_none (by rw [zws_len]; omega)]
def zsr (sh : zSh) (i x : Int) : Prop := if sh.1 = 1 ∨ (3 ≤ sh.1 ∧ zfty (sh.1 - 3) i.toNat = 1) then zin64 x else zin32 x
def zok (w : zWd) : Prop := ∀ (k : Nat) (sh : zSh), w.1[k]? = some sh → sh.1 < 15 ∧ sh.2.1 < 2147483648 ∧ (∀ (j r : Nat), sh.2.2[j]? = some (some r) → r < w.1.length) ∧ (3 ≤ sh.1 → sh.2.1 = znf (sh.1 - 3) ∧ sh.2.2.length = znf (sh.1 - 3)) ∧ ∀ i, zsr sh i (w.2 k i)
def zInv (n0 n1 : Nat) (f0 f1 : Int → Int) (w : zWd) : Prop := w.1[0]? = some (0, n0, []) ∧ w.1[1]? = some (0, n1, []) ∧ w.2 0 = f0 ∧ w.2 1 = f1 ∧ zok w
theorem zfv_agree {n : Nat} {adr adr' : Nat → Nat} (h : ∀ k, k < n → adr' k = adr k) (g : Int → Int) (ci : Nat) {rs : List (Option Nat)} (hr : ∀ (j r : Nat), rs[j]? = some (some r) → r < n) (j : Nat) : zfv adr' g ci rs j = zfv adr g ci rs j := by
  unfold zfv
  split <;> try rfl
  split
  · next r hj => rw [h r (hr j r hj)]
  · rfl
theorem zent_agree {n : Nat} {adr adr' : Nat → Nat} (h : ∀ k, k < n → adr' k = adr k) (cI cL cZ : ClassId) (g : Int → Int) {sh : zSh} (hr : ∀ (j r : Nat), sh.2.2[j]? = some (some r) → r < n) : zent adr' cI cL cZ g sh = zent adr cI cL cZ g sh := by
  unfold zent
  split <;> try rfl
  congr 2
  apply List.map_congr_left
  intro j _
  exact zfv_agree h g _ hr j
theorem zws_push {adr : Nat → Nat} {cI cL cZ : ClassId} {w : zWd} (hok : zok w) (h2 : 2 ≤ w.1.length) (q : Nat) (sh : zSh) (hs : ∀ (j r : Nat), sh.2.2[j]? = some (some r) → r < w.1.length) : zws (fun j => if j = w.1.length then q else adr j) cI cL cZ (w.1 ++ [sh], zzero w.2 w.1.length) = zws adr cI cL cZ w ++ [(q, zent adr cI cL cZ (fun _ => 0) sh)] := by
  have ha : ∀ k, k < w.1.length → (fun j => if j = w.1.length then q else adr j) k = adr k := fun k hk => if_neg (by omega)
  apply List.ext_getElem?
  intro j
  by_cases hj : j + 2 < w.1.length
  · have h1 : w.1[j + 2]? = some (w.1[j + 2]) := List.getElem?_eq_getElem hj
    have h3 : (w.1 ++ [sh])[j + 2]? = some (w.1[j + 2]) := by rw [List.getElem?_append_left hj]; exact h1
    rw [List.getElem?_append_left (by rw [zws_len]; omega), zws_get h1, zws_get (w := (w.1 ++ [sh], zzero w.2 w.1.length)) h3]
    have : zzero w.2 w.1.length (j + 2) = w.2 (j + 2) := by
      funext i
      simp [zzero, show j + 2 ≠ w.1.length by omega]
    rw [zent_agree ha _ _ _ _ (hok _ _ h1).2.2.1]
    show some ((if j + 2 = w.1.length then q else adr (j + 2)), zent adr cI cL cZ (zzero w.2 w.1.length (j + 2)) _) = _
    rw [this, if_neg (by omega)]
  · by_cases hj2 : j + 2 = w.1.length
    · have h3 : (w.1 ++ [sh])[j + 2]? = some sh := by rw [hj2]; simp
      rw [zws_get (w := (w.1 ++ [sh], zzero w.2 w.1.length)) h3, List.getElem?_append_right (by rw [zws_len]; omega), zws_len]
      rw [show j - (w.1.length - 2) = 0 by omega]
      have : zzero w.2 w.1.length (j + 2) = fun _ => 0 := by
        funext i
        simp [zzero, hj2]
      rw [zent_agree ha _ _ _ _ hs]
      show some ((if j + 2 = w.1.length then q else adr (j + 2)), zent adr cI cL cZ (zzero w.2 w.1.length (j + 2)) _) = _
      rw [this, if_pos hj2]
      rfl
    · rw [List.getElem?_eq_none (by rw [zws_len]; simp; omega), List.getElem?_eq_none (by simp [zws_len]; omega)]
end
section
/-! One instruction of the small machine is one of the JVM's -/
def zTW : List Cond := lw_tbl.filter goodWord
def zNestW (w : Cond) : Bool := match w with
  | .methodLinkNest .. => true
  | _ => false
def zNW : List Cond := tables_1.filter zNestW
def zcn (o : Nat) : String := zCN.getD o ""
def zcl (ci : Nat) : vw_C := vwCl.getD ci ("", TX0, 0)
def ztys : List (Nat → FieldType) := [tyX0, tyX1, tyX2, tyX3, tyX4, tyX5, tyX6, tyX7, tyX8, tyX9, tyX10, tyX11]
def zty (ci : Nat) : Nat → FieldType := ztys.getD ci tyX0
def zstart (mi b : Nat) : Option Nat := ((zBk mi)[b]?).map (·.1)
def zb32 (x : Int) : Bool := decide (-2147483648 ≤ x) && decide (x < 2147483648)
def zb64 (x : Int) : Bool := decide (-9223372036854775808 ≤ x) && decide (x < 9223372036854775808)
def zjmp (mi pc b : Nat) (off : Int) : Bool := match zstart mi b with
  | some t => decide ((pc : Int) + off = (t : Int))
  | none => false
/-- the table's targets are blocks -/
def ztabs (mi pc : Nat) : List Int → List Int → Bool
  | [], [] => true
  | o :: os, b :: bs => zjmp mi pc b.toNat o && ztabs mi pc os bs
  | _, _ => false
def zlooks (mi pc : Nat) : List (Int × Int) → List (Int × Int) → Bool
  | [], [] => true
  | o :: os, b :: bs => decide (o.1 = b.1) && zb32 o.1 && zjmp mi pc b.2.toNat o.2 && zlooks mi pc os bs
  | _, _ => false
/-- does an entry say what the instruction at pc is -/
def zokE (mi pc : Nat) (i : Instr) (len : Nat) (e : zEnt) : Bool := match i with
  | .iconst n => decide (e = (.iconst n, 0, 0)) && decide (len = 1) && zb32 n
  | .bipush n => (match e.1 with | .iconst v => decide ((Int8.ofInt n).toInt32 = Int32.ofInt v) && zb32 v | _ => false) && decide (len = 2)
  | .sipush n => (match e.1 with | .iconst v => decide ((Int16.ofInt n).toInt32 = Int32.ofInt v) && zb32 v | _ => false) && decide (len = 3)
  | .ldc ix => (match e.1 with | .iconst v => zKT.any (fun q => q.1 == zmO mi && (q.2.1 == ix && q.2.2.1 == v)) && zb32 v | _ => false) && decide (len = 2)
  | .ldc_w ix => (match e.1 with | .iconst v => zKT.any (fun q => q.1 == zmO mi && (q.2.1 == ix && q.2.2.1 == v)) && zb32 v | _ => false) && decide (len = 3)
  | .ldc2_w ix => (match e.1 with | .sipush v => zKL.any (fun q => q.1 == zmO mi && (q.2.1 == ix && q.2.2.1 == v)) && zb64 v | _ => false) && decide (len = 3)
  | .lconst n => decide (e = (.sipush (n.val : Int), 0, 0)) && decide (len = 1)
  | .iload_n k => decide (e = (.iload k.val, 0, 0)) && decide (len = 1)
  | .iload k => decide (e = (.iload k, 0, 0)) && decide (len = 2)
  | .lload_n k => decide (e = (.lload k.val, 0, 0)) && decide (len = 1)
  | .lload k => decide (e = (.lload k, 0, 0)) && decide (len = 2)
  | .aload_n k => decide (e = (.aload k.val, 0, 0)) && decide (len = 1)
  | .aload k => decide (e = (.aload k, 0, 0)) && decide (len = 2)
  | .istore_n k => decide (e = (.istore k.val, 0, 0)) && decide (len = 1)
  | .istore k => decide (e = (.istore k, 0, 0)) && decide (len = 2)
  | .lstore_n k => decide (e = (.lstore k.val, 0, 0)) && decide (len = 1)
  | .lstore k => decide (e = (.lstore k, 0, 0)) && decide (len = 2)
  | .astore_n k => decide (e = (.astore k.val, 0, 0)) && decide (len = 1)
  | .astore k => decide (e = (.astore k, 0, 0)) && decide (len = 2)
  | .iinc k n => decide (e = (.iinc k n, 0, 0)) && decide (len = 3)
  | .ifCond c off => decide (e.1 = .ifCond c 0) && decide (len = 3) && zjmp mi pc e.2.1 off
  | .if_icmp c off => decide (e.1 = .if_icmp c 0) && decide (len = 3) && zjmp mi pc e.2.1 off
  | .goto off => decide (e.1 = .goto 0) && decide (len = 3) && zjmp mi pc e.2.1 off
  | .tableswitch d lo hi offs => match e.1 with
    | .tableswitch d' lo' hi' bs => decide (lo' = lo) && decide (hi' = hi) && zjmp mi pc d'.toNat d && ztabs mi pc offs.toList bs.toList && decide ((offs.toList.length : Int) = hi - lo + 1)
    | _ => false
  | .lookupswitch d ps => match e.1 with
    | .lookupswitch d' bs => zjmp mi pc d'.toNat d && zlooks mi pc ps.toList bs.toList && (ps.toList.zip (ps.toList.drop 1)).all (fun (a, next) => a.1 < next.1)
    | _ => false
  | .getfield ix => decide (e.1 = .getfield 0) && decide (len = 3) && zFT.any (fun q => q.1 == zmO mi && (q.2.1 == ix && (q.2.2.1 == e.2.1 && q.2.2.2.1 == e.2.2)))
  | .putfield ix => decide (e.1 = .putfield 0) && decide (len = 3) && zFT.any (fun q => q.1 == zmO mi && (q.2.1 == ix && (q.2.2.1 == e.2.1 && q.2.2.2.1 == e.2.2))) && (!((zcl e.2.1).2.1 e.2.2).2.2.2 || (zmI mi && zmO mi == e.2.1))
  | .getstatic ix => decide (e.1 = .getstatic 0) && decide (len = 3) && zST.any (fun q => q.1 == zmO mi && q.2.1 == ix)
  | .new ix => decide (e.1 = .new 0) && decide (len = 3) && zNT.any (fun q => q.1 == zmO mi && (q.2.1 == ix && q.2.2.1 == e.2.1))
  | .newarray t => decide (e.1 = .newarray t) && decide (len = 2)
  | .invokespecial ix => decide (len = 3) && ((decide (e.1 = .nop) && zOT.any (fun q => q.1 == zmO mi && q.2.1 == ix)) || (decide (e.1 = .invokevirtual 0) && zCT.any (fun q => q.1 == zmO mi && (q.2.1 == ix && (q.2.2.1 == e.2.1 && q.2.2.2.1 == 2)))))
  | .invokestatic ix => decide (len = 3) && ((decide (e.1 = .fadd) && zMT.any (fun q => q.1 == zmO mi && (q.2.1 == ix && q.2.2.1 == 0))) || (decide (e.1 = .fsub) && zMT.any (fun q => q.1 == zmO mi && (q.2.1 == ix && q.2.2.1 == 1))) || (decide (e.1 = .dsub) && zMT.any (fun q => q.1 == zmO mi && (q.2.1 == ix && q.2.2.1 == 2))) || (decide (e.1 = .swap) && zAT.any (fun q => q.1 == zmO mi && q.2.1 == ix)) || (decide (e.1 = .invokestatic 0) && zCT.any (fun q => q.1 == zmO mi && (q.2.1 == ix && (q.2.2.1 == e.2.1 && q.2.2.2.1 == 1)))))
  | .invokevirtual ix => decide (len = 3) && (decide (e.1 = .invokevirtual 0) && zCT.any (fun q => q.1 == zmO mi && (q.2.1 == ix && (q.2.2.1 == e.2.1 && q.2.2.2.1 == 0))))
  | .iadd | .isub | .imul | .idiv | .irem | .iand | .ior | .ixor | .ishl | .ishr | .iushr | .ladd | .lsub | .lmul | .ldiv | .lrem | .land | .lor | .lcmp | .lshl | .lshr | .i2l | .i2b | .l2i | .dup | .dup2 | .pop | .iaload | .laload | .baload | .iastore | .lastore | .bastore | .arraylength | .ireturn | .lreturn | .return_ => decide (e = (i, 0, 0)) && decide (len = 1)
  | _ => false
def zchk (mi : Nat) : Nat → List zEnt → Bool
  | _, [] => true
  | pc, e :: es => if e.1 = .goto_w 0 then zstart mi e.2.1 == some pc && zchk mi pc es else match decode (zmC mi) pc with
    | .ok (i, len) => zokE mi pc i len e && zchk mi (pc + len) es
    | .error _ => false
def zall (mi : Nat) : Bool := (zBk mi).all fun q => zchk mi q.1 q.2
-- the tables' words
theorem zTW_of {w : Cond} (h : w ∈ tables_1) (hg : goodWord w = true) : w ∈ zTW := List.mem_filter.mpr ⟨List.mem_append_right _ h, hg⟩
theorem zFT_ok : ∀ q ∈ zFT, q.2.2.1 < 11 ∧ q.2.2.2.1 < znf q.2.2.1 ∧ tables_1[q.2.2.2.2]? = some (.fieldLink (zcn q.1) q.2.1 ((zcl q.2.2.1).2.1 q.2.2.2.1).1 ((zcl q.2.2.1).2.1 q.2.2.2.1).2.1 ((zcl q.2.2.1).2.1 q.2.2.2.1).2.2.1) := by decide +kernel
theorem zKT_ok : ∀ q ∈ zKT, tables_1[q.2.2.2]? = some (.constant (zcn q.1) q.2.1 (Int32.ofInt q.2.2.1)) := by decide +kernel
theorem zKL_ok : ∀ q ∈ zKL, tables_1[q.2.2.2]? = some (.constantLong (zcn q.1) q.2.1 (Int64.ofInt q.2.2.1)) := by decide +kernel
theorem zNT_ok : ∀ q ∈ zNT, q.2.2.1 < 11 ∧ tables_1[q.2.2.2.1]? = some (.classLink (zcn q.1) q.2.1 (zcl q.2.2.1).1) ∧ tables_1[q.2.2.2.2.1]? = some (.instantiable (zcl q.2.2.1).1 (znf q.2.2.1)) ∧ tables_1[q.2.2.2.2.2]? = some (.initialized (zcl q.2.2.1).1) := by decide +kernel
theorem zOT_ok : ∀ q ∈ zOT, tables_1[q.2.2]? = some (.methodLink (zcn q.1) q.2.1 objectInit) := by decide +kernel
theorem zAT_ok : ∀ q ∈ zAT, tables_1[q.2.2]? = some (.methodLink (zcn q.1) q.2.1 arraycopyName) := by decide +kernel
def zmathN (k : Nat) : MethodName := if k = 0 then Lib.Math.max.name else if k = 1 then Lib.Math.min.name else Lib.MathLoose.min_long.x
theorem zMT_ok : ∀ q ∈ zMT, tables_1[q.2.2.2]? = some (.methodLink (zcn q.1) q.2.1 (zmathN q.2.2.1)) := by decide +kernel
theorem zmath_in : Cond.initialized "java/lang/Math" ∈ zTW ∧ Cond.static Lib.Math.max.name ∈ zTW ∧ Cond.static Lib.Math.min.name ∈ zTW ∧ Cond.code Lib.Math.max.name Lib.Math.max.code 2 (some .int) ∈ zTW ∧ Cond.code Lib.Math.min.name Lib.Math.min.code 2 (some .int) ∈ zTW :=
  ⟨zTW_of (List.mem_of_getElem? (i := 13) (by decide +kernel)) rfl, zTW_of (List.mem_of_getElem? (i := 599) (by decide +kernel)) rfl, zTW_of (List.mem_of_getElem? (i := 602) (by decide +kernel)) rfl, zTW_of (List.mem_of_getElem? (i := 600) (by decide +kernel)) rfl, zTW_of (List.mem_of_getElem? (i := 603) (by decide +kernel)) rfl⟩
theorem zMT_no2 : ∀ q ∈ zMT, q.2.2.1 ≠ 2 := by decide
theorem zAT_no : ∀ q ∈ zAT, False := by decide
theorem zST_no : ∀ q ∈ zST, False := by decide
theorem zobj_in : Cond.instanceMethod objectInit ∈ zTW ∧ Cond.code objectInit ⟨#[0xb1]⟩ 1 none ∈ zTW := ⟨zTW_of (List.mem_of_getElem? (i := 20) (by decide +kernel)) rfl, zTW_of (List.mem_of_getElem? (i := 21) (by decide +kernel)) rfl⟩
theorem zarr_in : Cond.arrayClass .int ∈ zTW ∧ Cond.arrayClass .long ∈ zTW := ⟨zTW_of (List.mem_of_getElem? (i := 78) (by decide +kernel)) rfl, zTW_of (List.mem_of_getElem? (i := 300) (by decide +kernel)) rfl⟩
theorem zcl_at : ∀ ci, ci < 11 → vwCl[ci]? = some (zcl ci) ∧ (zcl ci).2.2 = znf ci := by
  intro ci h
  have : ci = 0 ∨ ci = 1 ∨ ci = 2 ∨ ci = 3 ∨ ci = 4 ∨ ci = 5 ∨ ci = 6 ∨ ci = 7 ∨ ci = 8 ∨ ci = 9 ∨ ci = 10 := by omega
  rcases this with rfl | rfl | rfl | rfl | rfl | rfl | rfl | rfl | rfl | rfl | rfl <;> exact ⟨rfl, rfl⟩
theorem zcl_ws : ∀ ci, ci < 11 → ((u_ws (zcl ci).1 (zcl ci).2.1 (znf ci)).all fun w => decide (w ∈ tables_1) && goodWord w) = true := by decide +kernel
theorem zcl_in {ci : Nat} (h : ci < 11) : ∀ w ∈ u_ws (zcl ci).1 (zcl ci).2.1 (znf ci), w ∈ zTW := by
  intro w hw
  have h1 := List.all_eq_true.mp (zcl_ws ci h) w hw
  simp only [Bool.and_eq_true, decide_eq_true_eq] at h1
  exact zTW_of h1.1 h1.2
theorem zty_ok : ∀ ci, ci < 11 → ∀ k, k < znf ci → parseFieldDescriptor ((zcl ci).2.1 k).2.2.1 = some (zty ci k) := by decide +kernel
def zfc (t : FieldType) : Nat := match t with
  | .int => 0
  | .long => 1
  | .boolean => 2
  | .object _ => 3
  | .array _ => 3
  | _ => 9
theorem zfc_ok : ∀ ci, ci < 11 → ∀ k, k < znf ci → zfty ci k = zfc (zty ci k) ∧ zfty ci k ≤ 3 := by decide +kernel
theorem zdecl_ok : ∀ ci, ci < 11 → ∀ k, k < znf ci → ((zcl ci).2.1 k).1 = zcn ci := by decide +kernel
theorem znm_ok : ∀ ci, ci < 11 → ∀ a, a < znf ci → ∀ b, b < znf ci → a ≠ b → ((zcl ci).2.1 a).2.1 ≠ ((zcl ci).2.1 b).2.1 := by decide +kernel
theorem zsize_ok : ∀ ci, ci < 11 → znf ci < 100 := by decide +kernel
end
section
/-! one step -/
def zcs (w : zWd) : Nat := (w.1.map (·.2.1)).sum
def zCtx (p : Program) (s : State) (m : MethodId) (args : Array Value) (meth : Method) (c : Code) (D : va_G) (cI cL cZ : ClassId) (A : Nat → Prop) (t0 t1 n0 n1 : Nat) (f0 f1 : Int → Int) (mi : Nat) : Prop :=
  p.tables.exec = Jvm.exec ∧ c.code = zmC mi ∧ c.maxLocals = zmL mi ∧ s.vm.findClass (zcn (zmO mi)) = some m.cls ∧ (∀ w ∈ zTW, w.before args s = true) ∧ (∀ w ∈ zNW, va_Nw w s) ∧ va_K D vwCl [(cI, .int), (cL, .long)] s ∧ meth.locks = false ∧ (zmI mi = true → meth.name = "<init>") ∧ (∀ q, s.heap.size ≤ q → A q) ∧ va_T .int t0 n0 (fun j => .int (Int32.ofInt (f0 j))) A s s.heap ∧ va_T .int t1 n1 (fun j => .int (Int32.ofInt (f1 j))) A s s.heap ∧ True
def zAt (D : va_G) (cI cL cZ : ClassId) (A : Nat → Prop) (t0 t1 n0 n1 : Nat) (f0 f1 : Int → Int) (mi : Nat) (H0 : Heap) (adr : Nat → Nat) (H : Heap) (locs : List Loc) (ls : Array Slot) (L st : List zMV) (w : zWd) : Prop :=
  va_P D vwCl (zws adr cI cL cZ w) H ∧ va_D A (zws adr cI cL cZ w) ∧ zInv n0 n1 f0 f1 w ∧ adr 0 = t0 ∧ adr 1 = t1 ∧ va_S A H0 H locs ∧ zlv adr ls (zmL mi) L ∧ (∀ v ∈ L, zokv w.1.length v) ∧ (∀ v ∈ st, zokv w.1.length v)
theorem zfall_inv {L L' st' : List zMV} {w w' : zWd} {o : Option (List zMV)} {tgt : Option Nat} (h : zfall L w o = some (tgt, L', st', w')) : none = tgt ∧ L = L' ∧ w = w' ∧ o = some st' := by
  cases o with
  | none => cases h
  | some x => cases h; exact ⟨rfl, rfl, rfl, rfl⟩
theorem zii_inv {st st' : List zMV} {f : Int → Int → Option zMV} (h : zii st f = some st') : ∃ y x r v, st = zI y :: zI x :: r ∧ f x y = some v ∧ st' = v :: r := by
  unfold zii at h
  split at h
  · next y x r =>
    cases hf : f x y with
    | none => rw [hf] at h; cases h
    | some v => rw [hf] at h; cases h; exact ⟨y, x, r, v, rfl, hf, rfl⟩
  · cases h
theorem zll_inv {st st' : List zMV} {f : Int → Int → Option zMV} (h : zll st f = some st') : ∃ y x r v, st = zL y :: zL x :: r ∧ f x y = some v ∧ st' = v :: r := by
  unfold zll at h
  split at h
  · next y x r =>
    cases hf : f x y with
    | none => rw [hf] at h; cases h
    | some v => rw [hf] at h; cases h; exact ⟨y, x, r, v, rfl, hf, rfl⟩
  · cases h
theorem zli_inv {st st' : List zMV} {f : Int → Int → Option zMV} (h : zli st f = some st') : ∃ y x r v, st = zI y :: zL x :: r ∧ f x y = some v ∧ st' = v :: r := by
  unfold zli at h
  split at h
  · next y x r =>
    cases hf : f x y with
    | none => rw [hf] at h; cases h
    | some v => rw [hf] at h; cases h; exact ⟨y, x, r, v, rfl, hf, rfl⟩
  · cases h
theorem zb32_in {x : Int} (h : zb32 x = true) : zin32 x := by
  simp only [zb32, Bool.and_eq_true, decide_eq_true_eq] at h
  exact h
theorem zb64_in {x : Int} (h : zb64 x = true) : zin64 x := by
  simp only [zb64, Bool.and_eq_true, decide_eq_true_eq] at h
  exact h
theorem zany3 {α : Type} {T : List α} {P : α → Bool} (h : T.any P = true) : ∃ q ∈ T, P q = true := by
  obtain ⟨q, h1, h2⟩ := List.any_eq_true.mp h
  exact ⟨q, h1, h2⟩
theorem zjmp_inv {mi pc b : Nat} {off : Int} (h : zjmp mi pc b off = true) : ∃ t : Nat, zstart mi b = some t ∧ (pc : Int) + off = (t : Int) := by
  unfold zjmp at h
  split at h
  · next t ht => exact ⟨t, ht, by simpa using h⟩
  · cases h
theorem zi32_i2l {x : Int} (h : zin32 x) : (Int32.ofInt x).toInt64 = Int64.ofInt x := by
  apply Int64.toInt_inj.mp
  rw [Int32.toInt_toInt64, ztoI h, ztoL ⟨by have := h.1; omega, by have := h.2; omega⟩]
theorem zin32_64 {x : Int} (h : zin32 x) : zin64 x := ⟨by have := h.1; omega, by have := h.2; omega⟩
theorem zlcmp_eq {x y : Int} (hx : zin64 x) (hy : zin64 y) : lg_cmp (Int64.ofInt x) (Int64.ofInt y) = Int32.ofInt (zlcmp x y) := by
  unfold lg_cmp zlcmp
  by_cases h1 : y < x
  · rw [if_pos (show Int64.ofInt x > Int64.ofInt y from (zltL hy hx).mpr h1), if_neg (by omega), if_neg (by omega)]; rfl
  · rw [if_neg (show ¬ Int64.ofInt x > Int64.ofInt y from fun z => h1 ((zltL hy hx).mp z))]
    by_cases h2 : x = y
    · rw [if_pos ((zeqL hx hy).mpr h2), if_neg (by omega), if_pos h2]; rfl
    · rw [if_neg (fun z => h2 ((zeqL hx hy).mp z)), if_pos (by omega)]; rfl
theorem zlcmp_in (x y : Int) : zin32 (zlcmp x y) := by
  unfold zlcmp
  split
  · exact ⟨by decide, by decide⟩
  · split
    · exact ⟨by decide, by decide⟩
    · exact ⟨by decide, by decide⟩
section ZS
variable {p : Program} {l : Launch} {e : Env} {R : Room} {s : State} {m : MethodId} {args : Array Value} {below : List Frame} {meth : Method} {c : Code} {Q : State → Prop} {D : va_G} {cI cL cZ : ClassId} {A : Nat → Prop} {t0 t1 n0 n1 mi kc ks : Nat} {f0 f1 : Int → Int}
def zK (p : Program) (l : Launch) (e : Env) (R : Room) (s : State) (m : MethodId) (args : Array Value) (below : List Frame) (meth : Method) (c : Code) (Q : State → Prop) (D : va_G) (cI cL cZ : ClassId) (A : Nat → Prop) (t0 t1 n0 n1 : Nat) (f0 f1 : Int → Int) (mi kc ks n : Nat) (adr : Nat → Nat) (tgt : Option Nat) (nx : Nat) (L st : List zMV) (w : zWd) : Prop :=
  ∀ (adr' : Nat → Nat) (H' : Heap) (locs' : List Loc) (ls' : Array Slot) (pc' : Nat), (∀ k, k < n → adr' k = adr k) → (match tgt with
    | none => pc' = nx
    | some b => zstart mi b = some pc') → zAt D cI cL cZ A t0 t1 n0 n1 f0 f1 mi s.heap adr' H' locs' ls' L st w → W p l e R s m args below meth c H' locs' (w.1.length - kc) (zcs w - ks) Q (F0 m pc' ls' (st.map (ztr adr')))
variable {adr : Nat → Nat} {H : Heap} {locs : List Loc} {ls : Array Slot} {L st : List zMV} {w : zWd} {pc nx : Nat}
theorem zAt_st {st' : List zMV} (h : zAt D cI cL cZ A t0 t1 n0 n1 f0 f1 mi s.heap adr H locs ls L st w) (hs : ∀ v ∈ st', zokv w.1.length v) : zAt D cI cL cZ A t0 t1 n0 n1 f0 f1 mi s.heap adr H locs ls L st' w := by
  obtain ⟨a1, a2, a3, a4, a5, a6, a7, a8, a9⟩ := h
  exact ⟨a1, a2, a3, a4, a5, a6, a7, a8, hs⟩
theorem zAt_lo {ls' : Array Slot} {L' st' : List zMV} (h : zAt D cI cL cZ A t0 t1 n0 n1 f0 f1 mi s.heap adr H locs ls L st w) (h1 : zlv adr ls' (zmL mi) L') (h2 : ∀ v ∈ L', zokv w.1.length v) (hs : ∀ v ∈ st', zokv w.1.length v) : zAt D cI cL cZ A t0 t1 n0 n1 f0 f1 mi s.heap adr H locs ls' L' st' w := by
  obtain ⟨a1, a2, a3, a4, a5, a6, a7, a8, a9⟩ := h
  exact ⟨a1, a2, a3, a4, a5, a6, h1, h2, hs⟩
/-- on with another stack -/
theorem zKs {st' : List zMV} {V : List Value} (hA : zAt D cI cL cZ A t0 t1 n0 n1 f0 f1 mi s.heap adr H locs ls L st w) (K : zK p l e R s m args below meth c Q D cI cL cZ A t0 t1 n0 n1 f0 f1 mi kc ks w.1.length adr none nx L st' w) (hs : ∀ v ∈ st', zokv w.1.length v) (hV : st'.map (ztr adr) = V) : W p l e R s m args below meth c H locs (w.1.length - kc) (zcs w - ks) Q (F0 m nx ls V) := by
  subst hV
  exact K adr H locs ls nx (fun _ _ => rfl) rfl (zAt_st hA hs)
theorem zKi {z : Int} {Z : Int32} {r : List zMV} (hA : zAt D cI cL cZ A t0 t1 n0 n1 f0 f1 mi s.heap adr H locs ls L st w) (K : zK p l e R s m args below meth c Q D cI cL cZ A t0 t1 n0 n1 f0 f1 mi kc ks w.1.length adr none nx L (zI z :: r) w) (hz : Int32.ofInt z = Z) (hin : zin32 z) (hr : ∀ v ∈ r, v ∈ st) : W p l e R s m args below meth c H locs (w.1.length - kc) (zcs w - ks) Q (F0 m nx ls (.int Z :: r.map (ztr adr))) := by
  subst hz
  refine zKs hA K (fun v hv => ?_) rfl
  rcases List.mem_cons.mp hv with rfl | hv
  · exact hin
  · exact hA.2.2.2.2.2.2.2.2 v (hr v hv)
theorem zKl {z : Int} {Z : Int64} {r : List zMV} (hA : zAt D cI cL cZ A t0 t1 n0 n1 f0 f1 mi s.heap adr H locs ls L st w) (K : zK p l e R s m args below meth c Q D cI cL cZ A t0 t1 n0 n1 f0 f1 mi kc ks w.1.length adr none nx L (zL z :: r) w) (hz : Int64.ofInt z = Z) (hin : zin64 z) (hr : ∀ v ∈ r, v ∈ st) : W p l e R s m args below meth c H locs (w.1.length - kc) (zcs w - ks) Q (F0 m nx ls (.long Z :: r.map (ztr adr))) := by
  subst hz
  refine zKs hA K (fun v hv => ?_) rfl
  rcases List.mem_cons.mp hv with rfl | hv
  · exact hin
  · exact hA.2.2.2.2.2.2.2.2 v (hr v hv)
theorem zmem2 {u v : zMV} {r : List zMV} : ∀ x ∈ r, x ∈ u :: v :: r := fun _ h => List.mem_cons_of_mem _ (List.mem_cons_of_mem _ h)
theorem zmem1 {u : zMV} {r : List zMV} : ∀ x ∈ r, x ∈ u :: r := fun _ h => List.mem_cons_of_mem _ h
end ZS
end
section
/-! one step: constants, locals, numbers, stack, jumps -/
section ZS
variable {p : Program} {l : Launch} {e : Env} {R : Room} {s : State} {m : MethodId} {args : Array Value} {below : List Frame} {meth : Method} {c : Code} {Q : State → Prop} {D : va_G} {cI cL cZ : ClassId} {A : Nat → Prop} {t0 t1 n0 n1 mi kc ks : Nat} {f0 f1 : Int → Int}
variable {adr : Nat → Nat} {H : Heap} {locs : List Loc} {ls : Array Slot} {L st : List zMV} {w : zWd} {pc nx : Nat}
/-- what zstep says of one instruction -/
def zSt (p : Program) (l : Launch) (e : Env) (R : Room) (s : State) (m : MethodId) (args : Array Value) (below : List Frame) (meth : Method) (c : Code) (Q : State → Prop) (D : va_G) (cI cL cZ : ClassId) (A : Nat → Prop) (t0 t1 n0 n1 : Nat) (f0 f1 : Int → Int) (mi kc ks : Nat) (i : Instr) : Prop :=
  ∀ (pc len : Nat) (en : zEnt) (L st : List zMV) (w : zWd) (tgt : Option Nat) (L' st' : List zMV) (w' : zWd) (adr : Nat → Nat) (H : Heap) (locs : List Loc) (ls : Array Slot),
    decode (zmC mi) pc = .ok (i, len) → zokE mi pc i len en = true → znxt en L st w = some (tgt, L', st', w') →
    zAt D cI cL cZ A t0 t1 n0 n1 f0 f1 mi s.heap adr H locs ls L st w → kc ≤ w.1.length → ks ≤ zcs w → w'.1.length - kc ≤ R.cells → zcs w' - ks ≤ R.slots → 1 ≤ R.frames → 40 ≤ R.locals →
    zK p l e R s m args below meth c Q D cI cL cZ A t0 t1 n0 n1 f0 f1 mi kc ks w.1.length adr tgt (pc + len) L' st' w' →
    W p l e R s m args below meth c H locs (w.1.length - kc) (zcs w - ks) Q (F0 m pc ls (st.map (ztr adr)))
theorem zs_const (hC : zCtx p s m args meth c D cI cL cZ A t0 t1 n0 n1 f0 f1 mi) (i : Instr) (hi : match i with
    | .iconst _ | .bipush _ | .sipush _ | .lconst _ => True
    | .ldc _ | .ldc_w _ | .ldc2_w _ => True
    | _ => False) : zSt p l e R s m args below meth c Q D cI cL cZ A t0 t1 n0 n1 f0 f1 mi kc ks i := by
  obtain ⟨hx, hb, hml, hown, hts, hnw, hK, hlk, hin, hA0, hT0, hT1, hZ⟩ := hC
  intro pc len en L st w tgt L' st' w' adr H locs ls hdg hok hn hA hkc hks hRc hRs hRf hRl K
  cases i with
  | iconst n =>
    simp only [zokE, Bool.and_eq_true, decide_eq_true_eq] at hok
    obtain ⟨⟨rfl, rfl⟩, h3⟩ := hok
    obtain ⟨rfl, rfl, rfl, ho⟩ := zfall_inv hn
    cases ho
    exact lv_iconst hx hb hdg rfl (zKi hA K rfl (zb32_in h3) fun _ h => h)
  | bipush n =>
    simp only [zokE, Bool.and_eq_true, decide_eq_true_eq] at hok
    obtain ⟨h1, rfl⟩ := hok
    split at h1
    · next v hv =>
      simp only [Bool.and_eq_true, decide_eq_true_eq] at h1
      simp only [znxt, hv] at hn
      obtain ⟨rfl, rfl, rfl, ho⟩ := zfall_inv hn
      cases ho
      exact lv_bipush hx hb hdg h1.1 (zKi hA K rfl (zb32_in h1.2) fun _ h => h)
    · cases h1
  | sipush n =>
    simp only [zokE, Bool.and_eq_true, decide_eq_true_eq] at hok
    obtain ⟨h1, rfl⟩ := hok
    split at h1
    · next v hv =>
      simp only [Bool.and_eq_true, decide_eq_true_eq] at h1
      simp only [znxt, hv] at hn
      obtain ⟨rfl, rfl, rfl, ho⟩ := zfall_inv hn
      cases ho
      exact lv_sipush hx hb hdg h1.1 (zKi hA K rfl (zb32_in h1.2) fun _ h => h)
    · cases h1
  | lconst n =>
    simp only [zokE, Bool.and_eq_true, decide_eq_true_eq] at hok
    obtain ⟨rfl, rfl⟩ := hok
    obtain ⟨rfl, rfl, rfl, ho⟩ := zfall_inv hn
    cases ho
    exact lv_lconst hx hb hdg (v := Int64.ofInt (n.val : Int)) (by rfl) (zKl hA K rfl ⟨by omega, by have := n.isLt; omega⟩ fun _ h => h)
  | ldc ix =>
    simp only [zokE, Bool.and_eq_true, decide_eq_true_eq] at hok
    obtain ⟨h1, rfl⟩ := hok
    split at h1
    · next v hv =>
      simp only [Bool.and_eq_true] at h1
      obtain ⟨q, hq, hq2⟩ := zany3 h1.1
      simp only [Bool.and_eq_true, beq_iff_eq] at hq2
      obtain ⟨q1, q2, q3⟩ := hq2
      have hw := zTW_of (List.mem_of_getElem? (zKT_ok q hq)) rfl
      rw [q1, q2, q3] at hw
      simp only [znxt, hv] at hn
      obtain ⟨rfl, rfl, rfl, ho⟩ := zfall_inv hn
      cases ho
      exact lv_ldc hx hb hown (hts _ hw) hdg (zKi hA K rfl (zb32_in h1.2) fun _ h => h)
    · cases h1
  | ldc_w ix =>
    simp only [zokE, Bool.and_eq_true, decide_eq_true_eq] at hok
    obtain ⟨h1, rfl⟩ := hok
    split at h1
    · next v hv =>
      simp only [Bool.and_eq_true] at h1
      obtain ⟨q, hq, hq2⟩ := zany3 h1.1
      simp only [Bool.and_eq_true, beq_iff_eq] at hq2
      obtain ⟨q1, q2, q3⟩ := hq2
      have hw := zTW_of (List.mem_of_getElem? (zKT_ok q hq)) rfl
      rw [q1, q2, q3] at hw
      simp only [znxt, hv] at hn
      obtain ⟨rfl, rfl, rfl, ho⟩ := zfall_inv hn
      cases ho
      exact lv_ldcw hx hb hown (hts _ hw) hdg (zKi hA K rfl (zb32_in h1.2) fun _ h => h)
    · cases h1
  | ldc2_w ix =>
    simp only [zokE, Bool.and_eq_true, decide_eq_true_eq] at hok
    obtain ⟨h1, rfl⟩ := hok
    split at h1
    · next v hv =>
      simp only [Bool.and_eq_true] at h1
      obtain ⟨q, hq, hq2⟩ := zany3 h1.1
      simp only [Bool.and_eq_true, beq_iff_eq] at hq2
      obtain ⟨q1, q2, q3⟩ := hq2
      have hw := zTW_of (List.mem_of_getElem? (zKL_ok q hq)) rfl
      rw [q1, q2, q3] at hw
      simp only [znxt, hv] at hn
      obtain ⟨rfl, rfl, rfl, ho⟩ := zfall_inv hn
      cases ho
      exact lv_ldc2 hx hb hown (hts _ hw) hdg (zKl hA K rfl (zb64_in h1.2) fun _ h => h)
    · cases h1
  | _ => exact absurd hi (by simp)
theorem zs_locals (hC : zCtx p s m args meth c D cI cL cZ A t0 t1 n0 n1 f0 f1 mi) (i : Instr) (hi : match i with
    | .iload_n _ | .iload _ | .lload_n _ | .lload _ | .aload_n _ | .aload _ => True
    | .istore_n _ | .istore _ | .lstore_n _ | .lstore _ | .astore_n _ | .astore _ | .iinc _ _ => True
    | _ => False) : zSt p l e R s m args below meth c Q D cI cL cZ A t0 t1 n0 n1 f0 f1 mi kc ks i := by
  obtain ⟨hx, hb, hml, hown, hts, hnw, hK, hlk, hin, hA0, hT0, hT1, hZ⟩ := hC
  intro pc len en L st w tgt L' st' w' adr H locs ls hdg hok hn hA hkc hks hRc hRs hRf hRl K
  have hlv := hA.2.2.2.2.2.2.1
  have hLo := hA.2.2.2.2.2.2.2.1
  have hSo := hA.2.2.2.2.2.2.2.2
  have loadI : ∀ {j : Nat} {x : Int}, L[j]? = some (zI x) → ls[j]? = some (.val (.int (Int32.ofInt x))) ∧ zin32 x := fun h => ⟨hlv.2.2.2 _ _ h (fun z => by cases z), hLo _ (List.mem_of_getElem? h)⟩
  have loadL : ∀ {j : Nat} {x : Int}, L[j]? = some (zL x) → ls[j]? = some (.val (.long (Int64.ofInt x))) ∧ zin64 x := fun h => ⟨hlv.2.2.2 _ _ h (fun z => by cases z), hLo _ (List.mem_of_getElem? h)⟩
  have loadR : ∀ {j : Nat} {x : Nat}, L[j]? = some (zR x) → ls[j]? = some (.val (.ref (adr x))) ∧ x < w.1.length := fun h => ⟨hlv.2.2.2 _ _ h (fun z => by cases z), hLo _ (List.mem_of_getElem? h)⟩
  have store1 : ∀ {j : Nat} {v : zMV} {r : List zMV} {ls' : Array Slot}, j < L.length → zokv w.1.length v → (∀ u ∈ r, zokv w.1.length u) → lv_has ls' (zmL mi) ((j, ztr adr v) :: (zll2 adr L).filter (fun q => !(q.1 == j) && !(q.1 + 1 == j && q.2.category == 2))) → zAt D cI cL cZ A t0 t1 n0 n1 f0 f1 mi s.heap adr H locs ls' (zset1 L j v) r w := fun hj hv hr h' => zAt_lo hA (zlv_set1 hlv hj h') (zset1_ok hj hLo hv) hr
  cases i with
  | iload_n k =>
    simp only [zokE, Bool.and_eq_true, decide_eq_true_eq] at hok
    obtain ⟨rfl, rfl⟩ := hok
    simp only [znxt] at hn
    split at hn
    · next x hj =>
      obtain ⟨rfl, rfl, rfl, ho⟩ := zfall_inv hn
      cases ho
      exact lv_iload_n hx hb hdg rfl (loadI hj).1 (zKi hA K rfl (loadI hj).2 fun _ h => h)
    · cases hn
  | iload k =>
    simp only [zokE, Bool.and_eq_true, decide_eq_true_eq] at hok
    obtain ⟨rfl, rfl⟩ := hok
    simp only [znxt] at hn
    split at hn
    · next x hj =>
      obtain ⟨rfl, rfl, rfl, ho⟩ := zfall_inv hn
      cases ho
      exact lv_iload hx hb hdg (loadI hj).1 (zKi hA K rfl (loadI hj).2 fun _ h => h)
    · cases hn
  | lload_n k =>
    simp only [zokE, Bool.and_eq_true, decide_eq_true_eq] at hok
    obtain ⟨rfl, rfl⟩ := hok
    simp only [znxt] at hn
    split at hn
    · next x hj =>
      obtain ⟨rfl, rfl, rfl, ho⟩ := zfall_inv hn
      cases ho
      exact lv_lload_n hx hb hdg rfl (loadL hj).1 (zKl hA K rfl (loadL hj).2 fun _ h => h)
    · cases hn
  | lload k =>
    simp only [zokE, Bool.and_eq_true, decide_eq_true_eq] at hok
    obtain ⟨rfl, rfl⟩ := hok
    simp only [znxt] at hn
    split at hn
    · next x hj =>
      obtain ⟨rfl, rfl, rfl, ho⟩ := zfall_inv hn
      cases ho
      exact lv_lload hx hb hdg (loadL hj).1 (zKl hA K rfl (loadL hj).2 fun _ h => h)
    · cases hn
  | aload_n k =>
    simp only [zokE, Bool.and_eq_true, decide_eq_true_eq] at hok
    obtain ⟨rfl, rfl⟩ := hok
    simp only [znxt] at hn
    split at hn
    · next x hj =>
      obtain ⟨rfl, rfl, rfl, ho⟩ := zfall_inv hn
      cases ho
      exact lv_aload_n hx hb hdg rfl (loadR hj).1 (zKs hA K (fun v hv => (List.mem_cons.mp hv).elim (fun q => by rw [q]; exact (loadR hj).2) (hSo v)) rfl)
    · cases hn
  | aload k =>
    simp only [zokE, Bool.and_eq_true, decide_eq_true_eq] at hok
    obtain ⟨rfl, rfl⟩ := hok
    simp only [znxt] at hn
    split at hn
    · next x hj =>
      obtain ⟨rfl, rfl, rfl, ho⟩ := zfall_inv hn
      cases ho
      exact lv_aload hx hb hdg (loadR hj).1 (zKs hA K (fun v hv => (List.mem_cons.mp hv).elim (fun q => by rw [q]; exact (loadR hj).2) (hSo v)) rfl)
    · cases hn
  | istore_n k =>
    simp only [zokE, Bool.and_eq_true, decide_eq_true_eq] at hok
    obtain ⟨rfl, rfl⟩ := hok
    simp only [znxt] at hn
    split at hn
    · next x r =>
      split at hn
      · next hj =>
        obtain ⟨rfl, rfl, rfl, ho⟩ := zfall_inv hn
        cases ho
        exact lv_istore_n hx hb hdg rfl (zlv_has hlv) (by rw [← hlv.2.2.1]; exact hj) rfl fun ls' h' => K adr H locs ls' _ (fun _ _ => rfl) rfl (store1 (v := zI x) hj (hSo _ List.mem_cons_self) (fun u hu => hSo u (List.mem_cons_of_mem _ hu)) h')
      · cases hn
    · cases hn
  | istore k =>
    simp only [zokE, Bool.and_eq_true, decide_eq_true_eq] at hok
    obtain ⟨rfl, rfl⟩ := hok
    simp only [znxt] at hn
    split at hn
    · next x r =>
      split at hn
      · next hj =>
        obtain ⟨rfl, rfl, rfl, ho⟩ := zfall_inv hn
        cases ho
        exact lv_istore hx hb hdg (zlv_has hlv) (by rw [← hlv.2.2.1]; exact hj) rfl fun ls' h' => K adr H locs ls' _ (fun _ _ => rfl) rfl (store1 (v := zI x) hj (hSo _ List.mem_cons_self) (fun u hu => hSo u (List.mem_cons_of_mem _ hu)) h')
      · cases hn
    · cases hn
  | astore_n k =>
    simp only [zokE, Bool.and_eq_true, decide_eq_true_eq] at hok
    obtain ⟨rfl, rfl⟩ := hok
    simp only [znxt] at hn
    split at hn
    · next x r =>
      split at hn
      · next hj =>
        obtain ⟨rfl, rfl, rfl, ho⟩ := zfall_inv hn
        cases ho
        exact lv_astore_n hx hb hdg rfl (zlv_has hlv) (by rw [← hlv.2.2.1]; exact hj) rfl fun ls' h' => K adr H locs ls' _ (fun _ _ => rfl) rfl (store1 (v := zR x) hj (hSo _ List.mem_cons_self) (fun u hu => hSo u (List.mem_cons_of_mem _ hu)) h')
      · cases hn
    · cases hn
  | astore k =>
    simp only [zokE, Bool.and_eq_true, decide_eq_true_eq] at hok
    obtain ⟨rfl, rfl⟩ := hok
    simp only [znxt] at hn
    split at hn
    · next x r =>
      split at hn
      · next hj =>
        obtain ⟨rfl, rfl, rfl, ho⟩ := zfall_inv hn
        cases ho
        exact lv_astore hx hb hdg (zlv_has hlv) (by rw [← hlv.2.2.1]; exact hj) rfl fun ls' h' => K adr H locs ls' _ (fun _ _ => rfl) rfl (store1 (v := zR x) hj (hSo _ List.mem_cons_self) (fun u hu => hSo u (List.mem_cons_of_mem _ hu)) h')
      · cases hn
    · cases hn
  | lstore_n k =>
    simp only [zokE, Bool.and_eq_true, decide_eq_true_eq] at hok
    obtain ⟨rfl, rfl⟩ := hok
    simp only [znxt] at hn
    split at hn
    · next x r =>
      split at hn
      · next hj =>
        obtain ⟨rfl, rfl, rfl, ho⟩ := zfall_inv hn
        cases ho
        exact lv_lstore_n hx hb hdg rfl (zlv_has hlv) (by rw [← hlv.2.2.1]; exact hj) rfl fun ls' h' => K adr H locs ls' _ (fun _ _ => rfl) rfl (zAt_lo hA (zlv_set2 (v := zL x) hlv hj h') (zset2_ok (by omega) hLo (hSo _ List.mem_cons_self)) (fun u hu => hSo u (List.mem_cons_of_mem _ hu)))
      · cases hn
    · cases hn
  | lstore k =>
    simp only [zokE, Bool.and_eq_true, decide_eq_true_eq] at hok
    obtain ⟨rfl, rfl⟩ := hok
    simp only [znxt] at hn
    split at hn
    · next x r =>
      split at hn
      · next hj =>
        obtain ⟨rfl, rfl, rfl, ho⟩ := zfall_inv hn
        cases ho
        exact lv_lstore hx hb hdg (zlv_has hlv) (by rw [← hlv.2.2.1]; exact hj) rfl fun ls' h' => K adr H locs ls' _ (fun _ _ => rfl) rfl (zAt_lo hA (zlv_set2 (v := zL x) hlv hj h') (zset2_ok (by omega) hLo (hSo _ List.mem_cons_self)) (fun u hu => hSo u (List.mem_cons_of_mem _ hu)))
      · cases hn
    · cases hn
  | iinc k n =>
    simp only [zokE, Bool.and_eq_true, decide_eq_true_eq] at hok
    obtain ⟨rfl, rfl⟩ := hok
    simp only [znxt] at hn
    split at hn
    · next x hx1 =>
      split at hn
      · next hj =>
        obtain ⟨rfl, rfl, rfl, ho⟩ := zfall_inv hn
        cases ho
        have hmem : (k, Value.int (Int32.ofInt x)) ∈ zll2 adr L := zll2_mem.mpr ⟨zI x, hx1, fun z => (by cases z), rfl⟩
        obtain ⟨kk, hkk⟩ := List.getElem?_of_mem hmem
        exact lv_iinc hx hb hdg (zlv_has hlv) hkk (v := Int32.ofInt (zadd x n)) (zofI _).symm (by rw [← hlv.2.2.1]; exact hj) rfl fun ls' h' => K adr H locs ls' _ (fun _ _ => rfl) rfl (store1 (v := zI (zadd x n)) hj (zin32_toInt _) hSo h')
      · cases hn
    · cases hn
  | _ => exact absurd hi (by simp)
end ZS
end
section
/-! one step: numbers, stack, jumps -/
section ZS
variable {p : Program} {l : Launch} {e : Env} {R : Room} {s : State} {m : MethodId} {args : Array Value} {below : List Frame} {meth : Method} {c : Code} {Q : State → Prop} {D : va_G} {cI cL cZ : ClassId} {A : Nat → Prop} {t0 t1 n0 n1 mi kc ks : Nat} {f0 f1 : Int → Int}
variable {adr : Nat → Nat} {H : Heap} {locs : List Loc} {ls : Array Slot} {L st : List zMV} {w : zWd} {pc nx : Nat}

theorem zs_ints (hC : zCtx p s m args meth c D cI cL cZ A t0 t1 n0 n1 f0 f1 mi) (i : Instr) (hi : match i with
    | .iadd | .isub | .imul | .iand | .ior | .ixor | .ishl | .ishr | .iushr | .idiv | .irem => True
    | _ => False) : zSt p l e R s m args below meth c Q D cI cL cZ A t0 t1 n0 n1 f0 f1 mi kc ks i := by
  obtain ⟨hx, hb, hml, hown, hts, hnw, hK, hlk, hin, hA0, hT0, hT1, hZ⟩ := hC
  intro pc len en L st w tgt L' st' w' adr H locs ls hdg hok hn hA hkc hks hRc hRs hRf hRl K
  have hSo := hA.2.2.2.2.2.2.2.2
  cases i with
  | iadd =>
    simp only [zokE, Bool.and_eq_true, decide_eq_true_eq] at hok
    obtain ⟨rfl, rfl⟩ := hok
    obtain ⟨rfl, rfl, rfl, ho⟩ := zfall_inv hn
    obtain ⟨y, x, r, v, rfl, hv, rfl⟩ := zii_inv ho
    cases hv
    exact lv_iadd hx hb hdg (zKi hA K (zofI _) (zin32_toInt _) zmem2)
  | isub =>
    simp only [zokE, Bool.and_eq_true, decide_eq_true_eq] at hok
    obtain ⟨rfl, rfl⟩ := hok
    obtain ⟨rfl, rfl, rfl, ho⟩ := zfall_inv hn
    obtain ⟨y, x, r, v, rfl, hv, rfl⟩ := zii_inv ho
    cases hv
    exact lv_isub hx hb hdg (zKi hA K (zofI _) (zin32_toInt _) zmem2)
  | imul =>
    simp only [zokE, Bool.and_eq_true, decide_eq_true_eq] at hok
    obtain ⟨rfl, rfl⟩ := hok
    obtain ⟨rfl, rfl, rfl, ho⟩ := zfall_inv hn
    obtain ⟨y, x, r, v, rfl, hv, rfl⟩ := zii_inv ho
    cases hv
    exact lv_imul hx hb hdg (zKi hA K (zofI _) (zin32_toInt _) zmem2)
  | iand =>
    simp only [zokE, Bool.and_eq_true, decide_eq_true_eq] at hok
    obtain ⟨rfl, rfl⟩ := hok
    obtain ⟨rfl, rfl, rfl, ho⟩ := zfall_inv hn
    obtain ⟨y, x, r, v, rfl, hv, rfl⟩ := zii_inv ho
    cases hv
    exact lv_iand hx hb hdg (zKi hA K (zofI _) (zin32_toInt _) zmem2)
  | ior =>
    simp only [zokE, Bool.and_eq_true, decide_eq_true_eq] at hok
    obtain ⟨rfl, rfl⟩ := hok
    obtain ⟨rfl, rfl, rfl, ho⟩ := zfall_inv hn
    obtain ⟨y, x, r, v, rfl, hv, rfl⟩ := zii_inv ho
    cases hv
    exact lv_ior hx hb hdg (zKi hA K (zofI _) (zin32_toInt _) zmem2)
  | ixor =>
    simp only [zokE, Bool.and_eq_true, decide_eq_true_eq] at hok
    obtain ⟨rfl, rfl⟩ := hok
    obtain ⟨rfl, rfl, rfl, ho⟩ := zfall_inv hn
    obtain ⟨y, x, r, v, rfl, hv, rfl⟩ := zii_inv ho
    cases hv
    exact lv_ixor hx hb hdg (zKi hA K (zofI _) (zin32_toInt _) zmem2)
  | ishl =>
    simp only [zokE, Bool.and_eq_true, decide_eq_true_eq] at hok
    obtain ⟨rfl, rfl⟩ := hok
    obtain ⟨rfl, rfl, rfl, ho⟩ := zfall_inv hn
    obtain ⟨y, x, r, v, rfl, hv, rfl⟩ := zii_inv ho
    cases hv
    exact lv_ishl hx hb hdg (zKi hA K (zofI _) (zin32_toInt _) zmem2)
  | ishr =>
    simp only [zokE, Bool.and_eq_true, decide_eq_true_eq] at hok
    obtain ⟨rfl, rfl⟩ := hok
    obtain ⟨rfl, rfl, rfl, ho⟩ := zfall_inv hn
    obtain ⟨y, x, r, v, rfl, hv, rfl⟩ := zii_inv ho
    cases hv
    exact lv_ishr hx hb hdg (zKi hA K (zofI _) (zin32_toInt _) zmem2)
  | iushr =>
    simp only [zokE, Bool.and_eq_true, decide_eq_true_eq] at hok
    obtain ⟨rfl, rfl⟩ := hok
    obtain ⟨rfl, rfl, rfl, ho⟩ := zfall_inv hn
    obtain ⟨y, x, r, v, rfl, hv, rfl⟩ := zii_inv ho
    cases hv
    exact lv_iushr hx hb hdg rfl (zKi hA K (zofI _) (zin32_toInt _) zmem2)
  | idiv =>
    simp only [zokE, Bool.and_eq_true, decide_eq_true_eq] at hok
    obtain ⟨rfl, rfl⟩ := hok
    obtain ⟨rfl, rfl, rfl, ho⟩ := zfall_inv hn
    obtain ⟨y, x, r, v, rfl, hv, rfl⟩ := zii_inv ho
    split at hv
    · cases hv
    · next h0 =>
      cases hv
      exact lv_idiv hx hb hdg (fun z => h0 ((zeqI (hSo (zI y) List.mem_cons_self) zin0).mp z)) (zKi hA K (zofI _) (zin32_toInt _) zmem2)
  | irem =>
    simp only [zokE, Bool.and_eq_true, decide_eq_true_eq] at hok
    obtain ⟨rfl, rfl⟩ := hok
    obtain ⟨rfl, rfl, rfl, ho⟩ := zfall_inv hn
    obtain ⟨y, x, r, v, rfl, hv, rfl⟩ := zii_inv ho
    split at hv
    · cases hv
    · next h0 =>
      cases hv
      exact lv_irem hx hb hdg (fun z => h0 ((zeqI (hSo (zI y) List.mem_cons_self) zin0).mp z)) (zKi hA K (zofI _) (zin32_toInt _) zmem2)
  | _ => exact absurd hi (by simp)
theorem zs_longs (hC : zCtx p s m args meth c D cI cL cZ A t0 t1 n0 n1 f0 f1 mi) (i : Instr) (hi : match i with
    | .ladd | .lsub | .lmul | .land | .lor | .ldiv | .lrem | .lshl | .lshr | .lcmp => True
    | _ => False) : zSt p l e R s m args below meth c Q D cI cL cZ A t0 t1 n0 n1 f0 f1 mi kc ks i := by
  obtain ⟨hx, hb, hml, hown, hts, hnw, hK, hlk, hin, hA0, hT0, hT1, hZ⟩ := hC
  intro pc len en L st w tgt L' st' w' adr H locs ls hdg hok hn hA hkc hks hRc hRs hRf hRl K
  have hSo := hA.2.2.2.2.2.2.2.2
  cases i with
  | ladd =>
    simp only [zokE, Bool.and_eq_true, decide_eq_true_eq] at hok
    obtain ⟨rfl, rfl⟩ := hok
    obtain ⟨rfl, rfl, rfl, ho⟩ := zfall_inv hn
    obtain ⟨y, x, r, v, rfl, hv, rfl⟩ := zll_inv ho
    cases hv
    exact lv_ladd hx hb hdg (zKl hA K (zofL _) (zin64_toInt _) zmem2)
  | lsub =>
    simp only [zokE, Bool.and_eq_true, decide_eq_true_eq] at hok
    obtain ⟨rfl, rfl⟩ := hok
    obtain ⟨rfl, rfl, rfl, ho⟩ := zfall_inv hn
    obtain ⟨y, x, r, v, rfl, hv, rfl⟩ := zll_inv ho
    cases hv
    exact lv_lsub hx hb hdg (zKl hA K (zofL _) (zin64_toInt _) zmem2)
  | lmul =>
    simp only [zokE, Bool.and_eq_true, decide_eq_true_eq] at hok
    obtain ⟨rfl, rfl⟩ := hok
    obtain ⟨rfl, rfl, rfl, ho⟩ := zfall_inv hn
    obtain ⟨y, x, r, v, rfl, hv, rfl⟩ := zll_inv ho
    cases hv
    exact lv_lmul hx hb hdg (zKl hA K (zofL _) (zin64_toInt _) zmem2)
  | land =>
    simp only [zokE, Bool.and_eq_true, decide_eq_true_eq] at hok
    obtain ⟨rfl, rfl⟩ := hok
    obtain ⟨rfl, rfl, rfl, ho⟩ := zfall_inv hn
    obtain ⟨y, x, r, v, rfl, hv, rfl⟩ := zll_inv ho
    cases hv
    exact lv_land hx hb hdg (zKl hA K (zofL _) (zin64_toInt _) zmem2)
  | lor =>
    simp only [zokE, Bool.and_eq_true, decide_eq_true_eq] at hok
    obtain ⟨rfl, rfl⟩ := hok
    obtain ⟨rfl, rfl, rfl, ho⟩ := zfall_inv hn
    obtain ⟨y, x, r, v, rfl, hv, rfl⟩ := zll_inv ho
    cases hv
    exact lv_lor hx hb hdg (zKl hA K (zofL _) (zin64_toInt _) zmem2)
  | ldiv =>
    simp only [zokE, Bool.and_eq_true, decide_eq_true_eq] at hok
    obtain ⟨rfl, rfl⟩ := hok
    obtain ⟨rfl, rfl, rfl, ho⟩ := zfall_inv hn
    obtain ⟨y, x, r, v, rfl, hv, rfl⟩ := zll_inv ho
    split at hv
    · cases hv
    · next h0 =>
      cases hv
      exact lv_ldiv hx hb hdg (fun z => h0 ((zeqL (hSo (zL y) List.mem_cons_self) ⟨by decide, by decide⟩).mp z)) (zKl hA K (zofL _) (zin64_toInt _) zmem2)
  | lrem =>
    simp only [zokE, Bool.and_eq_true, decide_eq_true_eq] at hok
    obtain ⟨rfl, rfl⟩ := hok
    obtain ⟨rfl, rfl, rfl, ho⟩ := zfall_inv hn
    obtain ⟨y, x, r, v, rfl, hv, rfl⟩ := zll_inv ho
    split at hv
    · cases hv
    · next h0 =>
      cases hv
      exact lv_lrem hx hb hdg (fun z => h0 ((zeqL (hSo (zL y) List.mem_cons_self) ⟨by decide, by decide⟩).mp z)) (zKl hA K (zofL _) (zin64_toInt _) zmem2)
  | lshl =>
    simp only [zokE, Bool.and_eq_true, decide_eq_true_eq] at hok
    obtain ⟨rfl, rfl⟩ := hok
    obtain ⟨rfl, rfl, rfl, ho⟩ := zfall_inv hn
    obtain ⟨y, x, r, v, rfl, hv, rfl⟩ := zli_inv ho
    cases hv
    exact lv_lshl hx hb hdg rfl (zKl hA K (zofL _) (zin64_toInt _) zmem2)
  | lshr =>
    simp only [zokE, Bool.and_eq_true, decide_eq_true_eq] at hok
    obtain ⟨rfl, rfl⟩ := hok
    obtain ⟨rfl, rfl, rfl, ho⟩ := zfall_inv hn
    obtain ⟨y, x, r, v, rfl, hv, rfl⟩ := zli_inv ho
    cases hv
    exact lv_lshr hx hb hdg rfl (zKl hA K (zofL _) (zin64_toInt _) zmem2)
  | lcmp =>
    simp only [zokE, Bool.and_eq_true, decide_eq_true_eq] at hok
    obtain ⟨rfl, rfl⟩ := hok
    obtain ⟨rfl, rfl, rfl, ho⟩ := zfall_inv hn
    obtain ⟨y, x, r, v, rfl, hv, rfl⟩ := zll_inv ho
    cases hv
    exact W.lcmp hx hb hdg (zKi hA K (zlcmp_eq (hSo (zL x) (by simp)) (hSo (zL y) (by simp))).symm (zlcmp_in _ _) zmem2)
  | _ => exact absurd hi (by simp)
theorem zs_stack (hC : zCtx p s m args meth c D cI cL cZ A t0 t1 n0 n1 f0 f1 mi) (i : Instr) (hi : match i with
    | .i2l | .i2b | .l2i | .dup | .dup2 | .pop => True
    | _ => False) : zSt p l e R s m args below meth c Q D cI cL cZ A t0 t1 n0 n1 f0 f1 mi kc ks i := by
  obtain ⟨hx, hb, hml, hown, hts, hnw, hK, hlk, hin, hA0, hT0, hT1, hZ⟩ := hC
  intro pc len en L st w tgt L' st' w' adr H locs ls hdg hok hn hA hkc hks hRc hRs hRf hRl K
  have hSo := hA.2.2.2.2.2.2.2.2
  cases i with
  | i2l =>
    simp only [zokE, Bool.and_eq_true, decide_eq_true_eq] at hok
    obtain ⟨rfl, rfl⟩ := hok
    simp only [znxt] at hn
    split at hn
    · next x r =>
      obtain ⟨rfl, rfl, rfl, ho⟩ := zfall_inv hn
      cases ho
      exact lv_i2l hx hb hdg (zi32_i2l (hSo (zI x) List.mem_cons_self)) (zKl hA K rfl (zin32_64 (hSo (zI x) List.mem_cons_self)) zmem1)
    · cases hn
  | i2b =>
    simp only [zokE, Bool.and_eq_true, decide_eq_true_eq] at hok
    obtain ⟨rfl, rfl⟩ := hok
    simp only [znxt] at hn
    split at hn
    · next x r =>
      obtain ⟨rfl, rfl, rfl, ho⟩ := zfall_inv hn
      cases ho
      exact lv_i2b hx hb hdg rfl (zKi hA K (zofI _) (zin32_toInt _) zmem1)
    · cases hn
  | l2i =>
    simp only [zokE, Bool.and_eq_true, decide_eq_true_eq] at hok
    obtain ⟨rfl, rfl⟩ := hok
    simp only [znxt] at hn
    split at hn
    · next x r =>
      obtain ⟨rfl, rfl, rfl, ho⟩ := zfall_inv hn
      cases ho
      exact lv_l2i hx hb hdg rfl (zKi hA K (zofI _) (zin32_toInt _) zmem1)
    · cases hn
  | dup =>
    simp only [zokE, Bool.and_eq_true, decide_eq_true_eq] at hok
    obtain ⟨rfl, rfl⟩ := hok
    simp only [znxt] at hn
    split at hn
    · next v r =>
      split at hn
      · cases hn
      · next h0 =>
        obtain ⟨rfl, rfl, rfl, ho⟩ := zfall_inv hn
        cases ho
        have h1 : zcat v = 1 := Decidable.byContradiction fun z => h0 (Or.inr z)
        exact lv_dup hx hb hdg (by rw [zcat_tr]; exact h1) (zKs hA K (fun u hu => (List.mem_cons.mp hu).elim (fun q => by rw [q]; exact hSo v List.mem_cons_self) (hSo u)) rfl)
    · cases hn
  | dup2 =>
    simp only [zokE, Bool.and_eq_true, decide_eq_true_eq] at hok
    obtain ⟨rfl, rfl⟩ := hok
    simp only [znxt] at hn
    split at hn
    · next v u r =>
      split at hn
      · cases hn
      · next h0 =>
        obtain ⟨rfl, rfl, rfl, ho⟩ := zfall_inv hn
        cases ho
        have h1 : zcat v = 1 := Decidable.byContradiction fun z => h0 (Or.inr (Or.inl z))
        have h2 : zcat u = 1 := Decidable.byContradiction fun z => h0 (Or.inr (Or.inr (Or.inr z)))
        exact lv_dup2_11 hx hb hdg (by rw [zcat_tr]; exact h1) (by rw [zcat_tr]; exact h2) (zKs hA K (fun x hx1 => by
          rcases List.mem_cons.mp hx1 with rfl | hx1
          · exact hSo _ List.mem_cons_self
          rcases List.mem_cons.mp hx1 with rfl | hx1
          · exact hSo _ (List.mem_cons_of_mem _ List.mem_cons_self)
          · exact hSo _ hx1) rfl)
    · cases hn
  | pop =>
    simp only [zokE, Bool.and_eq_true, decide_eq_true_eq] at hok
    obtain ⟨rfl, rfl⟩ := hok
    simp only [znxt] at hn
    split at hn
    · next v r =>
      split at hn
      · cases hn
      · next h0 =>
        obtain ⟨rfl, rfl, rfl, ho⟩ := zfall_inv hn
        cases ho
        have h1 : zcat v = 1 := Decidable.byContradiction fun z => h0 (Or.inr z)
        exact lv_pop hx hb hdg (by rw [zcat_tr]; exact h1) (zKs hA K (fun u hu => hSo u (List.mem_cons_of_mem _ hu)) rfl)
    · cases hn
  | _ => exact absurd hi (by simp)
theorem ztabs_inv {mi pc : Nat} : ∀ {os bs : List Int}, ztabs mi pc os bs = true → ∀ {k : Nat} (hk : k < os.length), ∃ (b : Int) (tg : Nat), bs[k]?.getD 0 = b ∧ zstart mi b.toNat = some tg ∧ (pc : Int) + os[k] = (tg : Int)
  | [], [], _, k, hk => absurd hk (Nat.not_lt_zero k)
  | o :: os, b :: bs, h, 0, _ => by
    simp only [ztabs, Bool.and_eq_true] at h
    obtain ⟨tg, h1, h2⟩ := zjmp_inv h.1
    exact ⟨b, tg, rfl, h1, h2⟩
  | o :: os, b :: bs, h, k + 1, hk => by
    simp only [ztabs, Bool.and_eq_true] at h
    exact ztabs_inv h.2 (k := k) (Nat.lt_of_succ_lt_succ hk)
  | [], b :: bs, h, _, _ => by simp [ztabs] at h
  | o :: os, [], h, _, _ => by simp [ztabs] at h
theorem zlooks_inv {mi pc d : Nat} {off : Int} : ∀ {os bs : List (Int × Int)}, zlooks mi pc os bs = true → zjmp mi pc d off = true → ∀ x : Int, ∃ tg : Nat, zstart mi (zlsw d bs x) = some tg ∧ (pc : Int) + Op.lookupswitch.offset os off x = (tg : Int)
  | [], [], _, hd, x => zjmp_inv hd
  | o :: os, b :: bs, h, hd, x => by
    simp only [zlooks, Bool.and_eq_true, decide_eq_true_eq] at h
    obtain ⟨⟨⟨h1, -⟩, h2⟩, h3⟩ := h
    obtain ⟨b1, b2⟩ := b
    obtain ⟨o1, o2⟩ := o
    dsimp only at h1 h2
    subst h1
    rw [Op.lookupswitch.offset_cons]
    by_cases hx : x = o1
    · obtain ⟨tg, h4, h5⟩ := zjmp_inv h2
      refine ⟨tg, ?_, ?_⟩
      · rw [zlsw, if_pos hx]; exact h4
      · rw [if_pos (by simp [hx])]; exact h5
    · obtain ⟨tg, h4, h5⟩ := zlooks_inv h3 hd x
      refine ⟨tg, ?_, ?_⟩
      · rw [zlsw, if_neg hx]; exact h4
      · rw [if_neg (fun z => hx (by simpa using z.symm))]; exact h5
  | [], b :: bs, h, _, _ => by simp [zlooks] at h
  | o :: os, [], h, _, _ => by simp [zlooks] at h
theorem zs_jumps (hC : zCtx p s m args meth c D cI cL cZ A t0 t1 n0 n1 f0 f1 mi) (i : Instr) (hi : match i with
    | .ifCond _ _ | .if_icmp _ _ | .goto _ | .tableswitch _ _ _ _ | .lookupswitch _ _ => True
    | _ => False) : zSt p l e R s m args below meth c Q D cI cL cZ A t0 t1 n0 n1 f0 f1 mi kc ks i := by
  obtain ⟨hx, hb, hml, hown, hts, hnw, hK, hlk, hin, hA0, hT0, hT1, hZ⟩ := hC
  intro pc len en L st w tgt L' st' w' adr H locs ls hdg hok hn hA hkc hks hRc hRs hRf hRl K
  have hSo := hA.2.2.2.2.2.2.2.2
  cases i with
  | ifCond c1 off =>
    simp only [zokE, Bool.and_eq_true, decide_eq_true_eq] at hok
    obtain ⟨⟨h1, rfl⟩, h3⟩ := hok
    obtain ⟨tg, h4, h5⟩ := zjmp_inv h3
    simp only [znxt, h1] at hn
    split at hn
    · next x r =>
      cases hn
      have hxr : zin32 x := hSo (zI x) List.mem_cons_self
      have hr : ∀ v ∈ st', zokv w.1.length v := fun v hv => hSo v (List.mem_cons_of_mem _ hv)
      have KT : zcmp c1 x 0 = true → W p l e R s m args below meth c H locs (w.1.length - kc) (zcs w - ks) Q (F0 m tg ls (st'.map (ztr adr))) := fun h => by
        rw [if_pos h] at K
        exact K adr H locs ls tg (fun _ _ => rfl) h4 (zAt_st hA hr)
      have KF : ¬ zcmp c1 x 0 = true → W p l e R s m args below meth c H locs (w.1.length - kc) (zcs w - ks) Q (F0 m (pc + 3) ls (st'.map (ztr adr))) := fun h => by
        rw [if_neg h] at K
        exact K adr H locs ls _ (fun _ _ => rfl) rfl (zAt_st hA hr)
      cases c1 with
      | eq => exact lv_if_eq hx hb hdg h5 (fun h => KT (decide_eq_true ((zeqI hxr zin0).mp h))) (fun h => KF (fun z => h ((zeqI hxr zin0).mpr (of_decide_eq_true z))))
      | ne => exact lv_if_ne hx hb hdg h5 (fun h => KT (decide_eq_true (fun z => h ((zeqI hxr zin0).mpr z)))) (fun h => KF (fun z => (of_decide_eq_true z : x ≠ 0) ((zeqI hxr zin0).mp h)))
      | lt => exact lv_if_lt hx hb hdg h5 (fun h => KT (decide_eq_true ((zltI hxr zin0).mp h))) (fun h => KF (fun z => h ((zltI hxr zin0).mpr (of_decide_eq_true z))))
      | ge => exact lv_if_ge hx hb hdg h5 (fun h => KT (decide_eq_true ((zleI zin0 hxr).mp h))) (fun h => KF (fun z => h ((zleI zin0 hxr).mpr (of_decide_eq_true z))))
      | gt => exact lv_if_gt hx hb hdg h5 (fun h => KT (decide_eq_true ((zltI zin0 hxr).mp h))) (fun h => KF (fun z => h ((zltI zin0 hxr).mpr (of_decide_eq_true z))))
      | le => exact lv_if_le hx hb hdg h5 (fun h => KT (decide_eq_true ((zleI hxr zin0).mp h))) (fun h => KF (fun z => h ((zleI hxr zin0).mpr (of_decide_eq_true z))))
    · cases hn
  | if_icmp c1 off =>
    simp only [zokE, Bool.and_eq_true, decide_eq_true_eq] at hok
    obtain ⟨⟨h1, rfl⟩, h3⟩ := hok
    obtain ⟨tg, h4, h5⟩ := zjmp_inv h3
    simp only [znxt, h1] at hn
    split at hn
    · next y x r =>
      cases hn
      have hyr : zin32 y := hSo (zI y) List.mem_cons_self
      have hxr : zin32 x := hSo (zI x) (List.mem_cons_of_mem _ List.mem_cons_self)
      have hr : ∀ v ∈ st', zokv w.1.length v := fun v hv => hSo v (List.mem_cons_of_mem _ (List.mem_cons_of_mem _ hv))
      have KT : zcmp c1 x y = true → W p l e R s m args below meth c H locs (w.1.length - kc) (zcs w - ks) Q (F0 m tg ls (st'.map (ztr adr))) := fun h => by
        rw [if_pos h] at K
        exact K adr H locs ls tg (fun _ _ => rfl) h4 (zAt_st hA hr)
      have KF : ¬ zcmp c1 x y = true → W p l e R s m args below meth c H locs (w.1.length - kc) (zcs w - ks) Q (F0 m (pc + 3) ls (st'.map (ztr adr))) := fun h => by
        rw [if_neg h] at K
        exact K adr H locs ls _ (fun _ _ => rfl) rfl (zAt_st hA hr)
      cases c1 with
      | eq => exact lv_icmp_eq hx hb hdg h5 (fun h => KT (decide_eq_true ((zeqI hxr hyr).mp h))) (fun h => KF (fun z => h ((zeqI hxr hyr).mpr (of_decide_eq_true z))))
      | ne => exact lv_icmp_ne hx hb hdg h5 (fun h => KT (decide_eq_true (fun z => h ((zeqI hxr hyr).mpr z)))) (fun h => KF (fun z => (of_decide_eq_true z : x ≠ y) ((zeqI hxr hyr).mp h)))
      | lt => exact lv_icmp_lt hx hb hdg h5 (fun h => KT (decide_eq_true ((zltI hxr hyr).mp h))) (fun h => KF (fun z => h ((zltI hxr hyr).mpr (of_decide_eq_true z))))
      | ge => exact lv_icmp_ge hx hb hdg h5 (fun h => KT (decide_eq_true ((zleI hyr hxr).mp h))) (fun h => KF (fun z => h ((zleI hyr hxr).mpr (of_decide_eq_true z))))
      | gt => exact lv_icmp_gt hx hb hdg h5 (fun h => KT (decide_eq_true ((zltI hyr hxr).mp h))) (fun h => KF (fun z => h ((zltI hyr hxr).mpr (of_decide_eq_true z))))
      | le => exact lv_icmp_le hx hb hdg h5 (fun h => KT (decide_eq_true ((zleI hxr hyr).mp h))) (fun h => KF (fun z => h ((zleI hxr hyr).mpr (of_decide_eq_true z))))
    · cases hn
  | goto off =>
    simp only [zokE, Bool.and_eq_true, decide_eq_true_eq] at hok
    obtain ⟨⟨h1, rfl⟩, h3⟩ := hok
    obtain ⟨tg, h4, h5⟩ := zjmp_inv h3
    simp only [znxt, h1] at hn
    cases hn
    exact lv_goto hx hb hdg h5 (K adr H locs ls tg (fun _ _ => rfl) h4 hA)
  | tableswitch d lo hi offs =>
    simp only [zokE] at hok
    split at hok
    · next d' lo' hi' bs h1 =>
      simp only [Bool.and_eq_true, decide_eq_true_eq] at hok
      obtain ⟨⟨⟨⟨rfl, rfl⟩, h3⟩, h4⟩, h5⟩ := hok
      simp only [znxt, h1] at hn
      split at hn
      · next x r =>
        cases hn
        have hxr : zin32 x := hSo (zI x) List.mem_cons_self
        have hr : ∀ v ∈ st', zokv w.1.length v := fun v hv => hSo v (List.mem_cons_of_mem _ hv)
        by_cases hd : x < lo' ∨ hi' < x
        · obtain ⟨tg, h6, h7⟩ := zjmp_inv h3
          refine lv_tableOut hx hb hdg (by rw [ztoI hxr]; exact hd) h7 (K adr H locs ls tg (fun _ _ => rfl) ?_ (zAt_st hA hr))
          show zstart mi (ztsw _ _ _ _ _) = some tg
          rw [ztsw, if_pos hd]; exact h6
        · have hlt : (x - lo').toNat < offs.toList.length := by omega
          obtain ⟨b, tg, h6, h7, h8⟩ := ztabs_inv h4 hlt
          refine lv_tableIn hx hb hdg (off := offs.toList[(x - lo').toNat]) (by rw [ztoI hxr]; omega) (by rw [ztoI hxr]; omega) (by rw [ztoI hxr, ← Array.getElem?_toList]; exact List.getElem?_eq_getElem hlt) h8 (K adr H locs ls tg (fun _ _ => rfl) ?_ (zAt_st hA hr))
          show zstart mi (ztsw _ _ _ _ _) = some tg
          rw [ztsw, if_neg hd, h6]; exact h7
      · cases hn
    · cases hok
  | lookupswitch d ps =>
    simp only [zokE] at hok
    split at hok
    · next d' bs h1 =>
      simp only [Bool.and_eq_true] at hok
      obtain ⟨⟨h3, h4⟩, h5⟩ := hok
      simp only [znxt, h1] at hn
      split at hn
      · next x r =>
        cases hn
        have hxr : zin32 x := hSo (zI x) List.mem_cons_self
        have hr : ∀ v ∈ st', zokv w.1.length v := fun v hv => hSo v (List.mem_cons_of_mem _ hv)
        obtain ⟨tg, h6, h7⟩ := zlooks_inv h4 h3 x
        exact lv_lookup hx hb hdg h5 rfl (by rw [ztoI hxr]; exact h7) (K adr H locs ls tg (fun _ _ => rfl) h6 (zAt_st hA hr))
      · cases hn
    · cases hok
  | _ => exact absurd hi (by simp)
end ZS
end
section
/-! one step: fields, rows, new cells -/
theorem zcs_def (w : zWd) : zcs w = (w.1.map (·.2.1)).sum := rfl
theorem zcs_set {S : List zSh} {k : Nat} {sh sh' : zSh} (h : S[k]? = some sh) (he : sh'.2.1 = sh.2.1) : ((S.set k sh').map (·.2.1)).sum = (S.map (·.2.1)).sum := by
  congr 1
  apply List.ext_getElem?
  intro j
  rw [List.getElem?_map, List.getElem?_map, List.getElem?_set]
  by_cases hj : k = j
  · subst hj
    rw [if_pos rfl, if_pos (List.getElem?_eq_some_iff.mp h).1, h]
    simp [he]
  · rw [if_neg hj]
theorem zInv_2 {n0 n1 : Nat} {f0 f1 : Int → Int} {w : zWd} (h : zInv n0 n1 f0 f1 w) : 2 ≤ w.1.length := by
  have := (List.getElem?_eq_some_iff.mp h.2.1).1
  omega
theorem zInv_k {n0 n1 : Nat} {f0 f1 : Int → Int} {w : zWd} (h : zInv n0 n1 f0 f1 w) {k kd n : Nat} {rs : List (Option Nat)} (hk : w.1[k]? = some (kd, n, rs)) (hd : 0 < kd) : 2 ≤ k := by
  match k, hk with
  | 0, hk => rw [h.1] at hk; cases hk; omega
  | 1, hk => rw [h.2.1] at hk; cases hk; omega
  | k + 2, _ => omega
theorem zInv_up {n0 n1 : Nat} {f0 f1 : Int → Int} {w : zWd} (h : zInv n0 n1 f0 f1 w) {k : Nat} {sh : zSh} (hk : w.1[k]? = some sh) (h2 : 2 ≤ k) {i v : Int} (hv : zsr sh i v) : zInv n0 n1 f0 f1 (w.1, zup w.2 k i v) := by
  obtain ⟨a1, a2, a3, a4, a5⟩ := h
  refine ⟨a1, a2, ?_, ?_, fun j sj hj => ?_⟩
  · funext x; simp [zup, show (0 : Nat) ≠ k by omega, a3]
  · funext x; simp [zup, show (1 : Nat) ≠ k by omega, a4]
  · obtain ⟨b1, b2, b3, b4, b5⟩ := a5 j sj hj
    refine ⟨b1, b2, b3, b4, fun x => ?_⟩
    show zsr sj x (if j = k ∧ x = i then v else w.2 j x)
    by_cases hx : j = k ∧ x = i
    · rw [if_pos hx]
      obtain ⟨rfl, rfl⟩ := hx
      cases hk.symm.trans hj
      exact hv
    · rw [if_neg hx]; exact b5 x
theorem zInv_ref {n0 n1 : Nat} {f0 f1 : Int → Int} {w : zWd} (h : zInv n0 n1 f0 f1 w) {k kd n j r : Nat} {rs : List (Option Nat)} (hk : w.1[k]? = some (kd, n, rs)) (h2 : 2 ≤ k) (hr : r < w.1.length) : zInv n0 n1 f0 f1 (w.1.set k (kd, n, rs.set j (some r)), w.2) := by
  obtain ⟨a1, a2, a3, a4, a5⟩ := h
  refine ⟨?_, ?_, a3, a4, fun j' sj hj => ?_⟩
  · show (w.1.set k _)[0]? = _
    rw [List.getElem?_set_ne (by omega)]; exact a1
  · show (w.1.set k _)[1]? = _
    rw [List.getElem?_set_ne (by omega)]; exact a2
  · have hj2 : (w.1.set k (kd, n, rs.set j (some r)))[j']? = some sj := hj
    rw [List.getElem?_set] at hj2
    by_cases hkj : k = j'
    · rw [if_pos hkj] at hj2
      split at hj2
      · cases hj2
        subst hkj
        obtain ⟨b1, b2, b3, b4, b5⟩ := a5 k _ hk
        refine ⟨b1, b2, fun x y hx => ?_, fun q => ⟨(b4 q).1, by simp [List.length_set]; exact (b4 q).2⟩, fun x => b5 x⟩
        show y < (w.1.set k _).length
        rw [List.length_set]
        have hx2 : (rs.set j (some r))[x]? = some (some y) := hx
        rw [List.getElem?_set] at hx2
        by_cases q : j = x
        · rw [if_pos q] at hx2
          split at hx2
          · cases hx2; exact hr
          · cases hx2
        · rw [if_neg q] at hx2; exact b3 x y hx2
      · cases hj2
    · rw [if_neg hkj] at hj2
      obtain ⟨b1, b2, b3, b4, b5⟩ := a5 j' sj hj2
      refine ⟨b1, b2, fun x y hx => ?_, b4, b5⟩
      show y < (w.1.set k _).length
      rw [List.length_set]
      exact b3 x y hx
theorem zInv_push {n0 n1 : Nat} {f0 f1 : Int → Int} {w : zWd} (h : zInv n0 n1 f0 f1 w) {sh : zSh} (h1 : sh.1 < 15) (h2 : sh.2.1 < 2147483648) (h3 : ∀ (j r : Nat), sh.2.2[j]? = some (some r) → r < w.1.length) (h4 : 3 ≤ sh.1 → sh.2.1 = znf (sh.1 - 3) ∧ sh.2.2.length = znf (sh.1 - 3)) : zInv n0 n1 f0 f1 (w.1 ++ [sh], zzero w.2 w.1.length) := by
  have hl := zInv_2 h
  obtain ⟨a1, a2, a3, a4, a5⟩ := h
  refine ⟨?_, ?_, ?_, ?_, fun j sj hj => ?_⟩
  · show (w.1 ++ [sh])[0]? = _
    rw [List.getElem?_append_left (by omega)]; exact a1
  · show (w.1 ++ [sh])[1]? = _
    rw [List.getElem?_append_left (by omega)]; exact a2
  · funext x; simp [zzero, show (0 : Nat) ≠ w.1.length by omega, a3]
  · funext x; simp [zzero, show (1 : Nat) ≠ w.1.length by omega, a4]
  · have hj2 : (w.1 ++ [sh])[j]? = some sj := hj
    have hlen : (w.1 ++ [sh], zzero w.2 w.1.length).1.length = w.1.length + 1 := by simp
    by_cases hjl : j < w.1.length
    · rw [List.getElem?_append_left hjl] at hj2
      obtain ⟨b1, b2, b3, b4, b5⟩ := a5 j sj hj2
      refine ⟨b1, b2, fun x y hx => by rw [hlen]; have := b3 x y hx; omega, b4, fun x => ?_⟩
      show zsr sj x (if j = w.1.length then 0 else w.2 j x)
      rw [if_neg (by omega)]; exact b5 x
    · rw [List.getElem?_append_right (by omega)] at hj2
      have hz : j - w.1.length = 0 := by
        have := (List.getElem?_eq_some_iff.mp hj2).1
        simp at this; exact this
      rw [hz] at hj2
      cases hj2
      refine ⟨h1, h2, fun x y hx => by rw [hlen]; have := h3 x y hx; omega, h4, fun x => ?_⟩
      show zsr sh x (if j = w.1.length then 0 else w.2 j x)
      rw [if_pos (by omega)]
      unfold zsr
      split
      · exact ⟨by decide, by decide⟩
      · exact zin0
theorem zInv_cpy {n0 n1 : Nat} {f0 f1 : Int → Int} {w : zWd} (h : zInv n0 n1 f0 f1 w) {a b : Nat} {i j n : Int} {na nb : Nat} {ra rb : List (Option Nat)} (ha : w.1[a]? = some (0, na, ra)) (hb : w.1[b]? = some (0, nb, rb)) (h2 : 2 ≤ b) : zInv n0 n1 f0 f1 (w.1, zcpy w.2 a i b j n) := by
  obtain ⟨a1, a2, a3, a4, a5⟩ := h
  refine ⟨a1, a2, ?_, ?_, fun k sk hk => ?_⟩
  · funext x; simp [zcpy, show (0 : Nat) ≠ b by omega, a3]
  · funext x; simp [zcpy, show (1 : Nat) ≠ b by omega, a4]
  · obtain ⟨b1, b2, b3, b4, b5⟩ := a5 k sk hk
    refine ⟨b1, b2, b3, b4, fun x => ?_⟩
    show zsr sk x (if k = b ∧ j ≤ x ∧ x < j + n then w.2 a (i + (x - j)) else w.2 k x)
    by_cases hx : k = b ∧ j ≤ x ∧ x < j + n
    · rw [if_pos hx]
      have hkb := hx.1
      subst hkb
      cases hb.symm.trans hk
      have := (a5 a _ ha).2.2.2.2 (i + (x - j))
      simpa [zsr] using this
    · rw [if_neg hx]; exact b5 x
theorem zsr_int {kd n : Nat} {rs : List (Option Nat)} {i v : Int} (h : kd = 0 ∨ kd = 2) : zsr (kd, n, rs) i v ↔ zin32 v := by
  rcases h with rfl | rfl <;> simp [zsr]
theorem zsr_long {n : Nat} {rs : List (Option Nat)} {i v : Int} : zsr (1, n, rs) i v ↔ zin64 v := by simp [zsr]
theorem zsr_obj {ci n : Nat} {rs : List (Option Nat)} {j : Nat} {v : Int} : zsr (3 + ci, n, rs) (j : Int) v ↔ (if zfty ci j = 1 then zin64 v else zin32 v) := by
  have e1 : 3 + ci - 3 = ci := by omega
  unfold zsr
  simp only [e1, Int.toNat_natCast]
  by_cases h : zfty ci j = 1
  · rw [if_pos h, if_pos (Or.inr ⟨by omega, h⟩)]
  · rw [if_neg h, if_neg (fun z => z.elim (fun z => by omega) (fun z => h z.2))]
/-- the frame of a store of one number -/
theorem zws_up {adr : Nat → Nat} {cI cL cZ : ClassId} {w : zWd} {k : Nat} {sh : zSh} (h2 : 2 ≤ k) (hk : w.1[k]? = some sh) (g : Int → Int) (M : Nat → Int → Int) (hM : ∀ j, j ≠ k → M j = w.2 j) (hg : M k = g) : zws adr cI cL cZ (w.1, M) = (zws adr cI cL cZ w).set (k - 2) (adr k, zent adr cI cL cZ g sh) := by
  obtain ⟨k, rfl⟩ : ∃ j, k = j + 2 := ⟨k - 2, by omega⟩
  have := zws_set (adr := adr) (cI := cI) (cL := cL) (cZ := cZ) (w := w) (w' := (w.1, M)) (k := k) rfl (fun j hj => ⟨rfl, hM j hj⟩) hk
  rw [this, show k + 2 - 2 = k by omega]
  show _ = (zws adr cI cL cZ w).set k (adr (k + 2), zent adr cI cL cZ g sh)
  rw [← hg]
theorem zws_at {adr : Nat → Nat} {cI cL cZ : ClassId} {w : zWd} {k : Nat} {sh : zSh} (h2 : 2 ≤ k) (hk : w.1[k]? = some sh) : (zws adr cI cL cZ w)[k - 2]? = some (adr k, zent adr cI cL cZ (w.2 k) sh) := by
  obtain ⟨k, rfl⟩ : ∃ j, k = j + 2 := ⟨k - 2, by omega⟩
  exact zws_get hk
theorem zfs_get (adr : Nat → Nat) (g : Int → Int) (ci : Nat) (rs : List (Option Nat)) {j : Nat} (hj : j < znf ci) : ((List.range (znf ci)).map (zfv adr g ci rs))[j]? = some (zfv adr g ci rs j) := by
  rw [List.getElem?_map, List.getElem?_range hj]; rfl
theorem zfs_set (adr : Nat → Nat) (g g' : Int → Int) (ci : Nat) (rs rs' : List (Option Nat)) {j : Nat} (ho : ∀ x, x ≠ j → zfv adr g' ci rs' x = zfv adr g ci rs x) : (List.range (znf ci)).map (zfv adr g' ci rs') = ((List.range (znf ci)).map (zfv adr g ci rs)).set j (zfv adr g' ci rs' j) := by
  apply List.ext_getElem?
  intro x
  rw [List.getElem?_set, List.getElem?_map, List.getElem?_map]
  by_cases hx : j = x
  · subst hx
    rw [if_pos rfl]
    by_cases hl : j < znf ci
    · rw [List.getElem?_range hl]
      rw [if_pos (by simpa using hl)]
      rfl
    · rw [if_neg (by simpa using hl), List.getElem?_eq_none (by simpa using hl)]; rfl
  · rw [if_neg hx]
    by_cases hl : x < znf ci
    · rw [List.getElem?_range hl]
      show some _ = some _
      rw [ho x (fun z => hx z.symm)]
    · rw [List.getElem?_eq_none (by simpa using hl)]
      rfl
theorem zent_obj (adr : Nat → Nat) (cI cL cZ : ClassId) (g : Int → Int) (ci n : Nat) (rs : List (Option Nat)) : zent adr cI cL cZ g (3 + ci, n, rs) = .inr (ci, (List.range (znf ci)).map (zfv adr g ci rs)) := by
  rw [Nat.add_comm]; rfl
end
section
/-! one step: fields, rows -/
section ZS
variable {p : Program} {l : Launch} {e : Env} {R : Room} {s : State} {m : MethodId} {args : Array Value} {below : List Frame} {meth : Method} {c : Code} {Q : State → Prop} {D : va_G} {cI cL cZ : ClassId} {A : Nat → Prop} {t0 t1 n0 n1 mi kc ks : Nat} {f0 f1 : Int → Int}
variable {adr : Nat → Nat} {H : Heap} {locs : List Loc} {ls : Array Slot} {L st : List zMV} {w : zWd} {pc nx : Nat}

theorem zgetf_inv {adr : Nat → Nat} {w : zWd} {k ci j : Nat} {v : zMV} (hw : zok w) (h : zgetf w k ci j = some v) : ∃ n rs, w.1[k]? = some (3 + ci, n, rs) ∧ j < znf ci ∧ zfv adr (w.2 k) ci rs j = ztr adr v ∧ zokv w.1.length v := by
  unfold zgetf at h
  split at h
  · next kd n rs hk =>
    split at h
    · next hc =>
      obtain ⟨rfl, hj⟩ := hc
      refine ⟨n, rs, hk, hj, ?_⟩
      have h5 := zsr_obj.mp ((hw k _ hk).2.2.2.2 (j : Int))
      have h3 := (hw k _ hk).2.2.1
      unfold zfv
      generalize hty : zfty ci j = ty at h h5 ⊢
      match ty, h, h5 with
      | 0, h, h5 => cases h; exact ⟨rfl, by show zin32 _; simpa using h5⟩
      | 1, h, h5 => cases h; exact ⟨rfl, by show zin64 _; simpa using h5⟩
      | 2, h, h5 => cases h; exact ⟨rfl, by show zin32 _; simpa using h5⟩
      | t + 3, h, _ =>
        simp only at h ⊢
        split at h
        · next r hr => cases h; rw [hr]; exact ⟨rfl, h3 _ _ hr⟩
        · cases h
    · cases h
  · cases h
theorem zputf_inv {w w' : zWd} {k ci j : Nat} {v : zMV} (h : zputf w k ci j v = some w') : ∃ n rs, w.1[k]? = some (3 + ci, n, rs) ∧ j < znf ci ∧ 2 ≤ k ∧ ((∃ x, (zfty ci j = 0 ∨ (zfty ci j = 2 ∧ (x = 0 ∨ x = 1))) ∧ v = zI x ∧ w' = (w.1, zup w.2 k j x)) ∨ (∃ x, zfty ci j = 1 ∧ v = zL x ∧ w' = (w.1, zup w.2 k j x)) ∨ ∃ r, zfty ci j = 3 ∧ v = zR r ∧ w' = (w.1.set k (3 + ci, n, rs.set j (some r)), w.2)) := by
  unfold zputf at h
  split at h
  · next kd n rs hk =>
    split at h
    · next hc =>
      obtain ⟨rfl, hj, h2⟩ := hc
      refine ⟨n, rs, hk, hj, h2, ?_⟩
      split at h
      · next x hty => cases h; exact Or.inl ⟨x, Or.inl hty, rfl, rfl⟩
      · next x hty => cases h; exact Or.inr (Or.inl ⟨x, hty, rfl, rfl⟩)
      · next x hty =>
        split at h
        · next hx => cases h; exact Or.inl ⟨x, Or.inr ⟨hty, hx⟩, rfl, rfl⟩
        · cases h
      · next r hty => cases h; exact Or.inr (Or.inr ⟨r, hty, rfl, rfl⟩)
      · cases h
    · cases h
  · cases h
theorem znar {t : FieldType} {x : Int} (h : zfc t = 0 ∨ (zfc t = 2 ∧ (x = 0 ∨ x = 1))) : narrow t (.int (Int32.ofInt x)) = .int (Int32.ofInt x) ∧ fits t (.int (Int32.ofInt x)) = true := by
  rcases h with h | ⟨h, rfl | rfl⟩
  · cases t <;> simp [zfc] at h
    exact ⟨rfl, rfl⟩
  · cases t <;> simp [zfc] at h
    exact ⟨rfl, rfl⟩
  · cases t <;> simp [zfc] at h
    exact ⟨rfl, rfl⟩
theorem znarL {t : FieldType} {x : Int} (h : zfc t = 1) : narrow t (.long (Int64.ofInt x)) = .long (Int64.ofInt x) ∧ fits t (.long (Int64.ofInt x)) = true := by
  cases t <;> simp [zfc] at h
  exact ⟨rfl, rfl⟩
theorem znarR {t : FieldType} {a : Nat} (h : zfc t = 3) : narrow t (.ref a) = .ref a ∧ fits t (.ref a) = true := by
  cases t <;> simp [zfc] at h
  · exact ⟨rfl, rfl⟩
  · exact ⟨rfl, rfl⟩
theorem zs_fields (hC : zCtx p s m args meth c D cI cL cZ A t0 t1 n0 n1 f0 f1 mi) (i : Instr) (hi : match i with
    | .getfield _ | .getstatic _ | .putfield _ => True
    | _ => False) : zSt p l e R s m args below meth c Q D cI cL cZ A t0 t1 n0 n1 f0 f1 mi kc ks i := by
  obtain ⟨hx, hb, hml, hown, hts, hnw, hK, hlk, hin, hA0, hT0, hT1, hZ⟩ := hC
  intro pc len en L st w tgt L' st' w' adr H locs ls hdg hok hn hA hkc hks hRc hRs hRf hRl K
  have hSo := hA.2.2.2.2.2.2.2.2
  have hI := hA.2.2.1
  have hok5 := hA.2.2.1.2.2.2.2
  cases i with
  | getfield ix =>
    simp only [zokE, Bool.and_eq_true, decide_eq_true_eq] at hok
    obtain ⟨⟨h1, rfl⟩, h3⟩ := hok
    obtain ⟨q, hq, hq2⟩ := zany3 h3
    simp only [Bool.and_eq_true, beq_iff_eq] at hq2
    obtain ⟨q1, q2, q3, q4⟩ := hq2
    obtain ⟨hci, hsl, hpl⟩ := zFT_ok q hq
    have hw := zTW_of (List.mem_of_getElem? hpl) rfl
    rw [q1, q2, q3, q4] at hw
    rw [q3] at hci hsl
    rw [q4] at hsl
    simp only [znxt, h1] at hn
    split at hn
    · next k r =>
      obtain ⟨rfl, rfl, rfl, ho⟩ := zfall_inv hn
      cases hg : zgetf w k en.2.1 en.2.2 with
      | none => rw [hg] at ho; cases ho
      | some v =>
        rw [hg] at ho
        cases ho
        obtain ⟨n, rs, g1, g2, g3, g4⟩ := zgetf_inv (adr := adr) hok5 hg
        have h2 := zInv_k hI g1 (by omega)
        have he := zws_at (adr := adr) (cI := cI) (cL := cL) (cZ := cZ) h2 g1
        rw [zent_obj] at he
        refine va_get (T := (zcl en.2.1).2.1) (N := znf en.2.1) (C := (zcl en.2.1).1) hx hb hts (zcl_in hci) hown hK hA.1 (k - 2) he (by rw [(zcl_at _ hci).1, ← (zcl_at _ hci).2]) en.2.2 hsl (hts _ hw) (fun _ h => h) (v := ztr adr v) (by rw [zfs_get _ _ _ _ hsl, g3]) hdg ?_
        exact zKs hA K (fun u hu => (List.mem_cons.mp hu).elim (fun z => by rw [z]; exact g4) (fun z => hSo u (List.mem_cons_of_mem _ z))) rfl
    · cases hn
  | getstatic ix =>
    simp only [zokE, Bool.and_eq_true, decide_eq_true_eq] at hok
    obtain ⟨⟨h1, rfl⟩, h3⟩ := hok
    obtain ⟨q, hq, hq2⟩ := zany3 h3
    simp only [Bool.and_eq_true, beq_iff_eq] at hq2
    obtain ⟨q1, q2⟩ := hq2
    exact (zST_no q hq).elim
  | putfield ix =>
    simp only [zokE, Bool.and_eq_true, decide_eq_true_eq] at hok
    obtain ⟨⟨⟨h1, rfl⟩, h3⟩, hfin⟩ := hok
    obtain ⟨q, hq, hq2⟩ := zany3 h3
    simp only [Bool.and_eq_true, beq_iff_eq] at hq2
    obtain ⟨q1, q2, q3, q4⟩ := hq2
    obtain ⟨hci, hsl, hpl⟩ := zFT_ok q hq
    have hw := zTW_of (List.mem_of_getElem? hpl) rfl
    rw [q1, q2, q3, q4] at hw
    rw [q3] at hci hsl
    rw [q4] at hsl
    simp only [znxt, h1] at hn
    split at hn
    · next v k r =>
      cases hp : zputf w k en.2.1 en.2.2 v with
      | none => rw [hp] at hn; cases hn
      | some w2 =>
        rw [hp] at hn
        cases hn
        obtain ⟨n, rs, g1, -, h2, g3⟩ := zputf_inv hp
        have he := zws_at (adr := adr) (cI := cI) (cL := cL) (cZ := cZ) h2 g1
        rw [zent_obj] at he
        have hcl := zcl_at _ hci
        have hcl2 : vwCl[en.2.1]? = some ((zcl en.2.1).1, (zcl en.2.1).2.1, znf en.2.1) := by rw [hcl.1, ← hcl.2]
        have hfc := zfc_ok _ hci _ hsl
        have hr : ∀ u ∈ st', zokv w.1.length u := fun u hu => hSo u (List.mem_cons_of_mem _ (List.mem_cons_of_mem _ hu))
        have hvo : zokv w.1.length v := hSo v List.mem_cons_self
        -- the two rows, one continuation
        have row : ∀ (nv : narrow (zty en.2.1 en.2.2) (ztr adr v) = ztr adr v) (fv : fits (zty en.2.1 en.2.2) (ztr adr v) = true) (kk : ∀ (H1 : Heap) (locs1 : List Loc), va_P D vwCl ((zws adr cI cL cZ w).set (k - 2) (adr k, .inr (en.2.1, ((List.range (znf en.2.1)).map (zfv adr (w.2 k) en.2.1 rs)).set en.2.2 (ztr adr v)))) H1 → va_D A ((zws adr cI cL cZ w).set (k - 2) (adr k, .inr (en.2.1, ((List.range (znf en.2.1)).map (zfv adr (w.2 k) en.2.1 rs)).set en.2.2 (ztr adr v)))) → va_S A s.heap H1 locs1 → W p l e R s m args below meth c H1 locs1 (w.1.length - kc) (zcs w - ks) Q (F0 m (pc + 3) ls (st'.map (ztr adr)))),
            W p l e R s m args below meth c H locs (w.1.length - kc) (zcs w - ks) Q (F0 m pc ls (ztr adr v :: Value.ref (adr k) :: st'.map (ztr adr))) := by
          intro nv fv kk
          by_cases hf : ((zcl en.2.1).2.1 en.2.2).2.2.2 = true
          · rw [hf] at hfin
            simp only [Bool.not_true, Bool.false_or, Bool.and_eq_true, beq_iff_eq] at hfin
            exact va_putF (T := (zcl en.2.1).2.1) (N := znf en.2.1) (C := (zcl en.2.1).1) hx hb hts (zcl_in hci) (zty en.2.1) (zty_ok _ hci) (znm_ok _ hci) hown hK hA.1 hA.2.1 hA.2.2.2.2.2.1 (k - 2) he hcl2 en.2.2 hsl (hts _ hw) (fun _ h => h) hf (hin hfin.1) (by rw [zdecl_ok _ hci _ hsl, hfin.2]) (zty_ok _ hci _ hsl) nv fv (by simpa using hsl) hdg kk
          · exact va_put (T := (zcl en.2.1).2.1) (N := znf en.2.1) (C := (zcl en.2.1).1) hx hb hts (zcl_in hci) (zty en.2.1) (zty_ok _ hci) (znm_ok _ hci) hown hK hA.1 hA.2.1 hA.2.2.2.2.2.1 (k - 2) he hcl2 en.2.2 hsl (hts _ hw) (fun _ h => h) (by simpa using hf) (zty_ok _ hci _ hsl) nv fv (by simpa using hsl) hdg kk
        rcases g3 with ⟨x, hx1, rfl, rfl⟩ | ⟨x, hx1, rfl, rfl⟩ | ⟨x, hx1, rfl, rfl⟩
        · have hx2 : zfc (zty en.2.1 en.2.2) = 0 ∨ (zfc (zty en.2.1 en.2.2) = 2 ∧ (x = 0 ∨ x = 1)) := by rw [← hfc.1]; exact hx1
          refine row (znar hx2).1 (znar hx2).2 fun H1 locs1 hP hD hS => K adr H1 locs1 ls _ (fun _ _ => rfl) rfl ?_
          have e1 : zws adr cI cL cZ (w.1, zup w.2 k en.2.2 x) = (zws adr cI cL cZ w).set (k - 2) (adr k, .inr (en.2.1, ((List.range (znf en.2.1)).map (zfv adr (w.2 k) en.2.1 rs)).set en.2.2 (ztr adr (zI x)))) := by
            rw [zws_up h2 g1 (zup w.2 k en.2.2 x k) (zup w.2 k en.2.2 x) (fun j hj => by funext y; simp [zup, hj]) rfl, zent_obj]
            rw [zfs_set adr (w.2 k) (zup w.2 k en.2.2 x k) en.2.1 rs rs (j := en.2.2) (fun y hy => by
              unfold zfv
              have : zup w.2 k en.2.2 x k (y : Int) = w.2 k y := by simp [zup, show ¬ (y : Int) = (en.2.2 : Int) by omega]
              rw [this])]
            have : zfv adr (zup w.2 k en.2.2 x k) en.2.1 rs en.2.2 = ztr adr (zI x) := by
              unfold zfv
              have e2 : zup w.2 k en.2.2 x k (en.2.2 : Int) = x := by simp [zup]
              rcases hx1 with h | ⟨h, -⟩ <;> rw [h, e2] <;> rfl
            rw [this]
          refine ⟨by rw [e1]; exact hP, by rw [e1]; exact hD, zInv_up hI g1 h2 (zsr_obj.mpr ?_), hA.2.2.2.1, hA.2.2.2.2.1, hS, hA.2.2.2.2.2.2.1, hA.2.2.2.2.2.2.2.1, hr⟩
          rw [if_neg (by rcases hx1 with h | ⟨h, -⟩ <;> omega)]
          exact hvo
        · have hx2 : zfc (zty en.2.1 en.2.2) = 1 := by rw [← hfc.1]; exact hx1
          refine row (znarL hx2).1 (znarL hx2).2 fun H1 locs1 hP hD hS => K adr H1 locs1 ls _ (fun _ _ => rfl) rfl ?_
          have e1 : zws adr cI cL cZ (w.1, zup w.2 k en.2.2 x) = (zws adr cI cL cZ w).set (k - 2) (adr k, .inr (en.2.1, ((List.range (znf en.2.1)).map (zfv adr (w.2 k) en.2.1 rs)).set en.2.2 (ztr adr (zL x)))) := by
            rw [zws_up h2 g1 (zup w.2 k en.2.2 x k) (zup w.2 k en.2.2 x) (fun j hj => by funext y; simp [zup, hj]) rfl, zent_obj]
            rw [zfs_set adr (w.2 k) (zup w.2 k en.2.2 x k) en.2.1 rs rs (j := en.2.2) (fun y hy => by
              unfold zfv
              have : zup w.2 k en.2.2 x k (y : Int) = w.2 k y := by simp [zup, show ¬ (y : Int) = (en.2.2 : Int) by omega]
              rw [this])]
            have : zfv adr (zup w.2 k en.2.2 x k) en.2.1 rs en.2.2 = ztr adr (zL x) := by
              unfold zfv
              have e2 : zup w.2 k en.2.2 x k (en.2.2 : Int) = x := by simp [zup]
              rw [hx1, e2]; rfl
            rw [this]
          refine ⟨by rw [e1]; exact hP, by rw [e1]; exact hD, zInv_up hI g1 h2 (zsr_obj.mpr ?_), hA.2.2.2.1, hA.2.2.2.2.1, hS, hA.2.2.2.2.2.2.1, hA.2.2.2.2.2.2.2.1, hr⟩
          rw [if_pos hx1]
          exact hvo
        · have hx2 : zfc (zty en.2.1 en.2.2) = 3 := by rw [← hfc.1]; exact hx1
          refine row (znarR hx2).1 (znarR hx2).2 fun H1 locs1 hP hD hS => ?_
          have hxl : x < w.1.length := hvo
          have hrl : rs.length = znf en.2.1 := by
            have := ((hok5 _ _ g1).2.2.2.1 (by omega)).2
            rw [this]
            show znf (3 + en.2.1 - 3) = _
            rw [Nat.add_sub_cancel_left]
          have e1 : zws adr cI cL cZ (w.1.set k (3 + en.2.1, n, rs.set en.2.2 (some x)), w.2) = (zws adr cI cL cZ w).set (k - 2) (adr k, .inr (en.2.1, ((List.range (znf en.2.1)).map (zfv adr (w.2 k) en.2.1 rs)).set en.2.2 (ztr adr (zR x)))) := by
            have hkl := (List.getElem?_eq_some_iff.mp g1).1
            obtain ⟨k, rfl⟩ : ∃ j, k = j + 2 := ⟨k - 2, by omega⟩
            have := zws_set (adr := adr) (cI := cI) (cL := cL) (cZ := cZ) (w := w) (w' := (w.1.set (k + 2) (3 + en.2.1, n, rs.set en.2.2 (some x)), w.2)) (k := k) (sh := (3 + en.2.1, n, rs.set en.2.2 (some x))) (by simp) (fun j hj => ⟨by simp [List.getElem?_set_ne (Ne.symm hj)], rfl⟩) (by simp [List.getElem?_set_self hkl])
            rw [this, zent_obj, show k + 2 - 2 = k by omega]
            rw [zfs_set adr (w.2 (k + 2)) (w.2 (k + 2)) en.2.1 rs (rs.set en.2.2 (some x)) (j := en.2.2) (fun y hy => by
              unfold zfv
              rw [List.getElem?_set_ne (Ne.symm hy)])]
            have : zfv adr (w.2 (k + 2)) en.2.1 (rs.set en.2.2 (some x)) en.2.2 = ztr adr (zR x) := by
              unfold zfv
              rw [hx1, List.getElem?_set_self (by omega)]
              rfl
            rw [this]
          have e2 : (w.1.set k (3 + en.2.1, n, rs.set en.2.2 (some x))).length = w.1.length := List.length_set ..
          have e3 : zcs (w.1.set k (3 + en.2.1, n, rs.set en.2.2 (some x)), w.2) = zcs w := zcs_set g1 rfl
          refine W.cs (cells' := (w.1.set k (3 + en.2.1, n, rs.set en.2.2 (some x))).length - kc) (slots' := zcs (w.1.set k (3 + en.2.1, n, rs.set en.2.2 (some x)), w.2) - ks) (by rw [e2]) (by rw [e3]) (K adr H1 locs1 ls _ (fun _ _ => rfl) rfl ?_)
          refine ⟨by rw [e1]; exact hP, by rw [e1]; exact hD, zInv_ref hI g1 h2 hxl, hA.2.2.2.1, hA.2.2.2.2.1, hS, hA.2.2.2.2.2.2.1, fun u hu => ?_, fun u hu => ?_⟩
          · show zokv (w.1.set k (3 + en.2.1, n, rs.set en.2.2 (some x))).length u
            rw [e2]; exact hA.2.2.2.2.2.2.2.1 u hu
          · show zokv (w.1.set k (3 + en.2.1, n, rs.set en.2.2 (some x))).length u
            rw [e2]; exact hr u hu
    · cases hn
  | _ => exact absurd hi (by simp)
end ZS
end
section
/-! one step: rows, new cells, copies -/
section ZS
variable {p : Program} {l : Launch} {e : Env} {R : Room} {s : State} {m : MethodId} {args : Array Value} {below : List Frame} {meth : Method} {c : Code} {Q : State → Prop} {D : va_G} {cI cL cZ : ClassId} {A : Nat → Prop} {t0 t1 n0 n1 mi kc ks : Nat} {f0 f1 : Int → Int}
variable {adr : Nat → Nat} {H : Heap} {locs : List Loc} {ls : Array Slot} {L st : List zMV} {w : zWd} {pc nx : Nat}

theorem zlen_inv {w : zWd} {k kd n : Nat} (h : zlen w k kd = some n) : ∃ rs, w.1[k]? = some (kd, n, rs) := by
  unfold zlen at h
  split at h
  · next k' n' rs hk =>
    split at h
    · next hc => cases h; subst hc; exact ⟨rs, hk⟩
    · cases h
  · cases h
theorem zaget_inv {w : zWd} {k kd : Nat} {i v : Int} (h : zaget w k kd i = some v) : ∃ (n : Nat) (rs : List (Option Nat)), w.1[k]? = some (kd, n, rs) ∧ 0 ≤ i ∧ i < n ∧ v = w.2 k i := by
  unfold zaget at h
  split at h
  · next n hn =>
    split at h
    · next hc =>
      cases h
      obtain ⟨rs, hk⟩ := zlen_inv hn
      exact ⟨n, rs, hk, hc.1, hc.2, rfl⟩
    · cases h
  · cases h
theorem zaput_inv {w w' : zWd} {k kd : Nat} {i v : Int} (h : zaput w k kd i v = some w') : ∃ (n : Nat) (rs : List (Option Nat)), w.1[k]? = some (kd, n, rs) ∧ 0 ≤ i ∧ i < n ∧ 2 ≤ k ∧ w' = (w.1, zup w.2 k i v) := by
  unfold zaput at h
  split at h
  · next n hn =>
    split at h
    · next hc =>
      cases h
      obtain ⟨rs, hk⟩ := zlen_inv hn
      exact ⟨n, rs, hk, hc.1, hc.2.1, hc.2.2, rfl⟩
    · cases h
  · cases h
theorem zupd_i {M : Nat → Int → Int} {k : Nat} {i v : Int} (h0 : 0 ≤ i) : (fun j : Nat => Int32.ofInt (zup M k i v k j)) = upd (fun j : Nat => Int32.ofInt (M k j)) i.toNat (Int32.ofInt v) := by
  funext j
  unfold upd zup
  by_cases h : j = i.toNat
  · rw [if_pos h, if_pos ⟨rfl, by omega⟩]
  · rw [if_neg h, if_neg (fun z => h (by have := z.2; omega))]
theorem zupd_l {M : Nat → Int → Int} {k : Nat} {i v : Int} (h0 : 0 ≤ i) : (fun j : Nat => Int64.ofInt (zup M k i v k j)) = vp_updL (fun j : Nat => Int64.ofInt (M k j)) i.toNat (Int64.ofInt v) := by
  funext j
  unfold vp_updL zup
  by_cases h : j = i.toNat
  · rw [if_pos h, if_pos ⟨rfl, by omega⟩]
  · rw [if_neg h, if_neg (fun z => h (by have := z.2; omega))]
theorem zat2 {i : Int} (h0 : 0 ≤ i) : ((i.toNat : Nat) : Int) = i := Int.toNat_of_nonneg h0
theorem zs_rows (hC : zCtx p s m args meth c D cI cL cZ A t0 t1 n0 n1 f0 f1 mi) (i : Instr) (hi : match i with
    | .iaload | .laload | .baload | .arraylength => True
    | _ => False) : zSt p l e R s m args below meth c Q D cI cL cZ A t0 t1 n0 n1 f0 f1 mi kc ks i := by
  obtain ⟨hx, hb, hml, hown, hts, hnw, hK, hlk, hin, hA0, hT0, hT1, hZ⟩ := hC
  intro pc len en L st w tgt L' st' w' adr H locs ls hdg hok hn hA hkc hks hRc hRs hRf hRl K
  have hSo := hA.2.2.2.2.2.2.2.2
  have hI := hA.2.2.1
  have hok5 := hA.2.2.1.2.2.2.2
  have hS := hA.2.2.2.2.2.1
  cases i with
  | iaload =>
    simp only [zokE, Bool.and_eq_true, decide_eq_true_eq] at hok
    obtain ⟨rfl, rfl⟩ := hok
    simp only [znxt] at hn
    split at hn
    · next j k r =>
      obtain ⟨rfl, rfl, rfl, ho⟩ := zfall_inv hn
      cases hg : zaget w k 0 j with
      | none => rw [hg] at ho; cases ho
      | some v =>
        rw [hg] at ho
        cases ho
        obtain ⟨n, rs, g1, g2, g3, rfl⟩ := zaget_inv hg
        have hj : zin32 j := hSo (zI j) List.mem_cons_self
        have hv : zin32 (w.2 k j) := (zsr_int (Or.inl rfl)).mp ((hok5 _ _ g1).2.2.2.2 j)
        have hr : ∀ u ∈ r, u ∈ (zI j :: zR k :: r) := zmem2
        have fin : W p l e R s m args below meth c H locs (w.1.length - kc) (zcs w - ks) Q (F0 m (pc + 1) ls (.int (Int32.ofInt (w.2 k j)) :: r.map (ztr adr))) := zKi hA K rfl hv hr
        by_cases h2 : 2 ≤ k
        · have he := zws_at (adr := adr) (cI := cI) (cL := cL) (cZ := cZ) h2 g1
          refine va_iald hx hb hK hA.1 (k - 2) 0 he rfl (zvpin hj g2 g3) hdg ?_
          show W p l e R s m args below meth c H locs _ _ Q (F0 m (pc + 1) ls (.int (Int32.ofInt (w.2 k ((Int32.ofInt j).toNatClampNeg : Nat))) :: r.map (ztr adr)))
          rw [zclamp hj, zat2 g2]
          exact fin
        · by_cases h1 : k = 0
          · subst h1
            have e1 := hI.1.symm.trans g1
            cases e1
            have hT : va_T .int (adr 0) n0 (fun j => .int (Int32.ofInt (f0 j))) A s s.heap := by rw [hA.2.2.2.1]; exact hT0
            refine va_ti hx hb hT hS (zvpin hj g2 g3) (v := .int (Int32.ofInt (w.2 0 j))) ?_ hdg fin
            show Value.int (Int32.ofInt (f0 ((Int32.ofInt j).toNatClampNeg : Nat))) = _
            rw [zclamp hj, zat2 g2, hI.2.2.1]
          · have h1 : k = 1 := by omega
            subst h1
            have e1 := hI.2.1.symm.trans g1
            cases e1
            have hT : va_T .int (adr 1) n1 (fun j => .int (Int32.ofInt (f1 j))) A s s.heap := by rw [hA.2.2.2.2.1]; exact hT1
            refine va_ti hx hb hT hS (zvpin hj g2 g3) (v := .int (Int32.ofInt (w.2 1 j))) ?_ hdg fin
            show Value.int (Int32.ofInt (f1 ((Int32.ofInt j).toNatClampNeg : Nat))) = _
            rw [zclamp hj, zat2 g2, hI.2.2.2.1]
    · cases hn
  | laload =>
    simp only [zokE, Bool.and_eq_true, decide_eq_true_eq] at hok
    obtain ⟨rfl, rfl⟩ := hok
    simp only [znxt] at hn
    split at hn
    · next j k r =>
      obtain ⟨rfl, rfl, rfl, ho⟩ := zfall_inv hn
      by_cases h2 : 2 ≤ k
      · rw [if_pos h2] at ho
        cases hg : zaget w k 1 j with
        | none => rw [hg] at ho; cases ho
        | some v =>
          rw [hg] at ho
          cases ho
          obtain ⟨n, rs, g1, g2, g3, rfl⟩ := zaget_inv hg
          have hj : zin32 j := hSo (zI j) List.mem_cons_self
          have hv := zsr_long.mp ((hok5 _ _ g1).2.2.2.2 j)
          have fin := zKl hA K rfl hv zmem2
          have he := zws_at (adr := adr) (cI := cI) (cL := cL) (cZ := cZ) h2 g1
          refine va_lald hx hb hK hA.1 (k - 2) 1 he rfl (zvpin hj g2 g3) hdg ?_
          show W p l e R s m args below meth c H locs _ _ Q (F0 m (pc + 1) ls (.long (Int64.ofInt (w.2 k ((Int32.ofInt j).toNatClampNeg : Nat))) :: r.map (ztr adr)))
          rw [zclamp hj, zat2 g2]
          exact fin
      · rw [if_neg h2] at ho; cases ho
    · cases hn
  | baload =>
    simp only [zokE, Bool.and_eq_true, decide_eq_true_eq] at hok
    obtain ⟨rfl, rfl⟩ := hok
    simp only [znxt] at hn
    cases hn
  | arraylength =>
    simp only [zokE, Bool.and_eq_true, decide_eq_true_eq] at hok
    obtain ⟨rfl, rfl⟩ := hok
    simp only [znxt] at hn
    split at hn
    · next k r =>
      obtain ⟨rfl, rfl, rfl, ho⟩ := zfall_inv hn
      unfold zlen1 at ho
      cases hg : zlen w k 0 with
      | none =>
        rw [hg] at ho
        dsimp only at ho
        by_cases h2 : 2 ≤ k
        · rw [if_pos h2] at ho
          cases hg1 : zlen w k 1 with
          | none => rw [hg1] at ho; cases ho
          | some n =>
            rw [hg1] at ho
            cases ho
            obtain ⟨rs, g1⟩ := zlen_inv hg1
            have hn2 : n < 2147483648 := (hok5 _ _ g1).2.1
            have fin : W p l e R s m args below meth c H locs (w.1.length - kc) (zcs w - ks) Q (F0 m (pc + 1) ls (.int (Int32.ofInt (n : Int)) :: r.map (ztr adr))) := zKi hA K rfl ⟨by omega, by omega⟩ zmem1
            have en : Int32.ofNat n = Int32.ofInt (n : Int) := (Int32.ofInt_eq_ofNat).symm
            have he := zws_at (adr := adr) (cI := cI) (cL := cL) (cZ := cZ) h2 g1
            exact va_alen hx hb hK hA.1 (k - 2) 1 he (ty := .long) rfl en hdg fin
        · rw [if_neg h2] at ho; cases ho
      | some n =>
        rw [hg] at ho
        cases ho
        obtain ⟨rs, g1⟩ := zlen_inv hg
        have hn2 : n < 2147483648 := (hok5 _ _ g1).2.1
        have fin : W p l e R s m args below meth c H locs (w.1.length - kc) (zcs w - ks) Q (F0 m (pc + 1) ls (.int (Int32.ofInt (n : Int)) :: r.map (ztr adr))) := zKi hA K rfl ⟨by omega, by omega⟩ zmem1
        have en : Int32.ofNat n = Int32.ofInt (n : Int) := (Int32.ofInt_eq_ofNat).symm
        by_cases h2 : 2 ≤ k
        · have he := zws_at (adr := adr) (cI := cI) (cL := cL) (cZ := cZ) h2 g1
          exact va_alen hx hb hK hA.1 (k - 2) 0 he (ty := .int) rfl en hdg fin
        · by_cases h1 : k = 0
          · subst h1
            have e1 := hI.1.symm.trans g1
            cases e1
            have hT : va_T .int (adr 0) n0 (fun j => .int (Int32.ofInt (f0 j))) A s s.heap := by rw [hA.2.2.2.1]; exact hT0
            exact va_tlen hx hb hT hS en hdg fin
          · have h1 : k = 1 := by omega
            subst h1
            have e1 := hI.2.1.symm.trans g1
            cases e1
            have hT : va_T .int (adr 1) n1 (fun j => .int (Int32.ofInt (f1 j))) A s s.heap := by rw [hA.2.2.2.2.1]; exact hT1
            exact va_tlen hx hb hT hS en hdg fin
    · cases hn
  | _ => exact absurd hi (by simp)
theorem zs_stores (hC : zCtx p s m args meth c D cI cL cZ A t0 t1 n0 n1 f0 f1 mi) (i : Instr) (hi : match i with
    | .iastore | .lastore | .bastore => True
    | _ => False) : zSt p l e R s m args below meth c Q D cI cL cZ A t0 t1 n0 n1 f0 f1 mi kc ks i := by
  obtain ⟨hx, hb, hml, hown, hts, hnw, hK, hlk, hin, hA0, hT0, hT1, hZ⟩ := hC
  intro pc len en L st w tgt L' st' w' adr H locs ls hdg hok hn hA hkc hks hRc hRs hRf hRl K
  have hSo := hA.2.2.2.2.2.2.2.2
  have hI := hA.2.2.1
  have hok5 := hA.2.2.1.2.2.2.2
  have hS := hA.2.2.2.2.2.1
  cases i with
  | iastore =>
    simp only [zokE, Bool.and_eq_true, decide_eq_true_eq] at hok
    obtain ⟨rfl, rfl⟩ := hok
    simp only [znxt] at hn
    split at hn
    · next v j k r =>
      cases hp : zaput w k 0 j v with
      | none => rw [hp] at hn; cases hn
      | some w2 =>
        rw [hp] at hn
        cases hn
        obtain ⟨n, rs, g1, g2, g3, h2, rfl⟩ := zaput_inv hp
        have hj : zin32 j := hSo (zI j) (List.mem_cons_of_mem _ List.mem_cons_self)
        have hv := hSo (zI v) List.mem_cons_self
        have he := zws_at (adr := adr) (cI := cI) (cL := cL) (cZ := cZ) h2 g1
        refine va_iast hx hb hK hA.1 hA.2.1 hS (k - 2) 0 he rfl (zvpin hj g2 g3) hdg fun H1 locs1 hP hD hS1 => K adr H1 locs1 ls _ (fun _ _ => rfl) rfl ?_
        rw [zclamp hj, ← zupd_i g2] at hP hD
        have e1 := zws_up (adr := adr) (cI := cI) (cL := cL) (cZ := cZ) h2 g1 (zup w.2 k j v k) (zup w.2 k j v) (fun j' hj' => by funext y; simp [zup, hj']) rfl
        refine ⟨by rw [e1]; exact hP, by rw [e1]; exact hD, zInv_up hI g1 h2 ((zsr_int (Or.inl rfl)).mpr hv), hA.2.2.2.1, hA.2.2.2.2.1, hS1, hA.2.2.2.2.2.2.1, hA.2.2.2.2.2.2.2.1, fun u hu => hSo u (List.mem_cons_of_mem _ (List.mem_cons_of_mem _ (List.mem_cons_of_mem _ hu)))⟩
    · cases hn
  | lastore =>
    simp only [zokE, Bool.and_eq_true, decide_eq_true_eq] at hok
    obtain ⟨rfl, rfl⟩ := hok
    simp only [znxt] at hn
    split at hn
    · next v j k r =>
      cases hp : zaput w k 1 j v with
      | none => rw [hp] at hn; cases hn
      | some w2 =>
        rw [hp] at hn
        cases hn
        obtain ⟨n, rs, g1, g2, g3, h2, rfl⟩ := zaput_inv hp
        have hj : zin32 j := hSo (zI j) (List.mem_cons_of_mem _ List.mem_cons_self)
        have hv := hSo (zL v) List.mem_cons_self
        have he := zws_at (adr := adr) (cI := cI) (cL := cL) (cZ := cZ) h2 g1
        refine va_last hx hb hK hA.1 hA.2.1 hS (k - 2) 1 he rfl (zvpin hj g2 g3) hdg fun H1 locs1 hP hD hS1 => K adr H1 locs1 ls _ (fun _ _ => rfl) rfl ?_
        rw [zclamp hj, ← zupd_l g2] at hP hD
        have e1 := zws_up (adr := adr) (cI := cI) (cL := cL) (cZ := cZ) h2 g1 (zup w.2 k j v k) (zup w.2 k j v) (fun j' hj' => by funext y; simp [zup, hj']) rfl
        refine ⟨by rw [e1]; exact hP, by rw [e1]; exact hD, zInv_up hI g1 h2 (zsr_long.mpr hv), hA.2.2.2.1, hA.2.2.2.2.1, hS1, hA.2.2.2.2.2.2.1, hA.2.2.2.2.2.2.2.1, fun u hu => hSo u (List.mem_cons_of_mem _ (List.mem_cons_of_mem _ (List.mem_cons_of_mem _ hu)))⟩
    · cases hn
  | bastore =>
    simp only [zokE, Bool.and_eq_true, decide_eq_true_eq] at hok
    obtain ⟨rfl, rfl⟩ := hok
    simp only [znxt] at hn
    cases hn
  | _ => exact absurd hi (by simp)
end ZS
end
section
/-! one step: new cells, copies; then any instruction that neither calls nor returns -/
section ZS
variable {p : Program} {l : Launch} {e : Env} {R : Room} {s : State} {m : MethodId} {args : Array Value} {below : List Frame} {meth : Method} {c : Code} {Q : State → Prop} {D : va_G} {cI cL cZ : ClassId} {A : Nat → Prop} {t0 t1 n0 n1 mi kc ks : Nat} {f0 f1 : Int → Int}
variable {adr : Nat → Nat} {H : Heap} {locs : List Loc} {ls : Array Slot} {L st : List zMV} {w : zWd} {pc nx : Nat}

theorem zcs_push (S : List zSh) (sh : zSh) : ((S ++ [sh]).map (·.2.1)).sum = (S.map (·.2.1)).sum + sh.2.1 := by simp
theorem zpush_at {D : va_G} {cI cL cZ : ClassId} {A : Nat → Prop} {t0 t1 n0 n1 mi : Nat} {f0 f1 : Int → Int} {s : State} {adr : Nat → Nat} {H H1 : Heap} {locs : List Loc} {ls : Array Slot} {L st r : List zMV} {w : zWd} (hA : zAt D cI cL cZ A t0 t1 n0 n1 f0 f1 mi s.heap adr H locs ls L st w) {q : Nat} {sh : zSh} (h1 : sh.1 < 15) (h2 : sh.2.1 < 2147483648) (h3 : ∀ (j r : Nat), sh.2.2[j]? = some (some r) → r < w.1.length) (h4 : 3 ≤ sh.1 → sh.2.1 = znf (sh.1 - 3) ∧ sh.2.2.length = znf (sh.1 - 3))
    (hP : va_P D vwCl (zws adr cI cL cZ w ++ [(q, zent adr cI cL cZ (fun _ => 0) sh)]) H1) (hD : va_D A (zws adr cI cL cZ w ++ [(q, zent adr cI cL cZ (fun _ => 0) sh)])) (hS : va_S A s.heap H1 locs) (hr : ∀ v ∈ r, v ∈ st) :
    zAt D cI cL cZ A t0 t1 n0 n1 f0 f1 mi s.heap (fun j => if j = w.1.length then q else adr j) H1 locs ls L (zR w.1.length :: r) (w.1 ++ [sh], zzero w.2 w.1.length) := by
  have hl := zInv_2 hA.2.2.1
  have ha : ∀ k, k < w.1.length → (fun j => if j = w.1.length then q else adr j) k = adr k := fun k hk => if_neg (by omega)
  have e1 := zws_push (adr := adr) (cI := cI) (cL := cL) (cZ := cZ) hA.2.2.1.2.2.2.2 hl q sh h3
  have e2 : (w.1 ++ [sh], zzero w.2 w.1.length).1.length = w.1.length + 1 := by simp
  refine ⟨by rw [e1]; exact hP, by rw [e1]; exact hD, zInv_push hA.2.2.1 h1 h2 h3 h4, ?_, ?_, hS, zlv_agree hA.2.2.2.2.2.2.1 ha hA.2.2.2.2.2.2.2.1, fun u hu => by rw [e2]; exact zokv_mono (by omega) (hA.2.2.2.2.2.2.2.1 u hu), fun u hu => ?_⟩
  · rw [ha 0 (by omega)]; exact hA.2.2.2.1
  · rw [ha 1 (by omega)]; exact hA.2.2.2.2.1
  · rw [e2]
    rcases List.mem_cons.mp hu with rfl | hu
    · show w.1.length < w.1.length + 1
      omega
    · exact zokv_mono (by omega) (hA.2.2.2.2.2.2.2.2 u (hr u hu))
theorem zmap_agree {n : Nat} {adr adr' : Nat → Nat} (h : ∀ k, k < n → adr' k = adr k) {r : List zMV} (hr : ∀ v ∈ r, zokv n v) : r.map (ztr adr') = r.map (ztr adr) := by
  apply List.map_congr_left
  intro v hv
  exact ztr_agree h (hr v hv)
theorem zdef {t : FieldType} (adr : Nat → Nat) (ci j n : Nat) (h : zfty ci j = zfc t) (h3 : zfty ci j ≤ 3) : defaultValue t = zfv adr (fun _ => 0) ci (List.replicate n none) j := by
  unfold zfv
  have hrep : ∀ (x r : Nat), (List.replicate n (none : Option Nat))[x]? = some (some r) → False := by
    intro x r hx
    rw [List.getElem?_replicate] at hx
    split at hx <;> cases hx
  rw [h] at h3 ⊢
  cases t <;> simp [zfc] at h3 ⊢ <;> try rfl
  all_goals
    split
    · next r hr => exact (hrep _ _ hr).elim
    · rfl
theorem zcI {D : va_G} {cI cL cA : ClassId} {s : State} {ty : FieldType} {k : Nat} (hK : va_K D vwCl ([(cI, FieldType.int), (cL, .long)] ++ [(cA, ty)]) s) {cB : ClassId} (hk : ([(cI, FieldType.int), (cL, .long)] ++ [(cA, ty)])[k]? = some (cB, ty)) (hty : ty = .int ∨ ty = .long) : cA = cB := by
  have h1 := (hK.2 2 (cA, ty) rfl).2
  have h2 := (hK.2 k (cB, ty) hk).2
  rcases hty with rfl | rfl
  · exact Option.some.inj ((show _ = some cA from h1).symm.trans (show _ = some cB from h2))
  · exact Option.some.inj ((show _ = some cA from h1).symm.trans (show _ = some cB from h2))
theorem zs_new (hC : zCtx p s m args meth c D cI cL cZ A t0 t1 n0 n1 f0 f1 mi) (i : Instr) (hi : match i with
    | .new _ | .newarray _ | .invokespecial _ | .invokestatic _ => True
    | _ => False) : zSt p l e R s m args below meth c Q D cI cL cZ A t0 t1 n0 n1 f0 f1 mi kc ks i := by
  obtain ⟨hx, hb, hml, hown, hts, hnw, hK, hlk, hin, hA0, hT0, hT1, hZ⟩ := hC
  intro pc len en L st w tgt L' st' w' adr H locs ls hdg hok hn hA hkc hks hRc hRs hRf hRl K
  have hSo := hA.2.2.2.2.2.2.2.2
  have hI := hA.2.2.1
  have hok5 := hA.2.2.1.2.2.2.2
  have hS := hA.2.2.2.2.2.1
  cases i with
  | new ix =>
    simp only [zokE, Bool.and_eq_true, decide_eq_true_eq] at hok
    obtain ⟨⟨h1, rfl⟩, h3⟩ := hok
    obtain ⟨q, hq, hq2⟩ := zany3 h3
    simp only [Bool.and_eq_true, beq_iff_eq] at hq2
    obtain ⟨q1, q2, q3⟩ := hq2
    obtain ⟨hci, hp1, hp2, hp3⟩ := zNT_ok q hq
    have hw1 := zTW_of (List.mem_of_getElem? hp1) rfl
    have hw2 := zTW_of (List.mem_of_getElem? hp2) rfl
    have hw3 := zTW_of (List.mem_of_getElem? hp3) rfl
    rw [q1, q2, q3] at hw1
    rw [q3] at hci hw2 hw3
    simp only [znxt, h1] at hn
    cases hn
    have hcl := zcl_at _ hci
    have hcl2 : vwCl[en.2.1]? = some ((zcl en.2.1).1, (zcl en.2.1).2.1, znf en.2.1) := by rw [hcl.1, ← hcl.2]
    have hn1 : (w.1 ++ [(3 + en.2.1, znf en.2.1, List.replicate (znf en.2.1) none)]).length - kc = w.1.length - kc + 1 := by simp; omega
    have hn2 : zcs (w.1 ++ [(3 + en.2.1, znf en.2.1, List.replicate (znf en.2.1) none)], zzero w.2 w.1.length) - ks = zcs w - ks + znf en.2.1 := by
      have h5 : zcs (w.1 ++ [(3 + en.2.1, znf en.2.1, List.replicate (znf en.2.1) none)], zzero w.2 w.1.length) = zcs w + znf en.2.1 := zcs_push w.1 (3 + en.2.1, znf en.2.1, List.replicate (znf en.2.1) none)
      rw [h5]; omega
    refine va_new (T := (zcl en.2.1).2.1) (N := znf en.2.1) (C := (zcl en.2.1).1) (fs := (List.range (znf en.2.1)).map (zfv adr (fun _ => 0) en.2.1 (List.replicate (znf en.2.1) none))) hx hb hts (zcl_in hci) (zty en.2.1) (zty_ok _ hci) hown (hts _ hw1) (hts _ hw2) (hts _ hw3) hK hA.1 hA.2.1 hS hA0 hcl2 (fun j hj => ?_) (by rw [← hn1]; exact hRc) (by rw [← hn2]; exact hRs) hdg fun q H1 hP hD hS1 => ?_
    · have hfc := zfc_ok _ hci _ hj
      rw [zdef adr en.2.1 j (znf en.2.1) hfc.1 hfc.2]
      simp [vp_V, hj]
    · have ee : zent adr cI cL cZ (fun _ => 0) (3 + en.2.1, znf en.2.1, List.replicate (znf en.2.1) none) = .inr (en.2.1, (List.range (znf en.2.1)).map (zfv adr (fun _ => 0) en.2.1 (List.replicate (znf en.2.1) none))) := zent_obj ..
      rw [← ee] at hP hD
      refine W.cs hn1.symm hn2.symm ?_
      have ha : ∀ k, k < w.1.length → (fun j => if j = w.1.length then q else adr j) k = adr k := fun k hk => if_neg (by omega)
      have hrep : ∀ (x r : Nat), (List.replicate (znf en.2.1) (none : Option Nat))[x]? = some (some r) → r < w.1.length := by
        intro x r hx
        rw [List.getElem?_replicate] at hx
        split at hx <;> cases hx
      have hz := zsize_ok _ hci
      have := K (fun j => if j = w.1.length then q else adr j) H1 locs ls _ ha rfl (zpush_at hA (sh := (3 + en.2.1, znf en.2.1, List.replicate (znf en.2.1) none)) (by show 3 + en.2.1 < 15; omega) (by show znf en.2.1 < _; omega) hrep (fun _ => by rw [show 3 + en.2.1 - 3 = en.2.1 by omega]; exact ⟨rfl, List.length_replicate⟩) hP hD hS1 (fun v h => h))
      have e4 : (zR w.1.length :: st).map (ztr (fun j => if j = w.1.length then q else adr j)) = .ref q :: st.map (ztr adr) := by
        rw [List.map_cons, zmap_agree ha hSo]
        show Value.ref (if w.1.length = w.1.length then q else _) :: _ = _
        rw [if_pos rfl]
      rw [e4] at this
      exact this
  | newarray at1 =>
    simp only [zokE, Bool.and_eq_true, decide_eq_true_eq] at hok
    obtain ⟨h1, rfl⟩ := hok
    simp only [znxt, h1] at hn
    split at hn
    · next n r =>
      split at hn
      · next kd hkd =>
        split at hn
        · next hn0 =>
          cases hn
          have hnr : zin32 n := hSo (zI n) List.mem_cons_self
          have hn1 : (w.1 ++ [(kd, n.toNat, [])]).length - kc = w.1.length - kc + 1 := by simp; omega
          have hn2 : zcs (w.1 ++ [(kd, n.toNat, [])], zzero w.2 w.1.length) - ks = zcs w - ks + n.toNat := by
            have h5 : zcs (w.1 ++ [(kd, n.toNat, [])], zzero w.2 w.1.length) = zcs w + n.toNat := zcs_push w.1 (kd, n.toNat, [])
            rw [h5]; omega
          have ha : ∀ q k, k < w.1.length → (fun j => if j = w.1.length then q else adr j) k = adr k := fun q k hk => if_neg (by omega)
          have hneg : ¬ Int32.ofInt n < 0 := fun z => by have := (zltI hnr zin0).mp z; omega
          have fin : ∀ (q : Nat) (H1 : Heap), va_P D vwCl (zws adr cI cL cZ w ++ [(q, zent adr cI cL cZ (fun _ => 0) (kd, n.toNat, []))]) H1 → va_D A (zws adr cI cL cZ w ++ [(q, zent adr cI cL cZ (fun _ => 0) (kd, n.toNat, []))]) → va_S A s.heap H1 locs → W p l e R s m args below meth c H1 locs (w.1.length - kc + 1) (zcs w - ks + n.toNat) Q (F0 m (pc + 2) ls (.ref q :: r.map (ztr adr))) := by
            intro q H1 hP hD hS1
            refine W.cs hn1.symm hn2.symm ?_
            have hk15 : kd < 3 := by cases at1 <;> simp [zkd] at hkd <;> omega
            have := K (fun j => if j = w.1.length then q else adr j) H1 locs ls _ (ha q) rfl (zpush_at hA (sh := (kd, n.toNat, [])) (by show kd < 15; omega) (by show n.toNat < _; omega) (fun j r hj => by cases hj) (fun h => by have : kd < 3 := hk15; have : 3 ≤ kd := h; omega) hP hD hS1 zmem1)
            have e4 : (zR w.1.length :: r).map (ztr (fun j => if j = w.1.length then q else adr j)) = .ref q :: r.map (ztr adr) := by
              rw [List.map_cons, zmap_agree (ha q) (fun v hv => hSo v (List.mem_cons_of_mem _ hv))]
              show Value.ref (if w.1.length = w.1.length then q else _) :: _ = _
              rw [if_pos rfl]
            rw [e4] at this
            exact this
          cases at1 with
          | int =>
            cases hkd
            refine va_newa (atype := .int) (ty := .int) (a0 := (n.toNat, .inl fun _ => Int32.ofInt 0)) (N' := n.toNat) hx hb (hts _ zarr_in.1) rfl hK hA.1 hA.2.1 hS hA0 (fun cA => rfl) hneg (zclamp hnr) (by show n.toNat * 4 ≤ _; omega) (by rw [← hn1]; exact hRc) (by rw [← hn2]; exact hRs) hdg fun q cA H1 hK2 hP hD hS1 => ?_
            have : cA = cI := zcI (k := 0) hK2 rfl (Or.inl rfl)
            subst this
            exact fin q H1 hP hD hS1
          | long =>
            cases hkd
            refine va_newa (atype := .long) (ty := .long) (a0 := (n.toNat, .inr (.inl fun _ => Int64.ofInt 0))) (N' := n.toNat) hx hb (hts _ zarr_in.2) rfl hK hA.1 hA.2.1 hS hA0 (fun cA => rfl) hneg (zclamp hnr) (by show n.toNat * 8 ≤ _; omega) (by rw [← hn1]; exact hRc) (by rw [← hn2]; exact hRs) hdg fun q cA H1 hK2 hP hD hS1 => ?_
            have : cA = cL := zcI (k := 1) hK2 rfl (Or.inr rfl)
            subst this
            exact fin q H1 hP hD hS1
          | _ => cases hkd
        · cases hn
      · cases hn
    · cases hn
  | invokespecial ix =>
    simp only [zokE, Bool.and_eq_true, decide_eq_true_eq, Bool.or_eq_true] at hok
    obtain ⟨rfl, ⟨h1, h3⟩ | ⟨h1, -⟩⟩ := hok
    · obtain ⟨q, hq, hq2⟩ := zany3 h3
      simp only [Bool.and_eq_true, beq_iff_eq] at hq2
      obtain ⟨q1, q2⟩ := hq2
      have hw := zTW_of (List.mem_of_getElem? (zOT_ok q hq)) rfl
      rw [q1, q2] at hw
      simp only [znxt, h1] at hn
      split at hn
      · next k r =>
        split at hn
        · next hc8 =>
          cases hn
          refine W.objInit (g := F0 m pc ls (Value.ref (adr k) :: st'.map (ztr adr))) hx hb hown (hts _ hw) (hts _ zobj_in.1) (hts _ zobj_in.2) rfl (by rw [hml]; exact hA.2.2.2.2.2.2.1.1) rfl hdg hRf ?_ ?_
          · have := lv_room (m := m) (pc := pc) (ls := ls) (rest := Value.ref (adr k) :: st'.map (ztr adr)) (st := st'.map (ztr adr)) (by rw [zcats_tr]; exact hc8)
            omega
          · exact zKs hA K (fun u hu => hSo u (List.mem_cons_of_mem _ hu)) rfl
        · cases hn
      · cases hn
    · simp only [znxt, h1] at hn
      cases hn
  | invokestatic ix =>
    simp only [zokE, Bool.and_eq_true, decide_eq_true_eq, Bool.or_eq_true] at hok
    obtain ⟨rfl, ((((⟨h1, h3⟩ | ⟨h1, h3⟩) | ⟨h1, h3⟩) | ⟨h1, h3⟩) | ⟨h1, -⟩)⟩ := hok
    · obtain ⟨q, hq, hq2⟩ := zany3 h3
      simp only [Bool.and_eq_true, beq_iff_eq] at hq2
      obtain ⟨q1, q2, q3⟩ := hq2
      have hw := zTW_of (List.mem_of_getElem? (zMT_ok q hq)) rfl
      rw [q1, q2, q3] at hw
      simp only [znxt, h1] at hn
      split at hn
      · next hc =>
        obtain ⟨rfl, rfl, rfl, ho⟩ := zfall_inv hn
        obtain ⟨y, x, r, v, rfl, hv, rfl⟩ := zii_inv ho
        cases hv
        have hyy := hSo (zI y) List.mem_cons_self
        have hxx := hSo (zI x) (List.mem_cons_of_mem _ List.mem_cons_self)
        have hcr : zcats r ≤ 12 := by
          have : zcats (zI y :: zI x :: r) = zcat (zI y) + (zcat (zI x) + zcats r) := by simp [zcats]
          omega
        refine va_mmax hx hb (by rw [hml]; exact hA.2.2.2.2.2.2.1.1.symm) hown (hts _ hw) (hts _ zmath_in.2.1) (hts _ zmath_in.1) (hts _ zmath_in.2.2.2.1) hRf (by rw [zcats_tr]; omega) (by omega) (by omega) hdg ?_
        refine zKi hA K ?_ ?_ zmem2
        · by_cases hxy : x < y
          · rw [if_pos hxy, if_pos ((zltI hxx hyy).mpr hxy)]
          · rw [if_neg hxy, if_neg (fun z => hxy ((zltI hxx hyy).mp z))]
        · split
          · exact hyy
          · exact hxx
      · cases hn
    · obtain ⟨q, hq, hq2⟩ := zany3 h3
      simp only [Bool.and_eq_true, beq_iff_eq] at hq2
      obtain ⟨q1, q2, q3⟩ := hq2
      have hw := zTW_of (List.mem_of_getElem? (zMT_ok q hq)) rfl
      rw [q1, q2, q3] at hw
      simp only [znxt, h1] at hn
      split at hn
      · next hc =>
        obtain ⟨rfl, rfl, rfl, ho⟩ := zfall_inv hn
        obtain ⟨y, x, r, v, rfl, hv, rfl⟩ := zii_inv ho
        cases hv
        have hyy := hSo (zI y) List.mem_cons_self
        have hxx := hSo (zI x) (List.mem_cons_of_mem _ List.mem_cons_self)
        have hcr : zcats r ≤ 12 := by
          have : zcats (zI y :: zI x :: r) = zcat (zI y) + (zcat (zI x) + zcats r) := by simp [zcats]
          omega
        refine va_mmin hx hb (by rw [hml]; exact hA.2.2.2.2.2.2.1.1.symm) hown (hts _ hw) (hts _ zmath_in.2.2.1) (hts _ zmath_in.1) (hts _ zmath_in.2.2.2.2) hRf (by rw [zcats_tr]; omega) (by omega) (by omega) hdg ?_
        refine zKi hA K ?_ ?_ zmem2
        · by_cases hxy : y < x
          · rw [if_pos hxy, if_pos ((zltI hyy hxx).mpr hxy)]
          · rw [if_neg hxy, if_neg (fun z => hxy ((zltI hyy hxx).mp z))]
        · split
          · exact hyy
          · exact hxx
      · cases hn
    · obtain ⟨q, hq, hq2⟩ := zany3 h3
      simp only [Bool.and_eq_true, beq_iff_eq] at hq2
      obtain ⟨q1, q2, q3⟩ := hq2
      exact absurd q3 (zMT_no2 q hq)
    · obtain ⟨q, hq, hq2⟩ := zany3 h3
      simp only [Bool.and_eq_true, beq_iff_eq] at hq2
      obtain ⟨q1, q2⟩ := hq2
      exact (zAT_no q hq).elim
    · simp only [znxt, h1] at hn
      cases hn
  | _ => exact absurd hi (by simp)
/-- any instruction that neither calls nor returns -/
theorem zstep (hC : zCtx p s m args meth c D cI cL cZ A t0 t1 n0 n1 f0 f1 mi) (i : Instr) : zSt p l e R s m args below meth c Q D cI cL cZ A t0 t1 n0 n1 f0 f1 mi kc ks i := by
  cases i with
  | iconst _ | bipush _ | sipush _ | lconst _ | ldc _ | ldc_w _ | ldc2_w _ => exact zs_const hC _ trivial
  | iload_n _ | iload _ | lload_n _ | lload _ | aload_n _ | aload _ | istore_n _ | istore _ | lstore_n _ | lstore _ | astore_n _ | astore _ | iinc _ _ => exact zs_locals hC _ trivial
  | iadd | isub | imul | iand | ior | ixor | ishl | ishr | iushr | idiv | irem => exact zs_ints hC _ trivial
  | ladd | lsub | lmul | land | lor | ldiv | lrem | lshl | lshr | lcmp => exact zs_longs hC _ trivial
  | i2l | i2b | l2i | dup | dup2 | pop => exact zs_stack hC _ trivial
  | ifCond _ _ | if_icmp _ _ | goto _ | tableswitch _ _ _ _ | lookupswitch _ _ => exact zs_jumps hC _ trivial
  | getfield _ | getstatic _ | putfield _ => exact zs_fields hC _ trivial
  | iaload | laload | baload | arraylength => exact zs_rows hC _ trivial
  | iastore | lastore | bastore => exact zs_stores hC _ trivial
  | new _ | newarray _ | invokespecial _ | invokestatic _ => exact zs_new hC _ trivial
  | invokevirtual _ =>
    intro pc len en L st w tgt L' st' w' adr H locs ls hdg hok hn
    simp only [zokE, Bool.and_eq_true, decide_eq_true_eq] at hok
    simp only [znxt, hok.2.1] at hn
    cases hn
  | ireturn =>
    intro pc len en L st w tgt L' st' w' adr H locs ls hdg hok hn
    simp only [zokE, Bool.and_eq_true, decide_eq_true_eq] at hok
    obtain ⟨rfl, rfl⟩ := hok
    cases hn
  | lreturn =>
    intro pc len en L st w tgt L' st' w' adr H locs ls hdg hok hn
    simp only [zokE, Bool.and_eq_true, decide_eq_true_eq] at hok
    obtain ⟨rfl, rfl⟩ := hok
    cases hn
  | return_ =>
    intro pc len en L st w tgt L' st' w' adr H locs ls hdg hok hn
    simp only [zokE, Bool.and_eq_true, decide_eq_true_eq] at hok
    obtain ⟨rfl, rfl⟩ := hok
    cases hn
  | _ =>
    intro pc len en L st w tgt L' st' w' adr H locs ls hdg hok hn
    cases hok
end ZS
end
section
/-! what the small machine computes, the JVM computes: tables, calls -/
def zvk (mi : Nat) : Bool := zVK.getD mi false
def zmp (mi : Nat) : Nat × Nat × Nat × Nat := zMP.getD mi (0, 0, 0, 0)
/-- how many methods there are beside the law -/
abbrev zNM : Nat := 118
/-- the tables have a method's own words -/
def zPm (mi : Nat) : Prop := lw_tbl[(zmp mi).1]? = some (.code (zmN mi) (zmC mi) (zmL mi) (zmR mi)) ∧ lw_tbl[(zmp mi).2.1]? = some (.initialized (zmN mi).cls) ∧ (zvk mi = true → lw_tbl[(zmp mi).2.2.2]? = some (.selects (zmN mi).cls (zmN mi) (zmN mi)) ∧ zmO mi < 11) ∧ lw_tbl[(zmp mi).2.2.1]? = some (if zmS mi = true then .static (zmN mi) else .instanceMethod (zmN mi)) ∧
  (parseMethodDescriptor (zmN mi).desc).map (fun d => d.parameters.length) = some (zmA mi) ∧ (zmN mi).cls = zcn (zmO mi) ∧ zmL mi ≤ 12 ∧ (zmI mi = true → (zmN mi).name = "<init>") ∧ zmO mi < 15 ∧ zmO mi ≠ 13
/-- the tables have a call's link -/
def zPc (q : Nat × Nat × Nat × Nat × Nat × Nat) : Prop := q.2.2.1 < zNM ∧ (if q.2.2.2.2.1 = 0 then tables_1[q.2.2.2.2.2]? = some (.methodLink (zcn q.1) q.2.1 (zmN q.2.2.1)) else tables_1[q.2.2.2.2.2]? = some (.methodLinkNest (zcn q.1) q.2.1 (zmN q.2.2.1) "ForceNet")) ∧
  (q.2.2.2.1 = 0 → q.2.2.2.2.1 = 0 ∧ zvk q.2.2.1 = true ∧ zmS q.2.2.1 = false) ∧ (q.2.2.2.1 = 1 → zmS q.2.2.1 = true) ∧ (q.2.2.2.1 = 2 → zmS q.2.2.1 = false ∧ zmR q.2.2.1 = none ∧ zmI q.2.2.1 = true)
theorem zcn_ok : ∀ o, o < 15 → o ≠ 13 → zcn o ≠ "java/lang/invoke/MethodHandle" ∧ zcn o ≠ "java/lang/invoke/VarHandle" ∧ plainName (zcn o) = true ∧ (o < 11 → (zcl o).1 = zcn o) := by decide +kernel
theorem zTW_lw {w : Cond} {k : Nat} (h : lw_tbl[k]? = some w) (hg : goodWord w = true) : w ∈ zTW := List.mem_filter.mpr ⟨List.mem_of_getElem? h, hg⟩
theorem zNW_nest {x : Cond} (h : x ∈ zNW) : ∃ a i y b, x = .methodLinkNest a i y b := by
  have h2 := (List.mem_filter.mp h).2
  cases x <;> simp [zNestW] at h2
  exact ⟨_, _, _, _, rfl⟩
theorem zNW_warm {s U : State} (hW : s.WarmedH U.vm) (h : ∀ x ∈ zNW, va_Nw x s) : ∀ x ∈ zNW, va_Nw x U := by
  intro x hx
  obtain ⟨a, i, y, b, rfl⟩ := zNW_nest hx
  exact va_Nw.warmM hW (h _ hx)
theorem zNW_same {u U : State} (hv : u.vm = U.vm) (h : ∀ x ∈ zNW, va_Nw x u) : ∀ x ∈ zNW, va_Nw x U := by
  intro x hx
  obtain ⟨a, i, y, b, rfl⟩ := zNW_nest hx
  exact va_Nw.same rfl hv (h _ hx)
theorem zblk_chk {mi b t : Nat} (ha : zall mi = true) (h : zstart mi b = some t) : zchk mi t (zblk mi b) = true := by
  unfold zstart at h
  unfold zblk
  cases hb : (zBk mi)[b]? with
  | none => rw [hb] at h; cases h
  | some q =>
    rw [hb] at h
    cases h
    rw [List.getD_eq_getElem?_getD, hb]
    exact List.all_eq_true.mp ha q (List.mem_of_getElem? hb)
theorem znxt_mono {e : zEnt} {L st L' st' : List zMV} {w w' : zWd} {tgt : Option Nat} (h : znxt e L st w = some (tgt, L', st', w')) : w.1.length ≤ w'.1.length ∧ zcs w ≤ zcs w' := by
  have same : ∀ {x : zWd}, x = w → w.1.length ≤ x.1.length ∧ zcs w ≤ zcs x := fun h => by subst h; exact ⟨Nat.le_refl _, Nat.le_refl _⟩
  have put : ∀ {k kd : Nat} {i v : Int} {r : List zMV} {o : Option zWd}, o = zaput w k kd i v → (o.map fun w' => ((none : Option Nat), L, r, w')) = some (tgt, L', st', w') → w.1.length ≤ w'.1.length ∧ zcs w ≤ zcs w' := by
    intro k kd i v r o ho hm
    cases hz : zaput w k kd i v with
    | none => rw [ho, hz] at hm; cases hm
    | some w2 =>
      rw [ho, hz] at hm
      cases hm
      obtain ⟨n, rs, -, -, -, -, rfl⟩ := zaput_inv hz
      exact ⟨Nat.le_refl _, Nat.le_refl _⟩
  have push : ∀ {sh : zSh}, w.1.length ≤ (w.1 ++ [sh], zzero w.2 w.1.length).1.length ∧ zcs w ≤ zcs (w.1 ++ [sh], zzero w.2 w.1.length) := fun {sh} => ⟨by simp, by
    have : zcs (w.1 ++ [sh], zzero w.2 w.1.length) = zcs w + sh.2.1 := zcs_push w.1 sh
    omega⟩
  unfold znxt at h
  split at h
  all_goals first
    | (cases h; done)
    | (obtain ⟨-, -, rfl, -⟩ := zfall_inv h; exact same rfl)
    | (cases h; exact same rfl)
    | (cases h; exact push)
    | (split at h <;> first
      | (obtain ⟨-, -, rfl, -⟩ := zfall_inv h; exact same rfl)
      | (cases h; exact same rfl)
      | (exact put rfl h)
      | (cases h; done)
      | (split at h <;> first
        | (obtain ⟨-, -, rfl, -⟩ := zfall_inv h; exact same rfl)
        | (cases h; exact same rfl)
        | (exact put rfl h)
        | (cases h; done)
        | (split at h <;> first
          | (cases h; exact push)
          | (cases h; exact same rfl)
          | (cases h; exact ⟨Nat.le_refl _, Nat.le_refl _⟩)
          | (cases h; done)))
      | skip)
    | skip
  · rename_i v k r
    cases hz : zputf w k e.2.1 e.2.2 v with
    | none => rw [hz] at h; cases h
    | some w2 =>
      rw [hz] at h
      cases h
      obtain ⟨n, rs, g1, -, -, ⟨x, -, -, rfl⟩ | ⟨x, -, -, rfl⟩ | ⟨x, -, -, rfl⟩⟩ := zputf_inv hz
      · exact ⟨Nat.le_refl _, Nat.le_refl _⟩
      · exact ⟨Nat.le_refl _, Nat.le_refl _⟩
      · exact ⟨by simp, by
          have : zcs (w.1.set k (3 + e.2.1, n, rs.set e.2.2 (some x)), w.2) = zcs w := zcs_set g1 rfl
          omega⟩
def zisC (i : Instr) : Bool := match i with
  | .invokevirtual _ => true
  | .invokestatic _ => true
  | .return_ => true
  | .ireturn => true
  | .lreturn => true
  | _ => false
theorem zrun_nx {rc : zRn} {d mi : Nat} {e : zEnt} {es : List zEnt} {L st : List zMV} {w : zWd} (h : zisC e.1 = false) : zbody rc d mi e es L st w = match znxt e L st w with
    | some (none, L', st', w') => rc d mi es L' st' w'
    | some (some b, L', st', w') => rc d mi (zblk mi b) L' st' w'
    | none => none := by
  unfold zbody
  split
  all_goals first
    | (next he => rw [he] at h; cases h)
    | rfl
/-- the ends and the calls -/
theorem zbody_C {rc : zRn} {d mi : Nat} {e : zEnt} {es : List zEnt} {L st : List zMV} {w : zWd} {x : Option zMV × zWd} (hc : ¬ zisC e.1 = false) (h : zbody rc d mi e es L st w = some x) :
    ((e.1 = .return_ ∨ e.1 = .ireturn ∨ e.1 = .lreturn) ∧ x.2 = w ∧ zrok (zmR mi) e.1 st = some x.1) ∨
    ((∃ k, e.1 = .invokevirtual k) ∧ (st.take (zmA e.2.1 + 1)).length = zmA e.2.1 + 1 ∧ zrecv w e.2.1 (st.take (zmA e.2.1 + 1)).reverse = true ∧ zcall rc d mi e.2.1 es L (st.take (zmA e.2.1 + 1)).reverse (st.drop (zmA e.2.1 + 1)) w = some x) ∨
    ((∃ k, e.1 = .invokestatic k) ∧ (st.take (zmA e.2.1)).length = zmA e.2.1 ∧ zcall rc d mi e.2.1 es L (st.take (zmA e.2.1)).reverse (st.drop (zmA e.2.1)) w = some x) := by
  have ret : ∀ {o : Option (Option zMV)}, o.map (·, w) = some x → x.2 = w ∧ o = some x.1 := by
    intro o ho
    cases o with
    | none => cases ho
    | some v => cases ho; exact ⟨rfl, rfl⟩
  unfold zbody at h
  split at h
  · next k he =>
    split at h
    · next hq => exact Or.inr (Or.inl ⟨⟨k, he⟩, hq.1, hq.2, h⟩)
    · cases h
  · next k he =>
    split at h
    · next hq => exact Or.inr (Or.inr ⟨⟨k, he⟩, hq, h⟩)
    · cases h
  · next he => exact Or.inl ⟨Or.inl he, (ret h).1, by rw [he]; exact (ret h).2⟩
  · next he => exact Or.inl ⟨Or.inr (Or.inl he), (ret h).1, by rw [he]; exact (ret h).2⟩
  · next he => exact Or.inl ⟨Or.inr (Or.inr he), (ret h).1, by rw [he]; exact (ret h).2⟩
  · next h1 h2 h3 h4 h5 =>
    refine absurd ?_ hc
    cases he : e.1 <;> first
      | rfl
      | exact absurd he (h1 _)
      | exact absurd he (h2 _)
      | exact absurd he h3
      | exact absurd he h4
      | exact absurd he h5
theorem zcall_inv {rc : zRn} {d mi m2 : Nat} {es : List zEnt} {L vs r : List zMV} {w : zWd} {x : Option zMV × zWd} (h : zcall rc d mi m2 es L vs r w = some x) : ∃ d' v w', d = d' + 1 ∧ zcats r ≤ 8 ∧ (zspread vs).length ≤ zmL m2 ∧ rc d' m2 (zblk m2 0) (zlocs vs (zmL m2)) [] w = some (v, w') ∧ rc (d' + 1) mi es L (v.toList ++ r) w' = some x := by
  cases d with
  | zero => cases h
  | succ d' =>
    simp only [zcall] at h
    split at h
    · next hc =>
      split at h
      · next v w' hr => exact ⟨d', v, w', rfl, hc.1, hc.2, hr, h⟩
      · cases h
    · cases h
theorem zrun_mono : ∀ (n d mi : Nat) (es : List zEnt) (L st : List zMV) (w : zWd) (r : Option zMV) (w1 : zWd), zrun n d mi es L st w = some (r, w1) → w.1.length ≤ w1.1.length ∧ zcs w ≤ zcs w1
  | 0, _, _, _, _, _, _, _, _, h => by cases h
  | _ + 1, _, _, [], _, _, _, _, _, h => by cases h
  | n + 1, d, mi, e :: es, L, st, w, r, w1, h => by
    rw [zrun_eq] at h
    by_cases hc : zisC e.1 = false
    · rw [zrun_nx hc] at h
      split at h
      · next hn =>
        have h1 := znxt_mono hn
        have h2 := zrun_mono n d mi _ _ _ _ _ _ h
        omega
      · next hn =>
        have h1 := znxt_mono hn
        have h2 := zrun_mono n d mi _ _ _ _ _ _ h
        omega
      · cases h
    · have call : ∀ {m2 : Nat} {vs rest : List zMV}, zcall (zrun n) d mi m2 es L vs rest w = some (r, w1) → w.1.length ≤ w1.1.length ∧ zcs w ≤ zcs w1 := by
        intro m2 vs rest hm
        obtain ⟨d', v, w2, rfl, -, -, h1, h2⟩ := zcall_inv hm
        have h3 := zrun_mono n d' m2 _ _ _ _ _ _ h1
        have h4 := zrun_mono n (d' + 1) mi _ _ _ _ _ _ h2
        omega
      rcases zbody_C hc h with ⟨-, h2, -⟩ | ⟨-, -, -, h2⟩ | ⟨-, -, h2⟩
      · dsimp only at h2
        subst h2
        exact ⟨Nat.le_refl _, Nat.le_refl _⟩
      · exact call h2
      · exact call h2
end
section
/-! what the small machine computes, the JVM computes -/
theorem zsl_len (adr : Nat → Nat) (vs : List zMV) : (lg_sl (vs.map (ztr adr))).length = (zspread vs).length := by
  induction vs with
  | nil => rfl
  | cons v vs ih =>
    have e1 : lg_sl ((v :: vs).map (ztr adr)) = (if (ztr adr v).category = 2 then [.val (ztr adr v), .second] else [.val (ztr adr v)]) ++ lg_sl (vs.map (ztr adr)) := by simp [lg_sl]
    rw [e1, List.length_append, ih]
    match v with
    | .inl x => simp [ztr, Value.category, zspread]; omega
    | .inr (.inl x) => simp [ztr, Value.category, zspread]; omega
    | .inr (.inr (some k)) => simp [ztr, Value.category, zspread]; omega
    | .inr (.inr none) => simp [ztr, Value.category, zspread]; omega
theorem zargs_mem (adr : Nat → Nat) : ∀ (vs : List zMV) (i j : Nat) (v : zMV), (zspread vs)[j]? = some v → v ≠ zU → (i + j, ztr adr v) ∈ lv_args i (vs.map (ztr adr))
  | [], _, _, _, h, _ => by simp [zspread] at h
  | u :: vs, i, j, v, h, hv => by
    show _ ∈ (i, ztr adr u) :: lv_args (if (ztr adr u).category = 2 then i + 2 else i + 1) (vs.map (ztr adr))
    rw [zcat_tr]
    match u with
    | .inl x =>
      cases j with
      | zero => cases h; exact List.mem_cons_self
      | succ j =>
        have := zargs_mem adr vs (i + 1) j v h hv
        rw [show i + (j + 1) = i + 1 + j by omega]
        exact List.mem_cons_of_mem _ this
    | .inr (.inl x) =>
      match j with
      | 0 => cases h; exact List.mem_cons_self
      | 1 => cases h; exact absurd rfl hv
      | j + 2 =>
        have := zargs_mem adr vs (i + 2) j v h hv
        rw [show i + (j + 2) = i + 2 + j by omega]
        exact List.mem_cons_of_mem _ this
    | .inr (.inr (some k)) =>
      cases j with
      | zero => cases h; exact List.mem_cons_self
      | succ j =>
        have := zargs_mem adr vs (i + 1) j v h hv
        rw [show i + (j + 1) = i + 1 + j by omega]
        exact List.mem_cons_of_mem _ this
    | .inr (.inr none) =>
      cases j with
      | zero => cases h; exact List.mem_cons_self
      | succ j =>
        have := zargs_mem adr vs (i + 1) j v h hv
        rw [show i + (j + 1) = i + 1 + j by omega]
        exact List.mem_cons_of_mem _ this
theorem zlocs_len {vs : List zMV} {n : Nat} (h : (zspread vs).length ≤ n) : (zlocs vs n).length = n := by simp [zlocs]; omega
theorem zlocs_get {vs : List zMV} {n j : Nat} {v : zMV} (h : (zlocs vs n)[j]? = some v) (hv : v ≠ zU) : (zspread vs)[j]? = some v := by
  unfold zlocs at h
  by_cases hj : j < (zspread vs).length
  · rw [List.getElem?_append_left hj] at h; exact h
  · rw [List.getElem?_append_right (by omega), List.getElem?_replicate] at h
    split at h
    · cases h; exact absurd rfl hv
    · cases h
theorem zentry (adr : Nat → Nat) {vs : List zMV} {n : Nat} (h : (zspread vs).length ≤ n) : zlv adr ((lg_sl (vs.map (ztr adr)) ++ List.replicate (n - (lg_sl (vs.map (ztr adr))).length) Slot.unset).toArray) n (zlocs vs n) := by
  have he := lv_entry (vs.map (ztr adr)) (n := n) (by rw [zsl_len]; exact h)
  refine ⟨he.1, he.2.1, zlocs_len h, fun j v hj hv => ?_⟩
  have := zargs_mem adr vs 0 j v (zlocs_get hj hv) hv
  rw [Nat.zero_add] at this
  exact he.2.2 (j, ztr adr v) this
theorem zspread_ok {n : Nat} : ∀ {vs : List zMV}, (∀ v ∈ vs, zokv n v) → ∀ v ∈ zspread vs, zokv n v
  | [], _, _, h => by simp [zspread] at h
  | u :: vs, hu, v, h => by
    have ih := zspread_ok (vs := vs) (fun v hv => hu v (List.mem_cons_of_mem _ hv))
    have h0 := hu u List.mem_cons_self
    match u, h0, h with
    | .inl x, h0, h =>
      rcases List.mem_cons.mp (show v ∈ zI x :: zspread vs from h) with rfl | h
      · exact h0
      · exact ih v h
    | .inr (.inl x), h0, h =>
      rcases List.mem_cons.mp (show v ∈ zL x :: zU :: zspread vs from h) with rfl | h
      · exact h0
      · rcases List.mem_cons.mp h with rfl | h
        · exact trivial
        · exact ih v h
    | .inr (.inr (some k)), h0, h =>
      rcases List.mem_cons.mp (show v ∈ zR k :: zspread vs from h) with rfl | h
      · exact h0
      · exact ih v h
    | .inr (.inr none), h0, h =>
      rcases List.mem_cons.mp (show v ∈ zU :: zspread vs from h) with rfl | h
      · exact trivial
      · exact ih v h
theorem zlocs_ok {n k : Nat} {vs : List zMV} (h : ∀ v ∈ vs, zokv n v) : ∀ v ∈ zlocs vs k, zokv n v := by
  intro v hv
  rcases List.mem_append.mp hv with h1 | h1
  · exact zspread_ok h v h1
  · rw [(List.mem_replicate.mp h1).2]; exact trivial
/-- behind a call -/
theorem zcallW {p : Program} {l : Launch} {e : Env} {R : Room} {s : State} {m : MethodId} {args : Array Value} {below : List Frame} {meth : Method} {c : Code} {H H0 : Heap} {locs : List Loc} {cells slots mc ms : Nat} {Q : State → Prop} {pc : Nat} {ls : Array Slot} {st0 rest : List Value} {Qa : State → Outcome → State → Prop} {free A0 A1 : Nat → Prop}
    (hr : va_Run p l e R s m args below meth c H locs cells slots mc ms (F0 m pc ls st0) rest Qa free) (hS : va_S A0 H0 H locs) (hA : ∀ q, q < H.size → A1 q → A0 q) (hf : ∀ q, free q → A0 q) (hF : ∀ (st t : State) (v : Option Value), Qa st (.returned v) t → va_F A1 st t)
    (kk : ∀ (v : Option Value) (st t : State) (locs1 : List Loc), st.heap = H → Qa st (.returned v) t → va_S A0 H0 t.heap locs1 → W p l e R s m args below meth c t.heap locs1 (cells + mc) (slots + ms) Q (F0 m (pc + 3) ls (v.toList ++ rest))) : W p l e R s m args below meth c H locs cells slots Q (F0 m pc ls st0) := by
  intro T hT X
  obtain ⟨v, st₀, t, T', L, h0, X', hL, e1, e2, hq, st⟩ := hr T hT X
  obtain ⟨hz, hk⟩ := hF st₀ t v hq
  rw [h0] at hz hk
  obtain ⟨t2, a1, b1⟩ := kk v st₀ t (locs ++ L) h0 hq ⟨Nat.le_trans hS.1 hz, fun q h1 h2 => by rw [hk q (Nat.lt_of_lt_of_le h1 hS.1) (fun z => h2 (hA q (Nat.lt_of_lt_of_le h1 hS.1) z))]; exact hS.2.1 q h1 h2, fun q hq => by
      rcases List.mem_append.mp hq with h | h
      · exact hS.2.2 q h
      · exact hf _ (hL q h)⟩ T' e1 X'
  exact ⟨t2, st t2 a1, b1⟩
/-- what a method finds -/
def zPre (D : va_G) (cI cL cZ : ClassId) (t0 t1 n0 n1 : Nat) (f0 f1 : Int → Int) (adr : Nat → Nat) (w : zWd) (vs : List zMV) (sz : Nat) : Array Value → State → Prop := va_Pc (vs.map (ztr adr)) fun U =>
  U.heap.size = sz ∧ va_P D vwCl (zws adr cI cL cZ w) U.heap ∧ va_D (fun _ => True) (zws adr cI cL cZ w) ∧ va_K D vwCl [(cI, .int), (cL, .long)] U ∧ (∀ x ∈ zNW, va_Nw x U) ∧ va_T .int t0 n0 (fun j => .int (Int32.ofInt (f0 j))) (va_A (zws adr cI cL cZ w) sz) U U.heap ∧ va_T .int t1 n1 (fun j => .int (Int32.ofInt (f1 j))) (va_A (zws adr cI cL cZ w) sz) U U.heap ∧ True
/-- what it leaves -/
def zQc (D : va_G) (cI cL cZ : ClassId) (t0 t1 n0 n1 : Nat) (f0 f1 : Int → Int) (adr : Nat → Nat) (w : zWd) (r : Option zMV) (w1 : zWd) (sz : Nat) : Array Value → State → Outcome → State → Prop := fun _ st o t =>
  (∃ adr' : Nat → Nat, (∀ k, k < w.1.length → adr' k = adr k) ∧ o = .returned (r.map (ztr adr')) ∧ va_P D vwCl (zws adr' cI cL cZ w1) t.heap ∧ va_D (va_A (zws adr cI cL cZ w) sz) (zws adr' cI cL cZ w1) ∧ zInv n0 n1 f0 f1 w1 ∧ adr' 0 = t0 ∧ adr' 1 = t1 ∧ ∀ v, r = some v → zokv w1.1.length v) ∧ va_F (va_A (zws adr cI cL cZ w) sz) st t
theorem zPre_blind {D : va_G} {cI cL cZ : ClassId} {t0 t1 n0 n1 : Nat} {f0 f1 : Int → Int} {adr : Nat → Nat} {w : zWd} {vs : List zMV} {sz : Nat} : FrameBlind (zPre D cI cL cZ t0 t1 n0 n1 f0 f1 adr w vs sz) := by
  intro a U g mk h
  obtain ⟨h0, h1, h2, h3, h4, h5, h6, h7, h8⟩ := h
  exact ⟨h0, h1, h2, h3, va_K.moved (u := U) (U := U.calling g mk a) (Vm.Alike.refl U.vm) h4, zNW_same (u := U) (U := U.calling g mk a) rfl h5, va_T.moved (u := U) (U := U.calling g mk a) (Vm.Alike.refl U.vm) h6, va_T.moved (u := U) (U := U.calling g mk a) (Vm.Alike.refl U.vm) h7, h8⟩
theorem zvret {mi : Nat} {i : Instr} {st : List zMV} {r : Option zMV} (h : zrok (zmR mi) i st = some r) : (i = .return_ ∧ zmR mi = none ∧ st = [] ∧ r = none) ∨ (i = .ireturn ∧ zmR mi = some .int ∧ ∃ x, st = [zI x] ∧ r = some (zI x)) ∨ (i = .ireturn ∧ zmR mi = some .boolean ∧ ∃ x, (x = 0 ∨ x = 1) ∧ st = [zI x] ∧ r = some (zI x)) ∨ (i = .lreturn ∧ zmR mi = some .long ∧ ∃ x, st = [zL x] ∧ r = some (zL x)) := by
  unfold zrok at h
  split at h
  · next hr => cases h; exact Or.inl ⟨rfl, hr, rfl, rfl⟩
  · next x hr => cases h; exact Or.inr (Or.inl ⟨rfl, hr, x, rfl, rfl⟩)
  · next x hr =>
    split at h
    · next hx => cases h; exact Or.inr (Or.inr (Or.inl ⟨rfl, hr, x, hx, rfl, rfl⟩))
    · cases h
  · next x hr => cases h; exact Or.inr (Or.inr (Or.inr ⟨rfl, hr, x, rfl, rfl⟩))
  · cases h
theorem zokE_ret {mi pc len : Nat} {i : Instr} {e : zEnt} (h : zokE mi pc i len e = true) (he : e.1 = .return_ ∨ e.1 = .ireturn ∨ e.1 = .lreturn) : e.1 = i ∧ len = 1 := by
  cases i <;> first
    | (simp only [zokE, Bool.and_eq_true, decide_eq_true_eq] at h; obtain ⟨rfl, rfl⟩ := h; exact ⟨rfl, rfl⟩)
    | (exfalso; simp only [zokE, Bool.and_eq_true, decide_eq_true_eq] at h; obtain ⟨rfl, -⟩ := h; rcases he with he | he | he <;> cases he; done)
    | (exfalso; simp only [zokE, Bool.and_eq_true, decide_eq_true_eq] at h; obtain ⟨⟨rfl, -⟩, -⟩ := h; rcases he with he | he | he <;> cases he; done)
    | (exfalso; simp only [zokE, Bool.and_eq_true, Bool.or_eq_true, decide_eq_true_eq] at h; rcases he with he | he | he <;> simp [he] at h; done)
    | (exfalso; simp only [zokE] at h; cases h; done)
    | (exfalso; simp only [zokE] at h; rcases he with he | he | he <;> simp [he] at h; done)
theorem zokE_virt {mi pc len k : Nat} {i : Instr} {e : zEnt} (h : zokE mi pc i len e = true) (he : e.1 = .invokevirtual k) : len = 3 ∧ ∃ ix kd, ((i = .invokevirtual ix ∧ kd = 0) ∨ (i = .invokespecial ix ∧ kd = 2)) ∧ ∃ q ∈ zCT, q.1 = zmO mi ∧ q.2.1 = ix ∧ q.2.2.1 = e.2.1 ∧ q.2.2.2.1 = kd := by
  cases i with
  | invokevirtual ix =>
    simp only [zokE, Bool.and_eq_true, decide_eq_true_eq] at h
    obtain ⟨q, hq, hq2⟩ := zany3 h.2.2
    simp only [Bool.and_eq_true, beq_iff_eq] at hq2
    exact ⟨h.1, ix, 0, Or.inl ⟨rfl, rfl⟩, q, hq, hq2.1, hq2.2.1, hq2.2.2.1, hq2.2.2.2⟩
  | invokespecial ix =>
    simp only [zokE, Bool.and_eq_true, Bool.or_eq_true, decide_eq_true_eq] at h
    obtain ⟨rfl, ⟨h1, -⟩ | ⟨h1, h2⟩⟩ := h
    · rw [he] at h1; cases h1
    · obtain ⟨q, hq, hq2⟩ := zany3 h2
      simp only [Bool.and_eq_true, beq_iff_eq] at hq2
      exact ⟨rfl, ix, 2, Or.inr ⟨rfl, rfl⟩, q, hq, hq2.1, hq2.2.1, hq2.2.2.1, hq2.2.2.2⟩
  | _ =>
    exfalso
    first
      | (simp only [zokE, Bool.and_eq_true, Bool.or_eq_true, decide_eq_true_eq] at h; simp [he] at h; done)
      | (simp only [zokE, Bool.and_eq_true, decide_eq_true_eq] at h; obtain ⟨rfl, -⟩ := h; cases he; done)
      | (simp only [zokE, Bool.and_eq_true, decide_eq_true_eq] at h; obtain ⟨⟨rfl, -⟩, -⟩ := h; cases he; done)
      | (simp only [zokE] at h; cases h; done)
      | (simp only [zokE] at h; simp [he] at h; done)
theorem zokE_stat {mi pc len k : Nat} {i : Instr} {e : zEnt} (h : zokE mi pc i len e = true) (he : e.1 = .invokestatic k) : len = 3 ∧ ∃ ix, i = .invokestatic ix ∧ ∃ q ∈ zCT, q.1 = zmO mi ∧ q.2.1 = ix ∧ q.2.2.1 = e.2.1 ∧ q.2.2.2.1 = 1 := by
  cases i with
  | invokestatic ix =>
    simp only [zokE, Bool.and_eq_true, Bool.or_eq_true, decide_eq_true_eq] at h
    obtain ⟨rfl, ((((⟨h1, -⟩ | ⟨h1, -⟩) | ⟨h1, -⟩) | ⟨h1, -⟩) | ⟨h1, h2⟩)⟩ := h
    · rw [he] at h1; cases h1
    · rw [he] at h1; cases h1
    · rw [he] at h1; cases h1
    · rw [he] at h1; cases h1
    · obtain ⟨q, hq, hq2⟩ := zany3 h2
      simp only [Bool.and_eq_true, beq_iff_eq] at hq2
      exact ⟨rfl, ix, rfl, q, hq, hq2.1, hq2.2.1, hq2.2.2.1, hq2.2.2.2⟩
  | _ =>
    exfalso
    first
      | (simp only [zokE, Bool.and_eq_true, Bool.or_eq_true, decide_eq_true_eq] at h; simp [he] at h; done)
      | (simp only [zokE, Bool.and_eq_true, decide_eq_true_eq] at h; obtain ⟨rfl, -⟩ := h; cases he; done)
      | (simp only [zokE, Bool.and_eq_true, decide_eq_true_eq] at h; obtain ⟨⟨rfl, -⟩, -⟩ := h; cases he; done)
      | (simp only [zokE] at h; cases h; done)
      | (simp only [zokE] at h; simp [he] at h; done)
section ZW
variable {l : Launch}
/-- how a method ends -/
def zFin (p : Program) (l : Launch) (e : Env) (R : Room) (s : State) (m : MethodId) (args : Array Value) (below : List Frame) (meth : Method) (c : Code) (Q : State → Prop) (D : va_G) (cI cL cZ : ClassId) (A : Nat → Prop) (t0 t1 n0 n1 : Nat) (f0 f1 : Int → Int) (mi kc ks : Nat) (adr0 : Nat → Nat) (r : Option zMV) (w1 : zWd) : Prop :=
  ∀ (adr' : Nat → Nat) (H' : Heap) (locs' : List Loc) (ls' : Array Slot) (pc' : Nat) (i : Instr) (L' st' : List zMV), decode (zmC mi) pc' = .ok (i, 1) → zrok (zmR mi) i st' = some r → zAt D cI cL cZ A t0 t1 n0 n1 f0 f1 mi s.heap adr' H' locs' ls' L' st' w1 → (∀ k, k < kc → adr' k = adr0 k) →
    W p l e R s m args below meth c H' locs' (w1.1.length - kc) (zcs w1 - ks) Q (F0 m pc' ls' (st'.map (ztr adr')))
/-- a method at depth d, its result r and its world w1: from any state at es, on to its end -/
def zGood (l : Launch) (n : Nat) : Prop :=
  ∀ (d mi : Nat) (es : List zEnt) (pc : Nat) (L st : List zMV) (w : zWd) (r : Option zMV) (w1 : zWd), zrun n d mi es L st w = some (r, w1) → mi < zNM + 1 → zchk mi pc es = true →
  ∀ (p : Program) (e : Env) (R : Room) (s : State) (m : MethodId) (args : Array Value) (below : List Frame) (meth : Method) (c : Code) (Q : State → Prop) (D : va_G) (cI cL cZ : ClassId) (A : Nat → Prop) (t0 t1 n0 n1 : Nat) (f0 f1 : Int → Int) (kc ks : Nat) (adr0 adr : Nat → Nat) (H : Heap) (locs : List Loc) (ls : Array Slot),
    zCtx p s m args meth c D cI cL cZ A t0 t1 n0 n1 f0 f1 mi → zFin p l e R s m args below meth c Q D cI cL cZ A t0 t1 n0 n1 f0 f1 mi kc ks adr0 r w1 → zAt D cI cL cZ A t0 t1 n0 n1 f0 f1 mi s.heap adr H locs ls L st w → (∀ k, k < kc → adr k = adr0 k) → kc ≤ w.1.length → ks ≤ zcs w → w1.1.length - kc ≤ R.cells → zcs w1 - ks ≤ R.slots → d + 1 ≤ R.frames → 40 * (d + 1) ≤ R.locals →
    W p l e R s m args below meth c H locs (w.1.length - kc) (zcs w - ks) Q (F0 m pc ls (st.map (ztr adr)))
theorem zmet {n : Nat} (hG : zGood l n) (hM : ∀ mi, mi < zNM → zPm mi) (hAll : ∀ mi, mi < zNM + 1 → zall mi = true) (hSt : ∀ mi, mi < zNM + 1 → zstart mi 0 = some 0) {d mi : Nat} (hmi : mi < zNM) {vs : List zMV} {w w1 : zWd} {r : Option zMV} (hrun : zrun n d mi (zblk mi 0) (zlocs vs (zmL mi)) [] w = some (r, w1)) (hsp : (zspread vs).length ≤ zmL mi)
    (D : va_G) (cI cL cZ : ClassId) (t0 t1 n0 n1 : Nat) (f0 f1 : Int → Int) (adr : Nat → Nat) (hI : zInv n0 n1 f0 f1 w) (h0 : adr 0 = t0) (h1 : adr 1 = t1) (hvs : ∀ v ∈ vs, zokv w.1.length v) (sz : Nat) :
    Met l (zmN mi) (.code (zmN mi) (zmC mi) (zmL mi) (zmR mi) :: zTW) { frames := d + 1, cells := w1.1.length - w.1.length, slots := zcs w1 - zcs w, locals := 40 * (d + 1) } (zPre D cI cL cZ t0 t1 n0 n1 f0 f1 adr w vs sz) (zQc D cI cL cZ t0 t1 n0 n1 f0 f1 adr w r w1 sz) (w1.1.length - w.1.length) (zcs w1 - zcs w) (va_A (zws adr cI cL cZ w) sz) := by
  obtain ⟨g1, g2, g3, g4, g5, g6, g7, g8, g9, g10⟩ := hM mi hmi
  obtain ⟨k1, k2, k3, k4⟩ := zcn_ok _ g9 g10
  refine Met.ofW (cc := zmC mi) (maxL := zmL mi) (ret := zmR mi) (by rw [g6]; exact k3) rfl ?_
  intro p e s m args below meth c s₁ B hml hv
  obtain ⟨rfl, hsz, hP, hD0, hK, hnw, hT0, hT1, hZ⟩ := hv
  subst hsz
  have hts := atoms_spec (ws := .code (zmN mi) (zmC mi) (zmL mi) (zmR mi) :: zTW) B.pre
  have hown : s.vm.findClass (zmN mi).cls = some m.cls := findClass_of_methodNamed B.named
  have hnm : meth.name = (zmN mi).name := (name_of_methodNamed B.named B.method).1
  have hD := hD0.self (sz := s.heap.size)
  have hC : zCtx p s m _ meth c D cI cL cZ (va_A (zws adr cI cL cZ w) s.heap.size) t0 t1 n0 n1 f0 f1 mi :=
    ⟨B.exec, B.bytes, hml, by rw [← g6]; exact hown, fun w hw => hts w (List.mem_cons_of_mem _ hw), hnw, hK, B.notSynchronized, fun h => by rw [hnm]; exact g8 h, fun q h => Or.inr h, hT0, hT1, hZ⟩
  rw [lg_entry_eq]
  have hAt : zAt D cI cL cZ (va_A (zws adr cI cL cZ w) s.heap.size) t0 t1 n0 n1 f0 f1 mi s.heap adr s.heap [] ((lg_sl (vs.map (ztr adr)) ++ List.replicate (zmL mi - (lg_sl (vs.map (ztr adr))).length) Slot.unset).toArray) (zlocs vs (zmL mi)) [] w :=
    ⟨hP, hD, hI, h0, h1, va_S.rf, zentry adr hsp, zlocs_ok hvs, fun v hv => by cases hv⟩
  have fin : ∀ (adr' : Nat → Nat) (H' : Heap) (t : State), t.heap = H' → (∀ k, k < w.1.length → adr' k = adr k) → ∀ (locs' : List Loc) (ls' : Array Slot) (L' st' : List zMV), zAt D cI cL cZ (va_A (zws adr cI cL cZ w) s.heap.size) t0 t1 n0 n1 f0 f1 mi s.heap adr' H' locs' ls' L' st' w1 → (∀ v, r = some v → v ∈ st') → zQc D cI cL cZ t0 t1 n0 n1 f0 f1 adr w r w1 s.heap.size ((vs.map (ztr adr)).toArray) s (.returned (r.map (ztr adr'))) t := by
    intro adr' H' t ht hag locs' ls' L' st' hA' hr
    subst ht
    exact ⟨⟨adr', hag, rfl, hA'.1, hA'.2.1, hA'.2.2.1, hA'.2.2.2.1, hA'.2.2.2.2.1, fun v hv => hA'.2.2.2.2.2.2.2.2 v (hr v hv)⟩, hA'.2.2.2.2.2.1.F rfl⟩
  have hW := hG d mi (zblk mi 0) 0 _ _ w r w1 hrun (by omega) (zblk_chk (hAll mi (by omega)) (hSt mi (by omega))) p e { frames := d + 1, cells := w1.1.length - w.1.length, slots := zcs w1 - zcs w, locals := 40 * (d + 1) } s m ((vs.map (ztr adr)).toArray) below meth c (MQ below (zQc D cI cL cZ t0 t1 n0 n1 f0 f1 adr w r w1 s.heap.size) ((vs.map (ztr adr)).toArray) s (w1.1.length - w.1.length) (zcs w1 - zcs w) (va_A (zws adr cI cL cZ w) s.heap.size)) D cI cL cZ (va_A (zws adr cI cL cZ w) s.heap.size) t0 t1 n0 n1 f0 f1 w.1.length (zcs w) adr adr s.heap [] _ hC ?_ hAt (fun _ _ => rfl) (Nat.le_refl _) (Nat.le_refl _) (Nat.le_refl _) (Nat.le_refl _) (Nat.le_refl _) (Nat.le_refl _)
  · rw [Nat.sub_self, Nat.sub_self] at hW
    exact hW
  · intro adr' H' locs' ls' pc' i L' st' hdg hrok hA' hag
    have hlk := B.notSynchronized
    have hr := B.returns
    rcases zvret hrok with ⟨rfl, e1, rfl, rfl⟩ | ⟨rfl, e1, x, rfl, rfl⟩ | ⟨rfl, e1, x, hx, rfl, rfl⟩ | ⟨rfl, e1, x, rfl, rfl⟩
    · exact W.vret B.exec B.bytes (hr.trans e1) (fun t ht _ => fin adr' H' t ht hag _ _ _ _ hA' (fun v hv => by cases hv)) hA'.2.2.2.2.2.1.2.2 hdg hlk
    · exact W.iret B.exec B.bytes (hr.trans e1) (fun t ht _ => fin adr' H' t ht hag _ _ _ _ hA' (fun v hv => by cases hv; exact List.mem_cons_self)) hA'.2.2.2.2.2.1.2.2 hdg hlk
    · exact W.zret B.exec B.bytes (hr.trans e1) (by rcases hx with rfl | rfl <;> rfl) (fun t ht _ => fin adr' H' t ht hag _ _ _ _ hA' (fun v hv => by cases hv; exact List.mem_cons_self)) hA'.2.2.2.2.2.1.2.2 hdg hlk
    · exact W.lret B.exec B.bytes (hr.trans e1) (fun t ht _ => fin adr' H' t ht hag _ _ _ _ hA' (fun v hv => by cases hv; exact List.mem_cons_self)) hA'.2.2.2.2.2.1.2.2 hdg hlk
end ZW
end
section
/-! the induction -/
theorem zgoodIn {ws : List Cond} {w : Cond} (h : w ∈ zTW) (hw : ws = w :: zTW) : GoodIn zTW ws := by
  intro x hx
  rw [hw] at hx
  have hz : x ∈ zTW := (List.mem_cons.mp hx).elim (fun e => by rw [e]; exact h) id
  exact ⟨hz, good_of_word (List.mem_filter.mp hz).2⟩
theorem zTW_code {y : MethodName} {b : ByteArray} {n k : Nat} {r : Option FieldType} (h : lw_tbl[k]? = some (.code y b n r)) : Cond.code y b n r ∈ zTW := zTW_lw h rfl
section ZW
variable {l : Launch}
theorem zgood (hM : ∀ mi, mi < zNM → zPm mi) (hQ : ∀ q ∈ zCT, zPc q) (hAll : ∀ mi, mi < zNM + 1 → zall mi = true) (hSt : ∀ mi, mi < zNM + 1 → zstart mi 0 = some 0) : ∀ n, zGood l n := by
  intro n
  induction n with
  | zero =>
    intro d mi es pc L st w r w1 hrun
    cases hrun
  | succ n ih =>
    intro d mi es pc L st w r w1 hrun hmi hchk p e R s m args below meth c Q D cI cL cZ A t0 t1 n0 n1 f0 f1 kc ks adr0 adr H locs ls hC hFin hA hag hkc hks hRc hRs hRf hRl
    match es, hrun, hchk with
    | [], hrun, _ => cases hrun
    | en :: es, hrun, hchk =>
      rw [zrun_eq] at hrun
      have hall := hAll mi hmi
      by_cases hgw : en.1 = .goto_w 0
      · rw [zrun_nx (by rw [hgw]; rfl)] at hrun
        have hn : znxt en L st w = some (some en.2.1, L, st, w) := by simp only [znxt, hgw]
        rw [hn] at hrun
        simp only [zchk, if_pos hgw, Bool.and_eq_true, beq_iff_eq] at hchk
        exact ih d mi _ pc L st w r w1 hrun hmi (zblk_chk hall hchk.1) p e R s m args below meth c Q D cI cL cZ A t0 t1 n0 n1 f0 f1 kc ks adr0 adr H locs ls hC hFin hA hag hkc hks hRc hRs hRf hRl
      · simp only [zchk, if_neg hgw] at hchk
        split at hchk
        · next i len hdg =>
          simp only [Bool.and_eq_true] at hchk
          obtain ⟨hok, hchk⟩ := hchk
          by_cases hc : zisC en.1 = false
          · rw [zrun_nx hc] at hrun
            have go : ∀ (tgt : Option Nat) (L' st' : List zMV) (w' : zWd) (es' : List zEnt), znxt en L st w = some (tgt, L', st', w') → zrun n d mi es' L' st' w' = some (r, w1) → (∀ pc', (match tgt with
                | none => pc' = pc + len
                | some b => zstart mi b = some pc') → zchk mi pc' es' = true) → W p l e R s m args below meth c H locs (w.1.length - kc) (zcs w - ks) Q (F0 m pc ls (st.map (ztr adr))) := by
              intro tgt L' st' w' es' hn hr hch
              have m1 := zrun_mono n d mi es' L' st' w' r w1 hr
              have m0 := znxt_mono hn
              refine zstep hC i pc len en L st w tgt L' st' w' adr H locs ls hdg hok hn hA hkc hks (by omega) (by omega) (by omega) (by omega) ?_
              intro adr' H' locs' ls' pc' hag' hpc hA'
              exact ih d mi es' pc' L' st' w' r w1 hr hmi (hch pc' (by cases tgt <;> exact hpc)) p e R s m args below meth c Q D cI cL cZ A t0 t1 n0 n1 f0 f1 kc ks adr0 adr' H' locs' ls' hC hFin hA' (fun k hk => (hag' k (by omega)).trans (hag k hk)) (by omega) (by omega) hRc hRs hRf hRl
            split at hrun
            · next L' st' w' hn => exact go none L' st' w' es hn hrun (fun pc' h => by rw [h]; exact hchk)
            · next b L' st' w' hn => exact go (some b) L' st' w' _ hn hrun (fun pc' h => zblk_chk hall h)
            · cases hrun
          · -- behind a call
            have hS := hA.2.2.2.2.2.1
            have hI := hA.2.2.1
            obtain ⟨hx, hb, hml, hown, hts, hnw, hK, hlk, hin, hA0, hT0, hT1, hZ⟩ := id hC
            have hfree : ∀ q, va_A (zws adr cI cL cZ w) H.size q → A q := by
              intro q hq
              rcases hq with ⟨k, e1, hk⟩ | hq
              · exact hA.2.1.2 k _ hk
              · exact hA0 q (Nat.le_trans hS.1 hq)
            have cont : ∀ (d' m2 : Nat) (vs rest : List zMV) (v : Option zMV) (w2 : zWd) (aa : Array Value), d = d' + 1 → zrun n d' m2 (zblk m2 0) (zlocs vs (zmL m2)) [] w = some (v, w2) → zrun n (d' + 1) mi es L (v.toList ++ rest) w2 = some (r, w1) → len = 3 → (∀ u ∈ rest, u ∈ st) →
                va_Run p l e R s m args below meth c H locs (w.1.length - kc) (zcs w - ks) (w2.1.length - w.1.length) (zcs w2 - zcs w) (F0 m pc ls (st.map (ztr adr))) (rest.map (ztr adr)) (zQc D cI cL cZ t0 t1 n0 n1 f0 f1 adr w v w2 H.size aa) (va_A (zws adr cI cL cZ w) H.size) →
                W p l e R s m args below meth c H locs (w.1.length - kc) (zcs w - ks) Q (F0 m pc ls (st.map (ztr adr))) := by
              intro d' m2 vs rest v w2 aa hd h1 h2 hlen hrest hr
              subst hd
              subst hlen
              have m1 := zrun_mono _ _ _ _ _ _ _ _ _ h1
              have m2' := zrun_mono _ _ _ _ _ _ _ _ _ h2
              refine zcallW (A0 := A) (H0 := s.heap) (A1 := va_A (zws adr cI cL cZ w) H.size) hr hS (fun q _ h => hfree q h) hfree (fun st t v h => h.2) fun v' st9 t locs1 hst hq hS1 => ?_
              obtain ⟨⟨adr', hag', ho, hP1, hD1, hI1, a0, a1, hvok⟩, -⟩ := hq
              have hv' : v' = v.map (ztr adr') := Outcome.returned.inj ho
              subst hv'
              refine W.cs (cells' := w2.1.length - kc) (slots' := zcs w2 - ks) (by omega) (by omega) ?_
              have hrestok : ∀ u ∈ rest, zokv w.1.length u := fun u hu => hA.2.2.2.2.2.2.2.2 u (hrest u hu)
              have est : (v.map (ztr adr')).toList ++ rest.map (ztr adr) = (v.toList ++ rest).map (ztr adr') := by
                rw [List.map_append, zmap_agree hag' hrestok]
                congr 1
                cases v <;> rfl
              rw [est]
              refine ih (d' + 1) mi es (pc + 3) L _ w2 r w1 h2 hmi hchk p e R s m args below meth c Q D cI cL cZ A t0 t1 n0 n1 f0 f1 kc ks adr0 adr' t.heap locs1 ls hC hFin ⟨hP1, hD1.weaken (fun k q _ h => hfree q.1 h), hI1, a0, a1, hS1, zlv_agree hA.2.2.2.2.2.2.1 hag' hA.2.2.2.2.2.2.2.1, fun u hu => zokv_mono m1.1 (hA.2.2.2.2.2.2.2.1 u hu), fun u hu => ?_⟩ (fun k hk => (hag' k (by omega)).trans (hag k hk)) (by omega) (by omega) hRc hRs hRf hRl
              rcases List.mem_append.mp hu with hu | hu
              · cases v with
                | none => cases hu
                | some v0 =>
                  have : u = v0 := by simpa using hu
                  rw [this]; exact hvok v0 rfl
              · exact zokv_mono m1.1 (hrestok u hu)
            have pre : ∀ (vs : List zMV) (U : State), U.heap = H → s.WarmedH U.vm → zPre D cI cL cZ t0 t1 n0 n1 f0 f1 adr w vs H.size ((vs.map (ztr adr)).toArray) U := by
              intro vs U hU hW
              have tk : ∀ {t N : Nat} {f : Nat → Value}, va_T .int t N f A s s.heap → va_T .int t N f (va_A (zws adr cI cL cZ w) H.size) U U.heap := fun h => by
                rw [hU]
                exact va_T.moved hW.alike ((h.kept hS.2.1).narrow hfree)
              refine ⟨rfl, by rw [hU], by rw [hU]; exact hA.1, hA.2.1.weaken (fun _ _ _ _ => trivial), va_K.moved hW.alike hK, zNW_warm hW hnw, tk hT0, tk hT1, ?_⟩
              exact trivial
            have stok := hA.2.2.2.2.2.2.2.2
            rcases zbody_C hc hrun with ⟨he, h2, h3⟩ | ⟨⟨k0, he⟩, hl, hrv, h2⟩ | ⟨⟨k0, he⟩, hl, h2⟩
            · dsimp only at h2 h3
              subst h2
              obtain ⟨e1, rfl⟩ := zokE_ret hok he
              rw [e1] at h3
              exact hFin adr H locs ls pc i L st hdg h3 hA hag
            · obtain ⟨rfl, ix, kd, hik, q, hq, q1, q2, q3, q4⟩ := zokE_virt hok he
              obtain ⟨d', v, w2, hd, hc8, hsp, h4, h5⟩ := zcall_inv h2
              obtain ⟨hm2, hlink, hk0, -, hk2⟩ := hQ q hq
              rw [q3] at hm2 hlink hk0 hk2
              rw [q1, q2] at hlink
              obtain ⟨g1, g2, g3, g4, g5, g6, g7, g8, g9, g10⟩ := hM en.2.1 hm2
              obtain ⟨z1, z2, z3, z4⟩ := zcn_ok _ g9 g10
              have m1 := zrun_mono _ _ _ _ _ _ _ _ _ h4
              have m2' := zrun_mono _ _ _ _ _ _ _ _ _ h5
              generalize hvs : (st.take (zmA en.2.1 + 1)).reverse = vs at hrv hsp h4 h2
              generalize hrs : st.drop (zmA en.2.1 + 1) = rest at hc8 h5 h2
              have hst : st = vs.reverse ++ rest := by rw [← hvs, ← hrs, List.reverse_reverse, List.take_append_drop]
              have hvl : vs.length = zmA en.2.1 + 1 := by rw [← hvs, List.length_reverse]; exact hl
              obtain ⟨k, ps, rfl⟩ : ∃ k ps, vs = zR k :: ps := by
                unfold zrecv at hrv
                split at hrv
                · next k ps => exact ⟨k, ps, rfl⟩
                · cases hrv
              have hpl : ps.length = zmA en.2.1 := by simpa using hvl
              have hvok : ∀ u ∈ (zR k :: ps), zokv w.1.length u := fun u hu => stok u (by rw [hst]; exact List.mem_append_left _ (List.mem_reverse.mpr hu))
              have hrok : ∀ u ∈ rest, u ∈ st := fun u hu => by rw [hst]; exact List.mem_append_right _ hu
              have hmet := zmet ih hM hAll hSt hm2 h4 hsp D cI cL cZ t0 t1 n0 n1 f0 f1 adr hI hA.2.2.2.1 hA.2.2.2.2.1 hvok H.size
              have hcode := zTW_code g1
              have hini : (Cond.initialized (zmN en.2.1).cls).before args s = true := hts _ (zTW_lw g2 rfl)
              have hd3 : (zmN en.2.1).cls ≠ "java/lang/invoke/MethodHandle" ∧ (zmN en.2.1).cls ≠ "java/lang/invoke/VarHandle" ∧ (parseMethodDescriptor (zmN en.2.1).desc).map (fun d => d.parameters.length) = some (zmA en.2.1) := by
                rw [g6]; exact ⟨z1, z2, g5⟩
              have hroom : d' + 1 + 1 ≤ R.frames ∧ 8 + (zmL en.2.1 + 11) + 40 * (d' + 1) ≤ R.locals := by omega
              have hstk : st.map (ztr adr) = (ps.map (ztr adr)).reverse ++ Value.ref (adr k) :: rest.map (ztr adr) := by
                rw [hst]
                simp [ztr]
              have hcat : 2 * (F0 m pc ls (st.map (ztr adr))).monitorRoom + ((rest.map (ztr adr)).map fun v => v.category).sum ≤ 8 := lv_room (by rw [zcats_tr]; exact hc8)
              refine cont d' en.2.1 (zR k :: ps) rest v w2 (Value.ref (adr k) :: ps.map (ztr adr)).toArray hd h4 h5 rfl hrok ?_
              rcases hik with ⟨rfl, rfl⟩ | ⟨rfl, rfl⟩
              · obtain ⟨hnest, hvk, hns⟩ := hk0 q4
                rw [if_pos hnest] at hlink
                rw [hns] at g4
                obtain ⟨hsel, ho12⟩ := g3 hvk
                have hcb := callB_of (R := R) (s := s) (args := args) (rm := { frames := d' + 1, cells := w2.1.length - w.1.length, slots := zcs w2 - zcs w, locals := 40 * (d' + 1) }) (zmA en.2.1) hts (zgoodIn hcode rfl) rfl rfl rfl hini (hts _ (zTW_of (List.mem_of_getElem? hlink) rfl)) hd3 hroom
                have hrcv : ∃ cell : Cell, H[adr k]? = some cell ∧ cell.vm.isStatics = false ∧ s.vm.findClass (zmN en.2.1).cls = some cell.cls := by
                  unfold zrecv at hrv
                  dsimp only at hrv
                  split at hrv
                  · next kd n9 hk =>
                    simp only [Bool.and_eq_true, decide_eq_true_eq] at hrv
                    obtain ⟨rfl, h2k⟩ := hrv
                    have he9 := zws_at (adr := adr) (cI := cI) (cL := cL) (cZ := cZ) h2k hk
                    rw [show zent adr cI cL cZ (w.2 k) (3 + zmO en.2.1, n9) = .inr (zmO en.2.1, (List.range (znf (zmO en.2.1))).map (zfv adr (w.2 k) (zmO en.2.1) n9.2)) from zent_obj ..] at he9
                    have := va_recv hK hA.1 (zcl_at _ ho12).1 he9
                    rw [z4 ho12, ← g6] at this
                    exact this
                  · cases hrv
                exact va_runV (C := (zmN en.2.1).cls) (As := ps.map (ztr adr)) (nL := zmL mi) ⟨hx, hb, hml, hown, hts⟩ hmet ⟨hcb, hts _ (zTW_lw g4 rfl), hts _ (zTW_lw hsel rfl)⟩ ⟨zPre_blind, hrcv, fun U hU hW => pre (zR k :: ps) U hU hW⟩ rfl (by rw [List.length_map]; exact hpl) hA.2.2.2.2.2.2.1.1 hstk hcat hdg (by omega)
              · obtain ⟨hns, hret, hini2⟩ := hk2 q4
                rw [hns] at g4
                rw [hret] at hmet hcode
                have hins : (Cond.instanceMethod (zmN en.2.1)).before args s = true := hts _ (zTW_lw g4 rfl)
                by_cases hnest : q.2.2.2.2.1 = 0
                · rw [if_pos hnest] at hlink
                  have hcb := callB_of (R := R) (s := s) (args := args) (rm := { frames := d' + 1, cells := w2.1.length - w.1.length, slots := zcs w2 - zcs w, locals := 40 * (d' + 1) }) (zmA en.2.1) hts (zgoodIn hcode rfl) rfl rfl rfl hini (hts _ (zTW_of (List.mem_of_getElem? hlink) rfl)) hd3 hroom
                  exact va_runI (As := ps.map (ztr adr)) (nL := zmL mi) ⟨hx, hb, hml, hown, hts⟩ hmet ⟨hcb, g8 hini2, hins⟩ ⟨zPre_blind, fun U hU hW => pre (zR k :: ps) U hU hW⟩ rfl (by rw [List.length_map]; exact hpl) hA.2.2.2.2.2.2.1.1 hstk hcat hdg (by omega)
                · rw [if_neg hnest] at hlink
                  have hcn := va_cnB (R := R) (s := s) (args := args) (rm := { frames := d' + 1, cells := w2.1.length - w.1.length, slots := zcs w2 - zcs w, locals := 40 * (d' + 1) }) (zmA en.2.1) hts (zgoodIn hcode rfl) rfl rfl rfl (hnw _ (List.mem_filter.mpr ⟨List.mem_of_getElem? hlink, rfl⟩)) hini hd3 hroom
                  exact va_runIN (As := ps.map (ztr adr)) (nL := zmL mi) ⟨hx, hb, hml, hown, hts⟩ hmet ⟨hcn, g8 hini2, hins⟩ ⟨zPre_blind, fun U hU hW => pre (zR k :: ps) U hU hW⟩ rfl (by rw [List.length_map]; exact hpl) hA.2.2.2.2.2.2.1.1 hstk hcat hdg (by omega)
            · obtain ⟨rfl, ix, rfl, q, hq, q1, q2, q3, q4⟩ := zokE_stat hok he
              obtain ⟨d', v, w2, hd, hc8, hsp, h4, h5⟩ := zcall_inv h2
              obtain ⟨hm2, hlink, -, hk1, -⟩ := hQ q hq
              rw [q3] at hm2 hlink hk1
              rw [q1, q2] at hlink
              obtain ⟨g1, g2, g3, g4, g5, g6, g7, g8, g9, g10⟩ := hM en.2.1 hm2
              obtain ⟨z1, z2, z3, z4⟩ := zcn_ok _ g9 g10
              have m1 := zrun_mono _ _ _ _ _ _ _ _ _ h4
              have m2' := zrun_mono _ _ _ _ _ _ _ _ _ h5
              generalize hvs : (st.take (zmA en.2.1)).reverse = vs at hsp h4 h2
              generalize hrs : st.drop (zmA en.2.1) = rest at hc8 h5 h2
              have hst : st = vs.reverse ++ rest := by rw [← hvs, ← hrs, List.reverse_reverse, List.take_append_drop]
              have hvl : vs.length = zmA en.2.1 := by rw [← hvs, List.length_reverse]; exact hl
              have hvok : ∀ u ∈ vs, zokv w.1.length u := fun u hu => stok u (by rw [hst]; exact List.mem_append_left _ (List.mem_reverse.mpr hu))
              have hrok : ∀ u ∈ rest, u ∈ st := fun u hu => by rw [hst]; exact List.mem_append_right _ hu
              have hmet := zmet ih hM hAll hSt hm2 h4 hsp D cI cL cZ t0 t1 n0 n1 f0 f1 adr hI hA.2.2.2.1 hA.2.2.2.2.1 hvok H.size
              have hcode := zTW_code g1
              have hini : (Cond.initialized (zmN en.2.1).cls).before args s = true := hts _ (zTW_lw g2 rfl)
              have hd3 : (zmN en.2.1).cls ≠ "java/lang/invoke/MethodHandle" ∧ (zmN en.2.1).cls ≠ "java/lang/invoke/VarHandle" ∧ (parseMethodDescriptor (zmN en.2.1).desc).map (fun d => d.parameters.length) = some (zmA en.2.1) := by
                rw [g6]; exact ⟨z1, z2, g5⟩
              have hroom : d' + 1 + 1 ≤ R.frames ∧ 8 + (zmL en.2.1 + 11) + 40 * (d' + 1) ≤ R.locals := by omega
              have hstk : st.map (ztr adr) = (vs.map (ztr adr)).reverse ++ rest.map (ztr adr) := by
                rw [hst]
                simp
              have hcat : 2 * (F0 m pc ls (st.map (ztr adr))).monitorRoom + ((rest.map (ztr adr)).map fun v => v.category).sum ≤ 8 := lv_room (by rw [zcats_tr]; exact hc8)
              rw [hk1 q4] at g4
              have hstt : (Cond.static (zmN en.2.1)).before args s = true := hts _ (zTW_lw g4 rfl)
              refine cont d' en.2.1 vs rest v w2 (vs.map (ztr adr)).toArray hd h4 h5 rfl hrok ?_
              by_cases hnest : q.2.2.2.2.1 = 0
              · rw [if_pos hnest] at hlink
                have hcb := callB_of (R := R) (s := s) (args := args) (rm := { frames := d' + 1, cells := w2.1.length - w.1.length, slots := zcs w2 - zcs w, locals := 40 * (d' + 1) }) (zmA en.2.1) hts (zgoodIn hcode rfl) rfl rfl rfl hini (hts _ (zTW_of (List.mem_of_getElem? hlink) rfl)) hd3 hroom
                exact va_runS (As := vs.map (ztr adr)) (nL := zmL mi) ⟨hx, hb, hml, hown, hts⟩ hmet ⟨hcb, hstt⟩ ⟨zPre_blind, fun U hU hW => pre vs U hU hW⟩ rfl (by rw [List.length_map]; exact hvl) hA.2.2.2.2.2.2.1.1 hstk hcat hdg (by omega)
              · rw [if_neg hnest] at hlink
                have hcn := va_cnB (R := R) (s := s) (args := args) (rm := { frames := d' + 1, cells := w2.1.length - w.1.length, slots := zcs w2 - zcs w, locals := 40 * (d' + 1) }) (zmA en.2.1) hts (zgoodIn hcode rfl) rfl rfl rfl (hnw _ (List.mem_filter.mpr ⟨List.mem_of_getElem? hlink, rfl⟩)) hini hd3 hroom
                exact va_runSN (As := vs.map (ztr adr)) (nL := zmL mi) ⟨hx, hb, hml, hown, hts⟩ hmet ⟨hcn, hstt, trivial⟩ ⟨zPre_blind, fun U hU hW => pre vs U hU hW⟩ rfl (by rw [List.length_map]; exact hvl) hA.2.2.2.2.2.2.1.1 hstk hcat hdg (by omega)
        · cases hchk
end ZW
end
section
/-! THE CLAIM OUT OF ONE WALK OF THE LAW'S BODY. Your part is whole_start (and what it stands on); all else here is the same for every law, but numbers. -/
def R_law : String := "ForceNetLaw"
def lw_P (b : Addr) (xs : List Int32) (args : Array Value) (s : State) : Prop := args = #[.ref b] ∧ s.IntsAt b xs ∧ xs.length ≤ 260 ∧ (Jvm.Cond.and given_1 narrow_1).before args s = true
def lw_Q (_ : Array Value) (s : State) (o : Outcome) (t : State) : Prop := o = .returned (some (.int 1)) ∧ Framed s o t [] 600000 7302250
def lw_Z (below : List Frame) (a : Array Value) (s : State) : State → Prop := fun t => ∃ o, t.status = .running ∧ Ended t below o ∧ lw_Q a s o t
/-- the law's own end, with 1 on the stack, nothing written that was there before, its room as the claim has it -/
theorem lw_ret {p : Program} {l : Launch} {e : Env} {s : State} {m : MethodId} {below : List Frame} {meth : Method} {c : Code} {b : Nat} (hx : p.tables.exec = Jvm.exec) (hb : c.code = code) (hr : meth.sig.returnType = ret) (hlocks : meth.locks = false) {pc : Nat} {H : Heap} {ls : Array Slot} (hdg : decode code pc = .ok (.ireturn, 1)) : W p l e room_1 s m #[Value.ref b] below meth c H [] 600000 7302250 (lw_Z below #[Value.ref b] s) (F0 m pc ls [.int 1]) := by
  intro T hT X
  obtain ⟨fs, hret, hrun, hended, hW, hframe⟩ := X.leave (v := some (.int 1)) (hlocks := hlocks) (fun h => by rw [hr] at h; cases h)
  have hmeth' : T.vm.method? m = some meth := X.method'
  refine ⟨T.setFrames fs, ?_, .returned (some (.int 1)), hrun, hended, rfl, ⟨_, rfl⟩, hW, hframe⟩
  jvm_step X.here [X.here.top, hx, hb, hdg, hmeth', hr, ret, narrow_b1]
  (try refine ⟨rfl, ?_⟩); (try refine ⟨rfl, ?_⟩)
  first | (intro acts; rw [hret _ acts rfl rfl rfl]) | rw [hret _ _ rfl rfl rfl]
  exact Steps.refl _
/-- what holds at the law's entry: the machine, the code, the tables' words (any of lw_tbl by 'hts w (by decide +kernel)'), the script of L ints xs at the cell b, what the Statement gives of the start (any of its parts by flat_of_before) -/
def lw_At (p : Program) (s : State) (m : MethodId) (meth : Method) (c : Code) (b L : Nat) (xs : Nat → Int32) : Prop :=
  p.tables.exec = Jvm.exec ∧ c.code = code ∧ meth.sig.returnType = ret ∧ c.maxLocals = 16 ∧ s.vm.findClass R_law = some m.cls ∧ (∀ w ∈ lw_tbl, w.before #[Value.ref b] s = true) ∧ va_X b L xs s s.heap ∧ b < s.heap.size ∧ meth.locks = false ∧ (Jvm.Cond.and given_1 narrow_1).before #[Value.ref b] s = true
/-! the law's start in the small machine: cell 0 the script, cell 1 the script too -/
def zf0 (L : Nat) (xs : Nat → Int32) : Int → Int := fun i => (xs i.toNat).toInt
def zM0 (L : Nat) (xs : Nat → Int32) : Nat → Int → Int := fun k => if k = 0 then zf0 L xs else if k = 1 then zf0 L xs else fun _ => 0
def zw0 (L : Nat) (xs : Nat → Int32) : zWd := ([(0, L, []), (0, L, [])], zM0 L xs)
theorem zw0_inv {L : Nat} {xs : Nat → Int32} (hL : L ≤ 260) : zInv L L (zf0 L xs) (zf0 L xs) (zw0 L xs) := by
  refine ⟨rfl, rfl, rfl, rfl, fun k sh hk => ?_⟩
  match k, hk with
  | 0, hk =>
    cases hk
    refine ⟨by show 0 < 15; omega, by show L < _; omega, fun j r h => (by cases h), fun h => (by have : 3 ≤ 0 := h; omega), fun i => ?_⟩
    simp only [zsr]
    rw [if_neg (by omega)]
    exact zin32_toInt _
  | 1, hk =>
    cases hk
    refine ⟨by show 0 < 15; omega, by show L < _; omega, fun j r h => (by cases h), fun h => (by have : 3 ≤ 0 := h; omega), fun i => ?_⟩
    simp only [zsr]
    rw [if_neg (by omega)]
    exact zin32_toInt _
  | k + 2, hk => cases hk
theorem zlaw_tab : zmC 118 = code ∧ zmL 118 = 16 ∧ zmR 118 = some .boolean ∧ zcn (zmO 118) = R_law ∧ zmI 118 = false := ⟨rfl, rfl, rfl, rfl, rfl⟩
theorem zarrT {args : Array Value} {s : State} {ty : FieldType} (h : (Cond.arrayClass ty).before args s = true) : ∃ cA, s.vm.findClass ("[" ++ ty.toString) = some cA ∧ ArrOfT s cA ty := by
  obtain ⟨cA, kA, comp, h1, h2, h3⟩ := Cond.arrayClass_spec h
  exact ⟨cA, h1, fun n z => ⟨fun k h => (by cases h), kA, h2, comp, h3⟩⟩
theorem zlaw_start (hM : ∀ mi, mi < zNM → zPm mi) (hQ : ∀ q ∈ zCT, zPc q) (hAll : ∀ mi, mi < zNM + 1 → zall mi = true) (hSt : ∀ mi, mi < zNM + 1 → zstart mi 0 = some 0)
    {p : Program} {e : Env} {s : State} {m : MethodId} {below : List Frame} {meth : Method} {c : Code} (l : Launch) {b L : Nat} {xs : Nat → Int32} (hL : L ≤ 260) (C0 : lw_At p s m meth c b L xs)
    (hrun : ∃ (n d : Nat) (w1 : zWd), zrun n d 118 (zblk 118 0) [zR 0, zU, zU, zU, zU, zU, zU, zU, zU, zU, zU, zU, zU, zU, zU, zU] [] (zw0 L xs) = some (some (zI 1), w1) ∧ d ≤ 2000 ∧ w1.1.length ≤ 600000 ∧ zcs w1 ≤ 7300000) : W p l e room_1 s m #[Value.ref b] below meth c s.heap [] 0 0 (lw_Z below #[Value.ref b] s) (entryFrame m ([Value.ref b] : List Value).toArray 16) := by
  obtain ⟨n, d, w1, hr, hd, hlen, hcs⟩ := hrun
  obtain ⟨hx, hb, hrt, hml, hown, hts, hX, hbl, hlocks, hgv⟩ := id C0
  obtain ⟨T1, T2, T3, T4, T5⟩ := zlaw_tab
  have hmemT : ∀ {w : Cond}, w ∈ zTW → w ∈ lw_tbl := fun h => (List.mem_filter.mp h).1
  have htsT : ∀ w ∈ zTW, w.before #[Value.ref b] s = true := fun w h => hts w (hmemT h)
  have hnw : ∀ x ∈ zNW, va_Nw x s := by
    intro x hx2
    have h1 := hts x (List.mem_append_right _ (List.mem_filter.mp hx2).1)
    obtain ⟨a, i, y, h, rfl⟩ := zNW_nest hx2
    exact va_Nw.of rfl h1
  -- the classes
  have hkn : ∀ ci, ∃ (cC : ClassId) (iS : Nat → Nat), ci < 11 → u_Kn s (zcl ci).1 (zcl ci).2.1 (znf ci) cC iS := by
    intro ci
    by_cases h : ci < 11
    · have hi : ∃ q ∈ zNT, q.2.2.1 = ci := by
        have : ci = 0 ∨ ci = 1 ∨ ci = 2 ∨ ci = 3 ∨ ci = 4 ∨ ci = 5 ∨ ci = 6 ∨ ci = 7 ∨ ci = 8 ∨ ci = 9 ∨ ci = 10 := by omega
        rcases this with rfl | rfl | rfl | rfl | rfl | rfl | rfl | rfl | rfl | rfl | rfl <;> decide
      obtain ⟨q, hq, hq2⟩ := hi
      obtain ⟨-, -, h3, -⟩ := zNT_ok q hq
      rw [hq2] at h3
      obtain ⟨cC, iS, hK⟩ := u_known htsT (zcl_in h) (htsT _ (zTW_of (List.mem_of_getElem? h3) rfl))
      exact ⟨cC, iS, fun _ => hK⟩
    · exact ⟨0, fun _ => 0, fun z => absurd z h⟩
  obtain ⟨dC, hdC⟩ := Classical.axiomOfChoice hkn
  obtain ⟨dI, hdI⟩ := Classical.axiomOfChoice hdC
  obtain ⟨cI, hI1, hI2⟩ := zarrT (htsT _ zarr_in.1)
  obtain ⟨cL, hL1, hL2⟩ := zarrT (htsT _ zarr_in.2)
  have hK : va_K (dC, dI) vwCl [(cI, .int), (cL, .long)] s := by
    refine ⟨fun ci q hq => ?_, fun k q hk => ?_⟩
    · have hci : ci < 11 := (List.getElem?_eq_some_iff.mp hq).1
      have h1 := zcl_at ci hci
      cases h1.1.symm.trans hq
      have h2 := hdI ci hci
      rw [← h1.2] at h2
      exact h2
    · match k, hk with
      | 0, hk => cases hk; exact ⟨hI2, hI1⟩
      | 1, hk => cases hk; exact ⟨hL2, hL1⟩
      | k + 2, hk => cases hk
  -- the two old rows
  have hAold : ∀ a : Nat, a < s.heap.size → ¬ (fun q : Nat => s.heap.size ≤ q) a := fun a h => Nat.not_le.mpr h
  have hT0 : va_T .int b L (fun j => .int (Int32.ofInt (zf0 L xs j))) (fun q : Nat => s.heap.size ≤ q) s s.heap := by
    obtain ⟨scr, h1, h2, h3, h4, h5⟩ := hX
    refine ⟨scr, h1, h2, h3, by omega, by rw [h4], fun j hj => ?_, hAold b hbl⟩
    rw [h5 j hj]
    show _ = some (Value.int (Int32.ofInt (xs (j : Int).toNat).toInt))
    rw [Int.toNat_natCast, Int32.ofInt_toInt]
  have hC : zCtx p s m #[Value.ref b] meth c (dC, dI) cI cL cI (fun q : Nat => s.heap.size ≤ q) b b L L (zf0 L xs) (zf0 L xs) 118 :=
    ⟨hx, by rw [T1]; exact hb, by rw [T2]; exact hml, by rw [T4]; exact hown, htsT, hnw, hK, hlocks, fun h => (by rw [T5] at h; cases h), fun q h => h, hT0, hT0, trivial⟩
  rw [lg_entry_eq]
  have hAt : zAt (dC, dI) cI cL cI (fun q : Nat => s.heap.size ≤ q) b b L L (zf0 L xs) (zf0 L xs) 118 s.heap (fun k => if k = 0 then b else b) s.heap [] ((lg_sl ([zR 0].map (ztr (fun k => if k = 0 then b else b))) ++ List.replicate (zmL 118 - (lg_sl ([zR 0].map (ztr (fun k => if k = 0 then b else b)))).length) Slot.unset).toArray) (zlocs [zR 0] (zmL 118)) [] (zw0 L xs) := by
    refine ⟨fun k q h => by simp [zws, zw0] at h, ⟨fun i j p q h => by simp [zws, zw0] at h, fun k q h => by simp [zws, zw0] at h⟩, zw0_inv hL, rfl, rfl, va_S.rf, zentry _ (by show 1 ≤ zmL 118; rw [T2]; omega), zlocs_ok (fun v hv => ?_), fun v hv => by cases hv⟩
    rw [List.mem_singleton.mp hv]
    show 0 < 2
    omega
  have hW := zgood hM hQ hAll hSt (l := l) n d 118 (zblk 118 0) 0 (zlocs [zR 0] (zmL 118)) [] (zw0 L xs) (some (zI 1)) w1 (by rw [T2]; exact hr) (by decide) (zblk_chk (hAll 118 (by decide)) (hSt 118 (by decide))) p e room_1 s m #[Value.ref b] below meth c (lw_Z below #[Value.ref b] s) (dC, dI) cI cL cI (fun q : Nat => s.heap.size ≤ q) b b L L (zf0 L xs) (zf0 L xs) 2 (L + L) (fun k => if k = 0 then b else b) (fun k => if k = 0 then b else b) s.heap [] _ hC ?_ hAt (fun _ _ => rfl) (Nat.le_refl 2) (Nat.le_refl (L + L)) (by show w1.1.length - 2 ≤ 600000; omega) (by show zcs w1 - (L + L) ≤ 7302250; omega) (by show d + 1 ≤ 2048; omega) (by show 40 * (d + 1) ≤ 84000; omega)
  · rw [T2] at hW
    rw [show (zw0 L xs).1.length - 2 = 0 from rfl, show zcs (zw0 L xs) - (L + L) = 0 from Nat.sub_self _] at hW
    exact hW
  · intro adr' H' locs' ls' pc' i L' st' hdg hrok hA' hag
    rw [T1] at hdg
    rcases zvret hrok with ⟨-, e1, -⟩ | ⟨-, e1, -⟩ | ⟨rfl, e1, x, hx1, rfl, hx2⟩ | ⟨-, e1, -⟩
    · rw [T3] at e1; cases e1
    · rw [T3] at e1; cases e1
    · cases hx2
      refine va_forget (fun q hq => hA'.2.2.2.2.2.1.2.2 q hq) ?_
      refine W.widen (k := 600000) (n := 7302250) (by omega) (by omega) ?_
      exact lw_ret hx hb hrt hlocks hdg
    · rw [T3] at e1; cases e1
end
section
/-! runs of the small machine, said by what comes of them -/
def zW (S : List zSh) (d mi : Nat) (es : List zEnt) (L st : List zMV) (M : Nat → Int → Int) (Q : Option zMV → (Nat → Int → Int) → Prop) : Prop := ∃ (n : Nat) (r : Option zMV) (M' : Nat → Int → Int), zrun n d mi es L st (S, M) = some (r, (S, M')) ∧ Q r M'
def zF (S : List zSh) (d mi : Nat) (vs : List zMV) (M : Nat → Int → Int) (Q : Option zMV → (Nat → Int → Int) → Prop) : Prop := zW S d mi (zblk mi 0) (zlocs vs (zmL mi)) [] M Q
theorem zrun_up : ∀ (n d mi : Nat) (es : List zEnt) (L st : List zMV) (w : zWd) (x : Option zMV × zWd), zrun n d mi es L st w = some x → ∀ n' d', n ≤ n' → d ≤ d' → zrun n' d' mi es L st w = some x
  | 0, _, _, _, _, _, _, _, h => by cases h
  | _ + 1, _, _, [], _, _, _, _, h => by cases h
  | n + 1, d, mi, e :: es, L, st, w, x, h => by
    intro n' d' hn hd
    obtain ⟨n', rfl⟩ : ∃ k, n' = k + 1 := ⟨n' - 1, by omega⟩
    rw [zrun_eq] at h ⊢
    have hn2 : n ≤ n' := by omega
    by_cases hc : zisC e.1 = false
    · rw [zrun_nx hc] at h ⊢
      split at h
      · next hx => exact zrun_up n d mi _ _ _ _ _ h n' d' hn2 hd
      · next hx => exact zrun_up n d mi _ _ _ _ _ h n' d' hn2 hd
      · cases h
    · have call : ∀ {m2 : Nat} {vs rest : List zMV}, zcall (zrun n) d mi m2 es L vs rest w = some x → zcall (zrun n') d' mi m2 es L vs rest w = some x := by
        intro m2 vs rest hm
        obtain ⟨d1, v, w2, rfl, h1, h2, h3, h4⟩ := zcall_inv hm
        obtain ⟨d', rfl⟩ : ∃ k, d' = k + 1 := ⟨d' - 1, by omega⟩
        unfold zcall
        dsimp only
        rw [if_pos ⟨h1, h2⟩, zrun_up n d1 m2 _ _ _ _ _ h3 n' d' hn2 (by omega)]
        exact zrun_up n (d1 + 1) mi _ _ _ _ _ h4 n' (d' + 1) hn2 hd
      unfold zbody at h ⊢
      split at h
      · split at h
        · next hq => rw [if_pos hq]; exact call h
        · cases h
      · split at h
        · next hq => rw [if_pos hq]; exact call h
        · cases h
      · exact h
      · exact h
      · exact h
      · next h1 h2 h3 h4 h5 =>
        refine absurd ?_ hc
        cases he : e.1 <;> first
          | rfl
          | exact absurd he (h1 _)
          | exact absurd he (h2 _)
          | exact absurd he h3
          | exact absurd he h4
          | exact absurd he h5
theorem zrun_det {n d n' d' mi : Nat} {es : List zEnt} {L st : List zMV} {w : zWd} {x y : Option zMV × zWd} (h : zrun n d mi es L st w = some x) (h' : zrun n' d' mi es L st w = some y) : x = y := by
  have h1 := zrun_up _ _ _ _ _ _ _ _ h (max n n') (max d d') (by omega) (by omega)
  have h2 := zrun_up _ _ _ _ _ _ _ _ h' (max n n') (max d d') (by omega) (by omega)
  rw [h1] at h2
  exact Option.some.inj h2
section ZX
variable {S : List zSh} {d mi : Nat} {e : zEnt} {es : List zEnt} {L st : List zMV} {M : Nat → Int → Int} {Q : Option zMV → (Nat → Int → Int) → Prop}
theorem zW_mono {Q' : Option zMV → (Nat → Int → Int) → Prop} (h : zW S d mi es L st M Q) (hQ : ∀ r M', Q r M' → Q' r M') : zW S d mi es L st M Q' := by
  obtain ⟨n, r, M', h1, h2⟩ := h
  exact ⟨n, r, M', h1, hQ r M' h2⟩
theorem zW_d {d' : Nat} (h : zW S d mi es L st M Q) (hd : d ≤ d') : zW S d' mi es L st M Q := by
  obtain ⟨n, r, M', h1, h2⟩ := h
  exact ⟨n, r, M', zrun_up _ _ _ _ _ _ _ _ h1 n d' (Nat.le_refl _) hd, h2⟩
/-- one instruction -/
theorem zW_nx (hc : zisC e.1 = false) {L' st' : List zMV} {M1 : Nat → Int → Int} (h : znxt e L st (S, M) = some (none, L', st', (S, M1))) : zW S d mi (e :: es) L st M Q = zW S d mi es L' st' M1 Q := by
  apply propext
  constructor
  · rintro ⟨n, r, M', h1, h2⟩
    cases n with
    | zero => cases h1
    | succ n =>
      rw [zrun_eq, zrun_nx hc, h] at h1
      exact ⟨n, r, M', h1, h2⟩
  · rintro ⟨n, r, M', h1, h2⟩
    exact ⟨n + 1, r, M', by rw [zrun_eq, zrun_nx hc, h]; exact h1, h2⟩
theorem zW_jp (hc : zisC e.1 = false) {L' st' : List zMV} {b : Nat} (h : znxt e L st (S, M) = some (some b, L', st', (S, M))) : zW S d mi (e :: es) L st M Q = zW S d mi (zblk mi b) L' st' M Q := by
  apply propext
  constructor
  · rintro ⟨n, r, M', h1, h2⟩
    cases n with
    | zero => cases h1
    | succ n =>
      rw [zrun_eq, zrun_nx hc, h] at h1
      exact ⟨n, r, M', h1, h2⟩
  · rintro ⟨n, r, M', h1, h2⟩
    exact ⟨n + 1, r, M', by rw [zrun_eq, zrun_nx hc, h]; exact h1, h2⟩
variable {a b : Nat}
theorem w_iconst {v : Int} : zW S d mi ((.iconst v, a, b) :: es) L st M Q = zW S d mi es L (zI v :: st) M Q := zW_nx rfl rfl
theorem w_sipush {v : Int} : zW S d mi ((.sipush v, a, b) :: es) L st M Q = zW S d mi es L (zL v :: st) M Q := zW_nx rfl rfl
theorem w_iload {j : Nat} {x : Int} (h : L[j]? = some (zI x)) : zW S d mi ((.iload j, a, b) :: es) L st M Q = zW S d mi es L (zI x :: st) M Q := zW_nx rfl (by simp only [znxt, h]; rfl)
theorem w_lload {j : Nat} {x : Int} (h : L[j]? = some (zL x)) : zW S d mi ((.lload j, a, b) :: es) L st M Q = zW S d mi es L (zL x :: st) M Q := zW_nx rfl (by simp only [znxt, h]; rfl)
theorem w_aload {j k : Nat} (h : L[j]? = some (zR k)) : zW S d mi ((.aload j, a, b) :: es) L st M Q = zW S d mi es L (zR k :: st) M Q := zW_nx rfl (by simp only [znxt, h]; rfl)
theorem w_istore {j : Nat} {x : Int} {L' : List zMV} (h : zset1 L j (zI x) = L') (hj : j < L.length) : zW S d mi ((.istore j, a, b) :: es) L (zI x :: st) M Q = zW S d mi es L' st M Q := zW_nx rfl (by simp only [znxt, if_pos hj, h]; rfl)
theorem w_astore {j k : Nat} {L' : List zMV} (h : zset1 L j (zR k) = L') (hj : j < L.length) : zW S d mi ((.astore j, a, b) :: es) L (zR k :: st) M Q = zW S d mi es L' st M Q := zW_nx rfl (by simp only [znxt, if_pos hj, h]; rfl)
theorem w_lstore {j : Nat} {x : Int} {L' : List zMV} (h : zset2 L j (zL x) = L') (hj : j + 1 < L.length) : zW S d mi ((.lstore j, a, b) :: es) L (zL x :: st) M Q = zW S d mi es L' st M Q := zW_nx rfl (by simp only [znxt, if_pos hj, h]; rfl)
theorem w_iinc {j : Nat} {x n : Int} {L' : List zMV} (h0 : L[j]? = some (zI x)) (h : zset1 L j (zI (zadd x n)) = L') (hj : j < L.length) : zW S d mi ((.iinc j n, a, b) :: es) L st M Q = zW S d mi es L' st M Q := zW_nx rfl (by simp only [znxt, h0, if_pos hj, h]; rfl)
theorem w_iadd {x y : Int} : zW S d mi ((.iadd, a, b) :: es) L (zI y :: zI x :: st) M Q = zW S d mi es L (zI (zadd x y) :: st) M Q := zW_nx rfl rfl
theorem w_isub {x y : Int} : zW S d mi ((.isub, a, b) :: es) L (zI y :: zI x :: st) M Q = zW S d mi es L (zI (zsub x y) :: st) M Q := zW_nx rfl rfl
theorem w_imul {x y : Int} : zW S d mi ((.imul, a, b) :: es) L (zI y :: zI x :: st) M Q = zW S d mi es L (zI (zmul x y) :: st) M Q := zW_nx rfl rfl
theorem w_iand {x y : Int} : zW S d mi ((.iand, a, b) :: es) L (zI y :: zI x :: st) M Q = zW S d mi es L (zI (zand x y) :: st) M Q := zW_nx rfl rfl
theorem w_ior {x y : Int} : zW S d mi ((.ior, a, b) :: es) L (zI y :: zI x :: st) M Q = zW S d mi es L (zI (zor x y) :: st) M Q := zW_nx rfl rfl
theorem w_ixor {x y : Int} : zW S d mi ((.ixor, a, b) :: es) L (zI y :: zI x :: st) M Q = zW S d mi es L (zI (zxor x y) :: st) M Q := zW_nx rfl rfl
theorem w_ishl {x y : Int} : zW S d mi ((.ishl, a, b) :: es) L (zI y :: zI x :: st) M Q = zW S d mi es L (zI (zshl x y) :: st) M Q := zW_nx rfl rfl
theorem w_ishr {x y : Int} : zW S d mi ((.ishr, a, b) :: es) L (zI y :: zI x :: st) M Q = zW S d mi es L (zI (zshr x y) :: st) M Q := zW_nx rfl rfl
theorem w_iushr {x y : Int} : zW S d mi ((.iushr, a, b) :: es) L (zI y :: zI x :: st) M Q = zW S d mi es L (zI (zushr x y) :: st) M Q := zW_nx rfl rfl
theorem w_idiv {x y : Int} (h : y ≠ 0) : zW S d mi ((.idiv, a, b) :: es) L (zI y :: zI x :: st) M Q = zW S d mi es L (zI (zdiv x y) :: st) M Q := zW_nx rfl (by simp only [znxt, zii, if_neg h]; rfl)
theorem w_irem {x y : Int} (h : y ≠ 0) : zW S d mi ((.irem, a, b) :: es) L (zI y :: zI x :: st) M Q = zW S d mi es L (zI (zrem x y) :: st) M Q := zW_nx rfl (by simp only [znxt, zii, if_neg h]; rfl)
theorem w_ladd {x y : Int} : zW S d mi ((.ladd, a, b) :: es) L (zL y :: zL x :: st) M Q = zW S d mi es L (zL (zladd x y) :: st) M Q := zW_nx rfl rfl
theorem w_lsub {x y : Int} : zW S d mi ((.lsub, a, b) :: es) L (zL y :: zL x :: st) M Q = zW S d mi es L (zL (zlsub x y) :: st) M Q := zW_nx rfl rfl
theorem w_lmul {x y : Int} : zW S d mi ((.lmul, a, b) :: es) L (zL y :: zL x :: st) M Q = zW S d mi es L (zL (zlmul x y) :: st) M Q := zW_nx rfl rfl
theorem w_ldiv {x y : Int} (h : y ≠ 0) : zW S d mi ((.ldiv, a, b) :: es) L (zL y :: zL x :: st) M Q = zW S d mi es L (zL (zldiv x y) :: st) M Q := zW_nx rfl (by simp only [znxt, zll, if_neg h]; rfl)
theorem w_lrem {x y : Int} (h : y ≠ 0) : zW S d mi ((.lrem, a, b) :: es) L (zL y :: zL x :: st) M Q = zW S d mi es L (zL (zlrem x y) :: st) M Q := zW_nx rfl (by simp only [znxt, zll, if_neg h]; rfl)
theorem w_land {x y : Int} : zW S d mi ((.land, a, b) :: es) L (zL y :: zL x :: st) M Q = zW S d mi es L (zL (zland x y) :: st) M Q := zW_nx rfl rfl
theorem w_lor {x y : Int} : zW S d mi ((.lor, a, b) :: es) L (zL y :: zL x :: st) M Q = zW S d mi es L (zL (zlor x y) :: st) M Q := zW_nx rfl rfl
theorem w_lcmp {x y : Int} : zW S d mi ((.lcmp, a, b) :: es) L (zL y :: zL x :: st) M Q = zW S d mi es L (zI (zlcmp x y) :: st) M Q := zW_nx rfl rfl
theorem w_lshl {x y : Int} : zW S d mi ((.lshl, a, b) :: es) L (zI y :: zL x :: st) M Q = zW S d mi es L (zL (zlshl x y) :: st) M Q := zW_nx rfl rfl
theorem w_lshr {x y : Int} : zW S d mi ((.lshr, a, b) :: es) L (zI y :: zL x :: st) M Q = zW S d mi es L (zL (zlshr x y) :: st) M Q := zW_nx rfl rfl
theorem w_imax {x y : Int} (h : zcats (zI y :: zI x :: st) ≤ 12) : zW S d mi ((.fadd, a, b) :: es) L (zI y :: zI x :: st) M Q = zW S d mi es L (zI (if x < y then y else x) :: st) M Q := zW_nx rfl (by simp only [znxt, if_pos h]; rfl)
theorem w_imin {x y : Int} (h : zcats (zI y :: zI x :: st) ≤ 12) : zW S d mi ((.fsub, a, b) :: es) L (zI y :: zI x :: st) M Q = zW S d mi es L (zI (if y < x then y else x) :: st) M Q := zW_nx rfl (by simp only [znxt, if_pos h]; rfl)
theorem w_lmin {x y : Int} (h : zcats (zL y :: zL x :: st) ≤ 12) : zW S d mi ((.dsub, a, b) :: es) L (zL y :: zL x :: st) M Q = zW S d mi es L (zL (if y < x then y else x) :: st) M Q := zW_nx rfl (by simp only [znxt, if_pos h]; rfl)
theorem w_i2l {x : Int} : zW S d mi ((.i2l, a, b) :: es) L (zI x :: st) M Q = zW S d mi es L (zL x :: st) M Q := zW_nx rfl rfl
theorem w_i2b {x : Int} : zW S d mi ((.i2b, a, b) :: es) L (zI x :: st) M Q = zW S d mi es L (zI (zi2b x) :: st) M Q := zW_nx rfl rfl
theorem w_l2i {x : Int} : zW S d mi ((.l2i, a, b) :: es) L (zL x :: st) M Q = zW S d mi es L (zI (zl2i x) :: st) M Q := zW_nx rfl rfl
theorem w_dupI {x : Int} : zW S d mi ((.dup, a, b) :: es) L (zI x :: st) M Q = zW S d mi es L (zI x :: zI x :: st) M Q := zW_nx rfl rfl
theorem w_dupR {k : Nat} : zW S d mi ((.dup, a, b) :: es) L (zR k :: st) M Q = zW S d mi es L (zR k :: zR k :: st) M Q := zW_nx rfl (by simp [znxt, zfall, zcat])
theorem w_dup2 {x : Int} {k : Nat} : zW S d mi ((.dup2, a, b) :: es) L (zI x :: zR k :: st) M Q = zW S d mi es L (zI x :: zR k :: zI x :: zR k :: st) M Q := zW_nx rfl (by simp [znxt, zfall, zcat])
theorem w_pop {x : Int} : zW S d mi ((.pop, a, b) :: es) L (zI x :: st) M Q = zW S d mi es L st M Q := zW_nx rfl (by simp [znxt, zfall, zcat])
theorem w_if {c : ClassFile.Cond} {x o : Int} : zW S d mi ((.ifCond c o, a, b) :: es) L (zI x :: st) M Q = if zcmp c x 0 = true then zW S d mi (zblk mi a) L st M Q else zW S d mi es L st M Q := by
  by_cases h : zcmp c x 0 = true
  · rw [if_pos h]; exact zW_jp rfl (by simp only [znxt, if_pos h])
  · rw [if_neg h]; exact zW_nx rfl (by simp only [znxt, if_neg h])
theorem w_icmp {c : ClassFile.Cond} {x y o : Int} : zW S d mi ((.if_icmp c o, a, b) :: es) L (zI y :: zI x :: st) M Q = if zcmp c x y = true then zW S d mi (zblk mi a) L st M Q else zW S d mi es L st M Q := by
  by_cases h : zcmp c x y = true
  · rw [if_pos h]; exact zW_jp rfl (by simp only [znxt, if_pos h])
  · rw [if_neg h]; exact zW_nx rfl (by simp only [znxt, if_neg h])
theorem w_goto {o : Int} : zW S d mi ((.goto o, a, b) :: es) L st M Q = zW S d mi (zblk mi a) L st M Q := zW_jp rfl rfl
theorem w_fall {o : Int} : zW S d mi ((.goto_w o, a, b) :: es) L st M Q = zW S d mi (zblk mi a) L st M Q := zW_jp rfl rfl
theorem w_tsw {dd lo hi x : Int} {offs : Array Int} : zW S d mi ((.tableswitch dd lo hi offs, a, b) :: es) L (zI x :: st) M Q = zW S d mi (zblk mi (ztsw dd.toNat lo hi offs x)) L st M Q := zW_jp rfl rfl
theorem w_lsw {dd x : Int} {ps : Array (Int × Int)} : zW S d mi ((.lookupswitch dd ps, a, b) :: es) L (zI x :: st) M Q = zW S d mi (zblk mi (zlsw dd.toNat ps.toList x)) L st M Q := zW_jp rfl rfl
theorem w_getf {k j : Nat} {o : Nat} {v : zMV} (h : zgetf (S, M) k a b = some v) : zW S d mi ((.getfield o, a, b) :: es) L (zR k :: st) M Q = zW S d mi es L (v :: st) M Q := zW_nx rfl (by simp only [znxt, h]; rfl)
theorem w_putf {k o : Nat} {v : zMV} {M1 : Nat → Int → Int} (h : zputf (S, M) k a b v = some (S, M1)) : zW S d mi ((.putfield o, a, b) :: es) L (v :: zR k :: st) M Q = zW S d mi es L st M1 Q := zW_nx rfl (by simp only [znxt, h]; rfl)
theorem zlen_of {k kd n : Nat} {rs : List (Option Nat)} (h : S[k]? = some (kd, n, rs)) : zlen (S, M) k kd = some n := by simp only [zlen, h, if_true]
theorem w_iald {k n : Nat} {i : Int} {rs : List (Option Nat)} (h : S[k]? = some (0, n, rs)) (h0 : 0 ≤ i) (h1 : i < n) : zW S d mi ((.iaload, a, b) :: es) L (zI i :: zR k :: st) M Q = zW S d mi es L (zI (M k i) :: st) M Q := zW_nx rfl (by simp only [znxt, zaget, zlen_of h, if_pos (show 0 ≤ i ∧ i < (n : Int) from ⟨h0, h1⟩)]; rfl)
theorem w_lald {k n : Nat} {i : Int} {rs : List (Option Nat)} (h : S[k]? = some (1, n, rs)) (h2 : 2 ≤ k) (h0 : 0 ≤ i) (h1 : i < n) : zW S d mi ((.laload, a, b) :: es) L (zI i :: zR k :: st) M Q = zW S d mi es L (zL (M k i) :: st) M Q := zW_nx rfl (by simp only [znxt, if_pos h2, zaget, zlen_of h, if_pos (show 0 ≤ i ∧ i < (n : Int) from ⟨h0, h1⟩)]; rfl)
theorem w_iast {k n : Nat} {i v : Int} {rs : List (Option Nat)} (h : S[k]? = some (0, n, rs)) (h2 : 2 ≤ k) (h0 : 0 ≤ i) (h1 : i < n) : zW S d mi ((.iastore, a, b) :: es) L (zI v :: zI i :: zR k :: st) M Q = zW S d mi es L st (zup M k i v) Q := zW_nx rfl (by simp only [znxt, zaput, zlen_of h, if_pos (show 0 ≤ i ∧ i < (n : Int) ∧ 2 ≤ k from ⟨h0, h1, h2⟩)]; rfl)
theorem w_last {k n : Nat} {i v : Int} {rs : List (Option Nat)} (h : S[k]? = some (1, n, rs)) (h2 : 2 ≤ k) (h0 : 0 ≤ i) (h1 : i < n) : zW S d mi ((.lastore, a, b) :: es) L (zL v :: zI i :: zR k :: st) M Q = zW S d mi es L st (zup M k i v) Q := zW_nx rfl (by simp only [znxt, zaput, zlen_of h, if_pos (show 0 ≤ i ∧ i < (n : Int) ∧ 2 ≤ k from ⟨h0, h1, h2⟩)]; rfl)
theorem w_alen {k n : Nat} {rs : List (Option Nat)} (h : S[k]? = some (0, n, rs)) : zW S d mi ((.arraylength, a, b) :: es) L (zR k :: st) M Q = zW S d mi es L (zI n :: st) M Q := zW_nx rfl (by simp only [znxt, zlen1, zlen_of h]; rfl)
theorem zlen_1 {k n : Nat} {rs : List (Option Nat)} (h : S[k]? = some (1, n, rs)) : zlen (S, M) k 0 = none := by simp [zlen, h]
theorem w_alenL {k n : Nat} {rs : List (Option Nat)} (h : S[k]? = some (1, n, rs)) (h2 : 2 ≤ k) : zW S d mi ((.arraylength, a, b) :: es) L (zR k :: st) M Q = zW S d mi es L (zI n :: st) M Q := zW_nx rfl (by simp only [znxt, zlen1, zlen_1 h, zlen_of h, if_pos h2]; rfl)
theorem w_objI {k : Nat} (h : zcats st ≤ 8) : zW S d mi ((.nop, a, b) :: es) L (zR k :: st) M Q = zW S d mi es L st M Q := zW_nx rfl (by simp only [znxt, if_pos h])
theorem w_copy {ka kb na nb : Nat} {i j n : Int} {ra rb : List (Option Nat)} (h1 : S[ka]? = some (0, na, ra)) (h2 : S[kb]? = some (0, nb, rb)) (h : 0 ≤ n ∧ 0 ≤ i ∧ 0 ≤ j ∧ i + n ≤ na ∧ j + n ≤ nb ∧ 2 ≤ ka ∧ 2 ≤ kb ∧ zcats st ≤ 8) : zW S d mi ((.swap, a, b) :: es) L (zI n :: zI j :: zR kb :: zI i :: zR ka :: st) M Q = zW S d mi es L st (zcpy M ka i kb j n) Q := zW_nx rfl (by simp only [znxt, zlen_of h1, zlen_of h2, if_pos h])
theorem w_ret (hq : zrok (zmR mi) .return_ st = some none) : zW S d mi ((.return_, a, b) :: es) L st M Q = Q none M := by
  apply propext
  constructor
  · rintro ⟨n, r, M', h1, h2⟩
    cases n with
    | zero => cases h1
    | succ n =>
      have : zrun (n + 1) d mi ((.return_, a, b) :: es) L st (S, M) = (zrok (zmR mi) .return_ st).map (·, (S, M)) := rfl
      rw [this, hq] at h1
      cases h1
      exact h2
  · intro h
    exact ⟨1, none, M, by
      have : zrun (0 + 1) d mi ((.return_, a, b) :: es) L st (S, M) = (zrok (zmR mi) .return_ st).map (·, (S, M)) := rfl
      rw [this, hq]; rfl, h⟩
theorem w_iret {x : Int} (hq : zrok (zmR mi) .ireturn [zI x] = some (some (zI x))) : zW S d mi ((.ireturn, a, b) :: es) L [zI x] M Q = Q (some (zI x)) M := by
  apply propext
  have e1 : ∀ n, zrun (n + 1) d mi ((.ireturn, a, b) :: es) L [zI x] (S, M) = some (some (zI x), (S, M)) := fun n => by
    have : zrun (n + 1) d mi ((.ireturn, a, b) :: es) L [zI x] (S, M) = (zrok (zmR mi) .ireturn [zI x]).map (·, (S, M)) := rfl
    rw [this, hq]; rfl
  constructor
  · rintro ⟨n, r, M', h1, h2⟩
    cases n with
    | zero => cases h1
    | succ n =>
      rw [e1] at h1
      cases h1
      exact h2
  · intro h
    exact ⟨1, _, M, e1 0, h⟩
theorem w_lret {x : Int} (hq : zrok (zmR mi) .lreturn [zL x] = some (some (zL x))) : zW S d mi ((.lreturn, a, b) :: es) L [zL x] M Q = Q (some (zL x)) M := by
  apply propext
  have e1 : ∀ n, zrun (n + 1) d mi ((.lreturn, a, b) :: es) L [zL x] (S, M) = some (some (zL x), (S, M)) := fun n => by
    have : zrun (n + 1) d mi ((.lreturn, a, b) :: es) L [zL x] (S, M) = (zrok (zmR mi) .lreturn [zL x]).map (·, (S, M)) := rfl
    rw [this, hq]; rfl
  constructor
  · rintro ⟨n, r, M', h1, h2⟩
    cases n with
    | zero => cases h1
    | succ n =>
      rw [e1] at h1
      cases h1
      exact h2
  · intro h
    exact ⟨1, _, M, e1 0, h⟩
/-- a call, by what the called method does -/
theorem w_calls {o m2 : Nat} {vs st' : List zMV} {Q2 : Option zMV → (Nat → Int → Int) → Prop} (hd : 1 ≤ d) (h1 : st = vs.reverse ++ st') (hl : vs.length = zmA m2) (hc : zcats st' ≤ 8) (hs : (zspread vs).length ≤ zmL m2) (hF : zF S (d - 1) m2 vs M Q2) (hk : ∀ r M', Q2 r M' → zW S d mi es L (r.toList ++ st') M' Q) : zW S d mi ((.invokestatic o, m2, b) :: es) L st M Q := by
  obtain ⟨n, r, M1, h2, h3⟩ := hF
  obtain ⟨n', r', M', h4, h5⟩ := hk r M1 h3
  obtain ⟨d, rfl⟩ : ∃ k, d = k + 1 := ⟨d - 1, by omega⟩
  have ht : st.take (zmA m2) = vs.reverse := by rw [h1, List.take_left' (by simpa using hl)]
  have hdp : st.drop (zmA m2) = st' := by rw [h1, List.drop_left' (by simpa using hl)]
  refine ⟨max n n' + 1, r', M', ?_, h5⟩
  have : zrun (max n n' + 1) (d + 1) mi ((.invokestatic o, m2, b) :: es) L st (S, M) = if (st.take (zmA m2)).length = zmA m2 then zcall (zrun (max n n')) (d + 1) mi m2 es L (st.take (zmA m2)).reverse (st.drop (zmA m2)) (S, M) else none := rfl
  rw [this, ht, hdp, if_pos (by simpa using hl), List.reverse_reverse]
  unfold zcall
  dsimp only
  rw [if_pos ⟨hc, hs⟩, zrun_up _ _ _ _ _ _ _ _ h2 (max n n') d (by omega) (by omega)]
  exact zrun_up _ _ _ _ _ _ _ _ h4 (max n n') (d + 1) (by omega) (by omega)
theorem w_callv {o m2 k n9 : Nat} {rs9 : List (Option Nat)} {ps st' : List zMV} {Q2 : Option zMV → (Nat → Int → Int) → Prop} (hd : 1 ≤ d) (h1 : st = ps.reverse ++ zR k :: st') (hl : ps.length = zmA m2) (hk2 : 2 ≤ k) (hk9 : S[k]? = some (3 + zmO m2, n9, rs9)) (hc : zcats st' ≤ 8) (hs : (zspread (zR k :: ps)).length ≤ zmL m2) (hF : zF S (d - 1) m2 (zR k :: ps) M Q2) (hk : ∀ r M', Q2 r M' → zW S d mi es L (r.toList ++ st') M' Q) : zW S d mi ((.invokevirtual o, m2, b) :: es) L st M Q := by
  obtain ⟨n, r, M1, h2, h3⟩ := hF
  obtain ⟨n', r', M', h4, h5⟩ := hk r M1 h3
  obtain ⟨d, rfl⟩ : ∃ k, d = k + 1 := ⟨d - 1, by omega⟩
  have e1 : st = (ps.reverse ++ [zR k]) ++ st' := by rw [h1]; simp
  have hl2 : (ps.reverse ++ [zR k]).length = zmA m2 + 1 := by simp [hl]
  have ht : st.take (zmA m2 + 1) = ps.reverse ++ [zR k] := by rw [e1, List.take_left' hl2]
  have hdp : st.drop (zmA m2 + 1) = st' := by rw [e1, List.drop_left' hl2]
  have hrv : (ps.reverse ++ [zR k]).reverse = zR k :: ps := by simp
  refine ⟨max n n' + 1, r', M', ?_, h5⟩
  have : zrun (max n n' + 1) (d + 1) mi ((.invokevirtual o, m2, b) :: es) L st (S, M) = if (st.take (zmA m2 + 1)).length = zmA m2 + 1 ∧ zrecv (S, M) m2 (st.take (zmA m2 + 1)).reverse = true then zcall (zrun (max n n')) (d + 1) mi m2 es L (st.take (zmA m2 + 1)).reverse (st.drop (zmA m2 + 1)) (S, M) else none := rfl
  rw [this, ht, hdp, hrv, if_pos ⟨hl2, by simp [zrecv, hk9, hk2]⟩]
  unfold zcall
  dsimp only
  rw [if_pos ⟨hc, hs⟩, zrun_up _ _ _ _ _ _ _ _ h2 (max n n') d (by omega) (by omega)]
  exact zrun_up _ _ _ _ _ _ _ _ h4 (max n n') (d + 1) (by omega) (by omega)
end ZX
theorem zs1_0 (a v : zMV) (L : List zMV) : zset1 (a :: L) 0 v = v :: L := rfl
theorem zs1_I (x : Int) (a v : zMV) (L : List zMV) : zset1 (zI x :: a :: L) 1 v = zI x :: v :: L := rfl
theorem zs1_R (x : Nat) (a v : zMV) (L : List zMV) : zset1 (zR x :: a :: L) 1 v = zR x :: v :: L := rfl
theorem zs1_U (a v : zMV) (L : List zMV) : zset1 (zU :: a :: L) 1 v = zU :: v :: L := rfl
theorem zs1_L (x : Int) (a v : zMV) (L : List zMV) : zset1 (zL x :: a :: L) 1 v = zU :: v :: L := rfl
theorem zs1_s (j : Nat) (a v : zMV) (L : List zMV) : zset1 (a :: L) (j + 2) v = a :: zset1 L (j + 1) v := by
  simp only [zset1, List.getElem?_cons_succ]
  split <;> simp
end
