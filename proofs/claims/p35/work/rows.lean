section
-- ===== PART A: goes FIRST, ahead of the names: the tables' words, and 'selects' of the private methods out of them =====
/-- a private method of a class that the tables say can be made, by its rows of tables_1 -/
def lw_okq (q : MethodName × Nat) : Prop := (q.1.cls ≠ "java/lang/invoke/MethodHandle" ∧ q.1.cls ≠ "java/lang/invoke/VarHandle") ∧ Cond.instantiable q.1.cls q.2 ∈ tables_1 ∧ Cond.privateMethod q.1 ∈ tables_1 ∧ Cond.instanceMethod q.1 ∈ tables_1
theorem lw_p0 : lw_okq (⟨"ColumnCasts", "columnRefusal", "(I)I"⟩, 19) := ⟨⟨by decide +kernel, by decide +kernel⟩, List.mem_of_getElem? (i := 22) (by decide +kernel), List.mem_of_getElem? (i := 294) (by decide +kernel), List.mem_of_getElem? (i := 295) (by decide +kernel)⟩
theorem lw_p1 : lw_okq (⟨"ColumnCasts", "refused", "(I)I"⟩, 19) := ⟨⟨by decide +kernel, by decide +kernel⟩, List.mem_of_getElem? (i := 22) (by decide +kernel), List.mem_of_getElem? (i := 298) (by decide +kernel), List.mem_of_getElem? (i := 299) (by decide +kernel)⟩
theorem lw_p2 : lw_okq (⟨"ColumnCasts", "isRow", "(I)Z"⟩, 19) := ⟨⟨by decide +kernel, by decide +kernel⟩, List.mem_of_getElem? (i := 22) (by decide +kernel), List.mem_of_getElem? (i := 310) (by decide +kernel), List.mem_of_getElem? (i := 311) (by decide +kernel)⟩
theorem lw_p3 : lw_okq (⟨"ColumnCasts", "isSame", "(LColumnCasts$Column;II)Z"⟩, 19) := ⟨⟨by decide +kernel, by decide +kernel⟩, List.mem_of_getElem? (i := 22) (by decide +kernel), List.mem_of_getElem? (i := 326) (by decide +kernel), List.mem_of_getElem? (i := 327) (by decide +kernel)⟩
theorem lw_p4 : lw_okq (⟨"ColumnCasts", "insertInOrder", "(LColumnCasts$View;)V"⟩, 19) := ⟨⟨by decide +kernel, by decide +kernel⟩, List.mem_of_getElem? (i := 22) (by decide +kernel), List.mem_of_getElem? (i := 364) (by decide +kernel), List.mem_of_getElem? (i := 365) (by decide +kernel)⟩
theorem lw_p5 : lw_okq (⟨"ColumnCasts", "isAhead", "(II)Z"⟩, 19) := ⟨⟨by decide +kernel, by decide +kernel⟩, List.mem_of_getElem? (i := 22) (by decide +kernel), List.mem_of_getElem? (i := 368) (by decide +kernel), List.mem_of_getElem? (i := 369) (by decide +kernel)⟩
theorem lw_p6 : lw_okq (⟨"ColumnCasts", "firstLost", "(LColumnCasts$Column;I)I"⟩, 19) := ⟨⟨by decide +kernel, by decide +kernel⟩, List.mem_of_getElem? (i := 22) (by decide +kernel), List.mem_of_getElem? (i := 400) (by decide +kernel), List.mem_of_getElem? (i := 401) (by decide +kernel)⟩
theorem lw_p7 : lw_okq (⟨"ColumnCasts", "comesBack", "(LColumnCasts$Cell;I)Z"⟩, 19) := ⟨⟨by decide +kernel, by decide +kernel⟩, List.mem_of_getElem? (i := 22) (by decide +kernel), List.mem_of_getElem? (i := 404) (by decide +kernel), List.mem_of_getElem? (i := 405) (by decide +kernel)⟩
theorem lw_p8 : lw_okq (⟨"ColumnCasts", "askRefusal", "(III)I"⟩, 19) := ⟨⟨by decide +kernel, by decide +kernel⟩, List.mem_of_getElem? (i := 22) (by decide +kernel), List.mem_of_getElem? (i := 872) (by decide +kernel), List.mem_of_getElem? (i := 873) (by decide +kernel)⟩
def lw_privs_1 : List (MethodName × Nat) := [(⟨"ColumnCasts", "columnRefusal", "(I)I"⟩, 19), (⟨"ColumnCasts", "refused", "(I)I"⟩, 19), (⟨"ColumnCasts", "isRow", "(I)Z"⟩, 19), (⟨"ColumnCasts", "isSame", "(LColumnCasts$Column;II)Z"⟩, 19), (⟨"ColumnCasts", "insertInOrder", "(LColumnCasts$View;)V"⟩, 19), (⟨"ColumnCasts", "isAhead", "(II)Z"⟩, 19), (⟨"ColumnCasts", "firstLost", "(LColumnCasts$Column;I)I"⟩, 19), (⟨"ColumnCasts", "comesBack", "(LColumnCasts$Cell;I)Z"⟩, 19), (⟨"ColumnCasts", "askRefusal", "(III)I"⟩, 19)]
theorem lw_r1 : ∀ q ∈ lw_privs_1, lw_okq q := List.forall_mem_cons.mpr ⟨lw_p0, List.forall_mem_cons.mpr ⟨lw_p1, List.forall_mem_cons.mpr ⟨lw_p2, List.forall_mem_cons.mpr ⟨lw_p3, List.forall_mem_cons.mpr ⟨lw_p4, List.forall_mem_cons.mpr ⟨lw_p5, List.forall_mem_cons.mpr ⟨lw_p6, List.forall_mem_cons.mpr ⟨lw_p7, List.forall_mem_cons.mpr ⟨lw_p8, fun _ h => absurd h List.not_mem_nil⟩⟩⟩⟩⟩⟩⟩⟩⟩
def lw_privs : List (MethodName × Nat) := lw_privs_1
def lw_tbl : List Cond := k2_sels lw_privs ++ tables_1
theorem lw_privs_ok : ∀ q ∈ lw_privs, lw_okq q := lw_r1
/-- the streams that the claim lets the run draw from -/
abbrev lw_cs : List Choice := [Jvm.Choice.named "NaN.bits"]
theorem lw_bits : nanBits ∈ lw_cs := by first | decide | exact List.mem_cons_self | simp [lw_cs, nanBits]

def RX0 : String := "ColumnCasts$Cell"
def TX0 : u_T := fun k => match k with
  | 0 => ("ColumnCasts$Cell", "kind", "I", false)
  | 1 => ("ColumnCasts$Cell", "number", "J", false)
  | _ => ("ColumnCasts$Cell", "real", "D", false)
def tyX0 : Nat → FieldType := fun k => match k with
  | 0 => .int
  | 1 => .long
  | _ => .double
abbrev wsX00 : List Cond := u_ws RX0 TX0 3
theorem nmX0 : ∀ a, a < 3 → ∀ b, b < 3 → a ≠ b → (TX0 a).2.1 ≠ (TX0 b).2.1 := by decide +kernel
theorem tyX0_ok : ∀ k, k < 3 → parseFieldDescriptor (TX0 k).2.2.1 = some (tyX0 k) := by decide +kernel
abbrev cX0_init : ByteArray := prog_2_method_1_code
def yX0_init : MethodName := ⟨RX0, "<init>", "()V"⟩
abbrev cX0_setEmpty : ByteArray := prog_2_method_2_code
def yX0_setEmpty : MethodName := ⟨RX0, "setEmpty", "()V"⟩
abbrev cX0_setWord : ByteArray := prog_2_method_3_code
def yX0_setWord : MethodName := ⟨RX0, "setWord", "(J)V"⟩
abbrev cX0_setWhole : ByteArray := prog_2_method_4_code
def yX0_setWhole : MethodName := ⟨RX0, "setWhole", "(IJ)V"⟩
abbrev cX0_setReal : ByteArray := prog_2_method_5_code
def yX0_setReal : MethodName := ⟨RX0, "setReal", "(ID)V"⟩
abbrev cX0_copyFrom : ByteArray := prog_2_method_6_code
def yX0_copyFrom : MethodName := ⟨RX0, "copyFrom", "(LColumnCasts$Cell;)V"⟩
abbrev cX0_isBox : ByteArray := prog_2_method_7_code
def yX0_isBox : MethodName := ⟨RX0, "isBox", "()Z"⟩
abbrev cX0_isNumber : ByteArray := prog_2_method_8_code
def yX0_isNumber : MethodName := ⟨RX0, "isNumber", "()Z"⟩
abbrev cX0_make : ByteArray := prog_2_method_10_code
def yX0_make : MethodName := ⟨RX0, "make", "(IJ)V"⟩
abbrev cX0_turnInto : ByteArray := prog_2_method_11_code
def yX0_turnInto : MethodName := ⟨RX0, "turnInto", "(I)V"⟩
abbrev cX0_turnReal : ByteArray := prog_2_method_12_code
def yX0_turnReal : MethodName := ⟨RX0, "turnReal", "(ID)V"⟩
abbrev cX0_turnWhole : ByteArray := prog_2_method_13_code
def yX0_turnWhole : MethodName := ⟨RX0, "turnWhole", "(IJ)V"⟩
abbrev cX0_lowestBits : ByteArray := prog_2_method_14_code
def yX0_lowestBits : MethodName := ⟨RX0, "lowestBits", "(IJ)J"⟩
abbrev cX0_bits : ByteArray := prog_2_method_15_code
def yX0_bits : MethodName := ⟨RX0, "bits", "()J"⟩
abbrev cX0_realBits : ByteArray := prog_2_method_16_code
def yX0_realBits : MethodName := ⟨RX0, "realBits", "(III)J"⟩
abbrev cX0_isSame : ByteArray := prog_2_method_17_code
def yX0_isSame : MethodName := ⟨RX0, "isSame", "(LColumnCasts$Cell;)Z"⟩
abbrev cX0_family : ByteArray := prog_2_method_18_code
def yX0_family : MethodName := ⟨RX0, "family", "()I"⟩
abbrev cX0_place : ByteArray := prog_2_method_19_code
def yX0_place : MethodName := ⟨RX0, "place", "()J"⟩
abbrev cX0_rankAgainst : ByteArray := prog_2_method_20_code
def yX0_rankAgainst : MethodName := ⟨RX0, "rankAgainst", "(LColumnCasts$Cell;)I"⟩
def RX1 : String := "ColumnCasts$Column"
def TX1 : u_T := fun k => match k with
  | 0 => ("ColumnCasts$Column", "kind", "I", false)
  | 1 => ("ColumnCasts$Column", "isGone", "Z", false)
  | 2 => ("ColumnCasts$Column", "kinds", "[I", true)
  | 3 => ("ColumnCasts$Column", "numbers", "[J", true)
  | _ => ("ColumnCasts$Column", "reals", "[D", true)
def tyX1 : Nat → FieldType := fun k => match k with
  | 0 => .int
  | 1 => .boolean
  | 2 => .array .int
  | 3 => .array .long
  | _ => .array .double
abbrev wsX10 : List Cond := u_ws RX1 TX1 5
theorem nmX1 : ∀ a, a < 5 → ∀ b, b < 5 → a ≠ b → (TX1 a).2.1 ≠ (TX1 b).2.1 := by decide +kernel
theorem tyX1_ok : ∀ k, k < 5 → parseFieldDescriptor (TX1 k).2.2.1 = some (tyX1 k) := by decide +kernel
abbrev cX1_init : ByteArray := prog_3_method_1_code
def yX1_init : MethodName := ⟨RX1, "<init>", "()V"⟩
abbrev cX1_load : ByteArray := prog_3_method_2_code
def yX1_load : MethodName := ⟨RX1, "load", "(ILColumnCasts$Cell;)V"⟩
abbrev cX1_store : ByteArray := prog_3_method_3_code
def yX1_store : MethodName := ⟨RX1, "store", "(ILColumnCasts$Cell;)V"⟩
abbrev cX1_begin : ByteArray := prog_3_method_4_code
def yX1_begin : MethodName := ⟨RX1, "begin", "(II)V"⟩
abbrev cX1_renew : ByteArray := prog_3_method_5_code
def yX1_renew : MethodName := ⟨RX1, "renew", "(II)V"⟩
abbrev cX1_take : ByteArray := prog_3_method_6_code
def yX1_take : MethodName := ⟨RX1, "take", "(LColumnCasts$Column;III)V"⟩
abbrev cX1_copyFrom : ByteArray := prog_3_method_7_code
def yX1_copyFrom : MethodName := ⟨RX1, "copyFrom", "(LColumnCasts$Column;)V"⟩
def RX2 : String := "ColumnCasts$Filter"
def TX2 : u_T := fun k => match k with
  | 0 => ("ColumnCasts$Filter", "column", "I", false)
  | 1 => ("ColumnCasts$Filter", "test", "I", false)
  | _ => ("ColumnCasts$Filter", "told", "LColumnCasts$Cell;", true)
def tyX2 : Nat → FieldType := fun k => match k with
  | 0 => .int
  | 1 => .int
  | _ => .object "ColumnCasts$Cell"
abbrev wsX20 : List Cond := u_ws RX2 TX2 3
theorem nmX2 : ∀ a, a < 3 → ∀ b, b < 3 → a ≠ b → (TX2 a).2.1 ≠ (TX2 b).2.1 := by decide +kernel
theorem tyX2_ok : ∀ k, k < 3 → parseFieldDescriptor (TX2 k).2.2.1 = some (tyX2 k) := by decide +kernel
abbrev cX2_init : ByteArray := prog_4_method_1_code
def yX2_init : MethodName := ⟨RX2, "<init>", "()V"⟩
abbrev cX2_copyFrom : ByteArray := prog_4_method_3_code
def yX2_copyFrom : MethodName := ⟨RX2, "copyFrom", "(LColumnCasts$Filter;)V"⟩
def RX3 : String := "ColumnCasts$Spelling"
def TX3 : u_T := fun k => match k with
  | 0 => ("ColumnCasts$Spelling", "length", "I", false)
  | _ => ("ColumnCasts$Spelling", "signs", "[I", true)
def tyX3 : Nat → FieldType := fun k => match k with
  | 0 => .int
  | _ => .array .int
abbrev wsX30 : List Cond := u_ws RX3 TX3 2
theorem nmX3 : ∀ a, a < 2 → ∀ b, b < 2 → a ≠ b → (TX3 a).2.1 ≠ (TX3 b).2.1 := by decide +kernel
theorem tyX3_ok : ∀ k, k < 2 → parseFieldDescriptor (TX3 k).2.2.1 = some (tyX3 k) := by decide +kernel
abbrev cX3_init : ByteArray := prog_5_method_1_code
def yX3_init : MethodName := ⟨RX3, "<init>", "()V"⟩
def RX4 : String := "ColumnCasts$Table"
def TX4 : u_T := fun k => match k with
  | 0 => ("ColumnCasts$Table", "rows", "I", false)
  | 1 => ("ColumnCasts$Table", "came", "I", false)
  | 2 => ("ColumnCasts$Table", "keyCount", "I", false)
  | 3 => ("ColumnCasts$Table", "filterCount", "I", false)
  | 4 => ("ColumnCasts$Table", "columns", "[LColumnCasts$Column;", true)
  | 5 => ("ColumnCasts$Table", "views", "[LColumnCasts$View;", true)
  | 6 => ("ColumnCasts$Table", "keys", "[I", true)
  | 7 => ("ColumnCasts$Table", "isTurned", "[Z", true)
  | _ => ("ColumnCasts$Table", "filters", "[LColumnCasts$Filter;", true)
def tyX4 : Nat → FieldType := fun k => match k with
  | 0 => .int
  | 1 => .int
  | 2 => .int
  | 3 => .int
  | 4 => .array (.object "ColumnCasts$Column")
  | 5 => .array (.object "ColumnCasts$View")
  | 6 => .array .int
  | 7 => .array .boolean
  | _ => .array (.object "ColumnCasts$Filter")
abbrev wsX40 : List Cond := u_ws RX4 TX4 9
theorem nmX4 : ∀ a, a < 9 → ∀ b, b < 9 → a ≠ b → (TX4 a).2.1 ≠ (TX4 b).2.1 := by decide +kernel
theorem tyX4_ok : ∀ k, k < 9 → parseFieldDescriptor (TX4 k).2.2.1 = some (tyX4 k) := by decide +kernel
abbrev cX4_init : ByteArray := prog_6_method_1_code
def yX4_init : MethodName := ⟨RX4, "<init>", "()V"⟩
abbrev cX4_resize : ByteArray := prog_6_method_2_code
def yX4_resize : MethodName := ⟨RX4, "resize", "(I)V"⟩
abbrev cX4_nextColumn : ByteArray := prog_6_method_3_code
def yX4_nextColumn : MethodName := ⟨RX4, "nextColumn", "()LColumnCasts$Column;"⟩
abbrev cX4_addKey : ByteArray := prog_6_method_4_code
def yX4_addKey : MethodName := ⟨RX4, "addKey", "(IZ)V"⟩
abbrev cX4_copyFrom : ByteArray := prog_6_method_6_code
def yX4_copyFrom : MethodName := ⟨RX4, "copyFrom", "(LColumnCasts$Table;)V"⟩
def RX5 : String := "ColumnCasts$Text"
def TX5 : u_T := fun k => match k with
  | 0 => ("ColumnCasts$Text", "length", "I", false)
  | 1 => ("ColumnCasts$Text", "place", "I", false)
  | 2 => ("ColumnCasts$Text", "signs", "[I", true)
  | _ => ("ColumnCasts$Text", "item", "LColumnCasts$Cell;", true)
def tyX5 : Nat → FieldType := fun k => match k with
  | 0 => .int
  | 1 => .int
  | 2 => .array .int
  | _ => .object "ColumnCasts$Cell"
abbrev wsX50 : List Cond := u_ws RX5 TX5 4
theorem nmX5 : ∀ a, a < 4 → ∀ b, b < 4 → a ≠ b → (TX5 a).2.1 ≠ (TX5 b).2.1 := by decide +kernel
theorem tyX5_ok : ∀ k, k < 4 → parseFieldDescriptor (TX5 k).2.2.1 = some (tyX5 k) := by decide +kernel
abbrev cX5_init : ByteArray := prog_7_method_1_code
def yX5_init : MethodName := ⟨RX5, "<init>", "()V"⟩
abbrev cX5_add : ByteArray := prog_7_method_2_code
def yX5_add : MethodName := ⟨RX5, "add", "(I)V"⟩
abbrev cX5_sign : ByteArray := prog_7_method_3_code
def yX5_sign : MethodName := ⟨RX5, "sign", "()I"⟩
abbrev cX5_skip : ByteArray := prog_7_method_4_code
def yX5_skip : MethodName := ⟨RX5, "skip", "(I)Z"⟩
abbrev cX5_isLetter : ByteArray := prog_7_method_5_code
def yX5_isLetter : MethodName := ⟨RX5, "isLetter", "()Z"⟩
abbrev cX5_isDigit : ByteArray := prog_7_method_6_code
def yX5_isDigit : MethodName := ⟨RX5, "isDigit", "()Z"⟩
abbrev cX5_parse : ByteArray := prog_7_method_7_code
def yX5_parse : MethodName := ⟨RX5, "parse", "(LColumnCasts$Column;I)Z"⟩
abbrev cX5_takeKind : ByteArray := prog_7_method_8_code
def yX5_takeKind : MethodName := ⟨RX5, "takeKind", "(I)I"⟩
abbrev cX5_takeItems : ByteArray := prog_7_method_9_code
def yX5_takeItems : MethodName := ⟨RX5, "takeItems", "(LColumnCasts$Column;I)Z"⟩
abbrev cX5_takeItem : ByteArray := prog_7_method_10_code
def yX5_takeItem : MethodName := ⟨RX5, "takeItem", "(I)Z"⟩
abbrev cX5_takeBox : ByteArray := prog_7_method_11_code
def yX5_takeBox : MethodName := ⟨RX5, "takeBox", "(I)Z"⟩
abbrev cX5_takeWord : ByteArray := prog_7_method_12_code
def yX5_takeWord : MethodName := ⟨RX5, "takeWord", "()Z"⟩
def RX6 : String := "ColumnCasts$View"
def TX6 : u_T := fun k => match k with
  | 0 => ("ColumnCasts$View", "length", "I", false)
  | _ => ("ColumnCasts$View", "rows", "[I", true)
def tyX6 : Nat → FieldType := fun k => match k with
  | 0 => .int
  | _ => .array .int
abbrev wsX60 : List Cond := u_ws RX6 TX6 2
theorem nmX6 : ∀ a, a < 2 → ∀ b, b < 2 → a ≠ b → (TX6 a).2.1 ≠ (TX6 b).2.1 := by decide +kernel
theorem tyX6_ok : ∀ k, k < 2 → parseFieldDescriptor (TX6 k).2.2.1 = some (tyX6 k) := by decide +kernel
abbrev cX6_init : ByteArray := prog_8_method_1_code
def yX6_init : MethodName := ⟨RX6, "<init>", "()V"⟩
abbrev cX6_showAll : ByteArray := prog_8_method_2_code
def yX6_showAll : MethodName := ⟨RX6, "showAll", "(I)V"⟩
abbrev cX6_append : ByteArray := prog_8_method_3_code
def yX6_append : MethodName := ⟨RX6, "append", "(II)V"⟩
abbrev cX6_resize : ByteArray := prog_8_method_4_code
def yX6_resize : MethodName := ⟨RX6, "resize", "(II)V"⟩
abbrev cX6_copyFrom : ByteArray := prog_8_method_6_code
def yX6_copyFrom : MethodName := ⟨RX6, "copyFrom", "(LColumnCasts$View;)V"⟩
def RX7 : String := "ColumnCasts"
def TX7 : u_T := fun k => match k with
  | 0 => ("ColumnCasts", "table", "LColumnCasts$Table;", true)
  | 1 => ("ColumnCasts", "imaged", "LColumnCasts$Table;", true)
  | 2 => ("ColumnCasts", "isImaged", "Z", false)
  | 3 => ("ColumnCasts", "text", "LColumnCasts$Text;", true)
  | 4 => ("ColumnCasts", "spelling", "LColumnCasts$Spelling;", true)
  | 5 => ("ColumnCasts", "fresh", "LColumnCasts$Column;", true)
  | 6 => ("ColumnCasts", "told", "LColumnCasts$Filter;", true)
  | 7 => ("ColumnCasts", "cell", "LColumnCasts$Cell;", true)
  | 8 => ("ColumnCasts", "other", "LColumnCasts$Cell;", true)
  | 9 => ("ColumnCasts", "turned", "LColumnCasts$Cell;", true)
  | 10 => ("ColumnCasts", "stoodBefore", "[I", true)
  | 11 => ("ColumnCasts", "stays", "[Z", true)
  | 12 => ("ColumnCasts", "passed", "[I", true)
  | 13 => ("ColumnCasts", "left", "[I", true)
  | 14 => ("ColumnCasts", "fewest", "[I", true)
  | 15 => ("ColumnCasts", "latest", "J", false)
  | 16 => ("ColumnCasts", "beyondRefused", "I", false)
  | 17 => ("ColumnCasts", "otherRefused", "I", false)
  | _ => ("ColumnCasts", "nothingRefused", "I", false)
def tyX7 : Nat → FieldType := fun k => match k with
  | 0 => .object "ColumnCasts$Table"
  | 1 => .object "ColumnCasts$Table"
  | 2 => .boolean
  | 3 => .object "ColumnCasts$Text"
  | 4 => .object "ColumnCasts$Spelling"
  | 5 => .object "ColumnCasts$Column"
  | 6 => .object "ColumnCasts$Filter"
  | 7 => .object "ColumnCasts$Cell"
  | 8 => .object "ColumnCasts$Cell"
  | 9 => .object "ColumnCasts$Cell"
  | 10 => .array .int
  | 11 => .array .boolean
  | 12 => .array .int
  | 13 => .array .int
  | 14 => .array .int
  | 15 => .long
  | 16 => .int
  | 17 => .int
  | _ => .int
abbrev wsX70 : List Cond := u_ws RX7 TX7 19
theorem nmX7 : ∀ a, a < 19 → ∀ b, b < 19 → a ≠ b → (TX7 a).2.1 ≠ (TX7 b).2.1 := by decide +kernel
theorem tyX7_ok : ∀ k, k < 19 → parseFieldDescriptor (TX7 k).2.2.1 = some (tyX7 k) := by decide +kernel
abbrev cX7_init : ByteArray := prog_1_method_1_code
def yX7_init : MethodName := ⟨RX7, "<init>", "()V"⟩
abbrev cX7_size : ByteArray := prog_1_method_2_code
def yX7_size : MethodName := ⟨RX7, "size", "(I)I"⟩
abbrev cX7_column : ByteArray := prog_1_method_3_code
def yX7_column : MethodName := ⟨RX7, "column", "(I)I"⟩
abbrev cX7_drop : ByteArray := prog_1_method_4_code
def yX7_drop : MethodName := ⟨RX7, "drop", "(I)I"⟩
abbrev cX7_kindOf : ByteArray := prog_1_method_5_code
def yX7_kindOf : MethodName := ⟨RX7, "kindOf", "(I)I"⟩
abbrev cX7_ask : ByteArray := prog_1_method_6_code
def yX7_ask : MethodName := ⟨RX7, "ask", "(III)I"⟩
abbrev cX7_got : ByteArray := prog_1_method_7_code
def yX7_got : MethodName := ⟨RX7, "got", "()J"⟩
abbrev cX7_swap : ByteArray := prog_1_method_10_code
def yX7_swap : MethodName := ⟨RX7, "swap", "(II)I"⟩
abbrev cX7_differs : ByteArray := prog_1_method_11_code
def yX7_differs : MethodName := ⟨RX7, "differs", "(II)I"⟩
abbrev cX7_view : ByteArray := prog_1_method_13_code
def yX7_view : MethodName := ⟨RX7, "view", "(I)I"⟩
abbrev cX7_viewed : ByteArray := prog_1_method_14_code
def yX7_viewed : MethodName := ⟨RX7, "viewed", "(II)I"⟩
abbrev cX7_key : ByteArray := prog_1_method_16_code
def yX7_key : MethodName := ⟨RX7, "key", "(IZ)I"⟩
abbrev cX7_sort : ByteArray := prog_1_method_17_code
def yX7_sort : MethodName := ⟨RX7, "sort", "(I)I"⟩
abbrev cX7_loses : ByteArray := prog_1_method_25_code
def yX7_loses : MethodName := ⟨RX7, "loses", "(II)I"⟩
abbrev cX7_casts : ByteArray := prog_1_method_26_code
def yX7_casts : MethodName := ⟨RX7, "casts", "(I)I"⟩
abbrev cX7_cast : ByteArray := prog_1_method_27_code
def yX7_cast : MethodName := ⟨RX7, "cast", "(II)I"⟩
abbrev cX7_feed : ByteArray := prog_1_method_28_code
def yX7_feed : MethodName := ⟨RX7, "feed", "(I)I"⟩
abbrev cX7_read : ByteArray := prog_1_method_29_code
def yX7_read : MethodName := ⟨RX7, "read", "()I"⟩
abbrev cX7_image : ByteArray := prog_1_method_31_code
def yX7_image : MethodName := ⟨RX7, "image", "()I"⟩
abbrev cX7_undo : ByteArray := prog_1_method_32_code
def yX7_undo : MethodName := ⟨RX7, "undo", "()I"⟩
abbrev cX7_count : ByteArray := prog_1_method_33_code
def yX7_count : MethodName := ⟨RX7, "count", "(I)I"⟩
abbrev cX7_refused : ByteArray := prog_1_method_34_code
def yX7_refused : MethodName := ⟨RX7, "refused", "(I)I"⟩
abbrev cX7_columnRefusal : ByteArray := prog_1_method_35_code
def yX7_columnRefusal : MethodName := ⟨RX7, "columnRefusal", "(I)I"⟩
abbrev cX7_askRefusal : ByteArray := prog_1_method_37_code
def yX7_askRefusal : MethodName := ⟨RX7, "askRefusal", "(III)I"⟩
abbrev cX7_widens : ByteArray := prog_1_method_40_code
def yX7_widens : MethodName := ⟨RX7, "widens", "(II)Z"⟩
abbrev cX7_isKind : ByteArray := prog_1_method_42_code
def yX7_isKind : MethodName := ⟨RX7, "isKind", "(I)Z"⟩
abbrev cX7_isView : ByteArray := prog_1_method_44_code
def yX7_isView : MethodName := ⟨RX7, "isView", "(I)Z"⟩
abbrev cX7_isRow : ByteArray := prog_1_method_46_code
def yX7_isRow : MethodName := ⟨RX7, "isRow", "(I)Z"⟩
abbrev cX7_isSame : ByteArray := prog_1_method_49_code
def yX7_isSame : MethodName := ⟨RX7, "isSame", "(LColumnCasts$Column;II)Z"⟩
abbrev cX7_insertInOrder : ByteArray := prog_1_method_53_code
def yX7_insertInOrder : MethodName := ⟨RX7, "insertInOrder", "(LColumnCasts$View;)V"⟩
abbrev cX7_isAhead : ByteArray := prog_1_method_54_code
def yX7_isAhead : MethodName := ⟨RX7, "isAhead", "(II)Z"⟩
abbrev cX7_boxKindIn : ByteArray := prog_1_method_69_code
def yX7_boxKindIn : MethodName := ⟨RX7, "boxKindIn", "(I)I"⟩
abbrev cX7_firstLost : ByteArray := prog_1_method_70_code
def yX7_firstLost : MethodName := ⟨RX7, "firstLost", "(LColumnCasts$Column;I)I"⟩
abbrev cX7_comesBack : ByteArray := prog_1_method_71_code
def yX7_comesBack : MethodName := ⟨RX7, "comesBack", "(LColumnCasts$Cell;I)Z"⟩
def RX8 : String := "ColumnCastsModel"
def TX8 : u_T := fun k => match k with
  | _ => ("", "", "", false)
def tyX8 : Nat → FieldType := fun k => match k with
  | _ => .int
abbrev wsX80 : List Cond := u_ws RX8 TX8 0
theorem nmX8 : ∀ a, a < 0 → ∀ b, b < 0 → a ≠ b → (TX8 a).2.1 ≠ (TX8 b).2.1 := by decide +kernel
theorem tyX8_ok : ∀ k, k < 0 → parseFieldDescriptor (TX8 k).2.2.1 = some (tyX8 k) := by decide +kernel
def RJ5 : String := "java/lang/AbstractStringBuilder"
def TJ5 : u_T := fun k => match k with
  | _ => ("", "", "", false)
def tyJ5 : Nat → FieldType := fun k => match k with
  | _ => .int
abbrev wsJ50 : List Cond := u_ws RJ5 TJ5 0
theorem nmJ5 : ∀ a, a < 0 → ∀ b, b < 0 → a ≠ b → (TJ5 a).2.1 ≠ (TJ5 b).2.1 := by decide +kernel
theorem tyJ5_ok : ∀ k, k < 0 → parseFieldDescriptor (TJ5 k).2.2.1 = some (tyJ5 k) := by decide +kernel
abbrev cJ5_init_d00df : ByteArray := prog_11_method_2_code
def yJ5_init_d00df : MethodName := ⟨RJ5, "<init>", "(I)V"⟩
abbrev cJ5_length_8abf5 : ByteArray := prog_11_method_6_code
def yJ5_length_8abf5 : MethodName := ⟨RJ5, "length", "()I"⟩
abbrev cJ5_ensureCapacityInternal_d00df : ByteArray := prog_11_method_9_code
def yJ5_ensureCapacityInternal_d00df : MethodName := ⟨RJ5, "ensureCapacityInternal", "(I)V"⟩
abbrev cJ5_newCapacity_0f7a4 : ByteArray := prog_11_method_10_code
def yJ5_newCapacity_0f7a4 : MethodName := ⟨RJ5, "newCapacity", "(I)I"⟩
abbrev cJ5_inflate_da8c8 : ByteArray := prog_11_method_11_code
def yJ5_inflate_da8c8 : MethodName := ⟨RJ5, "inflate", "()V"⟩
abbrev cJ5_append_cf1ce : ByteArray := prog_11_method_22_code
def yJ5_append_cf1ce : MethodName := ⟨RJ5, "append", "(Ljava/lang/String;)Ljava/lang/AbstractStringBuilder;"⟩
abbrev cJ5_appendNull_278bc : ByteArray := prog_11_method_26_code
def yJ5_appendNull_278bc : MethodName := ⟨RJ5, "appendNull", "()Ljava/lang/AbstractStringBuilder;"⟩
abbrev cJ5_append_3fe6f : ByteArray := prog_11_method_31_code
def yJ5_append_3fe6f : MethodName := ⟨RJ5, "append", "(C)Ljava/lang/AbstractStringBuilder;"⟩
abbrev cJ5_append_c97b9 : ByteArray := prog_11_method_32_code
def yJ5_append_c97b9 : MethodName := ⟨RJ5, "append", "(I)Ljava/lang/AbstractStringBuilder;"⟩
abbrev cJ5_getValue_6d5f1 : ByteArray := prog_11_method_64_code
def yJ5_getValue_6d5f1 : MethodName := ⟨RJ5, "getValue", "()[B"⟩
abbrev cJ5_isLatin1_aae02 : ByteArray := prog_11_method_68_code
def yJ5_isLatin1_aae02 : MethodName := ⟨RJ5, "isLatin1", "()Z"⟩
abbrev cJ5_inflateIfNeededFor_a7421 : ByteArray := prog_11_method_71_code
def yJ5_inflateIfNeededFor_a7421 : MethodName := ⟨RJ5, "inflateIfNeededFor", "(Ljava/lang/String;)V"⟩
abbrev cJ5_putStringAt_47b60 : ByteArray := prog_11_method_73_code
def yJ5_putStringAt_47b60 : MethodName := ⟨RJ5, "putStringAt", "(ILjava/lang/String;)V"⟩
def RJx8e188 : String := "java/lang/Cloneable"
def TJx8e188 : u_T := fun k => match k with
  | _ => ("", "", "", false)
def tyJx8e188 : Nat → FieldType := fun k => match k with
  | _ => .int
abbrev wsJx8e1880 : List Cond := u_ws RJx8e188 TJx8e188 0
theorem nmJx8e188 : ∀ a, a < 0 → ∀ b, b < 0 → a ≠ b → (TJx8e188 a).2.1 ≠ (TJx8e188 b).2.1 := by decide +kernel
theorem tyJx8e188_ok : ∀ k, k < 0 → parseFieldDescriptor (TJx8e188 k).2.2.1 = some (tyJx8e188 k) := by decide +kernel
def RJ6 : String := "java/lang/Integer"
def TJ6 : u_T := fun k => match k with
  | _ => ("", "", "", false)
def tyJ6 : Nat → FieldType := fun k => match k with
  | _ => .int
abbrev wsJ60 : List Cond := u_ws RJ6 TJ6 0
theorem nmJ6 : ∀ a, a < 0 → ∀ b, b < 0 → a ≠ b → (TJ6 a).2.1 ≠ (TJ6 b).2.1 := by decide +kernel
theorem tyJ6_ok : ∀ k, k < 0 → parseFieldDescriptor (TJ6 k).2.2.1 = some (tyJ6 k) := by decide +kernel
abbrev cJ6_getChars_ba4f3 : ByteArray := prog_13_method_12_code
def yJ6_getChars_ba4f3 : MethodName := ⟨RJ6, "getChars", "(II[B)I"⟩
abbrev cJ6_stringSize_0f7a4 : ByteArray := prog_13_method_13_code
def yJ6_stringSize_0f7a4 : MethodName := ⟨RJ6, "stringSize", "(I)I"⟩
abbrev cJ6_compare_7cf53 : ByteArray := prog_13_method_40_code
def yJ6_compare_7cf53 : MethodName := ⟨RJ6, "compare", "(II)I"⟩
def RJ13 : String := "java/lang/Long"
def TJ13 : u_T := fun k => match k with
  | _ => ("", "", "", false)
def tyJ13 : Nat → FieldType := fun k => match k with
  | _ => .int
abbrev wsJ130 : List Cond := u_ws RJ13 TJ13 0
theorem nmJ13 : ∀ a, a < 0 → ∀ b, b < 0 → a ≠ b → (TJ13 a).2.1 ≠ (TJ13 b).2.1 := by decide +kernel
theorem tyJ13_ok : ∀ k, k < 0 → parseFieldDescriptor (TJ13 k).2.2.1 = some (tyJ13 k) := by decide +kernel
abbrev cJ13_compare_74951 : ByteArray := prog_14_method_42_code
def yJ13_compare_74951 : MethodName := ⟨RJ13, "compare", "(JJ)I"⟩
def RJ9 : String := "java/lang/Math"
def TJ9 : u_T := fun k => match k with
  | _ => ("", "", "", false)
def tyJ9 : Nat → FieldType := fun k => match k with
  | _ => .int
abbrev wsJ90 : List Cond := u_ws RJ9 TJ9 0
theorem nmJ9 : ∀ a, a < 0 → ∀ b, b < 0 → a ≠ b → (TJ9 a).2.1 ≠ (TJ9 b).2.1 := by decide +kernel
theorem tyJ9_ok : ∀ k, k < 0 → parseFieldDescriptor (TJ9 k).2.2.1 = some (tyJ9 k) := by decide +kernel
abbrev cJ9_max_7cf53 : ByteArray := prog_15_method_65_code
def yJ9_max_7cf53 : MethodName := ⟨RJ9, "max", "(II)I"⟩
abbrev cJ9_min_7cf53 : ByteArray := prog_15_method_69_code
def yJ9_min_7cf53 : MethodName := ⟨RJ9, "min", "(II)I"⟩
def RJ0 : String := "java/lang/String"
def TJ0 : u_T := fun k => match k with
  | 0 => ("java/lang/String", "value", "[B", true)
  | 1 => ("java/lang/String", "coder", "B", true)
  | 2 => ("java/lang/String", "hash", "I", false)
  | _ => ("java/lang/String", "hashIsZero", "Z", false)
def tyJ0 : Nat → FieldType := fun k => match k with
  | 0 => .array .byte
  | 1 => .byte
  | 2 => .int
  | _ => .boolean
abbrev wsJ00 : List Cond := u_ws RJ0 TJ0 4
theorem nmJ0 : ∀ a, a < 4 → ∀ b, b < 4 → a ≠ b → (TJ0 a).2.1 ≠ (TJ0 b).2.1 := by decide +kernel
theorem tyJ0_ok : ∀ k, k < 4 → parseFieldDescriptor (TJ0 k).2.2.1 = some (tyJ0 k) := by decide +kernel
abbrev cJ0_init_81219 : ByteArray := prog_16_method_53_code
def yJ0_init_81219 : MethodName := ⟨RJ0, "<init>", "(Ljava/lang/StringBuilder;)V"⟩
abbrev cJ0_length_8abf5 : ByteArray := prog_16_method_54_code
def yJ0_length_8abf5 : MethodName := ⟨RJ0, "length", "()I"⟩
abbrev cJ0_charAt_5068e : ByteArray := prog_16_method_56_code
def yJ0_charAt_5068e : MethodName := ⟨RJ0, "charAt", "(I)C"⟩
abbrev cJ0_getBytes_840e7 : ByteArray := prog_16_method_147_code
def yJ0_getBytes_840e7 : MethodName := ⟨RJ0, "getBytes", "([BIB)V"⟩
abbrev cJ0_init_db425 : ByteArray := prog_16_method_150_code
def yJ0_init_db425 : MethodName := ⟨RJ0, "<init>", "(Ljava/lang/AbstractStringBuilder;Ljava/lang/Void;)V"⟩
abbrev cJ0_coder_7d493 : ByteArray := prog_16_method_152_code
def yJ0_coder_7d493 : MethodName := ⟨RJ0, "coder", "()B"⟩
abbrev cJ0_isLatin1_aae02 : ByteArray := prog_16_method_154_code
def yJ0_isLatin1_aae02 : MethodName := ⟨RJ0, "isLatin1", "()Z"⟩
abbrev cJ0_checkIndex_df160 : ByteArray := prog_16_method_155_code
def yJ0_checkIndex_df160 : MethodName := ⟨RJ0, "checkIndex", "(II)V"⟩
abbrev cJ0_checkBoundsOffCount_cabcc : ByteArray := prog_16_method_157_code
def yJ0_checkBoundsOffCount_cabcc : MethodName := ⟨RJ0, "checkBoundsOffCount", "(III)I"⟩
abbrev cJ0_checkBoundsBeginEnd_23922 : ByteArray := prog_16_method_158_code
def yJ0_checkBoundsBeginEnd_23922 : MethodName := ⟨RJ0, "checkBoundsBeginEnd", "(III)V"⟩
def RJ4 : String := "java/lang/StringBuilder"
def TJ4 : u_T := fun k => match k with
  | 0 => ("java/lang/AbstractStringBuilder", "value", "[B", false)
  | 1 => ("java/lang/AbstractStringBuilder", "coder", "B", false)
  | 2 => ("java/lang/AbstractStringBuilder", "maybeLatin1", "Z", false)
  | _ => ("java/lang/AbstractStringBuilder", "count", "I", false)
def tyJ4 : Nat → FieldType := fun k => match k with
  | 0 => .array .byte
  | 1 => .byte
  | 2 => .boolean
  | _ => .int
abbrev wsJ40 : List Cond := u_ws RJ4 TJ4 4
theorem nmJ4 : ∀ a, a < 4 → ∀ b, b < 4 → a ≠ b → (TJ4 a).2.1 ≠ (TJ4 b).2.1 := by decide +kernel
theorem tyJ4_ok : ∀ k, k < 4 → parseFieldDescriptor (TJ4 k).2.2.1 = some (tyJ4 k) := by decide +kernel
abbrev cJ4_init_da8c8 : ByteArray := prog_17_method_1_code
def yJ4_init_da8c8 : MethodName := ⟨RJ4, "<init>", "()V"⟩
abbrev cJ4_append_15ec4 : ByteArray := prog_17_method_7_code
def yJ4_append_15ec4 : MethodName := ⟨RJ4, "append", "(Ljava/lang/String;)Ljava/lang/StringBuilder;"⟩
abbrev cJ4_append_cf468 : ByteArray := prog_17_method_14_code
def yJ4_append_cf468 : MethodName := ⟨RJ4, "append", "(C)Ljava/lang/StringBuilder;"⟩
abbrev cJ4_append_bf812 : ByteArray := prog_17_method_15_code
def yJ4_append_bf812 : MethodName := ⟨RJ4, "append", "(I)Ljava/lang/StringBuilder;"⟩
abbrev cJ4_toString_0e30d : ByteArray := prog_17_method_42_code
def yJ4_toString_0e30d : MethodName := ⟨RJ4, "toString", "()Ljava/lang/String;"⟩
abbrev cJ4_length_8abf5 : ByteArray := prog_17_method_93_code
def yJ4_length_8abf5 : MethodName := ⟨RJ4, "length", "()I"⟩
def RJ1 : String := "java/lang/StringLatin1"
def TJ1 : u_T := fun k => match k with
  | _ => ("", "", "", false)
def tyJ1 : Nat → FieldType := fun k => match k with
  | _ => .int
abbrev wsJ10 : List Cond := u_ws RJ1 TJ1 0
theorem nmJ1 : ∀ a, a < 0 → ∀ b, b < 0 → a ≠ b → (TJ1 a).2.1 ≠ (TJ1 b).2.1 := by decide +kernel
theorem tyJ1_ok : ∀ k, k < 0 → parseFieldDescriptor (TJ1 k).2.2.1 = some (tyJ1 k) := by decide +kernel
abbrev cJ1_charAt_3b067 : ByteArray := prog_18_method_2_code
def yJ1_charAt_3b067 : MethodName := ⟨RJ1, "charAt", "([BI)C"⟩
abbrev cJ1_canEncode_fc78d : ByteArray := prog_18_method_3_code
def yJ1_canEncode_fc78d : MethodName := ⟨RJ1, "canEncode", "(C)Z"⟩
abbrev cJ1_inflate_0e8fd : ByteArray := prog_18_method_50_code
def yJ1_inflate_0e8fd : MethodName := ⟨RJ1, "inflate", "([BI[BII)V"⟩
def RJ2 : String := "java/lang/StringUTF16"
def TJ2 : u_T := fun k => match k with
  | _ => ("", "", "", false)
def tyJ2 : Nat → FieldType := fun k => match k with
  | _ => .int
abbrev wsJ20 : List Cond := u_ws RJ2 TJ2 0
theorem nmJ2 : ∀ a, a < 0 → ∀ b, b < 0 → a ≠ b → (TJ2 a).2.1 ≠ (TJ2 b).2.1 := by decide +kernel
theorem tyJ2_ok : ∀ k, k < 0 → parseFieldDescriptor (TJ2 k).2.2.1 = some (tyJ2 k) := by decide +kernel
abbrev cJ2_newBytesFor_77867 : ByteArray := prog_19_method_2_code
def yJ2_newBytesFor_77867 : MethodName := ⟨RJ2, "newBytesFor", "(I)[B"⟩
abbrev cJ2_newBytesLength_0f7a4 : ByteArray := prog_19_method_3_code
def yJ2_newBytesLength_0f7a4 : MethodName := ⟨RJ2, "newBytesLength", "(I)I"⟩
abbrev cJ2_putChar_b72d1 : ByteArray := prog_19_method_4_code
def yJ2_putChar_b72d1 : MethodName := ⟨RJ2, "putChar", "([BII)V"⟩
abbrev cJ2_getChar_3b067 : ByteArray := prog_19_method_5_code
def yJ2_getChar_3b067 : MethodName := ⟨RJ2, "getChar", "([BI)C"⟩
abbrev cJ2_length_9d52b : ByteArray := prog_19_method_6_code
def yJ2_length_9d52b : MethodName := ⟨RJ2, "length", "([B)I"⟩
abbrev cJ2_coderFromArrayLen_85cad : ByteArray := prog_19_method_15_code
def yJ2_coderFromArrayLen_85cad : MethodName := ⟨RJ2, "coderFromArrayLen", "([BI)B"⟩
abbrev cJ2_compress_39247 : ByteArray := prog_19_method_17_code
def yJ2_compress_39247 : MethodName := ⟨RJ2, "compress", "([BII)[B"⟩
abbrev cJ2_compress_5af95 : ByteArray := prog_19_method_22_code
def yJ2_compress_5af95 : MethodName := ⟨RJ2, "compress", "([BI[BII)I"⟩
abbrev cJ2_putCharSB_b72d1 : ByteArray := prog_19_method_71_code
def yJ2_putCharSB_b72d1 : MethodName := ⟨RJ2, "putCharSB", "([BII)V"⟩
abbrev cJ2_getChars_46870 : ByteArray := prog_19_method_77_code
def yJ2_getChars_46870 : MethodName := ⟨RJ2, "getChars", "(III[B)I"⟩
abbrev cJ2_putCharsAt_cd4e5 : ByteArray := prog_19_method_81_code
def yJ2_putCharsAt_cd4e5 : MethodName := ⟨RJ2, "putCharsAt", "([BICCCC)I"⟩
abbrev cJ2_charAt_3b067 : ByteArray := prog_19_method_83_code
def yJ2_charAt_3b067 : MethodName := ⟨RJ2, "charAt", "([BI)C"⟩
abbrev cJ2_inflate_0e8fd : ByteArray := prog_19_method_86_code
def yJ2_inflate_0e8fd : MethodName := ⟨RJ2, "inflate", "([BI[BII)V"⟩
abbrev cJ2_getChars_ba4f3 : ByteArray := prog_19_method_89_code
def yJ2_getChars_ba4f3 : MethodName := ⟨RJ2, "getChars", "(II[B)I"⟩
abbrev cJ2_checkIndex_2214a : ByteArray := prog_19_method_91_code
def yJ2_checkIndex_2214a : MethodName := ⟨RJ2, "checkIndex", "(I[B)V"⟩
abbrev cJ2_checkBoundsBeginEnd_d044e : ByteArray := prog_19_method_93_code
def yJ2_checkBoundsBeginEnd_d044e : MethodName := ⟨RJ2, "checkBoundsBeginEnd", "(II[B)V"⟩
abbrev cJ2_checkBoundsOffCount_d044e : ByteArray := prog_19_method_94_code
def yJ2_checkBoundsOffCount_d044e : MethodName := ⟨RJ2, "checkBoundsOffCount", "(II[B)V"⟩
def RJ10 : String := "java/lang/System"
def TJ10 : u_T := fun k => match k with
  | _ => ("", "", "", false)
def tyJ10 : Nat → FieldType := fun k => match k with
  | _ => .int
abbrev wsJ100 : List Cond := u_ws RJ10 TJ10 0
theorem nmJ10 : ∀ a, a < 0 → ∀ b, b < 0 → a ≠ b → (TJ10 a).2.1 ≠ (TJ10 b).2.1 := by decide +kernel
theorem tyJ10_ok : ∀ k, k < 0 → parseFieldDescriptor (TJ10 k).2.2.1 = some (tyJ10 k) := by decide +kernel
def RJ7 : String := "java/util/Arrays"
def TJ7 : u_T := fun k => match k with
  | _ => ("", "", "", false)
def tyJ7 : Nat → FieldType := fun k => match k with
  | _ => .int
abbrev wsJ70 : List Cond := u_ws RJ7 TJ7 0
theorem nmJ7 : ∀ a, a < 0 → ∀ b, b < 0 → a ≠ b → (TJ7 a).2.1 ≠ (TJ7 b).2.1 := by decide +kernel
theorem tyJ7_ok : ∀ k, k < 0 → parseFieldDescriptor (TJ7 k).2.2.1 = some (tyJ7 k) := by decide +kernel
abbrev cJ7_copyOf_9075b : ByteArray := prog_21_method_121_code
def yJ7_copyOf_9075b : MethodName := ⟨RJ7, "copyOf", "([BI)[B"⟩
abbrev cJ7_checkLength_df160 : ByteArray := prog_21_method_131_code
def yJ7_checkLength_df160 : MethodName := ⟨RJ7, "checkLength", "(II)V"⟩
abbrev cJ7_copyOfRange_39247 : ByteArray := prog_21_method_132_code
def yJ7_copyOfRange_39247 : MethodName := ⟨RJ7, "copyOfRange", "([BII)[B"⟩
abbrev cJ7_copyOfRangeByte_39247 : ByteArray := prog_21_method_133_code
def yJ7_copyOfRangeByte_39247 : MethodName := ⟨RJ7, "copyOfRangeByte", "([BII)[B"⟩
def RJ8 : String := "jdk/internal/util/ArraysSupport"
def TJ8 : u_T := fun k => match k with
  | _ => ("", "", "", false)
def tyJ8 : Nat → FieldType := fun k => match k with
  | _ => .int
abbrev wsJ80 : List Cond := u_ws RJ8 TJ8 0
theorem nmJ8 : ∀ a, a < 0 → ∀ b, b < 0 → a ≠ b → (TJ8 a).2.1 ≠ (TJ8 b).2.1 := by decide +kernel
theorem tyJ8_ok : ∀ k, k < 0 → parseFieldDescriptor (TJ8 k).2.2.1 = some (tyJ8 k) := by decide +kernel
abbrev cJ8_newLength_cabcc : ByteArray := prog_22_method_27_code
def yJ8_newLength_cabcc : MethodName := ⟨RJ8, "newLength", "(III)I"⟩
abbrev cJ8_hugeLength_7cf53 : ByteArray := prog_22_method_28_code
def yJ8_hugeLength_7cf53 : MethodName := ⟨RJ8, "hugeLength", "(II)I"⟩
def RJ3 : String := "jdk/internal/util/Preconditions"
def TJ3 : u_T := fun k => match k with
  | _ => ("", "", "", false)
def tyJ3 : Nat → FieldType := fun k => match k with
  | _ => .int
abbrev wsJ30 : List Cond := u_ws RJ3 TJ3 0
theorem nmJ3 : ∀ a, a < 0 → ∀ b, b < 0 → a ≠ b → (TJ3 a).2.1 ≠ (TJ3 b).2.1 := by decide +kernel
theorem tyJ3_ok : ∀ k, k < 0 → parseFieldDescriptor (TJ3 k).2.2.1 = some (tyJ3 k) := by decide +kernel
abbrev cJ3_checkIndex_8e157 : ByteArray := prog_23_method_11_code
def yJ3_checkIndex_8e157 : MethodName := ⟨RJ3, "checkIndex", "(IILjava/util/function/BiFunction;)I"⟩
abbrev cJ3_checkFromToIndex_8c36e : ByteArray := prog_23_method_12_code
def yJ3_checkFromToIndex_8c36e : MethodName := ⟨RJ3, "checkFromToIndex", "(IIILjava/util/function/BiFunction;)I"⟩
abbrev cJ3_checkFromIndexSize_8c36e : ByteArray := prog_23_method_13_code
def yJ3_checkFromIndexSize_8c36e : MethodName := ⟨RJ3, "checkFromIndexSize", "(IIILjava/util/function/BiFunction;)I"⟩
def RL : String := "ColumnCastsLaw"
abbrev cL_cell : ByteArray := method_2_code
def yL_cell : MethodName := ⟨RL, "cell", "([II)I"⟩
abbrev cL_pick : ByteArray := method_3_code
def yL_pick : MethodName := ⟨RL, "pick", "([III)I"⟩
abbrev cL_word : ByteArray := method_4_code
def yL_word : MethodName := ⟨RL, "word", "([II)Ljava/lang/String;"⟩
abbrev cL_number : ByteArray := method_5_code
def yL_number : MethodName := ⟨RL, "number", "([II)Ljava/lang/String;"⟩
abbrev cL_item : ByteArray := method_6_code
def yL_item : MethodName := ⟨RL, "item", "([III)Ljava/lang/String;"⟩
abbrev cL_column : ByteArray := method_7_code
def yL_column : MethodName := ⟨RL, "column", "([IIII)Ljava/lang/String;"⟩
abbrev cL_read : ByteArray := method_8_code
def yL_read : MethodName := ⟨RL, "read", "(LColumnCasts;Ljava/lang/String;)I"⟩
abbrev cL_looks : ByteArray := method_9_code
def yL_looks : MethodName := ⟨RL, "looks", "(LColumnCasts;II[J)V"⟩
abbrev cL_isLike : ByteArray := method_10_code
def yL_isLike : MethodName := ⟨RL, "isLike", "(LColumnCasts;II[J)Z"⟩
abbrev cL_law : ByteArray := code
def yL_law : MethodName := ⟨RL, "law", "([I)Z"⟩
abbrev vwCl : List vw_C := [(RX0, TX0, 3), (RX1, TX1, 5), (RX2, TX2, 3), (RX3, TX3, 2), (RX4, TX4, 9), (RX5, TX5, 4), (RX6, TX6, 2), (RX7, TX7, 19), (RJ0, TJ0, 4), (RJ4, TJ4, 4)]
end
section
/-! ===== THE MINI MACHINE: memory, world, what a run from a point comes to ===== -/
abbrev mmMem : Type := (Nat → Nat → Int32) × (Nat → Nat → Int64) × (Nat → Nat → UInt64)
abbrev mmMi : Type := MethodName × ByteArray × Nat × Option FieldType
abbrev mmMI : Type := Nat × Instr × Nat × Nat × Nat × Nat × Value × mmMi
def mmTab : List Nat := [4, 14, 15, 10, 13, 16] ++ (List.replicate 12 [1, 10, 11, 12]).flatten ++ (List.replicate 2 [6, 10]).flatten ++ (List.replicate 6 [2, 0]).flatten
def mmKDl : List Nat := [7] ++ mmTab ++ mmTab ++ [5, 10, 0, 3, 10, 1, 10, 11, 12, 2, 0, 0, 0, 0, 10, 13, 10, 10, 10]
def mmTabL : List Nat := [0, 12, 2, 4, 4, 6] ++ (List.replicate 12 [0, 40, 40, 40]).flatten ++ (List.replicate 2 [0, 40]).flatten ++ (List.replicate 6 [0, 0]).flatten
def mmLENl : List Nat := [0] ++ mmTabL ++ mmTabL ++ [0, 100, 0, 0, 1000, 0, 40, 40, 40, 0, 0, 0, 0, 0, 40, 40, 40, 64, 64]
/-- the kind of the cell at a place: 0 .. 8 an object of that class, 10 .. 13 a row of ints, longs, doubles, booleans, 14 .. 16 of columns, views, filters -/
def mmKD (a : Nat) : Nat := mmKDl.getD a 99
def mmLEN (a : Nat) : Nat := mmLENl.getD a 0
def mmNF (ci : Nat) : Nat := [3, 5, 3, 2, 9, 4, 2, 19, 4, 4].getD ci 0
/-- the sort of a field: 0 int, 1 long, 2 double, 3 a reference -/
def mmFT (ci k : Nat) : Nat := ([[0, 1, 2], [0, 0, 3, 3, 3], [0, 0, 3], [0, 3], [0, 0, 0, 0, 3, 3, 3, 3, 3], [0, 0, 3, 3], [0, 3], [3, 3, 0, 3, 3, 3, 3, 3, 3, 3, 3, 3, 3, 3, 3, 1, 0, 0, 0]].getD ci []).getD k 9
/-- where a reference leads: they never move -/
def mmRF (kd a i : Nat) : Nat := match kd with
  | 1 => a + (i - 1)
  | 2 => a + 1
  | 3 => a + 1
  | 4 => a + (i - 3)
  | 5 => a + (i - 1)
  | 6 => a + 1
  | 7 => [1, 71, 0, 141, 144, 146, 150, 152, 153, 154, 155, 156, 157, 158, 159].getD i 0
  | 14 => a + 5 + 4 * i
  | 15 => a + 52 + 2 * i
  | _ => a + 53 + 2 * i
def mmFV (B : Nat) (μ : mmMem) (a ci k : Nat) : Value := match mmFT ci k with
  | 0 => .int (μ.1 a k)
  | 1 => .long (μ.2.1 a k)
  | 2 => .double (μ.2.2 a k)
  | _ => .ref (B + mmRF ci a k)
def mmE (B : Nat) (cA : Nat → ClassId) (μ : mmMem) (a : Nat) : va_E := match mmKD a with
  | 10 => .inl (cA 0, mmLEN a, .inl (μ.1 a))
  | 11 => .inl (cA 1, mmLEN a, .inr (.inl (μ.2.1 a)))
  | 12 => .inl (cA 2, mmLEN a, .inr (.inr (.inr (.inl (μ.2.2 a)))))
  | 13 => .inl (cA 3, mmLEN a, .inl (μ.1 a))
  | 14 => .inl (cA 4, mmLEN a, .inr (.inr (.inr (.inr fun i => some (B + mmRF 14 a i)))))
  | 15 => .inl (cA 5, mmLEN a, .inr (.inr (.inr (.inr fun i => some (B + mmRF 15 a i)))))
  | 16 => .inl (cA 6, mmLEN a, .inr (.inr (.inr (.inr fun i => some (B + mmRF 16 a i)))))
  | ci => .inr (ci, (List.range (mmNF ci)).map (mmFV B μ a ci))
def mmW (B : Nat) (cA : Nat → ClassId) (μ : mmMem) : va_W := (List.range 160).map fun a => (B + a, mmE B cA μ a)
def mmTys (cA : Nat → ClassId) : List (ClassId × FieldType) := [(cA 0, .int), (cA 1, .long), (cA 2, .double), (cA 3, .boolean), (cA 4, .object RX1), (cA 5, .object RX6), (cA 6, .object RX2), (cA 7, .byte)]
def sI (μ : mmMem) (a i : Nat) (x : Int32) : mmMem := (fun b => if b = a then upd (μ.1 a) i x else μ.1 b, μ.2)
def sJ (μ : mmMem) (a i : Nat) (x : Int64) : mmMem := (μ.1, fun b => if b = a then vp_updL (μ.2.1 a) i x else μ.2.1 b, μ.2.2)
def sD (μ : mmMem) (a i : Nat) (x : UInt64) : mmMem := (μ.1, μ.2.1, fun b => if b = a then vf_upd (μ.2.2 a) i x else μ.2.2 b)
def cI (μ : mmMem) (a b sp dp n : Nat) : mmMem := (fun q => if q = b then va_cpy (μ.1 a) (μ.1 b) sp dp n else μ.1 q, μ.2)
def cJ (μ : mmMem) (a b sp dp n : Nat) : mmMem := (μ.1, fun q => if q = b then va_cpy (μ.2.1 a) (μ.2.1 b) sp dp n else μ.2.1 q, μ.2.2)
def cD (μ : mmMem) (a b sp dp n : Nat) : mmMem := (μ.1, μ.2.1, fun q => if q = b then va_cpy (μ.2.2 a) (μ.2.2 b) sp dp n else μ.2.2 q)
theorem mmKD_lt {a : Nat} (h : mmKD a < 99) : a < 160 := by
  rcases Nat.lt_or_ge a 160 with q | q
  · exact q
  · exfalso
    have hl : mmKDl.length = 160 := by decide +kernel
    have : mmKD a = 99 := by
      unfold mmKD
      rw [List.getD_eq_getElem?_getD, List.getElem?_eq_none (by rw [hl]; exact q)]
      rfl
    omega
theorem mmW_get {B : Nat} {cA : Nat → ClassId} {μ : mmMem} {a : Nat} (h : a < 160) : (mmW B cA μ)[a]? = some (B + a, mmE B cA μ a) := by
  simp [mmW, h]
theorem mmW_inv {B : Nat} {cA : Nat → ClassId} {μ : mmMem} {k : Nat} {q : Nat × va_E} (h : (mmW B cA μ)[k]? = some q) : k < 160 ∧ q.1 = B + k := by
  have hk : k < 160 := by
    have h1 := (List.getElem?_eq_some_iff.mp h).1
    simpa [mmW] using h1
  rw [mmW_get hk] at h
  cases h
  exact ⟨hk, rfl⟩
/-- the class's own places -/
def mmA (B : Nat) : Nat → Prop := fun q => B ≤ q ∧ q < B + 160
theorem mmW_D {B : Nat} {cA : Nat → ClassId} {μ : mmMem} : va_D (mmA B) (mmW B cA μ) := by
  refine ⟨fun i j p q hi hj h => ?_, fun k q hk => ?_⟩
  · have h1 := (mmW_inv hi).2
    have h2 := (mmW_inv hj).2
    omega
  · obtain ⟨h0, h1⟩ := mmW_inv hk
    show B ≤ q.1 ∧ q.1 < B + 160
    omega
theorem mm_mapset {α : Type} {n a : Nat} {f g : Nat → α} {y : α} (ha : a < n) (h : ∀ b, b ≠ a → f b = g b) (hy : y = g a) : ((List.range n).map f).set a y = (List.range n).map g := by
  refine List.ext_getElem (by simp) (fun i h1 h2 => ?_)
  simp only [List.getElem_set, List.getElem_map, List.getElem_range]
  by_cases hi : a = i
  · subst hi
    simp [hy]
  · rw [if_neg hi]
    exact h i (fun q => hi q.symm)
theorem mmE_of {B : Nat} {cA : Nat → ClassId} {μ ν : mmMem} {b : Nat} (h1 : μ.1 b = ν.1 b) (h2 : μ.2.1 b = ν.2.1 b) (h3 : μ.2.2 b = ν.2.2 b) : mmE B cA μ b = mmE B cA ν b := by
  unfold mmE
  have hf : ∀ ci, mmFV B μ b ci = mmFV B ν b ci := fun ci => by
    funext k
    simp only [mmFV, h1, h2, h3]
  split <;> simp only [h1, h2, h3, hf]
theorem mmW_set {B : Nat} {cA : Nat → ClassId} {μ ν : mmMem} {a : Nat} {e : va_E} (ha : a < 160) (h1 : ∀ b, b ≠ a → μ.1 b = ν.1 b) (h2 : ∀ b, b ≠ a → μ.2.1 b = ν.2.1 b) (h3 : ∀ b, b ≠ a → μ.2.2 b = ν.2.2 b) (he : e = mmE B cA ν a) : (mmW B cA μ).set a (B + a, e) = mmW B cA ν := by
  refine mm_mapset ha (fun b hb => ?_) (by rw [he])
  rw [mmE_of (h1 b hb) (h2 b hb) (h3 b hb)]
theorem mmE_obj {B : Nat} {cA : Nat → ClassId} {μ : mmMem} {a ci : Nat} (h : mmKD a = ci) (hc : ci < 10) : mmE B cA μ a = .inr (ci, (List.range (mmNF ci)).map (mmFV B μ a ci)) := by
  unfold mmE
  rw [h]
  split <;> first | (exfalso; omega) | rfl
/-- values: references are told from the base on; the String constant is .retAddr -/
def mmV (B : Nat) (sk : Nat → Nat) : Value → Value
  | .ref k => .ref (B + k)
  | .retAddr _ => .ref (sk 0)
  | v => v
theorem mmV_cat (B : Nat) (sk : Nat → Nat) (v : Value) (h : v.category = 1) : (mmV B sk v).category = 1 := by
  cases v <;> first | rfl | exact h
def mmT : List Cond := lw_tbl.filter goodWord
theorem mm_in (i : Nat) {w : Cond} (h : lw_tbl[i]? = some w) (hg : goodWord w = true) : w ∈ mmT := List.mem_filter.mpr ⟨List.mem_of_getElem? h, hg⟩
theorem mm_good : GoodIn lw_tbl mmT := fun w hw => ⟨(List.mem_filter.mp hw).1, good_of_word (List.mem_filter.mp hw).2⟩
theorem mm_goodT : GoodIn mmT mmT := fun w hw => ⟨hw, good_of_word (List.mem_filter.mp hw).2⟩
def mmWs (M : mmMi) : List Cond := .code M.1 M.2.1 M.2.2.1 M.2.2.2 :: mmT
def mmRm (d : Nat) : Room := { frames := d, cells := 0, slots := 0, locals := 40 * d }
def mmNest : List (String × Nat × MethodName) := [(RX4, 37, yX1_init), (RX4, 38, yX6_init), (RX4, 39, yX2_init), (RX2, 11, yX0_init), (RX7, 21, yX5_init), (RX5, 17, yX0_init), (RX7, 28, yX3_init), (RX7, 35, yX1_init), (RX7, 42, yX2_init), (RX7, 49, yX0_init), (RX5, 76, yX7_boxKindIn)]
/-- what stands of a state, whatever the memory -/
def mmS (B : Nat) (H0 : Heap) (sk sv : Nat → Nat) (D : va_G) (cA : Nat → ClassId) (U : State) : Prop :=
  B + 160 ≤ H0.size ∧ va_K D vwCl (mmTys cA) U ∧ vk_R RX5 51 "zbcsilfdwon" (sk 0) U ∧
  vk_S 1 [11] [[122, 98, 99, 115, 105, 108, 102, 100, 119, 111, 110]] sk sv (mmA B) U H0 ∧ va_Z "java/lang/String" "COMPACT_STRINGS" "Z" (.int 1) (mmA B) U H0 ∧
  (∃ v, (v = .null ∨ ∃ t, v = .ref t) ∧ va_Z "jdk/internal/util/Preconditions" "SIOOBE_FORMATTER" "Ljava/util/function/BiFunction;" v (mmA B) U H0) ∧
  ∀ q ∈ mmNest, va_Nw (.methodLinkNest q.1 q.2.1 q.2.2 "ColumnCasts") U
theorem mmS.warm {B : Nat} {H0 : Heap} {sk sv : Nat → Nat} {D : va_G} {cA : Nat → ClassId} {s U : State} (hW : s.WarmedH U.vm) (h : mmS B H0 sk sv D cA s) : mmS B H0 sk sv D cA U := by
  obtain ⟨h0, h1, h2, h5, h6, ⟨v, hv, h7⟩, h8⟩ := h
  exact ⟨h0, va_K.moved hW.alike h1, vk_R.warm hW h2, vk_S.moved hW.alike h5, va_Z.moved hW.alike h6, ⟨v, hv, va_Z.moved hW.alike h7⟩, fun q hq => va_Nw.warmM hW (h8 q hq)⟩
theorem mmS.same {B : Nat} {H0 : Heap} {sk sv : Nat → Nat} {D : va_G} {cA : Nat → ClassId} {s U : State} (hv : U.vm = s.vm) (h : mmS B H0 sk sv D cA s) : mmS B H0 sk sv D cA U := by
  obtain ⟨h0, h1, h2, h5, h6, ⟨v, hvv, h7⟩, h8⟩ := h
  have hA : s.vm.Alike U.vm := by rw [hv]; exact Vm.Alike.refl s.vm
  exact ⟨h0, va_K.moved hA h1, vk_R.same hv h2, vk_S.moved hA h5, va_Z.moved hA h6, ⟨v, hvv, va_Z.moved hA h7⟩, fun q hq => va_Nw.same rfl hv.symm (h8 q hq)⟩
/-- the heap holds the memory, and below the base it is as it was -/
def mmH (B : Nat) (H0 : Heap) (D : va_G) (cA : Nat → ClassId) (μ : mmMem) (H : Heap) : Prop := H.size = H0.size ∧ (∀ q : Nat, q < H0.size → ¬ mmA B q → H[q]? = H0[q]?) ∧ va_P D vwCl (mmW B cA μ) H
def mmPc (B : Nat) (H0 : Heap) (sk sv : Nat → Nat) (D : va_G) (cA : Nat → ClassId) (as : List Value) (μ : mmMem) : Array Value → State → Prop := fun a U => a = (as.map (mmV B sk)).toArray ∧ mmH B H0 D cA μ U.heap ∧ mmS B H0 sk sv D cA U
def mmQc (B : Nat) (H0 : Heap) (sk : Nat → Nat) (D : va_G) (cA : Nat → ClassId) (P : Option Value → mmMem → Prop) : Array Value → State → Outcome → State → Prop := fun _ _ oc t => ∃ (v : Option Value) (ν : mmMem), oc = .returned (v.map (mmV B sk)) ∧ P v ν ∧ mmH B H0 D cA ν t.heap
/-- a call of M, at depth d: comes back, and what it answers and leaves is as P says -/
def mmCall (d : Nat) (M : mmMi) (as : List Value) (μ : mmMem) (P : Option Value → mmMem → Prop) : Prop :=
  ∀ (l : Launch) (B : Nat) (H0 : Heap) (sk sv : Nat → Nat) (D : va_G) (cA : Nat → ClassId), Met l M.1 (mmWs M) (mmRm d) (mmPc B H0 sk sv D cA as μ) (mmQc B H0 sk D cA P) 0 0 (mmA B)
/-- what a callee's words say, virtual (st = false) or static, n parameters -/
def mmGd (M : mmMi) (st : Bool) (n : Nat) : Prop := Cond.code M.1 M.2.1 M.2.2.1 M.2.2.2 ∈ mmT ∧ Cond.initialized M.1.cls ∈ mmT ∧ (M.1.cls ≠ "java/lang/invoke/MethodHandle" ∧ M.1.cls ≠ "java/lang/invoke/VarHandle" ∧ (parseMethodDescriptor M.1.desc).map (fun d => d.parameters.length) = some n) ∧ M.2.2.1 ≤ 20 ∧
  (if st = true then Cond.static M.1 ∈ mmT else (Cond.instanceMethod M.1 ∈ mmT ∧ Cond.selects M.1.cls M.1 M.1 ∈ mmT))
def mmCU (d : Nat) (M : mmMi) (st : Bool) (n : Nat) (as : List Value) (μ : mmMem) (P : Option Value → mmMem → Prop) : Prop := mmGd M st n ∧ as.length = (match st with | true => n | false => n + 1) ∧ ∃ d', d' < d ∧ ∃ P' : Option Value → mmMem → Prop, (∀ v ν, P' v ν → P v ν) ∧ mmCall d' M as μ P'
/-! the same by what comes back -/
def mmP0 (K : mmMem → Prop) : Option Value → mmMem → Prop := fun v ν => match v with
  | none => K ν
  | _ => False
def mmPI (K : Int32 → mmMem → Prop) : Option Value → mmMem → Prop := fun v ν => match v with
  | some (.int x) => K x ν
  | _ => False
theorem mmPI_ok {K : Int32 → mmMem → Prop} {v : Option Value} {ν : mmMem} (h : mmPI K v ν) : ∃ x, v = some (.int x) ∧ K x ν := by
  unfold mmPI at h
  split at h
  · exact ⟨_, rfl, h⟩
  · exact h.elim
def mmPJ (K : Int64 → mmMem → Prop) : Option Value → mmMem → Prop := fun v ν => match v with
  | some (.long x) => K x ν
  | _ => False
theorem mmPJ_ok {K : Int64 → mmMem → Prop} {v : Option Value} {ν : mmMem} (h : mmPJ K v ν) : ∃ x, v = some (.long x) ∧ K x ν := by
  unfold mmPJ at h
  split at h
  · exact ⟨_, rfl, h⟩
  · exact h.elim
def mmPF (K : UInt32 → mmMem → Prop) : Option Value → mmMem → Prop := fun v ν => match v with
  | some (.float x) => K x ν
  | _ => False
theorem mmPF_ok {K : UInt32 → mmMem → Prop} {v : Option Value} {ν : mmMem} (h : mmPF K v ν) : ∃ x, v = some (.float x) ∧ K x ν := by
  unfold mmPF at h
  split at h
  · exact ⟨_, rfl, h⟩
  · exact h.elim
def mmPD (K : UInt64 → mmMem → Prop) : Option Value → mmMem → Prop := fun v ν => match v with
  | some (.double x) => K x ν
  | _ => False
theorem mmPD_ok {K : UInt64 → mmMem → Prop} {v : Option Value} {ν : mmMem} (h : mmPD K v ν) : ∃ x, v = some (.double x) ∧ K x ν := by
  unfold mmPD at h
  split at h
  · exact ⟨_, rfl, h⟩
  · exact h.elim
def mmPA (K : Nat → mmMem → Prop) : Option Value → mmMem → Prop := fun v ν => match v with
  | some (.ref x) => K x ν
  | _ => False
theorem mmPA_ok {K : Nat → mmMem → Prop} {v : Option Value} {ν : mmMem} (h : mmPA K v ν) : ∃ x, v = some (.ref x) ∧ K x ν := by
  unfold mmPA at h
  split at h
  · exact ⟨_, rfl, h⟩
  · exact h.elim
theorem mmP0_ok {K : mmMem → Prop} {v : Option Value} {ν : mmMem} (h : mmP0 K v ν) : v = none ∧ K ν := by
  unfold mmP0 at h
  split at h
  · exact ⟨rfl, h⟩
  · exact h.elim
def mmC0 (d : Nat) (M : mmMi) (st : Bool) (n : Nat) (as : List Value) (μ : mmMem) (K : mmMem → Prop) : Prop := mmCU d M st n as μ (mmP0 K)
def mmCI (d : Nat) (M : mmMi) (st : Bool) (n : Nat) (as : List Value) (μ : mmMem) (K : Int32 → mmMem → Prop) : Prop := mmCU d M st n as μ (mmPI K)
def mmCJ (d : Nat) (M : mmMi) (st : Bool) (n : Nat) (as : List Value) (μ : mmMem) (K : Int64 → mmMem → Prop) : Prop := mmCU d M st n as μ (mmPJ K)
def mmCF (d : Nat) (M : mmMi) (st : Bool) (n : Nat) (as : List Value) (μ : mmMem) (K : UInt32 → mmMem → Prop) : Prop := mmCU d M st n as μ (mmPF K)
def mmCD (d : Nat) (M : mmMi) (st : Bool) (n : Nat) (as : List Value) (μ : mmMem) (K : UInt64 → mmMem → Prop) : Prop := mmCU d M st n as μ (mmPD K)
def mmCA (d : Nat) (M : mmMi) (st : Bool) (n : Nat) (as : List Value) (μ : mmMem) (K : Nat → mmMem → Prop) : Prop := mmCU d M st n as μ (mmPA K)
def mmCl (d : Nat) (M : mmMi) (st : Bool) (n : Nat) (as : List Value) (μ : mmMem) (r : List Value) (K : List Value → mmMem → Prop) : Prop := match M.2.2.2 with
  | none => mmC0 d M st n as μ fun ν => K r ν
  | some .long => mmCJ d M st n as μ fun x ν => K (.long x :: r) ν
  | some .float => mmCF d M st n as μ fun x ν => K (.float x :: r) ν
  | some .double => mmCD d M st n as μ fun x ν => K (.double x :: r) ν
  | some (.object _) => mmCA d M st n as μ fun x ν => K (.ref x :: r) ν
  | some _ => mmCI d M st n as μ fun x ν => K (.int x :: r) ν
theorem mmCU.mono {d : Nat} {M : mmMi} {st : Bool} {n : Nat} {as : List Value} {μ : mmMem} {P Q : Option Value → mmMem → Prop} (h : mmCU d M st n as μ P) (hq : ∀ v ν, P v ν → Q v ν) : mmCU d M st n as μ Q := by
  obtain ⟨h1, h2, d', h3, P', h4, h5⟩ := h
  exact ⟨h1, h2, d', h3, P', fun v ν h => hq v ν (h4 v ν h), h5⟩
theorem mmCl_ok {d : Nat} {M : mmMi} {st : Bool} {n : Nat} {as : List Value} {μ : mmMem} {r : List Value} {K : List Value → mmMem → Prop} (h : mmCl d M st n as μ r K) : mmCU d M st n as μ fun v ν => K (v.toList ++ r) ν := by
  unfold mmCl at h
  split at h
  · exact h.mono (fun v ν h => by obtain ⟨rfl, h⟩ := mmP0_ok h; exact h)
  · exact h.mono (fun v ν h => by obtain ⟨x, rfl, h⟩ := mmPJ_ok h; exact h)
  · exact h.mono (fun v ν h => by obtain ⟨x, rfl, h⟩ := mmPF_ok h; exact h)
  · exact h.mono (fun v ν h => by obtain ⟨x, rfl, h⟩ := mmPD_ok h; exact h)
  · exact h.mono (fun v ν h => by obtain ⟨x, rfl, h⟩ := mmPA_ok h; exact h)
  · exact h.mono (fun v ν h => by obtain ⟨x, rfl, h⟩ := mmPI_ok h; exact h)
/-- locals, by their places; .retAddr 7 stands for 'not known' -/
def mmLs (B : Nat) (sk : Nat → Nat) (ls : Array Slot) (n : Nat) (L : List Value) : Prop := ∃ lv, lv_has ls n lv ∧ ∀ (i : Nat) (v : Value), L[i]? = some v → v ≠ .retAddr 7 → (i, mmV B sk v) ∈ lv
def mmEnds (d : Nat) (M : mmMi) (pc : Nat) (L st : List Value) (μ : mmMem) (P : Option Value → mmMem → Prop) : Prop :=
  ∀ (p : Program) (l : Launch) (e : Env) (s : State) (m : MethodId) (args : Array Value) (below : List Frame) (meth : Method) (c : Code) (H : Heap) (locs : List Loc) (B : Nat) (H0 : Heap) (sk sv : Nat → Nat) (D : va_G) (cA : Nat → ClassId) (ls : Array Slot),
    p.tables.exec = Jvm.exec → c.code = M.2.1 → meth.sig.returnType = M.2.2.2 → c.maxLocals = M.2.2.1 → s.vm.findClass M.1.cls = some m.cls → (∀ w ∈ mmT, w.before args s = true) → meth.locks = false →
    mmS B H0 sk sv D cA s → mmLs B sk ls M.2.2.1 L → mmH B H0 D cA μ H → va_S (mmA B) s.heap H locs → s.heap.size = H0.size →
    W p l e (mmRm d) s m args below meth c H locs 0 0 (MQ below (mmQc B H0 sk D cA P) args s 0 0 (mmA B)) (F0 m pc ls (st.map (mmV B sk)))
def mget : List Value → Nat → Value
  | [], _ => .retAddr 7
  | a :: _, 0 => a
  | _ :: l, n + 1 => mget l n
def mset : List Value → Nat → Value → List Value
  | [], _, _ => []
  | _ :: l, 0, v => v :: l
  | a :: l, n + 1, v => a :: mset l n v
/-- a store: f = 1: the local ahead is not known from then on (it may be cut in two) -/
def mst1 (f : Nat) (L : List Value) (i : Nat) (v : Value) : List Value := match f with
  | 0 => mset L i v
  | _ + 1 => match i with
    | 0 => mset L 0 v
    | j + 1 => mset (mset L j (.retAddr 7)) (j + 1) v
def mst2 (f : Nat) (L : List Value) (i : Nat) (v : Value) : List Value := mset (mst1 f L i v) (i + 1) (.retAddr 7)
/-- what the local ahead must be for a store with f = 0 -/
def mok1 (f : Nat) (L : List Value) (i : Nat) : Prop := match f with
  | 0 => match i with
    | 0 => True
    | j + 1 => (mget L j).category = 1
  | _ + 1 => True
theorem mget_some {L : List Value} {i : Nat} {v : Value} (h : mget L i = v) (hv : v ≠ .retAddr 7) : L[i]? = some v := by
  induction L generalizing i with
  | nil => exact absurd h.symm hv
  | cons a l ih =>
    cases i with
    | zero => simpa [mget] using h
    | succ j => simpa using ih h
theorem mget_eq {L : List Value} {i : Nat} {v : Value} (h : L[i]? = some v) : mget L i = v := by
  induction L generalizing i with
  | nil => simp at h
  | cons a l ih =>
    cases i with
    | zero => simpa [mget] using h
    | succ j => exact ih (by simpa using h)
theorem mset_get {L : List Value} {i j : Nat} {v w : Value} (h : (mset L i v)[j]? = some w) : (j = i ∧ w = v) ∨ (j ≠ i ∧ L[j]? = some w) := by
  induction L generalizing i j with
  | nil => simp [mset] at h
  | cons a l ih =>
    cases i with
    | zero =>
      cases j with
      | zero => left; exact ⟨rfl, by simpa [mset] using h.symm⟩
      | succ j => right; exact ⟨by omega, by simpa [mset] using h⟩
    | succ i =>
      cases j with
      | zero => right; exact ⟨by omega, by simpa [mset] using h⟩
      | succ j =>
        rcases ih (i := i) (j := j) (by simpa [mset] using h) with ⟨h1, h2⟩ | ⟨h1, h2⟩
        · left; exact ⟨by omega, h2⟩
        · right; exact ⟨by omega, by simpa using h2⟩
theorem mmLs.at {B : Nat} {sk : Nat → Nat} {ls : Array Slot} {n : Nat} {L : List Value} (h : mmLs B sk ls n L) {i : Nat} {v : Value} (hg : mget L i = v) (hv : v ≠ .retAddr 7) : ls[i]? = some (.val (mmV B sk v)) := by
  obtain ⟨lv, h1, h2⟩ := h
  exact h1.2.2 _ (h2 i v (mget_some hg hv) hv)
theorem mst1_get {f i j : Nat} {L : List Value} {v w : Value} (hok : mok1 f L i) (hj : (mst1 f L i v)[j]? = some w) (hw : w ≠ .retAddr 7) : (j = i ∧ w = v) ∨ (j ≠ i ∧ L[j]? = some w ∧ (j + 1 = i → w.category = 1)) := by
  have plain : (∀ k, i = k + 1 → (mget L k).category = 1) → (mset L i v)[j]? = some w → (j = i ∧ w = v) ∨ (j ≠ i ∧ L[j]? = some w ∧ (j + 1 = i → w.category = 1)) := by
    intro hc h
    rcases mset_get h with ⟨a, b⟩ | ⟨a, b⟩
    · exact Or.inl ⟨a, b⟩
    · exact Or.inr ⟨a, b, fun hji => by rw [← mget_eq b]; exact hc j hji.symm⟩
  cases f with
  | zero =>
    refine plain (fun k hk => ?_) hj
    subst hk
    exact hok
  | succ f =>
    cases i with
    | zero => exact plain (fun k hk => by omega) hj
    | succ i =>
      rcases mset_get (show (mset (mset L i (.retAddr 7)) (i + 1) v)[j]? = some w from hj) with ⟨a, b⟩ | ⟨a, b⟩
      · exact Or.inl ⟨a, b⟩
      · rcases mset_get b with ⟨a2, b2⟩ | ⟨a2, b2⟩
        · exact absurd b2 hw
        · exact Or.inr ⟨a, b2, fun q => by omega⟩
theorem mmLs.st1 {B : Nat} {sk : Nat → Nat} {ls' : Array Slot} {n : Nat} {L : List Value} {lv : List (Nat × Value)} (f i : Nat) (v : Value) (h2 : ∀ (i : Nat) (v : Value), L[i]? = some v → v ≠ .retAddr 7 → (i, mmV B sk v) ∈ lv) (hok : mok1 f L i) {x : Value} (hx : x = mmV B sk v)
    (h' : lv_has ls' n ((i, x) :: lv.filter (fun q => !(q.1 == i) && !(q.1 + 1 == i && q.2.category == 2)))) : mmLs B sk ls' n (mst1 f L i v) := by
  subst hx
  refine ⟨_, h', fun j w hj hw => ?_⟩
  rcases mst1_get hok hj hw with ⟨rfl, rfl⟩ | ⟨a, b, c⟩
  · exact List.mem_cons_self
  · refine List.mem_cons_of_mem _ (List.mem_filter.mpr ⟨h2 j w b hw, ?_⟩)
    by_cases hji : j + 1 = i
    · have h3 := mmV_cat B sk w (c hji)
      simp [a, h3]
    · simp [a, hji]
theorem mmLs.st2 {B : Nat} {sk : Nat → Nat} {ls' : Array Slot} {n : Nat} {L : List Value} {lv : List (Nat × Value)} (f i : Nat) (v : Value) (h2 : ∀ (i : Nat) (v : Value), L[i]? = some v → v ≠ .retAddr 7 → (i, mmV B sk v) ∈ lv) (hok : mok1 f L i) {x : Value} (hx : x = mmV B sk v)
    (h' : lv_has ls' n ((i, x) :: lv.filter (fun q => !(q.1 == i) && (!(q.1 == i + 1) && !(q.1 + 1 == i && q.2.category == 2))))) : mmLs B sk ls' n (mst2 f L i v) := by
  subst hx
  refine ⟨_, h', fun j w hj hw => ?_⟩
  rcases mset_get hj with ⟨-, h⟩ | ⟨hne, hj⟩
  · exact absurd h hw
  rcases mst1_get hok hj hw with ⟨rfl, rfl⟩ | ⟨a, b, c⟩
  · exact List.mem_cons_self
  · refine List.mem_cons_of_mem _ (List.mem_filter.mpr ⟨h2 j w b hw, ?_⟩)
    by_cases hji : j + 1 = i
    · have h3 := mmV_cat B sk w (c hji)
      simp [a, hne, h3]
    · simp [a, hne, hji]
/-! what stands on the stack -/
def pI (st : List Value) (k : Int32 → List Value → Prop) : Prop := match st with
  | .int x :: r => k x r
  | _ => False
def pJ (st : List Value) (k : Int64 → List Value → Prop) : Prop := match st with
  | .long x :: r => k x r
  | _ => False
def pF (st : List Value) (k : UInt32 → List Value → Prop) : Prop := match st with
  | .float x :: r => k x r
  | _ => False
def pD (st : List Value) (k : UInt64 → List Value → Prop) : Prop := match st with
  | .double x :: r => k x r
  | _ => False
def pA (st : List Value) (k : Nat → List Value → Prop) : Prop := match st with
  | .ref x :: r => k x r
  | _ => False
theorem pI_ok {st : List Value} {k : Int32 → List Value → Prop} (h : pI st k) : ∃ x r, st = .int x :: r ∧ k x r := by
  unfold pI at h
  split at h
  · exact ⟨_, _, rfl, h⟩
  · exact h.elim
theorem pJ_ok {st : List Value} {k : Int64 → List Value → Prop} (h : pJ st k) : ∃ x r, st = .long x :: r ∧ k x r := by
  unfold pJ at h
  split at h
  · exact ⟨_, _, rfl, h⟩
  · exact h.elim
theorem pF_ok {st : List Value} {k : UInt32 → List Value → Prop} (h : pF st k) : ∃ x r, st = .float x :: r ∧ k x r := by
  unfold pF at h
  split at h
  · exact ⟨_, _, rfl, h⟩
  · exact h.elim
theorem pD_ok {st : List Value} {k : UInt64 → List Value → Prop} (h : pD st k) : ∃ x r, st = .double x :: r ∧ k x r := by
  unfold pD at h
  split at h
  · exact ⟨_, _, rfl, h⟩
  · exact h.elim
theorem pA_ok {st : List Value} {k : Nat → List Value → Prop} (h : pA st k) : ∃ x r, st = .ref x :: r ∧ k x r := by
  unfold pA at h
  split at h
  · exact ⟨_, _, rfl, h⟩
  · exact h.elim
/-- n of the stack, the deepest first, and what lies below -/
def mpop : Nat → List Value → List Value → List Value × List Value
  | 0, acc, st => (acc, st)
  | _ + 1, acc, [] => (acc, [])
  | n + 1, acc, v :: st => mpop n (v :: acc) st
theorem mpop_ok (n : Nat) : ∀ (acc st as r : List Value), mpop n acc st = (as, r) → ∃ bs, as = bs.reverse ++ acc ∧ st = bs ++ r ∧ bs.length ≤ n := by
  induction n with
  | zero =>
    intro acc st as r h
    simp only [mpop, Prod.mk.injEq] at h
    exact ⟨[], by simp [h.1], by simp [h.2], Nat.le_refl 0⟩
  | succ n ih =>
    intro acc st as r h
    cases st with
    | nil =>
      simp only [mpop, Prod.mk.injEq] at h
      exact ⟨[], by simp [h.1], by simp [← h.2], Nat.zero_le _⟩
    | cons v st =>
      obtain ⟨bs, h1, h2, h3⟩ := ih (v :: acc) st as r h
      exact ⟨v :: bs, by simp [h1], by simp [h2], by simp; omega⟩
def mcat : List Value → Nat
  | [] => 0
  | v :: l => v.category + mcat l
theorem mcat_ok (B : Nat) (sk : Nat → Nat) (l : List Value) : ((l.map (mmV B sk)).map fun v => v.category).sum = mcat l := by
  induction l with
  | nil => rfl
  | cons v l ih =>
    simp only [List.map_cons, List.sum_cons, mcat, ih]
    congr 1
    cases v <;> rfl
end
section
/-! ===== what an instruction asks and does ===== -/
def gI (L : List Value) (i : Nat) (k : Int32 → Prop) : Prop := match mget L i with
  | .int x => k x
  | _ => False
def gJ (L : List Value) (i : Nat) (k : Int64 → Prop) : Prop := match mget L i with
  | .long x => k x
  | _ => False
def gF (L : List Value) (i : Nat) (k : UInt32 → Prop) : Prop := match mget L i with
  | .float x => k x
  | _ => False
def gD (L : List Value) (i : Nat) (k : UInt64 → Prop) : Prop := match mget L i with
  | .double x => k x
  | _ => False
def gA (L : List Value) (i : Nat) (k : Nat → Prop) : Prop := match mget L i with
  | .ref x => k x
  | _ => False
theorem gI_ok {L : List Value} {i : Nat} {k : Int32 → Prop} (h : gI L i k) : ∃ x, mget L i = .int x ∧ k x := by
  unfold gI at h
  split at h
  · exact ⟨_, by assumption, h⟩
  · exact h.elim
theorem gJ_ok {L : List Value} {i : Nat} {k : Int64 → Prop} (h : gJ L i k) : ∃ x, mget L i = .long x ∧ k x := by
  unfold gJ at h
  split at h
  · exact ⟨_, by assumption, h⟩
  · exact h.elim
theorem gF_ok {L : List Value} {i : Nat} {k : UInt32 → Prop} (h : gF L i k) : ∃ x, mget L i = .float x ∧ k x := by
  unfold gF at h
  split at h
  · exact ⟨_, by assumption, h⟩
  · exact h.elim
theorem gD_ok {L : List Value} {i : Nat} {k : UInt64 → Prop} (h : gD L i k) : ∃ x, mget L i = .double x ∧ k x := by
  unfold gD at h
  split at h
  · exact ⟨_, by assumption, h⟩
  · exact h.elim
theorem gA_ok {L : List Value} {i : Nat} {k : Nat → Prop} (h : gA L i k) : ∃ x, mget L i = .ref x ∧ k x := by
  unfold gA at h
  split at h
  · exact ⟨_, by assumption, h⟩
  · exact h.elim
/-- goes on where the flag stands -/
def mif (b : Bool) (k : Prop) : Prop := match b with
  | true => k
  | false => False
theorem mif_ok {b : Bool} {k : Prop} (h : mif b k) : b = true ∧ k := by
  cases b
  · exact h.elim
  · exact ⟨rfl, h⟩
def mk1 (f : Nat) (L : List Value) (i : Nat) : Bool := match f with
  | 0 => match i with
    | 0 => true
    | j + 1 => Nat.beq (mget L j).category 1
  | _ + 1 => true
theorem mk1_ok {f i : Nat} {L : List Value} (h : mk1 f L i = true) : mok1 f L i := by
  cases f with
  | succ f => exact trivial
  | zero =>
    cases i with
    | zero => exact trivial
    | succ j => exact Nat.eq_of_beq_eq_true h
def mmCt (c : ClassFile.Cond) (x y : Int32) : Prop := match c with
  | .eq => x = y
  | .ne => ¬ x = y
  | .lt => x < y
  | .ge => y ≤ x
  | .gt => y < x
  | .le => x ≤ y
def mmCf (c : ClassFile.Cond) (x y : Int32) : Prop := match c with
  | .eq => ¬ x = y
  | .ne => x = y
  | .lt => ¬ x < y
  | .ge => ¬ y ≤ x
  | .gt => ¬ y < x
  | .le => ¬ x ≤ y
def mmGf (μ : mmMem) (ci a k : Nat) : Value := match mmFT ci k with
  | 0 => .int (μ.1 a k)
  | 1 => .long (μ.2.1 a k)
  | 2 => .double (μ.2.2 a k)
  | _ => .ref (mmRF ci a k)
def mmBool (ci k : Nat) : Bool := match ci, k with
  | 1, 1 => true
  | 7, 2 => true
  | _, _ => false
/-- the goals of a tableswitch, from the number lo on -/
def mmTs (pc : Nat) (x : Int32) (E : Nat → Prop) : Int → List Int → Prop
  | _, [] => True
  | lo, off :: t => (x.toInt = lo → E ((pc : Int) + off).toNat) ∧ mmTs pc x E (lo + 1) t
def mmLk (pc : Nat) (x : Int32) (E : Nat → Prop) (d : Int) : List (Int × Int) → Prop
  | [] => E ((pc : Int) + d).toNat
  | q :: t => (x.toInt = q.1 → E ((pc : Int) + q.2).toNat) ∧ (¬ x.toInt = q.1 → mmLk pc x E d t)
def mbl (x : Int32) (k : Prop) : Prop := match (x == 0 || x == 1) with
  | true => k
  | false => (x = 0 ∨ x = 1) ∧ k
theorem mbl_ok {x : Int32} {k : Prop} (h : mbl x k) : (x = 0 ∨ x = 1) ∧ k := by
  unfold mbl at h
  split at h
  · rename_i hb
    exact ⟨by simpa using hb, h⟩
  · exact h
theorem mbl_i {x : Int32} {k : Prop} (h : x = 0 ∨ x = 1) (hk : k) : mbl x k := by
  unfold mbl
  split
  · exact hk
  · exact ⟨h, hk⟩
def mmRI (rt : Option FieldType) (x : Int32) (k : Prop) : Prop := match rt with
  | some .int => k
  | some .boolean => mbl x k
  | _ => False
def wpI (d : Nat) (M : mmMi) (P : Option Value → mmMem → Prop) (q : mmMI) (k : List Value → List Value → mmMem → Prop) (L st : List Value) (μ : mmMem) : Prop :=
  match q with
  | (pc, i, _, _, a, b, v, Mc) => match i with
    | .iconst _ => k L (v :: st) μ
    | .bipush _ => k L (v :: st) μ
    | .sipush _ => k L (v :: st) μ
    | .lconst _ => k L (v :: st) μ
    | .dconst _ => k L (v :: st) μ
    | .ldc _ => k L (v :: st) μ
    | .ldc_w _ => k L (v :: st) μ
    | .ldc2_w _ => k L (v :: st) μ
    | .aload i => gA L i fun x => k L (.ref x :: st) μ
    | .aload_n i => gA L i fun x => k L (.ref x :: st) μ
    | .iload i => gI L i fun x => k L (.int x :: st) μ
    | .iload_n i => gI L i fun x => k L (.int x :: st) μ
    | .lload i => gJ L i fun x => k L (.long x :: st) μ
    | .lload_n i => gJ L i fun x => k L (.long x :: st) μ
    | .fload i => gF L i fun x => k L (.float x :: st) μ
    | .fload_n i => gF L i fun x => k L (.float x :: st) μ
    | .dload i => gD L i fun x => k L (.double x :: st) μ
    | .dload_n i => gD L i fun x => k L (.double x :: st) μ
    | .istore i => pI st fun x r => mif (mk1 a L i) (k (mst1 a L i (.int x)) r μ)
    | .istore_n i => pI st fun x r => mif (mk1 a L i) (k (mst1 a L i (.int x)) r μ)
    | .astore i => pA st fun x r => mif (mk1 a L i) (k (mst1 a L i (.ref x)) r μ)
    | .astore_n i => pA st fun x r => mif (mk1 a L i) (k (mst1 a L i (.ref x)) r μ)
    | .lstore i => pJ st fun x r => mif (mk1 a L i) (k (mst2 a L i (.long x)) r μ)
    | .lstore_n i => pJ st fun x r => mif (mk1 a L i) (k (mst2 a L i (.long x)) r μ)
    | .dstore i => pD st fun x r => mif (mk1 a L i) (k (mst2 a L i (.double x)) r μ)
    | .dstore_n i => pD st fun x r => mif (mk1 a L i) (k (mst2 a L i (.double x)) r μ)
    | .iinc i _ => gI L i fun x => mif (mk1 a L i) (pI [v] fun y _ => k (mst1 a L i (.int (x + y))) st μ)
    | .iadd => pI st fun y r => pI r fun x r => k L (.int (x + y) :: r) μ
    | .isub => pI st fun y r => pI r fun x r => k L (.int (x - y) :: r) μ
    | .imul => pI st fun y r => pI r fun x r => k L (.int (x * y) :: r) μ
    | .iand => pI st fun y r => pI r fun x r => k L (.int (x &&& y) :: r) μ
    | .ior => pI st fun y r => pI r fun x r => k L (.int (x ||| y) :: r) μ
    | .idiv => pI st fun y r => pI r fun x r => ¬ y = 0 ∧ k L (.int (x / y) :: r) μ
    | .irem => pI st fun y r => pI r fun x r => ¬ y = 0 ∧ k L (.int (x - x / y * y) :: r) μ
    | .ishl => pI st fun y r => pI r fun x r => k L (.int (x <<< (y &&& 31)) :: r) μ
    | .ishr => pI st fun y r => pI r fun x r => k L (.int (x >>> (y &&& 31)) :: r) μ
    | .ineg => pI st fun x r => k L (.int (-x) :: r) μ
    | .ladd => pJ st fun y r => pJ r fun x r => k L (.long (x + y) :: r) μ
    | .lsub => pJ st fun y r => pJ r fun x r => k L (.long (x - y) :: r) μ
    | .lmul => pJ st fun y r => pJ r fun x r => k L (.long (x * y) :: r) μ
    | .land => pJ st fun y r => pJ r fun x r => k L (.long (x &&& y) :: r) μ
    | .lor => pJ st fun y r => pJ r fun x r => k L (.long (x ||| y) :: r) μ
    | .lxor => pJ st fun y r => pJ r fun x r => k L (.long (x ^^^ y) :: r) μ
    | .ldiv => pJ st fun y r => pJ r fun x r => ¬ y = 0 ∧ k L (.long (x / y) :: r) μ
    | .lrem => pJ st fun y r => pJ r fun x r => ¬ y = 0 ∧ k L (.long (x - x / y * y) :: r) μ
    | .lneg => pJ st fun x r => k L (.long (-x) :: r) μ
    | .lshl => pI st fun y r => pJ r fun x r => k L (.long (x <<< (y.toInt64 &&& 63)) :: r) μ
    | .lcmp => pJ st fun y r => pJ r fun x r => k L (.int (lg_cmp x y) :: r) μ
    | .i2l => pI st fun x r => k L (.long x.toInt64 :: r) μ
    | .l2i => pJ st fun x r => k L (.int x.toInt32 :: r) μ
    | .i2b => pI st fun x r => k L (.int x.toInt8.toInt32 :: r) μ
    | .i2s => pI st fun x r => k L (.int x.toInt16.toInt32 :: r) μ
    | .i2c => pI st fun x r => k L (.int (x.toUInt32 % 65536).toInt32 :: r) μ
    | .l2d => pJ st fun x r => k L (.double (FP.l2d x) :: r) μ
    | .l2f => pJ st fun x r => k L (.float (FP.l2f x) :: r) μ
    | .f2d => pF st fun x r => vf_n64 (FP.f2d x) ∧ k L (.double (FP.f2d x) :: r) μ
    | .d2f => pD st fun x r => vf_n32 (FP.d2f x) ∧ k L (.float (FP.d2f x) :: r) μ
    | .d2l => pD st fun x r => k L (.long (FP.d2l x) :: r) μ
    | .d2i => pD st fun x r => k L (.int (FP.d2i x) :: r) μ
    | .f2l => pF st fun x r => k L (.long (FP.f2l x) :: r) μ
    | .dneg => pD st fun x r => k L (.double (FP.dneg x) :: r) μ
    | .dadd => pD st fun y r => pD r fun x r => vf_n64 (FP.dadd x y) ∧ k L (.double (FP.dadd x y) :: r) μ
    | .dsub => pD st fun y r => pD r fun x r => vf_n64 (FP.dsub x y) ∧ k L (.double (FP.dsub x y) :: r) μ
    | .dmul => pD st fun y r => pD r fun x r => vf_n64 (FP.dmul x y) ∧ k L (.double (FP.dmul x y) :: r) μ
    | .ddiv => pD st fun y r => pD r fun x r => vf_n64 (FP.ddiv x y) ∧ k L (.double (FP.ddiv x y) :: r) μ
    | .fmul => pF st fun y r => pF r fun x r => vf_n32 (FP.fmul x y) ∧ k L (.float (FP.fmul x y) :: r) μ
    | .fdiv => pF st fun y r => pF r fun x r => vf_n32 (FP.fdiv x y) ∧ k L (.float (FP.fdiv x y) :: r) μ
    | .dcmp op => pD st fun y r => pD r fun x r => k L (.int (Op.cmpValue (FP.dcmp x y) op) :: r) μ
    | .fcmp op => pF st fun y r => pF r fun x r => k L (.int (Op.cmpValue (FP.fcmp x y) op) :: r) μ
    | .dup => (match st with
      | v :: r => mif (Nat.beq v.category 1) (k L (v :: v :: r) μ)
      | _ => False)
    | .dup2 => (match st with
      | v :: r => (match v.category with
        | 2 => k L (v :: v :: r) μ
        | 1 => (match r with
          | w :: r => mif (Nat.beq w.category 1) (k L (v :: w :: v :: w :: r) μ)
          | _ => False)
        | _ => False)
      | _ => False)
    | .ifCond c _ => pI st fun x r => (mmCt c x 0 → mmEnds d M a L r μ P) ∧ (mmCf c x 0 → k L r μ)
    | .if_icmp c _ => pI st fun y r => pI r fun x r => (mmCt c x y → mmEnds d M a L r μ P) ∧ (mmCf c x y → k L r μ)
    | .goto _ => mmEnds d M a L st μ P
    | .tableswitch dflt lo hi offs => pI st fun x r => (x.toInt < lo ∨ hi < x.toInt → mmEnds d M ((pc : Int) + dflt).toNat L r μ P) ∧ mmTs pc x (fun t => mmEnds d M t L r μ P) lo offs.toList
    | .lookupswitch dflt ps => pI st fun x r => mmLk pc x (fun t => mmEnds d M t L r μ P) dflt ps.toList
    | .getfield _ => pA st fun o r => mmKD o = a ∧ k L (mmGf μ a o b :: r) μ
    | .putfield _ => (match mmFT a b with
      | 0 => pI st fun x r => pA r fun o r => mmKD o = a ∧ (match mmBool a b with
        | true => mbl x (k L r (sI μ o b x))
        | false => k L r (sI μ o b x))
      | 1 => pJ st fun x r => pA r fun o r => mmKD o = a ∧ k L r (sJ μ o b x)
      | 2 => pD st fun x r => pA r fun o r => mmKD o = a ∧ k L r (sD μ o b x)
      | _ => False)
    | .iaload => pI st fun j r => pA r fun o r => mmKD o = 10 ∧ vp_in j (mmLEN o) ∧ k L (.int (μ.1 o j.toNatClampNeg) :: r) μ
    | .laload => pI st fun j r => pA r fun o r => mmKD o = 11 ∧ vp_in j (mmLEN o) ∧ k L (.long (μ.2.1 o j.toNatClampNeg) :: r) μ
    | .daload => pI st fun j r => pA r fun o r => mmKD o = 12 ∧ vp_in j (mmLEN o) ∧ k L (.double (μ.2.2 o j.toNatClampNeg) :: r) μ
    | .baload => pI st fun j r => pA r fun o r => mmKD o = 13 ∧ vp_in j (mmLEN o) ∧ k L (.int (μ.1 o j.toNatClampNeg) :: r) μ
    | .aaload => pI st fun j r => pA r fun o r => mmKD o = a ∧ vp_in j (mmLEN o) ∧ k L (.ref (mmRF a o j.toNatClampNeg) :: r) μ
    | .iastore => pI st fun x r => pI r fun j r => pA r fun o r => mmKD o = 10 ∧ vp_in j (mmLEN o) ∧ k L r (sI μ o j.toNatClampNeg x)
    | .lastore => pJ st fun x r => pI r fun j r => pA r fun o r => mmKD o = 11 ∧ vp_in j (mmLEN o) ∧ k L r (sJ μ o j.toNatClampNeg x)
    | .dastore => pD st fun x r => pI r fun j r => pA r fun o r => mmKD o = 12 ∧ vp_in j (mmLEN o) ∧ k L r (sD μ o j.toNatClampNeg x)
    | .bastore => pI st fun x r => pI r fun j r => pA r fun o r => mmKD o = 13 ∧ vp_in j (mmLEN o) ∧ k L r (sI μ o j.toNatClampNeg (vp_nar .boolean x))
    | .arraylength => pA st fun o r => mmKD o = a ∧ k L (.int (Int32.ofNat (mmLEN o)) :: r) μ
    | .invokevirtual _ => (match mpop a [] st with
      | (as, .ref o :: r) => mmKD o = b ∧ mif (Nat.ble (mcat r) 8) (mmCl d Mc false a (.ref o :: as) μ r fun st ν => k L st ν)
      | (as, .retAddr x :: r) => mif (Nat.beq b 98) (mif (Nat.ble (mcat r) 8) (mmCl d Mc false a (.retAddr x :: as) μ r fun st ν => k L st ν))
      | _ => False)
    | .invokestatic _ => (match b with
      | 0 => (match mpop a [] st with
        | (as, r) => mif (Nat.ble (mcat r) 8) (mmCl d Mc true a as μ r fun st ν => k L st ν))
      | 1 => (match mpop a [] st with
        | (as, r) => mif (Nat.ble (mcat r) 8) (mmCl d Mc true a as μ r fun st ν => k L st ν))
      | _ => pI st fun n r => pI r fun dp r => pA r fun y r => pI r fun sp r => pA r fun x r => 1 ≤ d ∧ mmKD x = b ∧ mmKD y = b ∧ ¬ sp < 0 ∧ ¬ dp < 0 ∧ ¬ n < 0 ∧ sp.toNatClampNeg + n.toNatClampNeg ≤ mmLEN x ∧ dp.toNatClampNeg + n.toNatClampNeg ≤ mmLEN y ∧ mif (Nat.ble (mcat r) 8) (match b with
        | 10 => k L r (cI μ x y sp.toNatClampNeg dp.toNatClampNeg n.toNatClampNeg)
        | 11 => k L r (cJ μ x y sp.toNatClampNeg dp.toNatClampNeg n.toNatClampNeg)
        | 12 => k L r (cD μ x y sp.toNatClampNeg dp.toNatClampNeg n.toNatClampNeg)
        | _ => False))
    | .ireturn => (match st with
      | [.int x] => mmRI M.2.2.2 x (P (some (.int x)) μ)
      | _ => False)
    | .lreturn => (match st with
      | [.long x] => P (some (.long x)) μ
      | _ => False)
    | .dreturn => (match st with
      | [.double x] => P (some (.double x)) μ
      | _ => False)
    | .freturn => (match st with
      | [.float x] => P (some (.float x)) μ
      | _ => False)
    | .areturn => (match st with
      | [.ref x] => P (some (.ref x)) μ
      | _ => False)
    | .return_ => (match st with
      | [] => P none μ
      | _ => False)
    | _ => False
/-- a stretch of rows, from its first on; e: where it goes on behind its last -/
def wpS (d : Nat) (M : mmMi) (P : Option Value → mmMem → Prop) (e : Nat) : List mmMI → List Value → List Value → mmMem → Prop
  | [], L, st, μ => mmEnds d M e L st μ P
  | q :: t, L, st, μ => wpI d M P q (fun L st μ => wpS d M P e t L st μ) L st μ
/-! ===== that the rows are the class's own ===== -/
def mmOkX (M : mmMi) (q : mmMI) : Bool := match q with
  | (pc, i, len, w, a, b, v, Mc) => match i with
    | .iconst n => len == 1 && decide (v = .int (Int32.ofInt n))
    | .bipush n => len == 2 && decide (v = .int (Int8.ofInt n).toInt32)
    | .sipush n => len == 3 && decide (v = .int (Int16.ofInt n).toInt32)
    | .lconst n => len == 1 && decide (v = .long (Int64.ofNat (n : Nat)))
    | .dconst n => len == 1 && (match n with
      | 0 => decide (v = .double FP.dconst0)
      | 1 => decide (v = .double FP.dconst1))
    | .ldc idx => len == 2 && (match v with
      | .int x => decide (lw_tbl[w]? = some (.constant M.1.cls idx x))
      | .float x => decide (lw_tbl[w]? = some (.constantFloat M.1.cls idx x))
      | .retAddr 0 => decide (M.1.cls = RX5 ∧ idx = 51)
      | _ => false)
    | .ldc_w idx => len == 3 && (match v with
      | .int x => decide (lw_tbl[w]? = some (.constant M.1.cls idx x))
      | _ => false)
    | .ldc2_w idx => len == 3 && (match v with
      | .long x => decide (lw_tbl[w]? = some (.constantLong M.1.cls idx x))
      | .double x => decide (lw_tbl[w]? = some (.constantDouble M.1.cls idx x))
      | _ => false)
    | .aload _ | .iload _ | .lload _ | .fload _ | .dload _ => len == 2
    | .aload_n _ | .iload_n _ | .lload_n _ | .fload_n _ | .dload_n _ => len == 1
    | .istore i | .astore i => len == 2 && decide (i < M.2.2.1)
    | .istore_n i | .astore_n i => len == 1 && decide ((i : Nat) < M.2.2.1)
    | .lstore i | .dstore i => len == 2 && decide (i + 1 < M.2.2.1)
    | .lstore_n i | .dstore_n i => len == 1 && decide ((i : Nat) + 1 < M.2.2.1)
    | .iinc i n => len == 3 && decide (i < M.2.2.1) && decide (v = .int (Int32.ofInt n))
    | .ifCond _ off | .if_icmp _ off | .goto off => len == 3 && decide ((pc : Int) + off = (a : Int))
    | .tableswitch dflt lo hi offs => decide (0 ≤ (pc : Int) + dflt) && offs.toList.all (fun f => decide (0 ≤ (pc : Int) + f)) && decide (hi - lo + 1 = (offs.toList.length : Int))
    | .lookupswitch dflt ps => decide (0 ≤ (pc : Int) + dflt) && ps.toList.all (fun f => decide (0 ≤ (pc : Int) + f.2)) && (ps.toList.zip (ps.toList.drop 1)).all (fun (a, next) => a.1 < next.1)
    | .getfield idx => len == 3 && (match vwCl[a]? with
      | some (_, T, N) => decide (b < N) && decide (lw_tbl[w]? = some (.fieldLink M.1.cls idx (T b).1 (T b).2.1 (T b).2.2.1))
      | none => false)
    | .putfield idx => len == 3 && (match vwCl[a]? with
      | some (_, T, N) => decide (b < N) && decide (lw_tbl[w]? = some (.fieldLink M.1.cls idx (T b).1 (T b).2.1 (T b).2.2.1)) && decide ((T b).2.2.2 = false)
      | none => false)
    | .aaload => len == 1 && decide (a = 14 ∨ a = 15 ∨ a = 16)
    | .arraylength => len == 1 && decide (a = 10 ∨ a = 11 ∨ a = 12 ∨ a = 13)
    | .invokevirtual idx => len == 3 && decide (lw_tbl[w]? = some (.methodLink M.1.cls idx Mc.1)) && (match b with
      | 98 => decide (Mc.1.cls = "java/lang/String")
      | _ => decide ((vwCl[b]?).map (fun q => q.1) = some Mc.1.cls))
    | .invokestatic idx => len == 3 && (match b with
      | 0 => decide (lw_tbl[w]? = some (.methodLink M.1.cls idx Mc.1))
      | 1 => decide ((M.1.cls, idx, Mc.1) ∈ mmNest)
      | _ => decide (lw_tbl[w]? = some (.methodLink M.1.cls idx arraycopyName)))
    | .lreturn => len == 1 && decide (M.2.2.2 = some .long)
    | .freturn => len == 1 && decide (M.2.2.2 = some .float)
    | .dreturn => len == 1 && decide (M.2.2.2 = some .double)
    | .areturn => len == 1 && (match M.2.2.2 with
      | some (.object _) => true
      | _ => false)
    | .return_ => len == 1 && decide (M.2.2.2 = none)
    | _ => len == 1
def mmOkI (M : mmMi) (q : mmMI) : Bool := decide (decode M.2.1 q.1 = .ok (q.2.1, q.2.2.1)) && mmOkX M q
def mmHead : List mmMI → Nat → Nat
  | [], e => e
  | q :: _, _ => q.1
def mmOk (M : mmMi) (e : Nat) : List mmMI → Bool
  | [] => true
  | q :: t => mmOkI M q && (q.1 + q.2.2.1 == mmHead t e) && mmOk M e t
end
section
/-! ===== the kit's rows do it ===== -/
theorem mmOkI_ok {M : mmMi} {q : mmMI} (h : mmOkI M q = true) : decode M.2.1 q.1 = .ok (q.2.1, q.2.2.1) ∧ mmOkX M q = true := by
  unfold mmOkI at h
  rw [Bool.and_eq_true, decide_eq_true_eq] at h
  exact h
theorem mm_word {M : mmMi} {w : Nat} {x : Cond} {args : Array Value} {s : State} (hts : ∀ w ∈ mmT, w.before args s = true) (h : lw_tbl[w]? = some x) (hg : goodWord x = true) : x.before args s = true := hts x (mm_in w h hg)
theorem mm_sz {p : Program} {l : Launch} {e : Env} {R : Room} {s : State} {m : MethodId} {args : Array Value} {below : List Frame} {meth : Method} {c : Code} {H : Heap} {locs : List Loc} {cells slots : Nat} {Q : State → Prop} {g : JFrame} (k : H.size ≤ s.heap.size + cells → W p l e R s m args below meth c H locs cells slots Q g) : W p l e R s m args below meth c H locs cells slots Q g := by
  intro T hT X
  have h := X.heapSize
  rw [hT] at h
  exact k h T hT X
theorem mmV_Gf (B : Nat) (sk : Nat → Nat) (μ : mmMem) (ci a k : Nat) : mmV B sk (mmGf μ ci a k) = mmFV B μ a ci k := by
  unfold mmGf mmFV
  split <;> simp_all [mmV]
theorem mm_fs {B : Nat} {μ : mmMem} {o ci k : Nat} (hk : k < mmNF ci) : ((List.range (mmNF ci)).map (mmFV B μ o ci))[k]? = some (mmFV B μ o ci k) := by
  simp [hk]

theorem mmE_10 {B : Nat} {cA : Nat → ClassId} {μ : mmMem} {a : Nat} (h : mmKD a = 10) : (mmW B cA μ)[a]? = some (B + a, .inl (cA 0, mmLEN a, .inl (μ.1 a))) := by
  rw [mmW_get (mmKD_lt (by rw [h]; decide))]
  unfold mmE
  rw [h]
  rfl
theorem mmE_11 {B : Nat} {cA : Nat → ClassId} {μ : mmMem} {a : Nat} (h : mmKD a = 11) : (mmW B cA μ)[a]? = some (B + a, .inl (cA 1, mmLEN a, .inr (.inl (μ.2.1 a)))) := by
  rw [mmW_get (mmKD_lt (by rw [h]; decide))]
  unfold mmE
  rw [h]
  rfl
theorem mmE_12 {B : Nat} {cA : Nat → ClassId} {μ : mmMem} {a : Nat} (h : mmKD a = 12) : (mmW B cA μ)[a]? = some (B + a, .inl (cA 2, mmLEN a, .inr (.inr (.inr (.inl (μ.2.2 a)))))) := by
  rw [mmW_get (mmKD_lt (by rw [h]; decide))]
  unfold mmE
  rw [h]
  rfl
theorem mmE_13 {B : Nat} {cA : Nat → ClassId} {μ : mmMem} {a : Nat} (h : mmKD a = 13) : (mmW B cA μ)[a]? = some (B + a, .inl (cA 3, mmLEN a, .inl (μ.1 a))) := by
  rw [mmW_get (mmKD_lt (by rw [h]; decide))]
  unfold mmE
  rw [h]
  rfl
theorem mmE_14 {B : Nat} {cA : Nat → ClassId} {μ : mmMem} {a : Nat} (h : mmKD a = 14) : (mmW B cA μ)[a]? = some (B + a, .inl (cA 4, mmLEN a, .inr (.inr (.inr (.inr fun i => some (B + mmRF 14 a i)))))) := by
  rw [mmW_get (mmKD_lt (by rw [h]; decide))]
  unfold mmE
  rw [h]
  rfl
theorem mmE_15 {B : Nat} {cA : Nat → ClassId} {μ : mmMem} {a : Nat} (h : mmKD a = 15) : (mmW B cA μ)[a]? = some (B + a, .inl (cA 5, mmLEN a, .inr (.inr (.inr (.inr fun i => some (B + mmRF 15 a i)))))) := by
  rw [mmW_get (mmKD_lt (by rw [h]; decide))]
  unfold mmE
  rw [h]
  rfl
theorem mmE_16 {B : Nat} {cA : Nat → ClassId} {μ : mmMem} {a : Nat} (h : mmKD a = 16) : (mmW B cA μ)[a]? = some (B + a, .inl (cA 6, mmLEN a, .inr (.inr (.inr (.inr fun i => some (B + mmRF 16 a i)))))) := by
  rw [mmW_get (mmKD_lt (by rw [h]; decide))]
  unfold mmE
  rw [h]
  rfl
theorem mmE_o {B : Nat} {cA : Nat → ClassId} {μ : mmMem} {a ci : Nat} (h : mmKD a = ci) (hc : ci < 10) : (mmW B cA μ)[a]? = some (B + a, .inr (ci, (List.range (mmNF ci)).map (mmFV B μ a ci))) := by
  rw [mmW_get (mmKD_lt (by omega)), mmE_obj h hc]

theorem mm_uw0 : ∀ w ∈ u_ws RX0 TX0 3, w ∈ mmT := by
  have h1 : ∀ w ∈ u_ws RX0 TX0 3, w ∈ lw_tbl := by decide +kernel
  have h2 : ∀ w ∈ u_ws RX0 TX0 3, goodWord w = true := by decide +kernel
  exact fun w hw => List.mem_filter.mpr ⟨h1 w hw, h2 w hw⟩
theorem mm_ty0 : ∀ k, k < 3 → (mmFT 0 k = 0 → (tyX0 k = .int ∧ mmBool 0 k = false) ∨ (tyX0 k = .boolean ∧ mmBool 0 k = true)) ∧ (mmFT 0 k = 1 → tyX0 k = .long) ∧ (mmFT 0 k = 2 → tyX0 k = .double) := by decide +kernel
theorem mm_uw1 : ∀ w ∈ u_ws RX1 TX1 5, w ∈ mmT := by
  have h1 : ∀ w ∈ u_ws RX1 TX1 5, w ∈ lw_tbl := by decide +kernel
  have h2 : ∀ w ∈ u_ws RX1 TX1 5, goodWord w = true := by decide +kernel
  exact fun w hw => List.mem_filter.mpr ⟨h1 w hw, h2 w hw⟩
theorem mm_ty1 : ∀ k, k < 5 → (mmFT 1 k = 0 → (tyX1 k = .int ∧ mmBool 1 k = false) ∨ (tyX1 k = .boolean ∧ mmBool 1 k = true)) ∧ (mmFT 1 k = 1 → tyX1 k = .long) ∧ (mmFT 1 k = 2 → tyX1 k = .double) := by decide +kernel
theorem mm_uw2 : ∀ w ∈ u_ws RX2 TX2 3, w ∈ mmT := by
  have h1 : ∀ w ∈ u_ws RX2 TX2 3, w ∈ lw_tbl := by decide +kernel
  have h2 : ∀ w ∈ u_ws RX2 TX2 3, goodWord w = true := by decide +kernel
  exact fun w hw => List.mem_filter.mpr ⟨h1 w hw, h2 w hw⟩
theorem mm_ty2 : ∀ k, k < 3 → (mmFT 2 k = 0 → (tyX2 k = .int ∧ mmBool 2 k = false) ∨ (tyX2 k = .boolean ∧ mmBool 2 k = true)) ∧ (mmFT 2 k = 1 → tyX2 k = .long) ∧ (mmFT 2 k = 2 → tyX2 k = .double) := by decide +kernel
theorem mm_uw3 : ∀ w ∈ u_ws RX3 TX3 2, w ∈ mmT := by
  have h1 : ∀ w ∈ u_ws RX3 TX3 2, w ∈ lw_tbl := by decide +kernel
  have h2 : ∀ w ∈ u_ws RX3 TX3 2, goodWord w = true := by decide +kernel
  exact fun w hw => List.mem_filter.mpr ⟨h1 w hw, h2 w hw⟩
theorem mm_ty3 : ∀ k, k < 2 → (mmFT 3 k = 0 → (tyX3 k = .int ∧ mmBool 3 k = false) ∨ (tyX3 k = .boolean ∧ mmBool 3 k = true)) ∧ (mmFT 3 k = 1 → tyX3 k = .long) ∧ (mmFT 3 k = 2 → tyX3 k = .double) := by decide +kernel
theorem mm_uw4 : ∀ w ∈ u_ws RX4 TX4 9, w ∈ mmT := by
  have h1 : ∀ w ∈ u_ws RX4 TX4 9, w ∈ lw_tbl := by decide +kernel
  have h2 : ∀ w ∈ u_ws RX4 TX4 9, goodWord w = true := by decide +kernel
  exact fun w hw => List.mem_filter.mpr ⟨h1 w hw, h2 w hw⟩
theorem mm_ty4 : ∀ k, k < 9 → (mmFT 4 k = 0 → (tyX4 k = .int ∧ mmBool 4 k = false) ∨ (tyX4 k = .boolean ∧ mmBool 4 k = true)) ∧ (mmFT 4 k = 1 → tyX4 k = .long) ∧ (mmFT 4 k = 2 → tyX4 k = .double) := by decide +kernel
theorem mm_uw5 : ∀ w ∈ u_ws RX5 TX5 4, w ∈ mmT := by
  have h1 : ∀ w ∈ u_ws RX5 TX5 4, w ∈ lw_tbl := by decide +kernel
  have h2 : ∀ w ∈ u_ws RX5 TX5 4, goodWord w = true := by decide +kernel
  exact fun w hw => List.mem_filter.mpr ⟨h1 w hw, h2 w hw⟩
theorem mm_ty5 : ∀ k, k < 4 → (mmFT 5 k = 0 → (tyX5 k = .int ∧ mmBool 5 k = false) ∨ (tyX5 k = .boolean ∧ mmBool 5 k = true)) ∧ (mmFT 5 k = 1 → tyX5 k = .long) ∧ (mmFT 5 k = 2 → tyX5 k = .double) := by decide +kernel
theorem mm_uw6 : ∀ w ∈ u_ws RX6 TX6 2, w ∈ mmT := by
  have h1 : ∀ w ∈ u_ws RX6 TX6 2, w ∈ lw_tbl := by decide +kernel
  have h2 : ∀ w ∈ u_ws RX6 TX6 2, goodWord w = true := by decide +kernel
  exact fun w hw => List.mem_filter.mpr ⟨h1 w hw, h2 w hw⟩
theorem mm_ty6 : ∀ k, k < 2 → (mmFT 6 k = 0 → (tyX6 k = .int ∧ mmBool 6 k = false) ∨ (tyX6 k = .boolean ∧ mmBool 6 k = true)) ∧ (mmFT 6 k = 1 → tyX6 k = .long) ∧ (mmFT 6 k = 2 → tyX6 k = .double) := by decide +kernel
theorem mm_uw7 : ∀ w ∈ u_ws RX7 TX7 19, w ∈ mmT := by
  have h1 : ∀ w ∈ u_ws RX7 TX7 19, w ∈ lw_tbl := by decide +kernel
  have h2 : ∀ w ∈ u_ws RX7 TX7 19, goodWord w = true := by decide +kernel
  exact fun w hw => List.mem_filter.mpr ⟨h1 w hw, h2 w hw⟩
theorem mm_ty7 : ∀ k, k < 19 → (mmFT 7 k = 0 → (tyX7 k = .int ∧ mmBool 7 k = false) ∨ (tyX7 k = .boolean ∧ mmBool 7 k = true)) ∧ (mmFT 7 k = 1 → tyX7 k = .long) ∧ (mmFT 7 k = 2 → tyX7 k = .double) := by decide +kernel
theorem mm_uw8 : ∀ w ∈ u_ws RJ0 TJ0 4, w ∈ mmT := by
  have h1 : ∀ w ∈ u_ws RJ0 TJ0 4, w ∈ lw_tbl := by decide +kernel
  have h2 : ∀ w ∈ u_ws RJ0 TJ0 4, goodWord w = true := by decide +kernel
  exact fun w hw => List.mem_filter.mpr ⟨h1 w hw, h2 w hw⟩
theorem mm_ty8 : ∀ k, k < 4 → (mmFT 8 k = 0 → (tyJ0 k = .int ∧ mmBool 8 k = false) ∨ (tyJ0 k = .boolean ∧ mmBool 8 k = true)) ∧ (mmFT 8 k = 1 → tyJ0 k = .long) ∧ (mmFT 8 k = 2 → tyJ0 k = .double) := by decide +kernel
theorem mm_uw9 : ∀ w ∈ u_ws RJ4 TJ4 4, w ∈ mmT := by
  have h1 : ∀ w ∈ u_ws RJ4 TJ4 4, w ∈ lw_tbl := by decide +kernel
  have h2 : ∀ w ∈ u_ws RJ4 TJ4 4, goodWord w = true := by decide +kernel
  exact fun w hw => List.mem_filter.mpr ⟨h1 w hw, h2 w hw⟩
theorem mm_ty9 : ∀ k, k < 4 → (mmFT 9 k = 0 → (tyJ4 k = .int ∧ mmBool 9 k = false) ∨ (tyJ4 k = .boolean ∧ mmBool 9 k = true)) ∧ (mmFT 9 k = 1 → tyJ4 k = .long) ∧ (mmFT 9 k = 2 → tyJ4 k = .double) := by decide +kernel
theorem mm_cls {ci : Nat} {C : String} {T : u_T} {N : Nat} (h : vwCl[ci]? = some (C, T, N)) : ci < 10 ∧ N = mmNF ci ∧ (∀ w ∈ u_ws C T N, w ∈ mmT) ∧ (∀ a, a < N → ∀ b, b < N → a ≠ b → (T a).2.1 ≠ (T b).2.1) ∧
    ∃ ty : Nat → FieldType, (∀ k, k < N → parseFieldDescriptor (T k).2.2.1 = some (ty k)) ∧ ∀ k, k < N → (mmFT ci k = 0 → (ty k = .int ∧ mmBool ci k = false) ∨ (ty k = .boolean ∧ mmBool ci k = true)) ∧ (mmFT ci k = 1 → ty k = .long) ∧ (mmFT ci k = 2 → ty k = .double) := by
  match ci, h with
  | 0, h => cases h; exact ⟨by decide, rfl, mm_uw0, nmX0, tyX0, tyX0_ok, mm_ty0⟩
  | 1, h => cases h; exact ⟨by decide, rfl, mm_uw1, nmX1, tyX1, tyX1_ok, mm_ty1⟩
  | 2, h => cases h; exact ⟨by decide, rfl, mm_uw2, nmX2, tyX2, tyX2_ok, mm_ty2⟩
  | 3, h => cases h; exact ⟨by decide, rfl, mm_uw3, nmX3, tyX3, tyX3_ok, mm_ty3⟩
  | 4, h => cases h; exact ⟨by decide, rfl, mm_uw4, nmX4, tyX4, tyX4_ok, mm_ty4⟩
  | 5, h => cases h; exact ⟨by decide, rfl, mm_uw5, nmX5, tyX5, tyX5_ok, mm_ty5⟩
  | 6, h => cases h; exact ⟨by decide, rfl, mm_uw6, nmX6, tyX6, tyX6_ok, mm_ty6⟩
  | 7, h => cases h; exact ⟨by decide, rfl, mm_uw7, nmX7, tyX7, tyX7_ok, mm_ty7⟩
  | 8, h => cases h; exact ⟨by decide, rfl, mm_uw8, nmJ0, tyJ0, tyJ0_ok, mm_ty8⟩
  | 9, h => cases h; exact ⟨by decide, rfl, mm_uw9, nmJ4, tyJ4, tyJ4_ok, mm_ty9⟩
  | n + 10, h => simp [vwCl] at h
theorem st_iconst {d : Nat} {M : mmMi} {P : Option Value → mmMem → Prop} {k : List Value → List Value → mmMem → Prop} {L st : List Value} {μ : mmMem} {pc len w a b : Nat} {v : Value} {Mc : mmMi} {n : Int} (hok : mmOkI M (pc, .iconst n, len, w, a, b, v, Mc) = true) (hk : ∀ L st μ, k L st μ → mmEnds d M (pc + len) L st μ P) (h : wpI d M P (pc, .iconst n, len, w, a, b, v, Mc) k L st μ) : mmEnds d M pc L st μ P := by
  obtain ⟨hd, hX⟩ := mmOkI_ok hok
  dsimp only at hd
  obtain ⟨rfl, rfl⟩ : len = 1 ∧ v = _ := by simpa [mmOkX] using hX
  intro p l e s m args below meth c H locs B H0 sk sv D cA ls hx hb hr hml hown hts hlk hS hls hH hF hB
  exact lv_iconst hx hb hd rfl (hk _ _ _ h p l e s m args below meth c H locs B H0 sk sv D cA ls hx hb hr hml hown hts hlk hS hls hH hF hB)
theorem st_bipush {d : Nat} {M : mmMi} {P : Option Value → mmMem → Prop} {k : List Value → List Value → mmMem → Prop} {L st : List Value} {μ : mmMem} {pc len w a b : Nat} {v : Value} {Mc : mmMi} {n : Int} (hok : mmOkI M (pc, .bipush n, len, w, a, b, v, Mc) = true) (hk : ∀ L st μ, k L st μ → mmEnds d M (pc + len) L st μ P) (h : wpI d M P (pc, .bipush n, len, w, a, b, v, Mc) k L st μ) : mmEnds d M pc L st μ P := by
  obtain ⟨hd, hX⟩ := mmOkI_ok hok
  dsimp only at hd
  obtain ⟨rfl, rfl⟩ : len = 2 ∧ v = _ := by simpa [mmOkX] using hX
  intro p l e s m args below meth c H locs B H0 sk sv D cA ls hx hb hr hml hown hts hlk hS hls hH hF hB
  exact lv_bipush hx hb hd rfl (hk _ _ _ h p l e s m args below meth c H locs B H0 sk sv D cA ls hx hb hr hml hown hts hlk hS hls hH hF hB)
theorem st_sipush {d : Nat} {M : mmMi} {P : Option Value → mmMem → Prop} {k : List Value → List Value → mmMem → Prop} {L st : List Value} {μ : mmMem} {pc len w a b : Nat} {v : Value} {Mc : mmMi} {n : Int} (hok : mmOkI M (pc, .sipush n, len, w, a, b, v, Mc) = true) (hk : ∀ L st μ, k L st μ → mmEnds d M (pc + len) L st μ P) (h : wpI d M P (pc, .sipush n, len, w, a, b, v, Mc) k L st μ) : mmEnds d M pc L st μ P := by
  obtain ⟨hd, hX⟩ := mmOkI_ok hok
  dsimp only at hd
  obtain ⟨rfl, rfl⟩ : len = 3 ∧ v = _ := by simpa [mmOkX] using hX
  intro p l e s m args below meth c H locs B H0 sk sv D cA ls hx hb hr hml hown hts hlk hS hls hH hF hB
  exact lv_sipush hx hb hd rfl (hk _ _ _ h p l e s m args below meth c H locs B H0 sk sv D cA ls hx hb hr hml hown hts hlk hS hls hH hF hB)
theorem st_lconst {d : Nat} {M : mmMi} {P : Option Value → mmMem → Prop} {k : List Value → List Value → mmMem → Prop} {L st : List Value} {μ : mmMem} {pc len w a b : Nat} {v : Value} {Mc : mmMi} {n : Fin 2} (hok : mmOkI M (pc, .lconst n, len, w, a, b, v, Mc) = true) (hk : ∀ L st μ, k L st μ → mmEnds d M (pc + len) L st μ P) (h : wpI d M P (pc, .lconst n, len, w, a, b, v, Mc) k L st μ) : mmEnds d M pc L st μ P := by
  obtain ⟨hd, hX⟩ := mmOkI_ok hok
  dsimp only at hd
  obtain ⟨rfl, rfl⟩ : len = 1 ∧ v = _ := by simpa [mmOkX] using hX
  intro p l e s m args below meth c H locs B H0 sk sv D cA ls hx hb hr hml hown hts hlk hS hls hH hF hB
  exact lv_lconst hx hb hd rfl (hk _ _ _ h p l e s m args below meth c H locs B H0 sk sv D cA ls hx hb hr hml hown hts hlk hS hls hH hF hB)
theorem st_dconst {d : Nat} {M : mmMi} {P : Option Value → mmMem → Prop} {k : List Value → List Value → mmMem → Prop} {L st : List Value} {μ : mmMem} {pc len w a b : Nat} {v : Value} {Mc : mmMi} {n : Fin 2} (hok : mmOkI M (pc, .dconst n, len, w, a, b, v, Mc) = true) (hk : ∀ L st μ, k L st μ → mmEnds d M (pc + len) L st μ P) (h : wpI d M P (pc, .dconst n, len, w, a, b, v, Mc) k L st μ) : mmEnds d M pc L st μ P := by
  obtain ⟨hd, hX⟩ := mmOkI_ok hok
  dsimp only at hd
  match n, hd, hX, hok, h with
  | 0, hd, hX, hok, h =>
    obtain ⟨rfl, rfl⟩ : len = 1 ∧ v = _ := by simpa [mmOkX] using hX
    intro p l e s m args below meth c H locs B H0 sk sv D cA ls hx hb hr hml hown hts hlk hS hls hH hF hB
    exact lv_dconst0 hx hb hd (hk _ _ _ h p l e s m args below meth c H locs B H0 sk sv D cA ls hx hb hr hml hown hts hlk hS hls hH hF hB)
  | 1, hd, hX, hok, h =>
    obtain ⟨rfl, rfl⟩ : len = 1 ∧ v = _ := by simpa [mmOkX] using hX
    intro p l e s m args below meth c H locs B H0 sk sv D cA ls hx hb hr hml hown hts hlk hS hls hH hF hB
    exact lv_dconst1 hx hb hd (hk _ _ _ h p l e s m args below meth c H locs B H0 sk sv D cA ls hx hb hr hml hown hts hlk hS hls hH hF hB)
theorem st_ldc {d : Nat} {M : mmMi} {P : Option Value → mmMem → Prop} {k : List Value → List Value → mmMem → Prop} {L st : List Value} {μ : mmMem} {pc len w a b : Nat} {v : Value} {Mc : mmMi} {n : Nat} (hok : mmOkI M (pc, .ldc n, len, w, a, b, v, Mc) = true) (hk : ∀ L st μ, k L st μ → mmEnds d M (pc + len) L st μ P) (h : wpI d M P (pc, .ldc n, len, w, a, b, v, Mc) k L st μ) : mmEnds d M pc L st μ P := by
  obtain ⟨hd, hX⟩ := mmOkI_ok hok
  dsimp only at hd
  cases v with
  | int x =>
    obtain ⟨rfl, hw⟩ : len = 2 ∧ lw_tbl[w]? = some (.constant M.1.cls n x) := by simpa [mmOkX] using hX
    intro p l e s m args below meth c H locs B H0 sk sv D cA ls hx hb hr hml hown hts hlk hS hls hH hF hB
    exact lv_ldc hx hb hown (mm_word (M := M) hts hw rfl) hd (hk _ _ _ h p l e s m args below meth c H locs B H0 sk sv D cA ls hx hb hr hml hown hts hlk hS hls hH hF hB)
  | float x =>
    obtain ⟨rfl, hw⟩ : len = 2 ∧ lw_tbl[w]? = some (.constantFloat M.1.cls n x) := by simpa [mmOkX] using hX
    intro p l e s m args below meth c H locs B H0 sk sv D cA ls hx hb hr hml hown hts hlk hS hls hH hF hB
    exact lv_ldcf hx hb hown (mm_word (M := M) hts hw rfl) hd (hk _ _ _ h p l e s m args below meth c H locs B H0 sk sv D cA ls hx hb hr hml hown hts hlk hS hls hH hF hB)
  | retAddr x =>
    match x, hX, h, hok with
    | 0, hX, h, hok =>
      obtain ⟨rfl, e1, rfl⟩ : len = 2 ∧ M.1.cls = RX5 ∧ n = 51 := by simpa [mmOkX] using hX
      intro p l e s m args below meth c H locs B H0 sk sv D cA ls hx hb hr hml hown hts hlk hS hls hH hF hB
      refine va_ldcS (own := M.1.cls) (tx := "zbcsilfdwon") (q := sk 0) hx hb hown ?_ hd (hk _ _ _ h p l e s m args below meth c H locs B H0 sk sv D cA ls hx hb hr hml hown hts hlk hS hls hH hF hB)
      rw [e1]; exact hS.2.2.1
    | x + 1, hX, h, hok => simp [mmOkX] at hX
  | _ => simp [mmOkX] at hX
theorem st_ldc_w {d : Nat} {M : mmMi} {P : Option Value → mmMem → Prop} {k : List Value → List Value → mmMem → Prop} {L st : List Value} {μ : mmMem} {pc len w a b : Nat} {v : Value} {Mc : mmMi} {n : Nat} (hok : mmOkI M (pc, .ldc_w n, len, w, a, b, v, Mc) = true) (hk : ∀ L st μ, k L st μ → mmEnds d M (pc + len) L st μ P) (h : wpI d M P (pc, .ldc_w n, len, w, a, b, v, Mc) k L st μ) : mmEnds d M pc L st μ P := by
  obtain ⟨hd, hX⟩ := mmOkI_ok hok
  dsimp only at hd
  cases v with
  | int x =>
    obtain ⟨rfl, hw⟩ : len = 3 ∧ lw_tbl[w]? = some (.constant M.1.cls n x) := by simpa [mmOkX] using hX
    intro p l e s m args below meth c H locs B H0 sk sv D cA ls hx hb hr hml hown hts hlk hS hls hH hF hB
    exact lv_ldcw hx hb hown (mm_word (M := M) hts hw rfl) hd (hk _ _ _ h p l e s m args below meth c H locs B H0 sk sv D cA ls hx hb hr hml hown hts hlk hS hls hH hF hB)
  | _ => simp [mmOkX] at hX
theorem st_ldc2_w {d : Nat} {M : mmMi} {P : Option Value → mmMem → Prop} {k : List Value → List Value → mmMem → Prop} {L st : List Value} {μ : mmMem} {pc len w a b : Nat} {v : Value} {Mc : mmMi} {n : Nat} (hok : mmOkI M (pc, .ldc2_w n, len, w, a, b, v, Mc) = true) (hk : ∀ L st μ, k L st μ → mmEnds d M (pc + len) L st μ P) (h : wpI d M P (pc, .ldc2_w n, len, w, a, b, v, Mc) k L st μ) : mmEnds d M pc L st μ P := by
  obtain ⟨hd, hX⟩ := mmOkI_ok hok
  dsimp only at hd
  cases v with
  | long x =>
    obtain ⟨rfl, hw⟩ : len = 3 ∧ lw_tbl[w]? = some (.constantLong M.1.cls n x) := by simpa [mmOkX] using hX
    intro p l e s m args below meth c H locs B H0 sk sv D cA ls hx hb hr hml hown hts hlk hS hls hH hF hB
    exact lv_ldc2 hx hb hown (mm_word (M := M) hts hw rfl) hd (hk _ _ _ h p l e s m args below meth c H locs B H0 sk sv D cA ls hx hb hr hml hown hts hlk hS hls hH hF hB)
  | double x =>
    obtain ⟨rfl, hw⟩ : len = 3 ∧ lw_tbl[w]? = some (.constantDouble M.1.cls n x) := by simpa [mmOkX] using hX
    intro p l e s m args below meth c H locs B H0 sk sv D cA ls hx hb hr hml hown hts hlk hS hls hH hF hB
    exact lv_ldc2d hx hb hown (mm_word (M := M) hts hw rfl) hd (hk _ _ _ h p l e s m args below meth c H locs B H0 sk sv D cA ls hx hb hr hml hown hts hlk hS hls hH hF hB)
  | _ => simp [mmOkX] at hX
theorem st_iload {d : Nat} {M : mmMi} {P : Option Value → mmMem → Prop} {k : List Value → List Value → mmMem → Prop} {L st : List Value} {μ : mmMem} {pc len w a b : Nat} {v : Value} {Mc : mmMi} {i : Nat} (hok : mmOkI M (pc, .iload i, len, w, a, b, v, Mc) = true) (hk : ∀ L st μ, k L st μ → mmEnds d M (pc + len) L st μ P) (h : wpI d M P (pc, .iload i, len, w, a, b, v, Mc) k L st μ) : mmEnds d M pc L st μ P := by
  obtain ⟨hd, hX⟩ := mmOkI_ok hok
  dsimp only at hd
  obtain rfl : len = 2 := by simpa [mmOkX] using hX
  obtain ⟨x, hg, h⟩ := gI_ok h
  intro p l e s m args below meth c H locs B H0 sk sv D cA ls hx hb hr hml hown hts hlk hS hls hH hF hB
  exact lv_iload hx hb hd (hls.at hg (fun hq => by cases hq)) (hk _ _ _ h p l e s m args below meth c H locs B H0 sk sv D cA ls hx hb hr hml hown hts hlk hS hls hH hF hB)
theorem st_iload_n {d : Nat} {M : mmMi} {P : Option Value → mmMem → Prop} {k : List Value → List Value → mmMem → Prop} {L st : List Value} {μ : mmMem} {pc len w a b : Nat} {v : Value} {Mc : mmMi} {i : Fin 4} (hok : mmOkI M (pc, .iload_n i, len, w, a, b, v, Mc) = true) (hk : ∀ L st μ, k L st μ → mmEnds d M (pc + len) L st μ P) (h : wpI d M P (pc, .iload_n i, len, w, a, b, v, Mc) k L st μ) : mmEnds d M pc L st μ P := by
  obtain ⟨hd, hX⟩ := mmOkI_ok hok
  dsimp only at hd
  obtain rfl : len = 1 := by simpa [mmOkX] using hX
  obtain ⟨x, hg, h⟩ := gI_ok h
  intro p l e s m args below meth c H locs B H0 sk sv D cA ls hx hb hr hml hown hts hlk hS hls hH hF hB
  exact lv_iload_n hx hb hd rfl (hls.at hg (fun hq => by cases hq)) (hk _ _ _ h p l e s m args below meth c H locs B H0 sk sv D cA ls hx hb hr hml hown hts hlk hS hls hH hF hB)
theorem st_lload {d : Nat} {M : mmMi} {P : Option Value → mmMem → Prop} {k : List Value → List Value → mmMem → Prop} {L st : List Value} {μ : mmMem} {pc len w a b : Nat} {v : Value} {Mc : mmMi} {i : Nat} (hok : mmOkI M (pc, .lload i, len, w, a, b, v, Mc) = true) (hk : ∀ L st μ, k L st μ → mmEnds d M (pc + len) L st μ P) (h : wpI d M P (pc, .lload i, len, w, a, b, v, Mc) k L st μ) : mmEnds d M pc L st μ P := by
  obtain ⟨hd, hX⟩ := mmOkI_ok hok
  dsimp only at hd
  obtain rfl : len = 2 := by simpa [mmOkX] using hX
  obtain ⟨x, hg, h⟩ := gJ_ok h
  intro p l e s m args below meth c H locs B H0 sk sv D cA ls hx hb hr hml hown hts hlk hS hls hH hF hB
  exact lv_lload hx hb hd (hls.at hg (fun hq => by cases hq)) (hk _ _ _ h p l e s m args below meth c H locs B H0 sk sv D cA ls hx hb hr hml hown hts hlk hS hls hH hF hB)
theorem st_lload_n {d : Nat} {M : mmMi} {P : Option Value → mmMem → Prop} {k : List Value → List Value → mmMem → Prop} {L st : List Value} {μ : mmMem} {pc len w a b : Nat} {v : Value} {Mc : mmMi} {i : Fin 4} (hok : mmOkI M (pc, .lload_n i, len, w, a, b, v, Mc) = true) (hk : ∀ L st μ, k L st μ → mmEnds d M (pc + len) L st μ P) (h : wpI d M P (pc, .lload_n i, len, w, a, b, v, Mc) k L st μ) : mmEnds d M pc L st μ P := by
  obtain ⟨hd, hX⟩ := mmOkI_ok hok
  dsimp only at hd
  obtain rfl : len = 1 := by simpa [mmOkX] using hX
  obtain ⟨x, hg, h⟩ := gJ_ok h
  intro p l e s m args below meth c H locs B H0 sk sv D cA ls hx hb hr hml hown hts hlk hS hls hH hF hB
  exact lv_lload_n hx hb hd rfl (hls.at hg (fun hq => by cases hq)) (hk _ _ _ h p l e s m args below meth c H locs B H0 sk sv D cA ls hx hb hr hml hown hts hlk hS hls hH hF hB)
theorem st_fload {d : Nat} {M : mmMi} {P : Option Value → mmMem → Prop} {k : List Value → List Value → mmMem → Prop} {L st : List Value} {μ : mmMem} {pc len w a b : Nat} {v : Value} {Mc : mmMi} {i : Nat} (hok : mmOkI M (pc, .fload i, len, w, a, b, v, Mc) = true) (hk : ∀ L st μ, k L st μ → mmEnds d M (pc + len) L st μ P) (h : wpI d M P (pc, .fload i, len, w, a, b, v, Mc) k L st μ) : mmEnds d M pc L st μ P := by
  obtain ⟨hd, hX⟩ := mmOkI_ok hok
  dsimp only at hd
  obtain rfl : len = 2 := by simpa [mmOkX] using hX
  obtain ⟨x, hg, h⟩ := gF_ok h
  intro p l e s m args below meth c H locs B H0 sk sv D cA ls hx hb hr hml hown hts hlk hS hls hH hF hB
  exact lv_fload hx hb hd (hls.at hg (fun hq => by cases hq)) (hk _ _ _ h p l e s m args below meth c H locs B H0 sk sv D cA ls hx hb hr hml hown hts hlk hS hls hH hF hB)
theorem st_fload_n {d : Nat} {M : mmMi} {P : Option Value → mmMem → Prop} {k : List Value → List Value → mmMem → Prop} {L st : List Value} {μ : mmMem} {pc len w a b : Nat} {v : Value} {Mc : mmMi} {i : Fin 4} (hok : mmOkI M (pc, .fload_n i, len, w, a, b, v, Mc) = true) (hk : ∀ L st μ, k L st μ → mmEnds d M (pc + len) L st μ P) (h : wpI d M P (pc, .fload_n i, len, w, a, b, v, Mc) k L st μ) : mmEnds d M pc L st μ P := by
  obtain ⟨hd, hX⟩ := mmOkI_ok hok
  dsimp only at hd
  obtain rfl : len = 1 := by simpa [mmOkX] using hX
  obtain ⟨x, hg, h⟩ := gF_ok h
  intro p l e s m args below meth c H locs B H0 sk sv D cA ls hx hb hr hml hown hts hlk hS hls hH hF hB
  exact lv_fload_n hx hb hd rfl (hls.at hg (fun hq => by cases hq)) (hk _ _ _ h p l e s m args below meth c H locs B H0 sk sv D cA ls hx hb hr hml hown hts hlk hS hls hH hF hB)
theorem st_dload {d : Nat} {M : mmMi} {P : Option Value → mmMem → Prop} {k : List Value → List Value → mmMem → Prop} {L st : List Value} {μ : mmMem} {pc len w a b : Nat} {v : Value} {Mc : mmMi} {i : Nat} (hok : mmOkI M (pc, .dload i, len, w, a, b, v, Mc) = true) (hk : ∀ L st μ, k L st μ → mmEnds d M (pc + len) L st μ P) (h : wpI d M P (pc, .dload i, len, w, a, b, v, Mc) k L st μ) : mmEnds d M pc L st μ P := by
  obtain ⟨hd, hX⟩ := mmOkI_ok hok
  dsimp only at hd
  obtain rfl : len = 2 := by simpa [mmOkX] using hX
  obtain ⟨x, hg, h⟩ := gD_ok h
  intro p l e s m args below meth c H locs B H0 sk sv D cA ls hx hb hr hml hown hts hlk hS hls hH hF hB
  exact lv_dload hx hb hd (hls.at hg (fun hq => by cases hq)) (hk _ _ _ h p l e s m args below meth c H locs B H0 sk sv D cA ls hx hb hr hml hown hts hlk hS hls hH hF hB)
theorem st_dload_n {d : Nat} {M : mmMi} {P : Option Value → mmMem → Prop} {k : List Value → List Value → mmMem → Prop} {L st : List Value} {μ : mmMem} {pc len w a b : Nat} {v : Value} {Mc : mmMi} {i : Fin 4} (hok : mmOkI M (pc, .dload_n i, len, w, a, b, v, Mc) = true) (hk : ∀ L st μ, k L st μ → mmEnds d M (pc + len) L st μ P) (h : wpI d M P (pc, .dload_n i, len, w, a, b, v, Mc) k L st μ) : mmEnds d M pc L st μ P := by
  obtain ⟨hd, hX⟩ := mmOkI_ok hok
  dsimp only at hd
  obtain rfl : len = 1 := by simpa [mmOkX] using hX
  obtain ⟨x, hg, h⟩ := gD_ok h
  intro p l e s m args below meth c H locs B H0 sk sv D cA ls hx hb hr hml hown hts hlk hS hls hH hF hB
  exact lv_dload_n hx hb hd rfl (hls.at hg (fun hq => by cases hq)) (hk _ _ _ h p l e s m args below meth c H locs B H0 sk sv D cA ls hx hb hr hml hown hts hlk hS hls hH hF hB)
theorem st_aload {d : Nat} {M : mmMi} {P : Option Value → mmMem → Prop} {k : List Value → List Value → mmMem → Prop} {L st : List Value} {μ : mmMem} {pc len w a b : Nat} {v : Value} {Mc : mmMi} {i : Nat} (hok : mmOkI M (pc, .aload i, len, w, a, b, v, Mc) = true) (hk : ∀ L st μ, k L st μ → mmEnds d M (pc + len) L st μ P) (h : wpI d M P (pc, .aload i, len, w, a, b, v, Mc) k L st μ) : mmEnds d M pc L st μ P := by
  obtain ⟨hd, hX⟩ := mmOkI_ok hok
  dsimp only at hd
  obtain rfl : len = 2 := by simpa [mmOkX] using hX
  obtain ⟨x, hg, h⟩ := gA_ok h
  intro p l e s m args below meth c H locs B H0 sk sv D cA ls hx hb hr hml hown hts hlk hS hls hH hF hB
  exact lv_aload hx hb hd (hls.at hg (fun hq => by cases hq)) (hk _ _ _ h p l e s m args below meth c H locs B H0 sk sv D cA ls hx hb hr hml hown hts hlk hS hls hH hF hB)
theorem st_aload_n {d : Nat} {M : mmMi} {P : Option Value → mmMem → Prop} {k : List Value → List Value → mmMem → Prop} {L st : List Value} {μ : mmMem} {pc len w a b : Nat} {v : Value} {Mc : mmMi} {i : Fin 4} (hok : mmOkI M (pc, .aload_n i, len, w, a, b, v, Mc) = true) (hk : ∀ L st μ, k L st μ → mmEnds d M (pc + len) L st μ P) (h : wpI d M P (pc, .aload_n i, len, w, a, b, v, Mc) k L st μ) : mmEnds d M pc L st μ P := by
  obtain ⟨hd, hX⟩ := mmOkI_ok hok
  dsimp only at hd
  obtain rfl : len = 1 := by simpa [mmOkX] using hX
  obtain ⟨x, hg, h⟩ := gA_ok h
  intro p l e s m args below meth c H locs B H0 sk sv D cA ls hx hb hr hml hown hts hlk hS hls hH hF hB
  exact lv_aload_n hx hb hd rfl (hls.at hg (fun hq => by cases hq)) (hk _ _ _ h p l e s m args below meth c H locs B H0 sk sv D cA ls hx hb hr hml hown hts hlk hS hls hH hF hB)
theorem st_istore {d : Nat} {M : mmMi} {P : Option Value → mmMem → Prop} {k : List Value → List Value → mmMem → Prop} {L st : List Value} {μ : mmMem} {pc len w a b : Nat} {v : Value} {Mc : mmMi} {i : Nat} (hok : mmOkI M (pc, .istore i, len, w, a, b, v, Mc) = true) (hk : ∀ L st μ, k L st μ → mmEnds d M (pc + len) L st μ P) (h : wpI d M P (pc, .istore i, len, w, a, b, v, Mc) k L st μ) : mmEnds d M pc L st μ P := by
  obtain ⟨hd, hX⟩ := mmOkI_ok hok
  dsimp only at hd
  obtain ⟨rfl, hi⟩ : len = 2 ∧ i < M.2.2.1 := by simpa [mmOkX] using hX
  obtain ⟨x, r, rfl, h⟩ := pI_ok h
  obtain ⟨hm, h⟩ := mif_ok h
  intro p l e s m args below meth c H locs B H0 sk sv D cA ls hx hb hr hml hown hts hlk hS hls hH hF hB
  obtain ⟨lv, hlv, hmem⟩ := hls
  exact lv_istore hx hb hd hlv hi rfl (fun ls2 hls2 => hk _ _ _ h p l e s m args below meth c H locs B H0 sk sv D cA _ hx hb hr hml hown hts hlk hS (mmLs.st1 a i (.int x) hmem (mk1_ok hm) rfl hls2) hH hF hB)
theorem st_istore_n {d : Nat} {M : mmMi} {P : Option Value → mmMem → Prop} {k : List Value → List Value → mmMem → Prop} {L st : List Value} {μ : mmMem} {pc len w a b : Nat} {v : Value} {Mc : mmMi} {i : Fin 4} (hok : mmOkI M (pc, .istore_n i, len, w, a, b, v, Mc) = true) (hk : ∀ L st μ, k L st μ → mmEnds d M (pc + len) L st μ P) (h : wpI d M P (pc, .istore_n i, len, w, a, b, v, Mc) k L st μ) : mmEnds d M pc L st μ P := by
  obtain ⟨hd, hX⟩ := mmOkI_ok hok
  dsimp only at hd
  obtain ⟨rfl, hi⟩ : len = 1 ∧ (i : Nat) < M.2.2.1 := by simpa [mmOkX] using hX
  obtain ⟨x, r, rfl, h⟩ := pI_ok h
  obtain ⟨hm, h⟩ := mif_ok h
  intro p l e s m args below meth c H locs B H0 sk sv D cA ls hx hb hr hml hown hts hlk hS hls hH hF hB
  obtain ⟨lv, hlv, hmem⟩ := hls
  exact lv_istore_n hx hb hd rfl hlv hi rfl (fun ls2 hls2 => hk _ _ _ h p l e s m args below meth c H locs B H0 sk sv D cA _ hx hb hr hml hown hts hlk hS (mmLs.st1 a i (.int x) hmem (mk1_ok hm) rfl hls2) hH hF hB)
theorem st_astore {d : Nat} {M : mmMi} {P : Option Value → mmMem → Prop} {k : List Value → List Value → mmMem → Prop} {L st : List Value} {μ : mmMem} {pc len w a b : Nat} {v : Value} {Mc : mmMi} {i : Nat} (hok : mmOkI M (pc, .astore i, len, w, a, b, v, Mc) = true) (hk : ∀ L st μ, k L st μ → mmEnds d M (pc + len) L st μ P) (h : wpI d M P (pc, .astore i, len, w, a, b, v, Mc) k L st μ) : mmEnds d M pc L st μ P := by
  obtain ⟨hd, hX⟩ := mmOkI_ok hok
  dsimp only at hd
  obtain ⟨rfl, hi⟩ : len = 2 ∧ i < M.2.2.1 := by simpa [mmOkX] using hX
  obtain ⟨x, r, rfl, h⟩ := pA_ok h
  obtain ⟨hm, h⟩ := mif_ok h
  intro p l e s m args below meth c H locs B H0 sk sv D cA ls hx hb hr hml hown hts hlk hS hls hH hF hB
  obtain ⟨lv, hlv, hmem⟩ := hls
  exact lv_astore hx hb hd hlv hi rfl (fun ls2 hls2 => hk _ _ _ h p l e s m args below meth c H locs B H0 sk sv D cA _ hx hb hr hml hown hts hlk hS (mmLs.st1 a i (.ref x) hmem (mk1_ok hm) rfl hls2) hH hF hB)
theorem st_astore_n {d : Nat} {M : mmMi} {P : Option Value → mmMem → Prop} {k : List Value → List Value → mmMem → Prop} {L st : List Value} {μ : mmMem} {pc len w a b : Nat} {v : Value} {Mc : mmMi} {i : Fin 4} (hok : mmOkI M (pc, .astore_n i, len, w, a, b, v, Mc) = true) (hk : ∀ L st μ, k L st μ → mmEnds d M (pc + len) L st μ P) (h : wpI d M P (pc, .astore_n i, len, w, a, b, v, Mc) k L st μ) : mmEnds d M pc L st μ P := by
  obtain ⟨hd, hX⟩ := mmOkI_ok hok
  dsimp only at hd
  obtain ⟨rfl, hi⟩ : len = 1 ∧ (i : Nat) < M.2.2.1 := by simpa [mmOkX] using hX
  obtain ⟨x, r, rfl, h⟩ := pA_ok h
  obtain ⟨hm, h⟩ := mif_ok h
  intro p l e s m args below meth c H locs B H0 sk sv D cA ls hx hb hr hml hown hts hlk hS hls hH hF hB
  obtain ⟨lv, hlv, hmem⟩ := hls
  exact lv_astore_n hx hb hd rfl hlv hi rfl (fun ls2 hls2 => hk _ _ _ h p l e s m args below meth c H locs B H0 sk sv D cA _ hx hb hr hml hown hts hlk hS (mmLs.st1 a i (.ref x) hmem (mk1_ok hm) rfl hls2) hH hF hB)
theorem st_lstore {d : Nat} {M : mmMi} {P : Option Value → mmMem → Prop} {k : List Value → List Value → mmMem → Prop} {L st : List Value} {μ : mmMem} {pc len w a b : Nat} {v : Value} {Mc : mmMi} {i : Nat} (hok : mmOkI M (pc, .lstore i, len, w, a, b, v, Mc) = true) (hk : ∀ L st μ, k L st μ → mmEnds d M (pc + len) L st μ P) (h : wpI d M P (pc, .lstore i, len, w, a, b, v, Mc) k L st μ) : mmEnds d M pc L st μ P := by
  obtain ⟨hd, hX⟩ := mmOkI_ok hok
  dsimp only at hd
  obtain ⟨rfl, hi⟩ : len = 2 ∧ i + 1 < M.2.2.1 := by simpa [mmOkX] using hX
  obtain ⟨x, r, rfl, h⟩ := pJ_ok h
  obtain ⟨hm, h⟩ := mif_ok h
  intro p l e s m args below meth c H locs B H0 sk sv D cA ls hx hb hr hml hown hts hlk hS hls hH hF hB
  obtain ⟨lv, hlv, hmem⟩ := hls
  exact lv_lstore hx hb hd hlv hi rfl (fun ls2 hls2 => hk _ _ _ h p l e s m args below meth c H locs B H0 sk sv D cA _ hx hb hr hml hown hts hlk hS (mmLs.st2 a i (.long x) hmem (mk1_ok hm) rfl hls2) hH hF hB)
theorem st_lstore_n {d : Nat} {M : mmMi} {P : Option Value → mmMem → Prop} {k : List Value → List Value → mmMem → Prop} {L st : List Value} {μ : mmMem} {pc len w a b : Nat} {v : Value} {Mc : mmMi} {i : Fin 4} (hok : mmOkI M (pc, .lstore_n i, len, w, a, b, v, Mc) = true) (hk : ∀ L st μ, k L st μ → mmEnds d M (pc + len) L st μ P) (h : wpI d M P (pc, .lstore_n i, len, w, a, b, v, Mc) k L st μ) : mmEnds d M pc L st μ P := by
  obtain ⟨hd, hX⟩ := mmOkI_ok hok
  dsimp only at hd
  obtain ⟨rfl, hi⟩ : len = 1 ∧ (i : Nat) + 1 < M.2.2.1 := by simpa [mmOkX] using hX
  obtain ⟨x, r, rfl, h⟩ := pJ_ok h
  obtain ⟨hm, h⟩ := mif_ok h
  intro p l e s m args below meth c H locs B H0 sk sv D cA ls hx hb hr hml hown hts hlk hS hls hH hF hB
  obtain ⟨lv, hlv, hmem⟩ := hls
  exact lv_lstore_n hx hb hd rfl hlv hi rfl (fun ls2 hls2 => hk _ _ _ h p l e s m args below meth c H locs B H0 sk sv D cA _ hx hb hr hml hown hts hlk hS (mmLs.st2 a i (.long x) hmem (mk1_ok hm) rfl hls2) hH hF hB)
theorem st_dstore {d : Nat} {M : mmMi} {P : Option Value → mmMem → Prop} {k : List Value → List Value → mmMem → Prop} {L st : List Value} {μ : mmMem} {pc len w a b : Nat} {v : Value} {Mc : mmMi} {i : Nat} (hok : mmOkI M (pc, .dstore i, len, w, a, b, v, Mc) = true) (hk : ∀ L st μ, k L st μ → mmEnds d M (pc + len) L st μ P) (h : wpI d M P (pc, .dstore i, len, w, a, b, v, Mc) k L st μ) : mmEnds d M pc L st μ P := by
  obtain ⟨hd, hX⟩ := mmOkI_ok hok
  dsimp only at hd
  obtain ⟨rfl, hi⟩ : len = 2 ∧ i + 1 < M.2.2.1 := by simpa [mmOkX] using hX
  obtain ⟨x, r, rfl, h⟩ := pD_ok h
  obtain ⟨hm, h⟩ := mif_ok h
  intro p l e s m args below meth c H locs B H0 sk sv D cA ls hx hb hr hml hown hts hlk hS hls hH hF hB
  obtain ⟨lv, hlv, hmem⟩ := hls
  exact lv_dstore hx hb hd hlv hi rfl (fun ls2 hls2 => hk _ _ _ h p l e s m args below meth c H locs B H0 sk sv D cA _ hx hb hr hml hown hts hlk hS (mmLs.st2 a i (.double x) hmem (mk1_ok hm) rfl hls2) hH hF hB)
theorem st_dstore_n {d : Nat} {M : mmMi} {P : Option Value → mmMem → Prop} {k : List Value → List Value → mmMem → Prop} {L st : List Value} {μ : mmMem} {pc len w a b : Nat} {v : Value} {Mc : mmMi} {i : Fin 4} (hok : mmOkI M (pc, .dstore_n i, len, w, a, b, v, Mc) = true) (hk : ∀ L st μ, k L st μ → mmEnds d M (pc + len) L st μ P) (h : wpI d M P (pc, .dstore_n i, len, w, a, b, v, Mc) k L st μ) : mmEnds d M pc L st μ P := by
  obtain ⟨hd, hX⟩ := mmOkI_ok hok
  dsimp only at hd
  obtain ⟨rfl, hi⟩ : len = 1 ∧ (i : Nat) + 1 < M.2.2.1 := by simpa [mmOkX] using hX
  obtain ⟨x, r, rfl, h⟩ := pD_ok h
  obtain ⟨hm, h⟩ := mif_ok h
  intro p l e s m args below meth c H locs B H0 sk sv D cA ls hx hb hr hml hown hts hlk hS hls hH hF hB
  obtain ⟨lv, hlv, hmem⟩ := hls
  exact lv_dstore_n hx hb hd rfl hlv hi rfl (fun ls2 hls2 => hk _ _ _ h p l e s m args below meth c H locs B H0 sk sv D cA _ hx hb hr hml hown hts hlk hS (mmLs.st2 a i (.double x) hmem (mk1_ok hm) rfl hls2) hH hF hB)
theorem st_iinc {d : Nat} {M : mmMi} {P : Option Value → mmMem → Prop} {k : List Value → List Value → mmMem → Prop} {L st : List Value} {μ : mmMem} {pc len w a b : Nat} {v : Value} {Mc : mmMi} {i : Nat} {n : Int} (hok : mmOkI M (pc, .iinc i n, len, w, a, b, v, Mc) = true) (hk : ∀ L st μ, k L st μ → mmEnds d M (pc + len) L st μ P) (h : wpI d M P (pc, .iinc i n, len, w, a, b, v, Mc) k L st μ) : mmEnds d M pc L st μ P := by
  obtain ⟨hd, hX⟩ := mmOkI_ok hok
  dsimp only at hd
  obtain ⟨⟨rfl, hi⟩, rfl⟩ : (len = 3 ∧ i < M.2.2.1) ∧ v = .int (Int32.ofInt n) := by simpa [mmOkX] using hX
  obtain ⟨x, hg, h⟩ := gI_ok h
  obtain ⟨hm, h⟩ := mif_ok h
  intro p l e s m args below meth c H locs B H0 sk sv D cA ls hx hb hr hml hown hts hlk hS hls hH hF hB
  obtain ⟨lv, hlv, hmem⟩ := hls
  obtain ⟨j, hj⟩ := List.getElem?_of_mem (hmem i (.int x) (mget_some hg (fun hq => by cases hq)) (fun hq => by cases hq))
  exact lv_iinc hx hb hd hlv hj rfl hi rfl (fun ls2 hls2 => hk _ _ _ h p l e s m args below meth c H locs B H0 sk sv D cA _ hx hb hr hml hown hts hlk hS (mmLs.st1 a i (.int (x + Int32.ofInt n)) hmem (mk1_ok hm) rfl hls2) hH hF hB)
theorem st_iadd {d : Nat} {M : mmMi} {P : Option Value → mmMem → Prop} {k : List Value → List Value → mmMem → Prop} {L st : List Value} {μ : mmMem} {pc len w a b : Nat} {v : Value} {Mc : mmMi} (hok : mmOkI M (pc, .iadd, len, w, a, b, v, Mc) = true) (hk : ∀ L st μ, k L st μ → mmEnds d M (pc + len) L st μ P) (h : wpI d M P (pc, .iadd, len, w, a, b, v, Mc) k L st μ) : mmEnds d M pc L st μ P := by
  obtain ⟨hd, hX⟩ := mmOkI_ok hok
  dsimp only at hd
  obtain rfl : len = 1 := by simpa [mmOkX] using hX
  obtain ⟨y, r, rfl, h⟩ := pI_ok h
  obtain ⟨x, r, rfl, h⟩ := pI_ok h
  intro p l e s m args below meth c H locs B H0 sk sv D cA ls hx hb hr hml hown hts hlk hS hls hH hF hB
  exact lv_iadd hx hb hd (hk _ _ _ h p l e s m args below meth c H locs B H0 sk sv D cA ls hx hb hr hml hown hts hlk hS hls hH hF hB)
theorem st_isub {d : Nat} {M : mmMi} {P : Option Value → mmMem → Prop} {k : List Value → List Value → mmMem → Prop} {L st : List Value} {μ : mmMem} {pc len w a b : Nat} {v : Value} {Mc : mmMi} (hok : mmOkI M (pc, .isub, len, w, a, b, v, Mc) = true) (hk : ∀ L st μ, k L st μ → mmEnds d M (pc + len) L st μ P) (h : wpI d M P (pc, .isub, len, w, a, b, v, Mc) k L st μ) : mmEnds d M pc L st μ P := by
  obtain ⟨hd, hX⟩ := mmOkI_ok hok
  dsimp only at hd
  obtain rfl : len = 1 := by simpa [mmOkX] using hX
  obtain ⟨y, r, rfl, h⟩ := pI_ok h
  obtain ⟨x, r, rfl, h⟩ := pI_ok h
  intro p l e s m args below meth c H locs B H0 sk sv D cA ls hx hb hr hml hown hts hlk hS hls hH hF hB
  exact lv_isub hx hb hd (hk _ _ _ h p l e s m args below meth c H locs B H0 sk sv D cA ls hx hb hr hml hown hts hlk hS hls hH hF hB)
theorem st_imul {d : Nat} {M : mmMi} {P : Option Value → mmMem → Prop} {k : List Value → List Value → mmMem → Prop} {L st : List Value} {μ : mmMem} {pc len w a b : Nat} {v : Value} {Mc : mmMi} (hok : mmOkI M (pc, .imul, len, w, a, b, v, Mc) = true) (hk : ∀ L st μ, k L st μ → mmEnds d M (pc + len) L st μ P) (h : wpI d M P (pc, .imul, len, w, a, b, v, Mc) k L st μ) : mmEnds d M pc L st μ P := by
  obtain ⟨hd, hX⟩ := mmOkI_ok hok
  dsimp only at hd
  obtain rfl : len = 1 := by simpa [mmOkX] using hX
  obtain ⟨y, r, rfl, h⟩ := pI_ok h
  obtain ⟨x, r, rfl, h⟩ := pI_ok h
  intro p l e s m args below meth c H locs B H0 sk sv D cA ls hx hb hr hml hown hts hlk hS hls hH hF hB
  exact lv_imul hx hb hd (hk _ _ _ h p l e s m args below meth c H locs B H0 sk sv D cA ls hx hb hr hml hown hts hlk hS hls hH hF hB)
theorem st_iand {d : Nat} {M : mmMi} {P : Option Value → mmMem → Prop} {k : List Value → List Value → mmMem → Prop} {L st : List Value} {μ : mmMem} {pc len w a b : Nat} {v : Value} {Mc : mmMi} (hok : mmOkI M (pc, .iand, len, w, a, b, v, Mc) = true) (hk : ∀ L st μ, k L st μ → mmEnds d M (pc + len) L st μ P) (h : wpI d M P (pc, .iand, len, w, a, b, v, Mc) k L st μ) : mmEnds d M pc L st μ P := by
  obtain ⟨hd, hX⟩ := mmOkI_ok hok
  dsimp only at hd
  obtain rfl : len = 1 := by simpa [mmOkX] using hX
  obtain ⟨y, r, rfl, h⟩ := pI_ok h
  obtain ⟨x, r, rfl, h⟩ := pI_ok h
  intro p l e s m args below meth c H locs B H0 sk sv D cA ls hx hb hr hml hown hts hlk hS hls hH hF hB
  exact lv_iand hx hb hd (hk _ _ _ h p l e s m args below meth c H locs B H0 sk sv D cA ls hx hb hr hml hown hts hlk hS hls hH hF hB)
theorem st_ior {d : Nat} {M : mmMi} {P : Option Value → mmMem → Prop} {k : List Value → List Value → mmMem → Prop} {L st : List Value} {μ : mmMem} {pc len w a b : Nat} {v : Value} {Mc : mmMi} (hok : mmOkI M (pc, .ior, len, w, a, b, v, Mc) = true) (hk : ∀ L st μ, k L st μ → mmEnds d M (pc + len) L st μ P) (h : wpI d M P (pc, .ior, len, w, a, b, v, Mc) k L st μ) : mmEnds d M pc L st μ P := by
  obtain ⟨hd, hX⟩ := mmOkI_ok hok
  dsimp only at hd
  obtain rfl : len = 1 := by simpa [mmOkX] using hX
  obtain ⟨y, r, rfl, h⟩ := pI_ok h
  obtain ⟨x, r, rfl, h⟩ := pI_ok h
  intro p l e s m args below meth c H locs B H0 sk sv D cA ls hx hb hr hml hown hts hlk hS hls hH hF hB
  exact lv_ior hx hb hd (hk _ _ _ h p l e s m args below meth c H locs B H0 sk sv D cA ls hx hb hr hml hown hts hlk hS hls hH hF hB)
theorem st_ishl {d : Nat} {M : mmMi} {P : Option Value → mmMem → Prop} {k : List Value → List Value → mmMem → Prop} {L st : List Value} {μ : mmMem} {pc len w a b : Nat} {v : Value} {Mc : mmMi} (hok : mmOkI M (pc, .ishl, len, w, a, b, v, Mc) = true) (hk : ∀ L st μ, k L st μ → mmEnds d M (pc + len) L st μ P) (h : wpI d M P (pc, .ishl, len, w, a, b, v, Mc) k L st μ) : mmEnds d M pc L st μ P := by
  obtain ⟨hd, hX⟩ := mmOkI_ok hok
  dsimp only at hd
  obtain rfl : len = 1 := by simpa [mmOkX] using hX
  obtain ⟨y, r, rfl, h⟩ := pI_ok h
  obtain ⟨x, r, rfl, h⟩ := pI_ok h
  intro p l e s m args below meth c H locs B H0 sk sv D cA ls hx hb hr hml hown hts hlk hS hls hH hF hB
  exact lv_ishl hx hb hd (hk _ _ _ h p l e s m args below meth c H locs B H0 sk sv D cA ls hx hb hr hml hown hts hlk hS hls hH hF hB)
theorem st_ishr {d : Nat} {M : mmMi} {P : Option Value → mmMem → Prop} {k : List Value → List Value → mmMem → Prop} {L st : List Value} {μ : mmMem} {pc len w a b : Nat} {v : Value} {Mc : mmMi} (hok : mmOkI M (pc, .ishr, len, w, a, b, v, Mc) = true) (hk : ∀ L st μ, k L st μ → mmEnds d M (pc + len) L st μ P) (h : wpI d M P (pc, .ishr, len, w, a, b, v, Mc) k L st μ) : mmEnds d M pc L st μ P := by
  obtain ⟨hd, hX⟩ := mmOkI_ok hok
  dsimp only at hd
  obtain rfl : len = 1 := by simpa [mmOkX] using hX
  obtain ⟨y, r, rfl, h⟩ := pI_ok h
  obtain ⟨x, r, rfl, h⟩ := pI_ok h
  intro p l e s m args below meth c H locs B H0 sk sv D cA ls hx hb hr hml hown hts hlk hS hls hH hF hB
  exact lv_ishr hx hb hd (hk _ _ _ h p l e s m args below meth c H locs B H0 sk sv D cA ls hx hb hr hml hown hts hlk hS hls hH hF hB)
theorem st_idiv {d : Nat} {M : mmMi} {P : Option Value → mmMem → Prop} {k : List Value → List Value → mmMem → Prop} {L st : List Value} {μ : mmMem} {pc len w a b : Nat} {v : Value} {Mc : mmMi} (hok : mmOkI M (pc, .idiv, len, w, a, b, v, Mc) = true) (hk : ∀ L st μ, k L st μ → mmEnds d M (pc + len) L st μ P) (h : wpI d M P (pc, .idiv, len, w, a, b, v, Mc) k L st μ) : mmEnds d M pc L st μ P := by
  obtain ⟨hd, hX⟩ := mmOkI_ok hok
  dsimp only at hd
  obtain rfl : len = 1 := by simpa [mmOkX] using hX
  obtain ⟨y, r, rfl, h⟩ := pI_ok h
  obtain ⟨x, r, rfl, h⟩ := pI_ok h
  intro p l e s m args below meth c H locs B H0 sk sv D cA ls hx hb hr hml hown hts hlk hS hls hH hF hB
  exact lv_idiv hx hb hd h.1 (hk _ _ _ h.2 p l e s m args below meth c H locs B H0 sk sv D cA ls hx hb hr hml hown hts hlk hS hls hH hF hB)
theorem st_irem {d : Nat} {M : mmMi} {P : Option Value → mmMem → Prop} {k : List Value → List Value → mmMem → Prop} {L st : List Value} {μ : mmMem} {pc len w a b : Nat} {v : Value} {Mc : mmMi} (hok : mmOkI M (pc, .irem, len, w, a, b, v, Mc) = true) (hk : ∀ L st μ, k L st μ → mmEnds d M (pc + len) L st μ P) (h : wpI d M P (pc, .irem, len, w, a, b, v, Mc) k L st μ) : mmEnds d M pc L st μ P := by
  obtain ⟨hd, hX⟩ := mmOkI_ok hok
  dsimp only at hd
  obtain rfl : len = 1 := by simpa [mmOkX] using hX
  obtain ⟨y, r, rfl, h⟩ := pI_ok h
  obtain ⟨x, r, rfl, h⟩ := pI_ok h
  intro p l e s m args below meth c H locs B H0 sk sv D cA ls hx hb hr hml hown hts hlk hS hls hH hF hB
  exact lv_irem hx hb hd h.1 (hk _ _ _ h.2 p l e s m args below meth c H locs B H0 sk sv D cA ls hx hb hr hml hown hts hlk hS hls hH hF hB)
theorem st_ladd {d : Nat} {M : mmMi} {P : Option Value → mmMem → Prop} {k : List Value → List Value → mmMem → Prop} {L st : List Value} {μ : mmMem} {pc len w a b : Nat} {v : Value} {Mc : mmMi} (hok : mmOkI M (pc, .ladd, len, w, a, b, v, Mc) = true) (hk : ∀ L st μ, k L st μ → mmEnds d M (pc + len) L st μ P) (h : wpI d M P (pc, .ladd, len, w, a, b, v, Mc) k L st μ) : mmEnds d M pc L st μ P := by
  obtain ⟨hd, hX⟩ := mmOkI_ok hok
  dsimp only at hd
  obtain rfl : len = 1 := by simpa [mmOkX] using hX
  obtain ⟨y, r, rfl, h⟩ := pJ_ok h
  obtain ⟨x, r, rfl, h⟩ := pJ_ok h
  intro p l e s m args below meth c H locs B H0 sk sv D cA ls hx hb hr hml hown hts hlk hS hls hH hF hB
  exact lv_ladd hx hb hd (hk _ _ _ h p l e s m args below meth c H locs B H0 sk sv D cA ls hx hb hr hml hown hts hlk hS hls hH hF hB)
theorem st_lsub {d : Nat} {M : mmMi} {P : Option Value → mmMem → Prop} {k : List Value → List Value → mmMem → Prop} {L st : List Value} {μ : mmMem} {pc len w a b : Nat} {v : Value} {Mc : mmMi} (hok : mmOkI M (pc, .lsub, len, w, a, b, v, Mc) = true) (hk : ∀ L st μ, k L st μ → mmEnds d M (pc + len) L st μ P) (h : wpI d M P (pc, .lsub, len, w, a, b, v, Mc) k L st μ) : mmEnds d M pc L st μ P := by
  obtain ⟨hd, hX⟩ := mmOkI_ok hok
  dsimp only at hd
  obtain rfl : len = 1 := by simpa [mmOkX] using hX
  obtain ⟨y, r, rfl, h⟩ := pJ_ok h
  obtain ⟨x, r, rfl, h⟩ := pJ_ok h
  intro p l e s m args below meth c H locs B H0 sk sv D cA ls hx hb hr hml hown hts hlk hS hls hH hF hB
  exact lv_lsub hx hb hd (hk _ _ _ h p l e s m args below meth c H locs B H0 sk sv D cA ls hx hb hr hml hown hts hlk hS hls hH hF hB)
theorem st_lmul {d : Nat} {M : mmMi} {P : Option Value → mmMem → Prop} {k : List Value → List Value → mmMem → Prop} {L st : List Value} {μ : mmMem} {pc len w a b : Nat} {v : Value} {Mc : mmMi} (hok : mmOkI M (pc, .lmul, len, w, a, b, v, Mc) = true) (hk : ∀ L st μ, k L st μ → mmEnds d M (pc + len) L st μ P) (h : wpI d M P (pc, .lmul, len, w, a, b, v, Mc) k L st μ) : mmEnds d M pc L st μ P := by
  obtain ⟨hd, hX⟩ := mmOkI_ok hok
  dsimp only at hd
  obtain rfl : len = 1 := by simpa [mmOkX] using hX
  obtain ⟨y, r, rfl, h⟩ := pJ_ok h
  obtain ⟨x, r, rfl, h⟩ := pJ_ok h
  intro p l e s m args below meth c H locs B H0 sk sv D cA ls hx hb hr hml hown hts hlk hS hls hH hF hB
  exact lv_lmul hx hb hd (hk _ _ _ h p l e s m args below meth c H locs B H0 sk sv D cA ls hx hb hr hml hown hts hlk hS hls hH hF hB)
theorem st_land {d : Nat} {M : mmMi} {P : Option Value → mmMem → Prop} {k : List Value → List Value → mmMem → Prop} {L st : List Value} {μ : mmMem} {pc len w a b : Nat} {v : Value} {Mc : mmMi} (hok : mmOkI M (pc, .land, len, w, a, b, v, Mc) = true) (hk : ∀ L st μ, k L st μ → mmEnds d M (pc + len) L st μ P) (h : wpI d M P (pc, .land, len, w, a, b, v, Mc) k L st μ) : mmEnds d M pc L st μ P := by
  obtain ⟨hd, hX⟩ := mmOkI_ok hok
  dsimp only at hd
  obtain rfl : len = 1 := by simpa [mmOkX] using hX
  obtain ⟨y, r, rfl, h⟩ := pJ_ok h
  obtain ⟨x, r, rfl, h⟩ := pJ_ok h
  intro p l e s m args below meth c H locs B H0 sk sv D cA ls hx hb hr hml hown hts hlk hS hls hH hF hB
  exact lv_land hx hb hd (hk _ _ _ h p l e s m args below meth c H locs B H0 sk sv D cA ls hx hb hr hml hown hts hlk hS hls hH hF hB)
theorem st_lor {d : Nat} {M : mmMi} {P : Option Value → mmMem → Prop} {k : List Value → List Value → mmMem → Prop} {L st : List Value} {μ : mmMem} {pc len w a b : Nat} {v : Value} {Mc : mmMi} (hok : mmOkI M (pc, .lor, len, w, a, b, v, Mc) = true) (hk : ∀ L st μ, k L st μ → mmEnds d M (pc + len) L st μ P) (h : wpI d M P (pc, .lor, len, w, a, b, v, Mc) k L st μ) : mmEnds d M pc L st μ P := by
  obtain ⟨hd, hX⟩ := mmOkI_ok hok
  dsimp only at hd
  obtain rfl : len = 1 := by simpa [mmOkX] using hX
  obtain ⟨y, r, rfl, h⟩ := pJ_ok h
  obtain ⟨x, r, rfl, h⟩ := pJ_ok h
  intro p l e s m args below meth c H locs B H0 sk sv D cA ls hx hb hr hml hown hts hlk hS hls hH hF hB
  exact lv_lor hx hb hd (hk _ _ _ h p l e s m args below meth c H locs B H0 sk sv D cA ls hx hb hr hml hown hts hlk hS hls hH hF hB)
theorem st_lxor {d : Nat} {M : mmMi} {P : Option Value → mmMem → Prop} {k : List Value → List Value → mmMem → Prop} {L st : List Value} {μ : mmMem} {pc len w a b : Nat} {v : Value} {Mc : mmMi} (hok : mmOkI M (pc, .lxor, len, w, a, b, v, Mc) = true) (hk : ∀ L st μ, k L st μ → mmEnds d M (pc + len) L st μ P) (h : wpI d M P (pc, .lxor, len, w, a, b, v, Mc) k L st μ) : mmEnds d M pc L st μ P := by
  obtain ⟨hd, hX⟩ := mmOkI_ok hok
  dsimp only at hd
  obtain rfl : len = 1 := by simpa [mmOkX] using hX
  obtain ⟨y, r, rfl, h⟩ := pJ_ok h
  obtain ⟨x, r, rfl, h⟩ := pJ_ok h
  intro p l e s m args below meth c H locs B H0 sk sv D cA ls hx hb hr hml hown hts hlk hS hls hH hF hB
  exact lv_lxor hx hb hd (hk _ _ _ h p l e s m args below meth c H locs B H0 sk sv D cA ls hx hb hr hml hown hts hlk hS hls hH hF hB)
theorem st_lcmp {d : Nat} {M : mmMi} {P : Option Value → mmMem → Prop} {k : List Value → List Value → mmMem → Prop} {L st : List Value} {μ : mmMem} {pc len w a b : Nat} {v : Value} {Mc : mmMi} (hok : mmOkI M (pc, .lcmp, len, w, a, b, v, Mc) = true) (hk : ∀ L st μ, k L st μ → mmEnds d M (pc + len) L st μ P) (h : wpI d M P (pc, .lcmp, len, w, a, b, v, Mc) k L st μ) : mmEnds d M pc L st μ P := by
  obtain ⟨hd, hX⟩ := mmOkI_ok hok
  dsimp only at hd
  obtain rfl : len = 1 := by simpa [mmOkX] using hX
  obtain ⟨y, r, rfl, h⟩ := pJ_ok h
  obtain ⟨x, r, rfl, h⟩ := pJ_ok h
  intro p l e s m args below meth c H locs B H0 sk sv D cA ls hx hb hr hml hown hts hlk hS hls hH hF hB
  exact W.lcmp hx hb hd (hk _ _ _ h p l e s m args below meth c H locs B H0 sk sv D cA ls hx hb hr hml hown hts hlk hS hls hH hF hB)
theorem st_ldiv {d : Nat} {M : mmMi} {P : Option Value → mmMem → Prop} {k : List Value → List Value → mmMem → Prop} {L st : List Value} {μ : mmMem} {pc len w a b : Nat} {v : Value} {Mc : mmMi} (hok : mmOkI M (pc, .ldiv, len, w, a, b, v, Mc) = true) (hk : ∀ L st μ, k L st μ → mmEnds d M (pc + len) L st μ P) (h : wpI d M P (pc, .ldiv, len, w, a, b, v, Mc) k L st μ) : mmEnds d M pc L st μ P := by
  obtain ⟨hd, hX⟩ := mmOkI_ok hok
  dsimp only at hd
  obtain rfl : len = 1 := by simpa [mmOkX] using hX
  obtain ⟨y, r, rfl, h⟩ := pJ_ok h
  obtain ⟨x, r, rfl, h⟩ := pJ_ok h
  intro p l e s m args below meth c H locs B H0 sk sv D cA ls hx hb hr hml hown hts hlk hS hls hH hF hB
  exact lv_ldiv hx hb hd h.1 (hk _ _ _ h.2 p l e s m args below meth c H locs B H0 sk sv D cA ls hx hb hr hml hown hts hlk hS hls hH hF hB)
theorem st_lrem {d : Nat} {M : mmMi} {P : Option Value → mmMem → Prop} {k : List Value → List Value → mmMem → Prop} {L st : List Value} {μ : mmMem} {pc len w a b : Nat} {v : Value} {Mc : mmMi} (hok : mmOkI M (pc, .lrem, len, w, a, b, v, Mc) = true) (hk : ∀ L st μ, k L st μ → mmEnds d M (pc + len) L st μ P) (h : wpI d M P (pc, .lrem, len, w, a, b, v, Mc) k L st μ) : mmEnds d M pc L st μ P := by
  obtain ⟨hd, hX⟩ := mmOkI_ok hok
  dsimp only at hd
  obtain rfl : len = 1 := by simpa [mmOkX] using hX
  obtain ⟨y, r, rfl, h⟩ := pJ_ok h
  obtain ⟨x, r, rfl, h⟩ := pJ_ok h
  intro p l e s m args below meth c H locs B H0 sk sv D cA ls hx hb hr hml hown hts hlk hS hls hH hF hB
  exact lv_lrem hx hb hd h.1 (hk _ _ _ h.2 p l e s m args below meth c H locs B H0 sk sv D cA ls hx hb hr hml hown hts hlk hS hls hH hF hB)
theorem st_ineg {d : Nat} {M : mmMi} {P : Option Value → mmMem → Prop} {k : List Value → List Value → mmMem → Prop} {L st : List Value} {μ : mmMem} {pc len w a b : Nat} {v : Value} {Mc : mmMi} (hok : mmOkI M (pc, .ineg, len, w, a, b, v, Mc) = true) (hk : ∀ L st μ, k L st μ → mmEnds d M (pc + len) L st μ P) (h : wpI d M P (pc, .ineg, len, w, a, b, v, Mc) k L st μ) : mmEnds d M pc L st μ P := by
  obtain ⟨hd, hX⟩ := mmOkI_ok hok
  dsimp only at hd
  obtain rfl : len = 1 := by simpa [mmOkX] using hX
  obtain ⟨x, r, rfl, h⟩ := pI_ok h
  intro p l e s m args below meth c H locs B H0 sk sv D cA ls hx hb hr hml hown hts hlk hS hls hH hF hB
  exact lv_ineg hx hb hd (hk _ _ _ h p l e s m args below meth c H locs B H0 sk sv D cA ls hx hb hr hml hown hts hlk hS hls hH hF hB)
theorem st_lneg {d : Nat} {M : mmMi} {P : Option Value → mmMem → Prop} {k : List Value → List Value → mmMem → Prop} {L st : List Value} {μ : mmMem} {pc len w a b : Nat} {v : Value} {Mc : mmMi} (hok : mmOkI M (pc, .lneg, len, w, a, b, v, Mc) = true) (hk : ∀ L st μ, k L st μ → mmEnds d M (pc + len) L st μ P) (h : wpI d M P (pc, .lneg, len, w, a, b, v, Mc) k L st μ) : mmEnds d M pc L st μ P := by
  obtain ⟨hd, hX⟩ := mmOkI_ok hok
  dsimp only at hd
  obtain rfl : len = 1 := by simpa [mmOkX] using hX
  obtain ⟨x, r, rfl, h⟩ := pJ_ok h
  intro p l e s m args below meth c H locs B H0 sk sv D cA ls hx hb hr hml hown hts hlk hS hls hH hF hB
  exact lv_lneg hx hb hd (hk _ _ _ h p l e s m args below meth c H locs B H0 sk sv D cA ls hx hb hr hml hown hts hlk hS hls hH hF hB)
theorem st_l2d {d : Nat} {M : mmMi} {P : Option Value → mmMem → Prop} {k : List Value → List Value → mmMem → Prop} {L st : List Value} {μ : mmMem} {pc len w a b : Nat} {v : Value} {Mc : mmMi} (hok : mmOkI M (pc, .l2d, len, w, a, b, v, Mc) = true) (hk : ∀ L st μ, k L st μ → mmEnds d M (pc + len) L st μ P) (h : wpI d M P (pc, .l2d, len, w, a, b, v, Mc) k L st μ) : mmEnds d M pc L st μ P := by
  obtain ⟨hd, hX⟩ := mmOkI_ok hok
  dsimp only at hd
  obtain rfl : len = 1 := by simpa [mmOkX] using hX
  obtain ⟨x, r, rfl, h⟩ := pJ_ok h
  intro p l e s m args below meth c H locs B H0 sk sv D cA ls hx hb hr hml hown hts hlk hS hls hH hF hB
  exact lv_l2d hx hb hd (hk _ _ _ h p l e s m args below meth c H locs B H0 sk sv D cA ls hx hb hr hml hown hts hlk hS hls hH hF hB)
theorem st_l2f {d : Nat} {M : mmMi} {P : Option Value → mmMem → Prop} {k : List Value → List Value → mmMem → Prop} {L st : List Value} {μ : mmMem} {pc len w a b : Nat} {v : Value} {Mc : mmMi} (hok : mmOkI M (pc, .l2f, len, w, a, b, v, Mc) = true) (hk : ∀ L st μ, k L st μ → mmEnds d M (pc + len) L st μ P) (h : wpI d M P (pc, .l2f, len, w, a, b, v, Mc) k L st μ) : mmEnds d M pc L st μ P := by
  obtain ⟨hd, hX⟩ := mmOkI_ok hok
  dsimp only at hd
  obtain rfl : len = 1 := by simpa [mmOkX] using hX
  obtain ⟨x, r, rfl, h⟩ := pJ_ok h
  intro p l e s m args below meth c H locs B H0 sk sv D cA ls hx hb hr hml hown hts hlk hS hls hH hF hB
  exact lv_l2f hx hb hd (hk _ _ _ h p l e s m args below meth c H locs B H0 sk sv D cA ls hx hb hr hml hown hts hlk hS hls hH hF hB)
theorem st_d2l {d : Nat} {M : mmMi} {P : Option Value → mmMem → Prop} {k : List Value → List Value → mmMem → Prop} {L st : List Value} {μ : mmMem} {pc len w a b : Nat} {v : Value} {Mc : mmMi} (hok : mmOkI M (pc, .d2l, len, w, a, b, v, Mc) = true) (hk : ∀ L st μ, k L st μ → mmEnds d M (pc + len) L st μ P) (h : wpI d M P (pc, .d2l, len, w, a, b, v, Mc) k L st μ) : mmEnds d M pc L st μ P := by
  obtain ⟨hd, hX⟩ := mmOkI_ok hok
  dsimp only at hd
  obtain rfl : len = 1 := by simpa [mmOkX] using hX
  obtain ⟨x, r, rfl, h⟩ := pD_ok h
  intro p l e s m args below meth c H locs B H0 sk sv D cA ls hx hb hr hml hown hts hlk hS hls hH hF hB
  exact lv_d2l hx hb hd (hk _ _ _ h p l e s m args below meth c H locs B H0 sk sv D cA ls hx hb hr hml hown hts hlk hS hls hH hF hB)
theorem st_d2i {d : Nat} {M : mmMi} {P : Option Value → mmMem → Prop} {k : List Value → List Value → mmMem → Prop} {L st : List Value} {μ : mmMem} {pc len w a b : Nat} {v : Value} {Mc : mmMi} (hok : mmOkI M (pc, .d2i, len, w, a, b, v, Mc) = true) (hk : ∀ L st μ, k L st μ → mmEnds d M (pc + len) L st μ P) (h : wpI d M P (pc, .d2i, len, w, a, b, v, Mc) k L st μ) : mmEnds d M pc L st μ P := by
  obtain ⟨hd, hX⟩ := mmOkI_ok hok
  dsimp only at hd
  obtain rfl : len = 1 := by simpa [mmOkX] using hX
  obtain ⟨x, r, rfl, h⟩ := pD_ok h
  intro p l e s m args below meth c H locs B H0 sk sv D cA ls hx hb hr hml hown hts hlk hS hls hH hF hB
  exact lv_d2i hx hb hd (hk _ _ _ h p l e s m args below meth c H locs B H0 sk sv D cA ls hx hb hr hml hown hts hlk hS hls hH hF hB)
theorem st_f2l {d : Nat} {M : mmMi} {P : Option Value → mmMem → Prop} {k : List Value → List Value → mmMem → Prop} {L st : List Value} {μ : mmMem} {pc len w a b : Nat} {v : Value} {Mc : mmMi} (hok : mmOkI M (pc, .f2l, len, w, a, b, v, Mc) = true) (hk : ∀ L st μ, k L st μ → mmEnds d M (pc + len) L st μ P) (h : wpI d M P (pc, .f2l, len, w, a, b, v, Mc) k L st μ) : mmEnds d M pc L st μ P := by
  obtain ⟨hd, hX⟩ := mmOkI_ok hok
  dsimp only at hd
  obtain rfl : len = 1 := by simpa [mmOkX] using hX
  obtain ⟨x, r, rfl, h⟩ := pF_ok h
  intro p l e s m args below meth c H locs B H0 sk sv D cA ls hx hb hr hml hown hts hlk hS hls hH hF hB
  exact lv_f2l hx hb hd (hk _ _ _ h p l e s m args below meth c H locs B H0 sk sv D cA ls hx hb hr hml hown hts hlk hS hls hH hF hB)
theorem st_dneg {d : Nat} {M : mmMi} {P : Option Value → mmMem → Prop} {k : List Value → List Value → mmMem → Prop} {L st : List Value} {μ : mmMem} {pc len w a b : Nat} {v : Value} {Mc : mmMi} (hok : mmOkI M (pc, .dneg, len, w, a, b, v, Mc) = true) (hk : ∀ L st μ, k L st μ → mmEnds d M (pc + len) L st μ P) (h : wpI d M P (pc, .dneg, len, w, a, b, v, Mc) k L st μ) : mmEnds d M pc L st μ P := by
  obtain ⟨hd, hX⟩ := mmOkI_ok hok
  dsimp only at hd
  obtain rfl : len = 1 := by simpa [mmOkX] using hX
  obtain ⟨x, r, rfl, h⟩ := pD_ok h
  intro p l e s m args below meth c H locs B H0 sk sv D cA ls hx hb hr hml hown hts hlk hS hls hH hF hB
  exact lv_dneg hx hb hd (hk _ _ _ h p l e s m args below meth c H locs B H0 sk sv D cA ls hx hb hr hml hown hts hlk hS hls hH hF hB)
theorem st_i2l {d : Nat} {M : mmMi} {P : Option Value → mmMem → Prop} {k : List Value → List Value → mmMem → Prop} {L st : List Value} {μ : mmMem} {pc len w a b : Nat} {v : Value} {Mc : mmMi} (hok : mmOkI M (pc, .i2l, len, w, a, b, v, Mc) = true) (hk : ∀ L st μ, k L st μ → mmEnds d M (pc + len) L st μ P) (h : wpI d M P (pc, .i2l, len, w, a, b, v, Mc) k L st μ) : mmEnds d M pc L st μ P := by
  obtain ⟨hd, hX⟩ := mmOkI_ok hok
  dsimp only at hd
  obtain rfl : len = 1 := by simpa [mmOkX] using hX
  obtain ⟨x, r, rfl, h⟩ := pI_ok h
  intro p l e s m args below meth c H locs B H0 sk sv D cA ls hx hb hr hml hown hts hlk hS hls hH hF hB
  exact lv_i2l hx hb hd rfl (hk _ _ _ h p l e s m args below meth c H locs B H0 sk sv D cA ls hx hb hr hml hown hts hlk hS hls hH hF hB)
theorem st_l2i {d : Nat} {M : mmMi} {P : Option Value → mmMem → Prop} {k : List Value → List Value → mmMem → Prop} {L st : List Value} {μ : mmMem} {pc len w a b : Nat} {v : Value} {Mc : mmMi} (hok : mmOkI M (pc, .l2i, len, w, a, b, v, Mc) = true) (hk : ∀ L st μ, k L st μ → mmEnds d M (pc + len) L st μ P) (h : wpI d M P (pc, .l2i, len, w, a, b, v, Mc) k L st μ) : mmEnds d M pc L st μ P := by
  obtain ⟨hd, hX⟩ := mmOkI_ok hok
  dsimp only at hd
  obtain rfl : len = 1 := by simpa [mmOkX] using hX
  obtain ⟨x, r, rfl, h⟩ := pJ_ok h
  intro p l e s m args below meth c H locs B H0 sk sv D cA ls hx hb hr hml hown hts hlk hS hls hH hF hB
  exact lv_l2i hx hb hd rfl (hk _ _ _ h p l e s m args below meth c H locs B H0 sk sv D cA ls hx hb hr hml hown hts hlk hS hls hH hF hB)
theorem st_i2b {d : Nat} {M : mmMi} {P : Option Value → mmMem → Prop} {k : List Value → List Value → mmMem → Prop} {L st : List Value} {μ : mmMem} {pc len w a b : Nat} {v : Value} {Mc : mmMi} (hok : mmOkI M (pc, .i2b, len, w, a, b, v, Mc) = true) (hk : ∀ L st μ, k L st μ → mmEnds d M (pc + len) L st μ P) (h : wpI d M P (pc, .i2b, len, w, a, b, v, Mc) k L st μ) : mmEnds d M pc L st μ P := by
  obtain ⟨hd, hX⟩ := mmOkI_ok hok
  dsimp only at hd
  obtain rfl : len = 1 := by simpa [mmOkX] using hX
  obtain ⟨x, r, rfl, h⟩ := pI_ok h
  intro p l e s m args below meth c H locs B H0 sk sv D cA ls hx hb hr hml hown hts hlk hS hls hH hF hB
  exact lv_i2b hx hb hd rfl (hk _ _ _ h p l e s m args below meth c H locs B H0 sk sv D cA ls hx hb hr hml hown hts hlk hS hls hH hF hB)
theorem st_i2s {d : Nat} {M : mmMi} {P : Option Value → mmMem → Prop} {k : List Value → List Value → mmMem → Prop} {L st : List Value} {μ : mmMem} {pc len w a b : Nat} {v : Value} {Mc : mmMi} (hok : mmOkI M (pc, .i2s, len, w, a, b, v, Mc) = true) (hk : ∀ L st μ, k L st μ → mmEnds d M (pc + len) L st μ P) (h : wpI d M P (pc, .i2s, len, w, a, b, v, Mc) k L st μ) : mmEnds d M pc L st μ P := by
  obtain ⟨hd, hX⟩ := mmOkI_ok hok
  dsimp only at hd
  obtain rfl : len = 1 := by simpa [mmOkX] using hX
  obtain ⟨x, r, rfl, h⟩ := pI_ok h
  intro p l e s m args below meth c H locs B H0 sk sv D cA ls hx hb hr hml hown hts hlk hS hls hH hF hB
  exact lv_i2s hx hb hd rfl (hk _ _ _ h p l e s m args below meth c H locs B H0 sk sv D cA ls hx hb hr hml hown hts hlk hS hls hH hF hB)
theorem st_i2c {d : Nat} {M : mmMi} {P : Option Value → mmMem → Prop} {k : List Value → List Value → mmMem → Prop} {L st : List Value} {μ : mmMem} {pc len w a b : Nat} {v : Value} {Mc : mmMi} (hok : mmOkI M (pc, .i2c, len, w, a, b, v, Mc) = true) (hk : ∀ L st μ, k L st μ → mmEnds d M (pc + len) L st μ P) (h : wpI d M P (pc, .i2c, len, w, a, b, v, Mc) k L st μ) : mmEnds d M pc L st μ P := by
  obtain ⟨hd, hX⟩ := mmOkI_ok hok
  dsimp only at hd
  obtain rfl : len = 1 := by simpa [mmOkX] using hX
  obtain ⟨x, r, rfl, h⟩ := pI_ok h
  intro p l e s m args below meth c H locs B H0 sk sv D cA ls hx hb hr hml hown hts hlk hS hls hH hF hB
  exact lv_i2c hx hb hd rfl (hk _ _ _ h p l e s m args below meth c H locs B H0 sk sv D cA ls hx hb hr hml hown hts hlk hS hls hH hF hB)
theorem st_lshl {d : Nat} {M : mmMi} {P : Option Value → mmMem → Prop} {k : List Value → List Value → mmMem → Prop} {L st : List Value} {μ : mmMem} {pc len w a b : Nat} {v : Value} {Mc : mmMi} (hok : mmOkI M (pc, .lshl, len, w, a, b, v, Mc) = true) (hk : ∀ L st μ, k L st μ → mmEnds d M (pc + len) L st μ P) (h : wpI d M P (pc, .lshl, len, w, a, b, v, Mc) k L st μ) : mmEnds d M pc L st μ P := by
  obtain ⟨hd, hX⟩ := mmOkI_ok hok
  dsimp only at hd
  obtain rfl : len = 1 := by simpa [mmOkX] using hX
  obtain ⟨y, r, rfl, h⟩ := pI_ok h
  obtain ⟨x, r, rfl, h⟩ := pJ_ok h
  intro p l e s m args below meth c H locs B H0 sk sv D cA ls hx hb hr hml hown hts hlk hS hls hH hF hB
  exact lv_lshl hx hb hd rfl (hk _ _ _ h p l e s m args below meth c H locs B H0 sk sv D cA ls hx hb hr hml hown hts hlk hS hls hH hF hB)
theorem st_f2d {d : Nat} {M : mmMi} {P : Option Value → mmMem → Prop} {k : List Value → List Value → mmMem → Prop} {L st : List Value} {μ : mmMem} {pc len w a b : Nat} {v : Value} {Mc : mmMi} (hok : mmOkI M (pc, .f2d, len, w, a, b, v, Mc) = true) (hk : ∀ L st μ, k L st μ → mmEnds d M (pc + len) L st μ P) (h : wpI d M P (pc, .f2d, len, w, a, b, v, Mc) k L st μ) : mmEnds d M pc L st μ P := by
  obtain ⟨hd, hX⟩ := mmOkI_ok hok
  dsimp only at hd
  obtain rfl : len = 1 := by simpa [mmOkX] using hX
  obtain ⟨x, r, rfl, h⟩ := pF_ok h
  intro p l e s m args below meth c H locs B H0 sk sv D cA ls hx hb hr hml hown hts hlk hS hls hH hF hB
  exact lv_f2d hx hb hd h.1 (hk _ _ _ h.2 p l e s m args below meth c H locs B H0 sk sv D cA ls hx hb hr hml hown hts hlk hS hls hH hF hB)
theorem st_d2f {d : Nat} {M : mmMi} {P : Option Value → mmMem → Prop} {k : List Value → List Value → mmMem → Prop} {L st : List Value} {μ : mmMem} {pc len w a b : Nat} {v : Value} {Mc : mmMi} (hok : mmOkI M (pc, .d2f, len, w, a, b, v, Mc) = true) (hk : ∀ L st μ, k L st μ → mmEnds d M (pc + len) L st μ P) (h : wpI d M P (pc, .d2f, len, w, a, b, v, Mc) k L st μ) : mmEnds d M pc L st μ P := by
  obtain ⟨hd, hX⟩ := mmOkI_ok hok
  dsimp only at hd
  obtain rfl : len = 1 := by simpa [mmOkX] using hX
  obtain ⟨x, r, rfl, h⟩ := pD_ok h
  intro p l e s m args below meth c H locs B H0 sk sv D cA ls hx hb hr hml hown hts hlk hS hls hH hF hB
  exact lv_d2f hx hb hd h.1 (hk _ _ _ h.2 p l e s m args below meth c H locs B H0 sk sv D cA ls hx hb hr hml hown hts hlk hS hls hH hF hB)
theorem st_dadd {d : Nat} {M : mmMi} {P : Option Value → mmMem → Prop} {k : List Value → List Value → mmMem → Prop} {L st : List Value} {μ : mmMem} {pc len w a b : Nat} {v : Value} {Mc : mmMi} (hok : mmOkI M (pc, .dadd, len, w, a, b, v, Mc) = true) (hk : ∀ L st μ, k L st μ → mmEnds d M (pc + len) L st μ P) (h : wpI d M P (pc, .dadd, len, w, a, b, v, Mc) k L st μ) : mmEnds d M pc L st μ P := by
  obtain ⟨hd, hX⟩ := mmOkI_ok hok
  dsimp only at hd
  obtain rfl : len = 1 := by simpa [mmOkX] using hX
  obtain ⟨y, r, rfl, h⟩ := pD_ok h
  obtain ⟨x, r, rfl, h⟩ := pD_ok h
  intro p l e s m args below meth c H locs B H0 sk sv D cA ls hx hb hr hml hown hts hlk hS hls hH hF hB
  exact lv_dadd hx hb hd h.1 (hk _ _ _ h.2 p l e s m args below meth c H locs B H0 sk sv D cA ls hx hb hr hml hown hts hlk hS hls hH hF hB)
theorem st_dsub {d : Nat} {M : mmMi} {P : Option Value → mmMem → Prop} {k : List Value → List Value → mmMem → Prop} {L st : List Value} {μ : mmMem} {pc len w a b : Nat} {v : Value} {Mc : mmMi} (hok : mmOkI M (pc, .dsub, len, w, a, b, v, Mc) = true) (hk : ∀ L st μ, k L st μ → mmEnds d M (pc + len) L st μ P) (h : wpI d M P (pc, .dsub, len, w, a, b, v, Mc) k L st μ) : mmEnds d M pc L st μ P := by
  obtain ⟨hd, hX⟩ := mmOkI_ok hok
  dsimp only at hd
  obtain rfl : len = 1 := by simpa [mmOkX] using hX
  obtain ⟨y, r, rfl, h⟩ := pD_ok h
  obtain ⟨x, r, rfl, h⟩ := pD_ok h
  intro p l e s m args below meth c H locs B H0 sk sv D cA ls hx hb hr hml hown hts hlk hS hls hH hF hB
  exact lv_dsub hx hb hd h.1 (hk _ _ _ h.2 p l e s m args below meth c H locs B H0 sk sv D cA ls hx hb hr hml hown hts hlk hS hls hH hF hB)
theorem st_dmul {d : Nat} {M : mmMi} {P : Option Value → mmMem → Prop} {k : List Value → List Value → mmMem → Prop} {L st : List Value} {μ : mmMem} {pc len w a b : Nat} {v : Value} {Mc : mmMi} (hok : mmOkI M (pc, .dmul, len, w, a, b, v, Mc) = true) (hk : ∀ L st μ, k L st μ → mmEnds d M (pc + len) L st μ P) (h : wpI d M P (pc, .dmul, len, w, a, b, v, Mc) k L st μ) : mmEnds d M pc L st μ P := by
  obtain ⟨hd, hX⟩ := mmOkI_ok hok
  dsimp only at hd
  obtain rfl : len = 1 := by simpa [mmOkX] using hX
  obtain ⟨y, r, rfl, h⟩ := pD_ok h
  obtain ⟨x, r, rfl, h⟩ := pD_ok h
  intro p l e s m args below meth c H locs B H0 sk sv D cA ls hx hb hr hml hown hts hlk hS hls hH hF hB
  exact lv_dmul hx hb hd h.1 (hk _ _ _ h.2 p l e s m args below meth c H locs B H0 sk sv D cA ls hx hb hr hml hown hts hlk hS hls hH hF hB)
theorem st_ddiv {d : Nat} {M : mmMi} {P : Option Value → mmMem → Prop} {k : List Value → List Value → mmMem → Prop} {L st : List Value} {μ : mmMem} {pc len w a b : Nat} {v : Value} {Mc : mmMi} (hok : mmOkI M (pc, .ddiv, len, w, a, b, v, Mc) = true) (hk : ∀ L st μ, k L st μ → mmEnds d M (pc + len) L st μ P) (h : wpI d M P (pc, .ddiv, len, w, a, b, v, Mc) k L st μ) : mmEnds d M pc L st μ P := by
  obtain ⟨hd, hX⟩ := mmOkI_ok hok
  dsimp only at hd
  obtain rfl : len = 1 := by simpa [mmOkX] using hX
  obtain ⟨y, r, rfl, h⟩ := pD_ok h
  obtain ⟨x, r, rfl, h⟩ := pD_ok h
  intro p l e s m args below meth c H locs B H0 sk sv D cA ls hx hb hr hml hown hts hlk hS hls hH hF hB
  exact lv_ddiv hx hb hd h.1 (hk _ _ _ h.2 p l e s m args below meth c H locs B H0 sk sv D cA ls hx hb hr hml hown hts hlk hS hls hH hF hB)
theorem st_fmul {d : Nat} {M : mmMi} {P : Option Value → mmMem → Prop} {k : List Value → List Value → mmMem → Prop} {L st : List Value} {μ : mmMem} {pc len w a b : Nat} {v : Value} {Mc : mmMi} (hok : mmOkI M (pc, .fmul, len, w, a, b, v, Mc) = true) (hk : ∀ L st μ, k L st μ → mmEnds d M (pc + len) L st μ P) (h : wpI d M P (pc, .fmul, len, w, a, b, v, Mc) k L st μ) : mmEnds d M pc L st μ P := by
  obtain ⟨hd, hX⟩ := mmOkI_ok hok
  dsimp only at hd
  obtain rfl : len = 1 := by simpa [mmOkX] using hX
  obtain ⟨y, r, rfl, h⟩ := pF_ok h
  obtain ⟨x, r, rfl, h⟩ := pF_ok h
  intro p l e s m args below meth c H locs B H0 sk sv D cA ls hx hb hr hml hown hts hlk hS hls hH hF hB
  exact lv_fmul hx hb hd h.1 (hk _ _ _ h.2 p l e s m args below meth c H locs B H0 sk sv D cA ls hx hb hr hml hown hts hlk hS hls hH hF hB)
theorem st_fdiv {d : Nat} {M : mmMi} {P : Option Value → mmMem → Prop} {k : List Value → List Value → mmMem → Prop} {L st : List Value} {μ : mmMem} {pc len w a b : Nat} {v : Value} {Mc : mmMi} (hok : mmOkI M (pc, .fdiv, len, w, a, b, v, Mc) = true) (hk : ∀ L st μ, k L st μ → mmEnds d M (pc + len) L st μ P) (h : wpI d M P (pc, .fdiv, len, w, a, b, v, Mc) k L st μ) : mmEnds d M pc L st μ P := by
  obtain ⟨hd, hX⟩ := mmOkI_ok hok
  dsimp only at hd
  obtain rfl : len = 1 := by simpa [mmOkX] using hX
  obtain ⟨y, r, rfl, h⟩ := pF_ok h
  obtain ⟨x, r, rfl, h⟩ := pF_ok h
  intro p l e s m args below meth c H locs B H0 sk sv D cA ls hx hb hr hml hown hts hlk hS hls hH hF hB
  exact lv_fdiv hx hb hd h.1 (hk _ _ _ h.2 p l e s m args below meth c H locs B H0 sk sv D cA ls hx hb hr hml hown hts hlk hS hls hH hF hB)
theorem st_dcmp {d : Nat} {M : mmMi} {P : Option Value → mmMem → Prop} {k : List Value → List Value → mmMem → Prop} {L st : List Value} {μ : mmMem} {pc len w a b : Nat} {v : Value} {Mc : mmMi} {op : CmpOp} (hok : mmOkI M (pc, .dcmp op, len, w, a, b, v, Mc) = true) (hk : ∀ L st μ, k L st μ → mmEnds d M (pc + len) L st μ P) (h : wpI d M P (pc, .dcmp op, len, w, a, b, v, Mc) k L st μ) : mmEnds d M pc L st μ P := by
  obtain ⟨hd, hX⟩ := mmOkI_ok hok
  dsimp only at hd
  obtain rfl : len = 1 := by simpa [mmOkX] using hX
  obtain ⟨y, r, rfl, h⟩ := pD_ok h
  obtain ⟨x, r, rfl, h⟩ := pD_ok h
  intro p l e s m args below meth c H locs B H0 sk sv D cA ls hx hb hr hml hown hts hlk hS hls hH hF hB
  exact lv_dcmp hx hb hd (hk _ _ _ h p l e s m args below meth c H locs B H0 sk sv D cA ls hx hb hr hml hown hts hlk hS hls hH hF hB)
theorem st_fcmp {d : Nat} {M : mmMi} {P : Option Value → mmMem → Prop} {k : List Value → List Value → mmMem → Prop} {L st : List Value} {μ : mmMem} {pc len w a b : Nat} {v : Value} {Mc : mmMi} {op : CmpOp} (hok : mmOkI M (pc, .fcmp op, len, w, a, b, v, Mc) = true) (hk : ∀ L st μ, k L st μ → mmEnds d M (pc + len) L st μ P) (h : wpI d M P (pc, .fcmp op, len, w, a, b, v, Mc) k L st μ) : mmEnds d M pc L st μ P := by
  obtain ⟨hd, hX⟩ := mmOkI_ok hok
  dsimp only at hd
  obtain rfl : len = 1 := by simpa [mmOkX] using hX
  obtain ⟨y, r, rfl, h⟩ := pF_ok h
  obtain ⟨x, r, rfl, h⟩ := pF_ok h
  intro p l e s m args below meth c H locs B H0 sk sv D cA ls hx hb hr hml hown hts hlk hS hls hH hF hB
  exact lv_fcmp hx hb hd (hk _ _ _ h p l e s m args below meth c H locs B H0 sk sv D cA ls hx hb hr hml hown hts hlk hS hls hH hF hB)
theorem st_dup {d : Nat} {M : mmMi} {P : Option Value → mmMem → Prop} {k : List Value → List Value → mmMem → Prop} {L st : List Value} {μ : mmMem} {pc len w a b : Nat} {v : Value} {Mc : mmMi} (hok : mmOkI M (pc, .dup, len, w, a, b, v, Mc) = true) (hk : ∀ L st μ, k L st μ → mmEnds d M (pc + len) L st μ P) (h : wpI d M P (pc, .dup, len, w, a, b, v, Mc) k L st μ) : mmEnds d M pc L st μ P := by
  obtain ⟨hd, hX⟩ := mmOkI_ok hok
  dsimp only at hd
  obtain rfl : len = 1 := by simpa [mmOkX] using hX
  cases st with
  | nil => exact absurd h id
  | cons v1 r =>
    obtain ⟨h1, h⟩ := mif_ok h
    intro p l e s m args below meth c H locs B H0 sk sv D cA ls hx hb hr hml hown hts hlk hS hls hH hF hB
    exact lv_dup hx hb hd (mmV_cat B sk v1 (Nat.eq_of_beq_eq_true h1)) (hk _ _ _ h p l e s m args below meth c H locs B H0 sk sv D cA ls hx hb hr hml hown hts hlk hS hls hH hF hB)
theorem mmV_cat2 (B : Nat) (sk : Nat → Nat) (v : Value) : (mmV B sk v).category = v.category := by
  cases v <;> rfl
theorem st_dup2 {d : Nat} {M : mmMi} {P : Option Value → mmMem → Prop} {k : List Value → List Value → mmMem → Prop} {L st : List Value} {μ : mmMem} {pc len w a b : Nat} {v : Value} {Mc : mmMi} (hok : mmOkI M (pc, .dup2, len, w, a, b, v, Mc) = true) (hk : ∀ L st μ, k L st μ → mmEnds d M (pc + len) L st μ P) (h : wpI d M P (pc, .dup2, len, w, a, b, v, Mc) k L st μ) : mmEnds d M pc L st μ P := by
  obtain ⟨hd, hX⟩ := mmOkI_ok hok
  dsimp only at hd
  obtain rfl : len = 1 := by simpa [mmOkX] using hX
  cases st with
  | nil => exact absurd h id
  | cons v1 r =>
    by_cases c2 : v1.category = 2
    · have h : k L (v1 :: v1 :: r) μ := by
        simp only [wpI, c2] at h
        exact h
      intro p l e s m args below meth c H locs B H0 sk sv D cA ls hx hb hr hml hown hts hlk hS hls hH hF hB
      exact lv_dup2_2 hx hb hd (by rw [mmV_cat2]; exact c2) (hk _ _ _ h p l e s m args below meth c H locs B H0 sk sv D cA ls hx hb hr hml hown hts hlk hS hls hH hF hB)
    · have c1 : v1.category = 1 := by cases v1 <;> first | rfl | exact absurd rfl c2
      cases r with
      | nil =>
        simp only [wpI, c1] at h
      | cons v2 r =>
        have h : mif (Nat.beq v2.category 1) (k L (v1 :: v2 :: v1 :: v2 :: r) μ) := by
          simp only [wpI, c1] at h
          exact h
        obtain ⟨h1, h⟩ := mif_ok h
        intro p l e s m args below meth c H locs B H0 sk sv D cA ls hx hb hr hml hown hts hlk hS hls hH hF hB
        exact lv_dup2_11 hx hb hd (by rw [mmV_cat2]; exact c1) (by rw [mmV_cat2]; exact Nat.eq_of_beq_eq_true h1) (hk _ _ _ h p l e s m args below meth c H locs B H0 sk sv D cA ls hx hb hr hml hown hts hlk hS hls hH hF hB)
theorem st_ifCond {d : Nat} {M : mmMi} {P : Option Value → mmMem → Prop} {k : List Value → List Value → mmMem → Prop} {L st : List Value} {μ : mmMem} {pc len w a b : Nat} {v : Value} {Mc : mmMi} {cc : ClassFile.Cond} {off : Int} (hok : mmOkI M (pc, .ifCond cc off, len, w, a, b, v, Mc) = true) (hk : ∀ L st μ, k L st μ → mmEnds d M (pc + len) L st μ P) (h : wpI d M P (pc, .ifCond cc off, len, w, a, b, v, Mc) k L st μ) : mmEnds d M pc L st μ P := by
  obtain ⟨hd, hX⟩ := mmOkI_ok hok
  dsimp only at hd
  obtain ⟨rfl, ht⟩ : len = 3 ∧ (pc : Int) + off = (a : Int) := by simpa [mmOkX] using hX
  obtain ⟨x, r, rfl, h⟩ := pI_ok h
  intro p l e s m args below meth c H locs B H0 sk sv D cA ls hx hb hr hml hown hts hlk hS hls hH hF hB
  cases cc with
  | eq => exact lv_if_eq hx hb hd ht (fun q => h.1 q p l e s m args below meth c H locs B H0 sk sv D cA ls hx hb hr hml hown hts hlk hS hls hH hF hB) (fun q => hk _ _ _ (h.2 q) p l e s m args below meth c H locs B H0 sk sv D cA ls hx hb hr hml hown hts hlk hS hls hH hF hB)
  | ne => exact lv_if_ne hx hb hd ht (fun q => h.1 q p l e s m args below meth c H locs B H0 sk sv D cA ls hx hb hr hml hown hts hlk hS hls hH hF hB) (fun q => hk _ _ _ (h.2 q) p l e s m args below meth c H locs B H0 sk sv D cA ls hx hb hr hml hown hts hlk hS hls hH hF hB)
  | lt => exact lv_if_lt hx hb hd ht (fun q => h.1 q p l e s m args below meth c H locs B H0 sk sv D cA ls hx hb hr hml hown hts hlk hS hls hH hF hB) (fun q => hk _ _ _ (h.2 q) p l e s m args below meth c H locs B H0 sk sv D cA ls hx hb hr hml hown hts hlk hS hls hH hF hB)
  | ge => exact lv_if_ge hx hb hd ht (fun q => h.1 q p l e s m args below meth c H locs B H0 sk sv D cA ls hx hb hr hml hown hts hlk hS hls hH hF hB) (fun q => hk _ _ _ (h.2 q) p l e s m args below meth c H locs B H0 sk sv D cA ls hx hb hr hml hown hts hlk hS hls hH hF hB)
  | gt => exact lv_if_gt hx hb hd ht (fun q => h.1 q p l e s m args below meth c H locs B H0 sk sv D cA ls hx hb hr hml hown hts hlk hS hls hH hF hB) (fun q => hk _ _ _ (h.2 q) p l e s m args below meth c H locs B H0 sk sv D cA ls hx hb hr hml hown hts hlk hS hls hH hF hB)
  | le => exact lv_if_le hx hb hd ht (fun q => h.1 q p l e s m args below meth c H locs B H0 sk sv D cA ls hx hb hr hml hown hts hlk hS hls hH hF hB) (fun q => hk _ _ _ (h.2 q) p l e s m args below meth c H locs B H0 sk sv D cA ls hx hb hr hml hown hts hlk hS hls hH hF hB)

theorem st_if_icmp {d : Nat} {M : mmMi} {P : Option Value → mmMem → Prop} {k : List Value → List Value → mmMem → Prop} {L st : List Value} {μ : mmMem} {pc len w a b : Nat} {v : Value} {Mc : mmMi} {cc : ClassFile.Cond} {off : Int} (hok : mmOkI M (pc, .if_icmp cc off, len, w, a, b, v, Mc) = true) (hk : ∀ L st μ, k L st μ → mmEnds d M (pc + len) L st μ P) (h : wpI d M P (pc, .if_icmp cc off, len, w, a, b, v, Mc) k L st μ) : mmEnds d M pc L st μ P := by
  obtain ⟨hd, hX⟩ := mmOkI_ok hok
  dsimp only at hd
  obtain ⟨rfl, ht⟩ : len = 3 ∧ (pc : Int) + off = (a : Int) := by simpa [mmOkX] using hX
  obtain ⟨y, r, rfl, h⟩ := pI_ok h
  obtain ⟨x, r, rfl, h⟩ := pI_ok h
  intro p l e s m args below meth c H locs B H0 sk sv D cA ls hx hb hr hml hown hts hlk hS hls hH hF hB
  cases cc with
  | eq => exact lv_icmp_eq hx hb hd ht (fun q => h.1 q p l e s m args below meth c H locs B H0 sk sv D cA ls hx hb hr hml hown hts hlk hS hls hH hF hB) (fun q => hk _ _ _ (h.2 q) p l e s m args below meth c H locs B H0 sk sv D cA ls hx hb hr hml hown hts hlk hS hls hH hF hB)
  | ne => exact lv_icmp_ne hx hb hd ht (fun q => h.1 q p l e s m args below meth c H locs B H0 sk sv D cA ls hx hb hr hml hown hts hlk hS hls hH hF hB) (fun q => hk _ _ _ (h.2 q) p l e s m args below meth c H locs B H0 sk sv D cA ls hx hb hr hml hown hts hlk hS hls hH hF hB)
  | lt => exact lv_icmp_lt hx hb hd ht (fun q => h.1 q p l e s m args below meth c H locs B H0 sk sv D cA ls hx hb hr hml hown hts hlk hS hls hH hF hB) (fun q => hk _ _ _ (h.2 q) p l e s m args below meth c H locs B H0 sk sv D cA ls hx hb hr hml hown hts hlk hS hls hH hF hB)
  | ge => exact lv_icmp_ge hx hb hd ht (fun q => h.1 q p l e s m args below meth c H locs B H0 sk sv D cA ls hx hb hr hml hown hts hlk hS hls hH hF hB) (fun q => hk _ _ _ (h.2 q) p l e s m args below meth c H locs B H0 sk sv D cA ls hx hb hr hml hown hts hlk hS hls hH hF hB)
  | gt => exact lv_icmp_gt hx hb hd ht (fun q => h.1 q p l e s m args below meth c H locs B H0 sk sv D cA ls hx hb hr hml hown hts hlk hS hls hH hF hB) (fun q => hk _ _ _ (h.2 q) p l e s m args below meth c H locs B H0 sk sv D cA ls hx hb hr hml hown hts hlk hS hls hH hF hB)
  | le => exact lv_icmp_le hx hb hd ht (fun q => h.1 q p l e s m args below meth c H locs B H0 sk sv D cA ls hx hb hr hml hown hts hlk hS hls hH hF hB) (fun q => hk _ _ _ (h.2 q) p l e s m args below meth c H locs B H0 sk sv D cA ls hx hb hr hml hown hts hlk hS hls hH hF hB)

theorem st_goto {d : Nat} {M : mmMi} {P : Option Value → mmMem → Prop} {k : List Value → List Value → mmMem → Prop} {L st : List Value} {μ : mmMem} {pc len w a b : Nat} {v : Value} {Mc : mmMi} {off : Int} (hok : mmOkI M (pc, .goto off, len, w, a, b, v, Mc) = true) (hk : ∀ L st μ, k L st μ → mmEnds d M (pc + len) L st μ P) (h : wpI d M P (pc, .goto off, len, w, a, b, v, Mc) k L st μ) : mmEnds d M pc L st μ P := by
  obtain ⟨hd, hX⟩ := mmOkI_ok hok
  dsimp only at hd
  obtain ⟨rfl, ht⟩ : len = 3 ∧ (pc : Int) + off = (a : Int) := by simpa [mmOkX] using hX
  intro p l e s m args below meth c H locs B H0 sk sv D cA ls hx hb hr hml hown hts hlk hS hls hH hF hB
  exact lv_goto hx hb hd ht (h p l e s m args below meth c H locs B H0 sk sv D cA ls hx hb hr hml hown hts hlk hS hls hH hF hB)
theorem mmTs_at {pc : Nat} {x : Int32} {E : Nat → Prop} : ∀ (l : List Int) (lo : Int), mmTs pc x E lo l → ∀ (j : Nat) (off : Int), l[j]? = some off → x.toInt = lo + (j : Int) → E ((pc : Int) + off).toNat
  | [], lo, _, j, off, hj, _ => by simp at hj
  | f :: t, lo, h, j, off, hj, hx => by
    cases j with
    | zero =>
      simp only [List.getElem?_cons_zero, Option.some.injEq] at hj
      subst hj
      exact h.1 (by simpa using hx)
    | succ j => exact mmTs_at t (lo + 1) h.2 j off (by simpa using hj) (by rw [hx]; omega)
theorem mmLk_at {pc : Nat} {x : Int32} {E : Nat → Prop} {d : Int} : ∀ (l : List (Int × Int)), mmLk pc x E d l → E ((pc : Int) + Op.lookupswitch.offset l d x.toInt).toNat
  | [], h => h
  | (qa, qo) :: t, h => by
    rw [Op.lookupswitch.offset_cons]
    by_cases hq : qa = x.toInt
    · rw [if_pos hq]
      exact h.1 hq.symm
    · rw [if_neg hq]
      exact mmLk_at t (h.2 (fun z => hq z.symm))
theorem mmLk_nn {pc : Nat} {x d : Int} : ∀ (l : List (Int × Int)), 0 ≤ (pc : Int) + d → (∀ f ∈ l, 0 ≤ (pc : Int) + f.2) → 0 ≤ (pc : Int) + Op.lookupswitch.offset l d x
  | [], hd, _ => hd
  | (qa, qo) :: t, hd, h => by
    rw [Op.lookupswitch.offset_cons]
    by_cases hq : qa = x
    · rw [if_pos hq]
      exact h _ List.mem_cons_self
    · rw [if_neg hq]
      exact mmLk_nn t hd (fun f hf => h f (List.mem_cons_of_mem _ hf))
theorem st_tableswitch {d : Nat} {M : mmMi} {P : Option Value → mmMem → Prop} {k : List Value → List Value → mmMem → Prop} {L st : List Value} {μ : mmMem} {pc len w a b : Nat} {v : Value} {Mc : mmMi} {dflt lo hi : Int} {offs : Array Int} (hok : mmOkI M (pc, .tableswitch dflt lo hi offs, len, w, a, b, v, Mc) = true) (hk : ∀ L st μ, k L st μ → mmEnds d M (pc + len) L st μ P) (h : wpI d M P (pc, .tableswitch dflt lo hi offs, len, w, a, b, v, Mc) k L st μ) : mmEnds d M pc L st μ P := by
  obtain ⟨hd, hX⟩ := mmOkI_ok hok
  dsimp only at hd
  obtain ⟨⟨h1, h2⟩, h3⟩ : (0 ≤ (pc : Int) + dflt ∧ ∀ f ∈ offs.toList, 0 ≤ (pc : Int) + f) ∧ hi - lo + 1 = (offs.toList.length : Int) := by
    simp only [mmOkX, Bool.and_eq_true, decide_eq_true_eq, List.all_eq_true] at hX
    exact hX
  obtain ⟨x, r, rfl, h⟩ := pI_ok h
  intro p l e s m args below meth c H locs B H0 sk sv D cA ls hx hb hr hml hown hts hlk hS hls hH hF hB
  by_cases hout : x.toInt < lo ∨ hi < x.toInt
  · exact lv_tableOut hx hb hd hout (Int.toNat_of_nonneg h1).symm (h.1 hout p l e s m args below meth c H locs B H0 sk sv D cA ls hx hb hr hml hown hts hlk hS hls hH hF hB)
  · have hj : (x.toInt - lo).toNat < offs.toList.length := by omega
    have hg : offs.toList[(x.toInt - lo).toNat]? = some offs.toList[(x.toInt - lo).toNat] := List.getElem?_eq_getElem hj
    have hnn := h2 _ (List.getElem_mem hj)
    refine lv_tableIn hx hb hd (fun q => hout (Or.inl q)) (fun q => hout (Or.inr q)) (by rw [← Array.getElem?_toList]; exact hg) (Int.toNat_of_nonneg hnn).symm ?_
    exact mmTs_at offs.toList lo h.2 _ _ hg (by omega) p l e s m args below meth c H locs B H0 sk sv D cA ls hx hb hr hml hown hts hlk hS hls hH hF hB
theorem st_lookupswitch {d : Nat} {M : mmMi} {P : Option Value → mmMem → Prop} {k : List Value → List Value → mmMem → Prop} {L st : List Value} {μ : mmMem} {pc len w a b : Nat} {v : Value} {Mc : mmMi} {dflt : Int} {ps : Array (Int × Int)} (hok : mmOkI M (pc, .lookupswitch dflt ps, len, w, a, b, v, Mc) = true) (hk : ∀ L st μ, k L st μ → mmEnds d M (pc + len) L st μ P) (h : wpI d M P (pc, .lookupswitch dflt ps, len, w, a, b, v, Mc) k L st μ) : mmEnds d M pc L st μ P := by
  obtain ⟨hd, hX⟩ := mmOkI_ok hok
  dsimp only at hd
  obtain ⟨⟨h1, h2⟩, h3⟩ : (0 ≤ (pc : Int) + dflt ∧ ∀ f ∈ ps.toList, 0 ≤ (pc : Int) + f.2) ∧ (ps.toList.zip (ps.toList.drop 1)).all (fun (a, next) => a.1 < next.1) = true := by
    simp only [mmOkX, Bool.and_eq_true, decide_eq_true_eq] at hX
    refine ⟨⟨hX.1.1, fun f hf => ?_⟩, hX.2⟩
    have h9 := List.all_eq_true.mp hX.1.2 f hf
    simpa using h9
  obtain ⟨x, r, rfl, h⟩ := pI_ok h
  intro p l e s m args below meth c H locs B H0 sk sv D cA ls hx hb hr hml hown hts hlk hS hls hH hF hB
  exact lv_lookup hx hb hd h3 rfl (Int.toNat_of_nonneg (mmLk_nn ps.toList h1 h2)).symm (mmLk_at ps.toList h p l e s m args below meth c H locs B H0 sk sv D cA ls hx hb hr hml hown hts hlk hS hls hH hF hB)
theorem st_getfield {d : Nat} {M : mmMi} {P : Option Value → mmMem → Prop} {k : List Value → List Value → mmMem → Prop} {L st : List Value} {μ : mmMem} {pc len w a b : Nat} {v : Value} {Mc : mmMi} {n : Nat} (hok : mmOkI M (pc, .getfield n, len, w, a, b, v, Mc) = true) (hk : ∀ L st μ, k L st μ → mmEnds d M (pc + len) L st μ P) (h : wpI d M P (pc, .getfield n, len, w, a, b, v, Mc) k L st μ) : mmEnds d M pc L st μ P := by
  obtain ⟨hd, hX⟩ := mmOkI_ok hok
  dsimp only at hd
  simp only [mmOkX, Bool.and_eq_true, beq_iff_eq] at hX
  obtain ⟨rfl, hX⟩ := hX
  obtain ⟨o, r, rfl, hKD, h⟩ := pA_ok h
  cases hc : vwCl[a]? with
  | none => rw [hc] at hX; cases hX
  | some q =>
    obtain ⟨C, T, N⟩ := q
    rw [hc] at hX
    simp only [Bool.and_eq_true, decide_eq_true_eq] at hX
    obtain ⟨hb9, hw⟩ := hX
    obtain ⟨hci, rfl, hin, -, -⟩ := mm_cls hc
    intro p l e s m args below meth c H locs B H0 sk sv D cA ls hx hb hr hml hown hts hlk hS hls hH hF hB
    have h9 := hk _ _ _ h p l e s m args below meth c H locs B H0 sk sv D cA ls hx hb hr hml hown hts hlk hS hls hH hF hB
    rw [List.map_cons, mmV_Gf] at h9
    exact va_get (C := C) (T := T) (N := mmNF a) (own := M.1.cls) hx hb hts hin hown hS.2.1 hH.2.2 o (mmE_o hKD hci) hc b hb9 (mm_word (M := M) hts hw rfl) (fun _ q => q) (mm_fs hb9) hd h9
theorem mm_next {B : Nat} {H0 : Heap} {D : va_G} {cA : Nat → ClassId} {μ ν : mmMem} {H H1 H2 : Heap} {locs locs1 : List Loc} (hH : mmH B H0 D cA μ H) (hF : va_S (mmA B) H2 H locs) (hB : H2.size = H0.size) (hP : va_P D vwCl (mmW B cA ν) H1) (hS1 : va_S (mmA B) H2 H1 locs1) (hsz : H1.size ≤ H2.size + 0) : mmH B H0 D cA ν H1 := by
  refine ⟨by have := hS1.1; omega, fun q hq hn => ?_, hP⟩
  have h1 := hS1.2.1 q (by omega) hn
  have h2 := hF.2.1 q (by omega) hn
  rw [h1, ← h2]
  exact hH.2.1 q hq hn
theorem mm_fset {B : Nat} {μ ν : mmMem} {a ci k : Nat} {y : Value} (hk : k < mmNF ci) (h : ∀ j, j ≠ k → mmFV B μ a ci j = mmFV B ν a ci j) (hy : y = mmFV B ν a ci k) : ((List.range (mmNF ci)).map (mmFV B μ a ci)).set k y = (List.range (mmNF ci)).map (mmFV B ν a ci) := mm_mapset hk h hy
theorem mm_oset {B : Nat} {cA : Nat → ClassId} {μ ν : mmMem} {a ci k : Nat} {y : Value} (hKD : mmKD a = ci) (hci : ci < 10) (hk : k < mmNF ci) (h1 : ∀ b, b ≠ a → μ.1 b = ν.1 b) (h2 : ∀ b, b ≠ a → μ.2.1 b = ν.2.1 b) (h3 : ∀ b, b ≠ a → μ.2.2 b = ν.2.2 b) (h : ∀ j, j ≠ k → mmFV B μ a ci j = mmFV B ν a ci j) (hy : y = mmFV B ν a ci k) :
    (mmW B cA μ).set a (B + a, .inr (ci, ((List.range (mmNF ci)).map (mmFV B μ a ci)).set k y)) = mmW B cA ν := by
  refine mmW_set (mmKD_lt (by omega)) h1 h2 h3 ?_
  rw [mm_fset hk h hy, mmE_obj hKD hci]
theorem sI_fv {B : Nat} {μ : mmMem} {a ci k : Nat} {x : Int32} (j : Nat) (hj : j ≠ k) : mmFV B μ a ci j = mmFV B (sI μ a k x) a ci j := by
  unfold mmFV
  split <;> simp [sI, upd, hj]
theorem sJ_fv {B : Nat} {μ : mmMem} {a ci k : Nat} {x : Int64} (j : Nat) (hj : j ≠ k) : mmFV B μ a ci j = mmFV B (sJ μ a k x) a ci j := by
  unfold mmFV
  split <;> simp [sJ, vp_updL, hj]
theorem sD_fv {B : Nat} {μ : mmMem} {a ci k : Nat} {x : UInt64} (j : Nat) (hj : j ≠ k) : mmFV B μ a ci j = mmFV B (sD μ a k x) a ci j := by
  unfold mmFV
  split <;> simp [sD, vf_upd, hj]
theorem st_putfield {d : Nat} {M : mmMi} {P : Option Value → mmMem → Prop} {k : List Value → List Value → mmMem → Prop} {L st : List Value} {μ : mmMem} {pc len w a b : Nat} {v : Value} {Mc : mmMi} {n : Nat} (hok : mmOkI M (pc, .putfield n, len, w, a, b, v, Mc) = true) (hk : ∀ L st μ, k L st μ → mmEnds d M (pc + len) L st μ P) (h : wpI d M P (pc, .putfield n, len, w, a, b, v, Mc) k L st μ) : mmEnds d M pc L st μ P := by
  obtain ⟨hd, hX⟩ := mmOkI_ok hok
  dsimp only at hd
  simp only [mmOkX, Bool.and_eq_true, beq_iff_eq] at hX
  obtain ⟨rfl, hX⟩ := hX
  cases hc : vwCl[a]? with
  | none => rw [hc] at hX; cases hX
  | some q =>
    obtain ⟨C, T, N⟩ := q
    rw [hc] at hX
    simp only [Bool.and_eq_true, decide_eq_true_eq] at hX
    obtain ⟨⟨hb9, hw⟩, hfin⟩ := hX
    obtain ⟨hci, rfl, hin, hnm, ty, hty, hsort⟩ := mm_cls hc
    obtain ⟨s0, s1, s2⟩ := hsort b hb9
    have h4 : mmFT a b = 0 ∨ mmFT a b = 1 ∨ mmFT a b = 2 ∨ 3 ≤ mmFT a b := by omega
    rcases h4 with hft | hft | hft | hft
    · have h : pI st fun x r => pA r fun o r => mmKD o = a ∧ (mmBool a b = true → x = 0 ∨ x = 1) ∧ k L r (sI μ o b x) := by
        simp only [wpI, hft] at h
        obtain ⟨x, r, rfl, h⟩ := pI_ok h
        obtain ⟨o, r, rfl, hKD, h⟩ := pA_ok h
        refine ⟨hKD, ?_⟩
        cases hbb : mmBool a b with
        | true => rw [hbb] at h; exact ⟨fun _ => (mbl_ok h).1, (mbl_ok h).2⟩
        | false => rw [hbb] at h; exact ⟨fun q => Bool.noConfusion q, h⟩
      obtain ⟨x, r, rfl, h⟩ := pI_ok h
      obtain ⟨o, r, rfl, hKD, hbo, h⟩ := pA_ok h
      have hn : narrow (ty b) (.int x) = .int x ∧ fits (ty b) (.int x) = true := by
        rcases s0 hft with ⟨h5, -⟩ | ⟨h5, h6⟩
        · rw [h5]; exact ⟨rfl, rfl⟩
        · rw [h5]
          rcases hbo h6 with rfl | rfl
          · exact ⟨rfl, rfl⟩
          · exact ⟨rfl, rfl⟩
      intro p l e s m args below meth c H locs B H0 sk sv D cA ls hx hb hr hml hown hts hlk hS hls hH hF hB
      refine va_put (C := C) (T := T) (N := mmNF a) (own := M.1.cls) hx hb hts hin ty hty hnm hown hS.2.1 hH.2.2 mmW_D hF o (mmE_o hKD hci) hc b hb9 (mm_word (M := M) hts hw rfl) (fun _ q => q) hfin (hty b hb9) hn.1 hn.2 (by simpa using hb9) hd (fun H1 locs1 hP1 hD1 hS1 => mm_sz fun hsz => ?_)
      have e9 := mm_oset (B := B) (cA := cA) (μ := μ) (ν := sI μ o b x) hKD hci hb9 (fun q hq => by simp [sI, hq]) (fun q hq => by simp [sI, hq]) (fun q hq => by simp [sI, hq]) (fun j hj => sI_fv j hj) rfl
      have e8 : mmFV B (sI μ o b x) o a b = mmV B sk (mmGf (sI μ o b x) a o b) := (mmV_Gf B sk _ a o b).symm
      have hP9 : va_P D vwCl (mmW B cA (sI μ o b x)) H1 := by
        rw [← e9]
        have e7 : mmFV B (sI μ o b x) o a b = .int x := by simp [mmFV, hft, sI, upd, vp_updL, vf_upd]
        rw [e7]
        exact hP1
      exact hk _ _ _ h p l e s m args below meth c H1 locs1 B H0 sk sv D cA ls hx hb hr hml hown hts hlk hS hls (mm_next hH hF hB hP9 hS1 hsz) hS1 hB
    · have h : pJ st fun x r => pA r fun o r => mmKD o = a ∧ k L r (sJ μ o b x) := by
        simp only [wpI, hft] at h
        exact h
      obtain ⟨x, r, rfl, h⟩ := pJ_ok h
      obtain ⟨o, r, rfl, hKD, h⟩ := pA_ok h
      intro p l e s m args below meth c H locs B H0 sk sv D cA ls hx hb hr hml hown hts hlk hS hls hH hF hB
      refine va_put (C := C) (T := T) (N := mmNF a) (own := M.1.cls) hx hb hts hin ty hty hnm hown hS.2.1 hH.2.2 mmW_D hF o (mmE_o hKD hci) hc b hb9 (mm_word (M := M) hts hw rfl) (fun _ q => q) hfin (hty b hb9) (by rw [s1 hft]; rfl) (by rw [s1 hft]; rfl) (by simpa using hb9) hd (fun H1 locs1 hP1 hD1 hS1 => mm_sz fun hsz => ?_)
      have e9 := mm_oset (B := B) (cA := cA) (μ := μ) (ν := sJ μ o b x) hKD hci hb9 (fun q hq => by simp [sJ, hq]) (fun q hq => by simp [sJ, hq]) (fun q hq => by simp [sJ, hq]) (fun j hj => sJ_fv j hj) rfl
      have e8 : mmFV B (sJ μ o b x) o a b = mmV B sk (mmGf (sJ μ o b x) a o b) := (mmV_Gf B sk _ a o b).symm
      have hP9 : va_P D vwCl (mmW B cA (sJ μ o b x)) H1 := by
        rw [← e9]
        have e7 : mmFV B (sJ μ o b x) o a b = .long x := by simp [mmFV, hft, sJ, upd, vp_updL, vf_upd]
        rw [e7]
        exact hP1
      exact hk _ _ _ h p l e s m args below meth c H1 locs1 B H0 sk sv D cA ls hx hb hr hml hown hts hlk hS hls (mm_next hH hF hB hP9 hS1 hsz) hS1 hB
    · have h : pD st fun x r => pA r fun o r => mmKD o = a ∧ k L r (sD μ o b x) := by
        simp only [wpI, hft] at h
        exact h
      obtain ⟨x, r, rfl, h⟩ := pD_ok h
      obtain ⟨o, r, rfl, hKD, h⟩ := pA_ok h
      intro p l e s m args below meth c H locs B H0 sk sv D cA ls hx hb hr hml hown hts hlk hS hls hH hF hB
      refine va_put (C := C) (T := T) (N := mmNF a) (own := M.1.cls) hx hb hts hin ty hty hnm hown hS.2.1 hH.2.2 mmW_D hF o (mmE_o hKD hci) hc b hb9 (mm_word (M := M) hts hw rfl) (fun _ q => q) hfin (hty b hb9) (by rw [s2 hft]; rfl) (by rw [s2 hft]; rfl) (by simpa using hb9) hd (fun H1 locs1 hP1 hD1 hS1 => mm_sz fun hsz => ?_)
      have e9 := mm_oset (B := B) (cA := cA) (μ := μ) (ν := sD μ o b x) hKD hci hb9 (fun q hq => by simp [sD, hq]) (fun q hq => by simp [sD, hq]) (fun q hq => by simp [sD, hq]) (fun j hj => sD_fv j hj) rfl
      have e8 : mmFV B (sD μ o b x) o a b = mmV B sk (mmGf (sD μ o b x) a o b) := (mmV_Gf B sk _ a o b).symm
      have hP9 : va_P D vwCl (mmW B cA (sD μ o b x)) H1 := by
        rw [← e9]
        have e7 : mmFV B (sD μ o b x) o a b = .double x := by simp [mmFV, hft, sD, upd, vp_updL, vf_upd]
        rw [e7]
        exact hP1
      exact hk _ _ _ h p l e s m args below meth c H1 locs1 B H0 sk sv D cA ls hx hb hr hml hown hts hlk hS hls (mm_next hH hF hB hP9 hS1 hsz) hS1 hB
    · exfalso
      revert h
      simp only [wpI]
      split <;> first | omega | exact id
theorem st_iaload {d : Nat} {M : mmMi} {P : Option Value → mmMem → Prop} {k : List Value → List Value → mmMem → Prop} {L st : List Value} {μ : mmMem} {pc len w a b : Nat} {v : Value} {Mc : mmMi} (hok : mmOkI M (pc, .iaload, len, w, a, b, v, Mc) = true) (hk : ∀ L st μ, k L st μ → mmEnds d M (pc + len) L st μ P) (h : wpI d M P (pc, .iaload, len, w, a, b, v, Mc) k L st μ) : mmEnds d M pc L st μ P := by
  obtain ⟨hd, hX⟩ := mmOkI_ok hok
  dsimp only at hd
  obtain rfl : len = 1 := by simpa [mmOkX] using hX
  obtain ⟨j, r, rfl, h⟩ := pI_ok h
  obtain ⟨o, r, rfl, hKD, hin, h⟩ := pA_ok h
  intro p l e s m args below meth c H locs B H0 sk sv D cA ls hx hb hr hml hown hts hlk hS hls hH hF hB
  exact va_iald (t0 := 0) hx hb hS.2.1 hH.2.2 o (mmE_10 hKD) rfl hin hd (hk _ _ _ h p l e s m args below meth c H locs B H0 sk sv D cA ls hx hb hr hml hown hts hlk hS hls hH hF hB)
theorem st_laload {d : Nat} {M : mmMi} {P : Option Value → mmMem → Prop} {k : List Value → List Value → mmMem → Prop} {L st : List Value} {μ : mmMem} {pc len w a b : Nat} {v : Value} {Mc : mmMi} (hok : mmOkI M (pc, .laload, len, w, a, b, v, Mc) = true) (hk : ∀ L st μ, k L st μ → mmEnds d M (pc + len) L st μ P) (h : wpI d M P (pc, .laload, len, w, a, b, v, Mc) k L st μ) : mmEnds d M pc L st μ P := by
  obtain ⟨hd, hX⟩ := mmOkI_ok hok
  dsimp only at hd
  obtain rfl : len = 1 := by simpa [mmOkX] using hX
  obtain ⟨j, r, rfl, h⟩ := pI_ok h
  obtain ⟨o, r, rfl, hKD, hin, h⟩ := pA_ok h
  intro p l e s m args below meth c H locs B H0 sk sv D cA ls hx hb hr hml hown hts hlk hS hls hH hF hB
  exact va_lald (t0 := 1) hx hb hS.2.1 hH.2.2 o (mmE_11 hKD) rfl hin hd (hk _ _ _ h p l e s m args below meth c H locs B H0 sk sv D cA ls hx hb hr hml hown hts hlk hS hls hH hF hB)
theorem st_daload {d : Nat} {M : mmMi} {P : Option Value → mmMem → Prop} {k : List Value → List Value → mmMem → Prop} {L st : List Value} {μ : mmMem} {pc len w a b : Nat} {v : Value} {Mc : mmMi} (hok : mmOkI M (pc, .daload, len, w, a, b, v, Mc) = true) (hk : ∀ L st μ, k L st μ → mmEnds d M (pc + len) L st μ P) (h : wpI d M P (pc, .daload, len, w, a, b, v, Mc) k L st μ) : mmEnds d M pc L st μ P := by
  obtain ⟨hd, hX⟩ := mmOkI_ok hok
  dsimp only at hd
  obtain rfl : len = 1 := by simpa [mmOkX] using hX
  obtain ⟨j, r, rfl, h⟩ := pI_ok h
  obtain ⟨o, r, rfl, hKD, hin, h⟩ := pA_ok h
  intro p l e s m args below meth c H locs B H0 sk sv D cA ls hx hb hr hml hown hts hlk hS hls hH hF hB
  exact va_dald (t0 := 2) hx hb hS.2.1 hH.2.2 o (mmE_12 hKD) rfl hin hd (hk _ _ _ h p l e s m args below meth c H locs B H0 sk sv D cA ls hx hb hr hml hown hts hlk hS hls hH hF hB)
theorem st_baload {d : Nat} {M : mmMi} {P : Option Value → mmMem → Prop} {k : List Value → List Value → mmMem → Prop} {L st : List Value} {μ : mmMem} {pc len w a b : Nat} {v : Value} {Mc : mmMi} (hok : mmOkI M (pc, .baload, len, w, a, b, v, Mc) = true) (hk : ∀ L st μ, k L st μ → mmEnds d M (pc + len) L st μ P) (h : wpI d M P (pc, .baload, len, w, a, b, v, Mc) k L st μ) : mmEnds d M pc L st μ P := by
  obtain ⟨hd, hX⟩ := mmOkI_ok hok
  dsimp only at hd
  obtain rfl : len = 1 := by simpa [mmOkX] using hX
  obtain ⟨j, r, rfl, h⟩ := pI_ok h
  obtain ⟨o, r, rfl, hKD, hin, h⟩ := pA_ok h
  intro p l e s m args below meth c H locs B H0 sk sv D cA ls hx hb hr hml hown hts hlk hS hls hH hF hB
  exact va_zald (t0 := 3) hx hb hS.2.1 hH.2.2 o (mmE_13 hKD) rfl hin hd (hk _ _ _ h p l e s m args below meth c H locs B H0 sk sv D cA ls hx hb hr hml hown hts hlk hS hls hH hF hB)
theorem st_aaload {d : Nat} {M : mmMi} {P : Option Value → mmMem → Prop} {k : List Value → List Value → mmMem → Prop} {L st : List Value} {μ : mmMem} {pc len w a b : Nat} {v : Value} {Mc : mmMi} (hok : mmOkI M (pc, .aaload, len, w, a, b, v, Mc) = true) (hk : ∀ L st μ, k L st μ → mmEnds d M (pc + len) L st μ P) (h : wpI d M P (pc, .aaload, len, w, a, b, v, Mc) k L st μ) : mmEnds d M pc L st μ P := by
  obtain ⟨hd, hX⟩ := mmOkI_ok hok
  dsimp only at hd
  obtain ⟨rfl, ha⟩ : len = 1 ∧ (a = 14 ∨ a = 15 ∨ a = 16) := by simpa [mmOkX] using hX
  obtain ⟨j, r, rfl, h⟩ := pI_ok h
  obtain ⟨o, r, rfl, hKD, hin, hh⟩ := pA_ok h
  intro p l e s m args below meth c H locs B H0 sk sv D cA ls hx hb hr hml hown hts hlk hS hls hH hF hB
  rcases ha with rfl | rfl | rfl
  · exact va_aldq (t0 := 4) hx hb hS.2.1 hH.2.2 o (mmE_14 hKD) rfl hin hd (hk _ _ _ hh p l e s m args below meth c H locs B H0 sk sv D cA ls hx hb hr hml hown hts hlk hS hls hH hF hB)
  · exact va_aldq (t0 := 5) hx hb hS.2.1 hH.2.2 o (mmE_15 hKD) rfl hin hd (hk _ _ _ hh p l e s m args below meth c H locs B H0 sk sv D cA ls hx hb hr hml hown hts hlk hS hls hH hF hB)
  · exact va_aldq (t0 := 6) hx hb hS.2.1 hH.2.2 o (mmE_16 hKD) rfl hin hd (hk _ _ _ hh p l e s m args below meth c H locs B H0 sk sv D cA ls hx hb hr hml hown hts hlk hS hls hH hF hB)
theorem st_iastore {d : Nat} {M : mmMi} {P : Option Value → mmMem → Prop} {k : List Value → List Value → mmMem → Prop} {L st : List Value} {μ : mmMem} {pc len w a b : Nat} {v : Value} {Mc : mmMi} (hok : mmOkI M (pc, .iastore, len, w, a, b, v, Mc) = true) (hk : ∀ L st μ, k L st μ → mmEnds d M (pc + len) L st μ P) (h : wpI d M P (pc, .iastore, len, w, a, b, v, Mc) k L st μ) : mmEnds d M pc L st μ P := by
  obtain ⟨hd, hX⟩ := mmOkI_ok hok
  dsimp only at hd
  obtain rfl : len = 1 := by simpa [mmOkX] using hX
  obtain ⟨x, r, rfl, h⟩ := pI_ok h
  obtain ⟨j, r, rfl, h⟩ := pI_ok h
  obtain ⟨o, r, rfl, hKD, hin, h⟩ := pA_ok h
  intro p l e s m args below meth c H locs B H0 sk sv D cA ls hx hb hr hml hown hts hlk hS hls hH hF hB
  refine va_iast (t0 := 0) hx hb hS.2.1 hH.2.2 mmW_D hF o (mmE_10 hKD) rfl hin hd (fun H1 locs1 hP1 hD1 hS1 => mm_sz fun hsz => ?_)
  have h7 : o < 160 := mmKD_lt (by rw [hKD]; decide)
  have h8 := mmE_10 (B := B) (cA := cA) (μ := sI μ o j.toNatClampNeg x) hKD
  rw [mmW_get h7] at h8
  have h6 := congrArg Prod.snd (Option.some.inj h8)
  dsimp only at h6
  have e9 := mmW_set (B := B) (cA := cA) (μ := μ) (ν := sI μ o j.toNatClampNeg x) h7 (fun q hq => by simp [sI, hq]) (fun q hq => by simp [sI, hq]) (fun q hq => by simp [sI, hq]) h6.symm
  have hP9 : va_P D vwCl (mmW B cA (sI μ o j.toNatClampNeg x)) H1 := by
    rw [← e9]
    simpa [sI] using hP1
  exact hk _ _ _ h p l e s m args below meth c H1 locs1 B H0 sk sv D cA ls hx hb hr hml hown hts hlk hS hls (mm_next hH hF hB hP9 hS1 hsz) hS1 hB
theorem st_lastore {d : Nat} {M : mmMi} {P : Option Value → mmMem → Prop} {k : List Value → List Value → mmMem → Prop} {L st : List Value} {μ : mmMem} {pc len w a b : Nat} {v : Value} {Mc : mmMi} (hok : mmOkI M (pc, .lastore, len, w, a, b, v, Mc) = true) (hk : ∀ L st μ, k L st μ → mmEnds d M (pc + len) L st μ P) (h : wpI d M P (pc, .lastore, len, w, a, b, v, Mc) k L st μ) : mmEnds d M pc L st μ P := by
  obtain ⟨hd, hX⟩ := mmOkI_ok hok
  dsimp only at hd
  obtain rfl : len = 1 := by simpa [mmOkX] using hX
  obtain ⟨x, r, rfl, h⟩ := pJ_ok h
  obtain ⟨j, r, rfl, h⟩ := pI_ok h
  obtain ⟨o, r, rfl, hKD, hin, h⟩ := pA_ok h
  intro p l e s m args below meth c H locs B H0 sk sv D cA ls hx hb hr hml hown hts hlk hS hls hH hF hB
  refine va_last (t0 := 1) hx hb hS.2.1 hH.2.2 mmW_D hF o (mmE_11 hKD) rfl hin hd (fun H1 locs1 hP1 hD1 hS1 => mm_sz fun hsz => ?_)
  have h7 : o < 160 := mmKD_lt (by rw [hKD]; decide)
  have h8 := mmE_11 (B := B) (cA := cA) (μ := sJ μ o j.toNatClampNeg x) hKD
  rw [mmW_get h7] at h8
  have h6 := congrArg Prod.snd (Option.some.inj h8)
  dsimp only at h6
  have e9 := mmW_set (B := B) (cA := cA) (μ := μ) (ν := sJ μ o j.toNatClampNeg x) h7 (fun q hq => by simp [sJ, hq]) (fun q hq => by simp [sJ, hq]) (fun q hq => by simp [sJ, hq]) h6.symm
  have hP9 : va_P D vwCl (mmW B cA (sJ μ o j.toNatClampNeg x)) H1 := by
    rw [← e9]
    simpa [sJ] using hP1
  exact hk _ _ _ h p l e s m args below meth c H1 locs1 B H0 sk sv D cA ls hx hb hr hml hown hts hlk hS hls (mm_next hH hF hB hP9 hS1 hsz) hS1 hB
theorem st_dastore {d : Nat} {M : mmMi} {P : Option Value → mmMem → Prop} {k : List Value → List Value → mmMem → Prop} {L st : List Value} {μ : mmMem} {pc len w a b : Nat} {v : Value} {Mc : mmMi} (hok : mmOkI M (pc, .dastore, len, w, a, b, v, Mc) = true) (hk : ∀ L st μ, k L st μ → mmEnds d M (pc + len) L st μ P) (h : wpI d M P (pc, .dastore, len, w, a, b, v, Mc) k L st μ) : mmEnds d M pc L st μ P := by
  obtain ⟨hd, hX⟩ := mmOkI_ok hok
  dsimp only at hd
  obtain rfl : len = 1 := by simpa [mmOkX] using hX
  obtain ⟨x, r, rfl, h⟩ := pD_ok h
  obtain ⟨j, r, rfl, h⟩ := pI_ok h
  obtain ⟨o, r, rfl, hKD, hin, h⟩ := pA_ok h
  intro p l e s m args below meth c H locs B H0 sk sv D cA ls hx hb hr hml hown hts hlk hS hls hH hF hB
  refine va_dast (t0 := 2) hx hb hS.2.1 hH.2.2 mmW_D hF o (mmE_12 hKD) rfl hin hd (fun H1 locs1 hP1 hD1 hS1 => mm_sz fun hsz => ?_)
  have h7 : o < 160 := mmKD_lt (by rw [hKD]; decide)
  have h8 := mmE_12 (B := B) (cA := cA) (μ := sD μ o j.toNatClampNeg x) hKD
  rw [mmW_get h7] at h8
  have h6 := congrArg Prod.snd (Option.some.inj h8)
  dsimp only at h6
  have e9 := mmW_set (B := B) (cA := cA) (μ := μ) (ν := sD μ o j.toNatClampNeg x) h7 (fun q hq => by simp [sD, hq]) (fun q hq => by simp [sD, hq]) (fun q hq => by simp [sD, hq]) h6.symm
  have hP9 : va_P D vwCl (mmW B cA (sD μ o j.toNatClampNeg x)) H1 := by
    rw [← e9]
    simpa [sD] using hP1
  exact hk _ _ _ h p l e s m args below meth c H1 locs1 B H0 sk sv D cA ls hx hb hr hml hown hts hlk hS hls (mm_next hH hF hB hP9 hS1 hsz) hS1 hB
theorem st_bastore {d : Nat} {M : mmMi} {P : Option Value → mmMem → Prop} {k : List Value → List Value → mmMem → Prop} {L st : List Value} {μ : mmMem} {pc len w a b : Nat} {v : Value} {Mc : mmMi} (hok : mmOkI M (pc, .bastore, len, w, a, b, v, Mc) = true) (hk : ∀ L st μ, k L st μ → mmEnds d M (pc + len) L st μ P) (h : wpI d M P (pc, .bastore, len, w, a, b, v, Mc) k L st μ) : mmEnds d M pc L st μ P := by
  obtain ⟨hd, hX⟩ := mmOkI_ok hok
  dsimp only at hd
  obtain rfl : len = 1 := by simpa [mmOkX] using hX
  obtain ⟨x, r, rfl, h⟩ := pI_ok h
  obtain ⟨j, r, rfl, h⟩ := pI_ok h
  obtain ⟨o, r, rfl, hKD, hin, h⟩ := pA_ok h
  intro p l e s m args below meth c H locs B H0 sk sv D cA ls hx hb hr hml hown hts hlk hS hls hH hF hB
  refine va_zast (t0 := 3) hx hb hS.2.1 hH.2.2 mmW_D hF o (mmE_13 hKD) rfl hin hd (fun H1 locs1 hP1 hD1 hS1 => mm_sz fun hsz => ?_)
  have h7 : o < 160 := mmKD_lt (by rw [hKD]; decide)
  have h8 := mmE_13 (B := B) (cA := cA) (μ := sI μ o j.toNatClampNeg (vp_nar .boolean x)) hKD
  rw [mmW_get h7] at h8
  have h6 := congrArg Prod.snd (Option.some.inj h8)
  dsimp only at h6
  have e9 := mmW_set (B := B) (cA := cA) (μ := μ) (ν := sI μ o j.toNatClampNeg (vp_nar .boolean x)) h7 (fun q hq => by simp [sI, hq]) (fun q hq => by simp [sI, hq]) (fun q hq => by simp [sI, hq]) h6.symm
  have hP9 : va_P D vwCl (mmW B cA (sI μ o j.toNatClampNeg (vp_nar .boolean x))) H1 := by
    rw [← e9]
    simpa [sI] using hP1
  exact hk _ _ _ h p l e s m args below meth c H1 locs1 B H0 sk sv D cA ls hx hb hr hml hown hts hlk hS hls (mm_next hH hF hB hP9 hS1 hsz) hS1 hB
theorem st_arraylength {d : Nat} {M : mmMi} {P : Option Value → mmMem → Prop} {k : List Value → List Value → mmMem → Prop} {L st : List Value} {μ : mmMem} {pc len w a b : Nat} {v : Value} {Mc : mmMi} (hok : mmOkI M (pc, .arraylength, len, w, a, b, v, Mc) = true) (hk : ∀ L st μ, k L st μ → mmEnds d M (pc + len) L st μ P) (h : wpI d M P (pc, .arraylength, len, w, a, b, v, Mc) k L st μ) : mmEnds d M pc L st μ P := by
  obtain ⟨hd, hX⟩ := mmOkI_ok hok
  dsimp only at hd
  obtain ⟨rfl, ha⟩ : len = 1 ∧ (a = 10 ∨ a = 11 ∨ a = 12 ∨ a = 13) := by simpa [mmOkX] using hX
  obtain ⟨o, r, rfl, hKD, hh⟩ := pA_ok h
  intro p l e s m args below meth c H locs B H0 sk sv D cA ls hx hb hr hml hown hts hlk hS hls hH hF hB
  rcases ha with rfl | rfl | rfl | rfl
  · exact va_alen (t0 := 0) hx hb hS.2.1 hH.2.2 o (mmE_10 hKD) rfl rfl hd (hk _ _ _ hh p l e s m args below meth c H locs B H0 sk sv D cA ls hx hb hr hml hown hts hlk hS hls hH hF hB)
  · exact va_alen (t0 := 1) hx hb hS.2.1 hH.2.2 o (mmE_11 hKD) rfl rfl hd (hk _ _ _ hh p l e s m args below meth c H locs B H0 sk sv D cA ls hx hb hr hml hown hts hlk hS hls hH hF hB)
  · exact va_alen (t0 := 2) hx hb hS.2.1 hH.2.2 o (mmE_12 hKD) rfl rfl hd (hk _ _ _ hh p l e s m args below meth c H locs B H0 sk sv D cA ls hx hb hr hml hown hts hlk hS hls hH hF hB)
  · exact va_alen (t0 := 3) hx hb hS.2.1 hH.2.2 o (mmE_13 hKD) rfl rfl hd (hk _ _ _ hh p l e s m args below meth c H locs B H0 sk sv D cA ls hx hb hr hml hown hts hlk hS hls hH hF hB)
theorem st_ireturn {d : Nat} {M : mmMi} {P : Option Value → mmMem → Prop} {k : List Value → List Value → mmMem → Prop} {L st : List Value} {μ : mmMem} {pc len w a b : Nat} {v : Value} {Mc : mmMi} (hok : mmOkI M (pc, .ireturn, len, w, a, b, v, Mc) = true) (hk : ∀ L st μ, k L st μ → mmEnds d M (pc + len) L st μ P) (h : wpI d M P (pc, .ireturn, len, w, a, b, v, Mc) k L st μ) : mmEnds d M pc L st μ P := by
  obtain ⟨hd, hX⟩ := mmOkI_ok hok
  dsimp only at hd
  obtain rfl : len = 1 := by simpa [mmOkX] using hX
  match st, h with
  | [.int x], h =>
    have h : mmRI M.2.2.2 x (P (some (.int x)) μ) := h
    unfold mmRI at h
    split at h
    · rename_i hret
      intro p l e s m args below meth c H locs B H0 sk sv D cA ls hx hb hr hml hown hts hlk hS hls hH hF hB
      exact W.zret hx hb (hr.trans hret) (ty := .int) rfl (fun t ht hW => ⟨some (.int x), μ, rfl, h, ht ▸ hH⟩) hF.2.2 hd hlk
    · rename_i hret
      obtain ⟨h1, h⟩ := mbl_ok h
      intro p l e s m args below meth c H locs B H0 sk sv D cA ls hx hb hr hml hown hts hlk hS hls hH hF hB
      exact W.zret hx hb (hr.trans hret) (ty := .boolean) (by rcases h1 with rfl | rfl <;> rfl) (fun t ht hW => ⟨some (.int x), μ, rfl, h, ht ▸ hH⟩) hF.2.2 hd hlk
    · exact h.elim
theorem st_lreturn {d : Nat} {M : mmMi} {P : Option Value → mmMem → Prop} {k : List Value → List Value → mmMem → Prop} {L st : List Value} {μ : mmMem} {pc len w a b : Nat} {v : Value} {Mc : mmMi} (hok : mmOkI M (pc, .lreturn, len, w, a, b, v, Mc) = true) (hk : ∀ L st μ, k L st μ → mmEnds d M (pc + len) L st μ P) (h : wpI d M P (pc, .lreturn, len, w, a, b, v, Mc) k L st μ) : mmEnds d M pc L st μ P := by
  obtain ⟨hd, hX⟩ := mmOkI_ok hok
  dsimp only at hd
  obtain ⟨rfl, hret⟩ : len = 1 ∧ M.2.2.2 = some .long := by simpa [mmOkX] using hX
  match st, h with
  | [.long x], h =>
    intro p l e s m args below meth c H locs B H0 sk sv D cA ls hx hb hr hml hown hts hlk hS hls hH hF hB
    exact W.lret hx hb (hr.trans hret) (fun t ht hW => ⟨some (.long x), μ, rfl, h, ht ▸ hH⟩) hF.2.2 hd hlk
theorem st_dreturn {d : Nat} {M : mmMi} {P : Option Value → mmMem → Prop} {k : List Value → List Value → mmMem → Prop} {L st : List Value} {μ : mmMem} {pc len w a b : Nat} {v : Value} {Mc : mmMi} (hok : mmOkI M (pc, .dreturn, len, w, a, b, v, Mc) = true) (hk : ∀ L st μ, k L st μ → mmEnds d M (pc + len) L st μ P) (h : wpI d M P (pc, .dreturn, len, w, a, b, v, Mc) k L st μ) : mmEnds d M pc L st μ P := by
  obtain ⟨hd, hX⟩ := mmOkI_ok hok
  dsimp only at hd
  obtain ⟨rfl, hret⟩ : len = 1 ∧ M.2.2.2 = some .double := by simpa [mmOkX] using hX
  match st, h with
  | [.double x], h =>
    intro p l e s m args below meth c H locs B H0 sk sv D cA ls hx hb hr hml hown hts hlk hS hls hH hF hB
    exact W.dret hx hb (hr.trans hret) (fun t ht hW => ⟨some (.double x), μ, rfl, h, ht ▸ hH⟩) hF.2.2 hd hlk
theorem st_freturn {d : Nat} {M : mmMi} {P : Option Value → mmMem → Prop} {k : List Value → List Value → mmMem → Prop} {L st : List Value} {μ : mmMem} {pc len w a b : Nat} {v : Value} {Mc : mmMi} (hok : mmOkI M (pc, .freturn, len, w, a, b, v, Mc) = true) (hk : ∀ L st μ, k L st μ → mmEnds d M (pc + len) L st μ P) (h : wpI d M P (pc, .freturn, len, w, a, b, v, Mc) k L st μ) : mmEnds d M pc L st μ P := by
  obtain ⟨hd, hX⟩ := mmOkI_ok hok
  dsimp only at hd
  obtain ⟨rfl, hret⟩ : len = 1 ∧ M.2.2.2 = some .float := by simpa [mmOkX] using hX
  match st, h with
  | [.float x], h =>
    intro p l e s m args below meth c H locs B H0 sk sv D cA ls hx hb hr hml hown hts hlk hS hls hH hF hB
    exact W.fret hx hb (hr.trans hret) (fun t ht hW => ⟨some (.float x), μ, rfl, h, ht ▸ hH⟩) hF.2.2 hd hlk
theorem st_areturn {d : Nat} {M : mmMi} {P : Option Value → mmMem → Prop} {k : List Value → List Value → mmMem → Prop} {L st : List Value} {μ : mmMem} {pc len w a b : Nat} {v : Value} {Mc : mmMi} (hok : mmOkI M (pc, .areturn, len, w, a, b, v, Mc) = true) (hk : ∀ L st μ, k L st μ → mmEnds d M (pc + len) L st μ P) (h : wpI d M P (pc, .areturn, len, w, a, b, v, Mc) k L st μ) : mmEnds d M pc L st μ P := by
  obtain ⟨hd, hX⟩ := mmOkI_ok hok
  dsimp only at hd
  have hX2 : (len == 1 && (match M.2.2.2 with
      | some (.object _) => true
      | _ => false)) = true := hX
  rw [Bool.and_eq_true, beq_iff_eq] at hX2
  obtain ⟨rfl, hX2⟩ := hX2
  obtain ⟨n, hret⟩ : ∃ n, M.2.2.2 = some (.object n) := by
    split at hX2
    · exact ⟨_, by assumption⟩
    · cases hX2
  match st, h with
  | [.ref x], h =>
    intro p l e s m args below meth c H locs B H0 sk sv D cA ls hx hb hr hml hown hts hlk hS hls hH hF hB
    exact W.aret hx hb (hr.trans hret) (Or.inl ⟨n, rfl⟩) (Or.inr ⟨_, rfl⟩) (fun t ht hW => ⟨some (.ref x), μ, rfl, h, ht ▸ hH⟩) hF.2.2 hd hlk
theorem st_return_ {d : Nat} {M : mmMi} {P : Option Value → mmMem → Prop} {k : List Value → List Value → mmMem → Prop} {L st : List Value} {μ : mmMem} {pc len w a b : Nat} {v : Value} {Mc : mmMi} (hok : mmOkI M (pc, .return_, len, w, a, b, v, Mc) = true) (hk : ∀ L st μ, k L st μ → mmEnds d M (pc + len) L st μ P) (h : wpI d M P (pc, .return_, len, w, a, b, v, Mc) k L st μ) : mmEnds d M pc L st μ P := by
  obtain ⟨hd, hX⟩ := mmOkI_ok hok
  dsimp only at hd
  obtain ⟨rfl, hret⟩ : len = 1 ∧ M.2.2.2 = none := by simpa [mmOkX] using hX
  match st, h with
  | [], h =>
    intro p l e s m args below meth c H locs B H0 sk sv D cA ls hx hb hr hml hown hts hlk hS hls hH hF hB
    exact W.vret hx hb (hr.trans hret) (fun t ht hW => ⟨none, μ, rfl, h, ht ▸ hH⟩) hF.2.2 hd hlk
end
section
/-! ===== calls ===== -/
theorem mm_use {p : Program} {l : Launch} {e : Env} {R : Room} {s : State} {m : MethodId} {args : Array Value} {below : List Frame} {meth : Method} {c : Code} {H : Heap} {locs : List Loc} {pc : Nat} {ls : Array Slot} {st0 rest : List Value} {Q : State → Prop} {B : Nat} {H0 : Heap} {sk : Nat → Nat} {D : va_G} {cA : Nat → ClassId} {P : Option Value → mmMem → Prop} {a : Array Value} {μ : mmMem}
    (hr : va_Run p l e R s m args below meth c H locs 0 0 0 0 (F0 m pc ls st0) rest (mmQc B H0 sk D cA P a) (mmA B)) (hH : mmH B H0 D cA μ H) (hF : va_S (mmA B) s.heap H locs) (hB : s.heap.size = H0.size)
    (kk : ∀ (v : Option Value) (ν : mmMem) (H1 : Heap) (locs1 : List Loc), P v ν → mmH B H0 D cA ν H1 → va_S (mmA B) s.heap H1 locs1 → W p l e R s m args below meth c H1 locs1 0 0 Q (F0 m (pc + 3) ls ((v.map (mmV B sk)).toList ++ rest))) :
    W p l e R s m args below meth c H locs 0 0 Q (F0 m pc ls st0) := by
  intro T hT X
  obtain ⟨v, st₀, t, T', L, h0, X', hL, e1, e2, ⟨v', ν, hv, hp, hh⟩, st⟩ := hr T hT X
  cases hv
  have hh1 : mmH B H0 D cA ν T'.heap := by rw [e1]; exact hh
  have hv1 : va_S (mmA B) s.heap T'.heap (locs ++ L) := by
    refine ⟨by rw [hh1.1, hB]; exact Nat.le_refl _, fun q h1 h2 => ?_, fun q hq => ?_⟩
    · have hq : q < H0.size := by rw [← hB]; exact h1
      rw [hh1.2.1 q hq h2, ← hH.2.1 q hq h2]
      exact hF.2.1 q h1 h2
    · rcases List.mem_append.mp hq with h | h
      · exact hF.2.2 q h
      · exact hL q h
  obtain ⟨t2, a1, b1⟩ := kk v' ν T'.heap (locs ++ L) hp hh1 hv1 T' rfl X'
  exact ⟨t2, st t2 a1, b1⟩
theorem mm_goodWs {M : mmMi} (h : Cond.code M.1 M.2.1 M.2.2.1 M.2.2.2 ∈ mmT) : GoodIn mmT (mmWs M) := fun w hw => by
  rcases List.mem_cons.mp hw with rfl | hw
  · exact mm_goodT _ h
  · exact mm_goodT _ hw
theorem mm_blind {B : Nat} {H0 : Heap} {sk sv : Nat → Nat} {D : va_G} {cA : Nat → ClassId} {as : List Value} {μ : mmMem} : FrameBlind (mmPc B H0 sk sv D cA as μ) := fun a U g mk h => ⟨h.1, h.2.1, mmS.same rfl h.2.2⟩
theorem mm_pre {B : Nat} {H0 : Heap} {sk sv : Nat → Nat} {D : va_G} {cA : Nat → ClassId} {as : List Value} {μ : mmMem} {s U : State} {H : Heap} (hH : mmH B H0 D cA μ H) (hS : mmS B H0 sk sv D cA s) (hU : U.heap = H) (hW : s.WarmedH U.vm) : mmPc B H0 sk sv D cA as μ (as.map (mmV B sk)).toArray U := ⟨rfl, by rw [hU]; exact hH, mmS.warm hW hS⟩
theorem mm_rest {B : Nat} {sk : Nat → Nat} {m : MethodId} {pc : Nat} {ls : Array Slot} {st r : List Value} (h : Nat.ble (mcat r) 8 = true) : 2 * (F0 m pc ls st).monitorRoom + ((r.map (mmV B sk)).map fun v => v.category).sum ≤ 8 := by
  refine lv_room ?_
  rw [mcat_ok]
  exact Nat.le_of_ble_eq_true h
theorem mm_callB {d d' : Nat} {M Mc : mmMi} {st : Bool} {a n : Nat} {s : State} {args : Array Value} (hg : mmGd Mc st a) (hd' : d' < d) (hts : ∀ w ∈ mmT, w.before args s = true) (hl : (Cond.methodLink M.1.cls n Mc.1).before args s = true) : CallB (mmRm d) s args M.1.cls n Mc.1 Mc.2.1 Mc.2.2.1 Mc.2.2.2 (mmWs Mc) (mmRm d') 0 0 a :=
  callB_of a hts (mm_goodWs hg.1) rfl rfl rfl (hts _ hg.2.1) hl hg.2.2.1 ⟨hd', by have := hg.2.2.2.1; show 8 + (Mc.2.2.1 + 11) + 40 * d' ≤ 40 * d; omega⟩

theorem st_invokestatic0 {d : Nat} {M : mmMi} {P : Option Value → mmMem → Prop} {k : List Value → List Value → mmMem → Prop} {L st : List Value} {μ : mmMem} {pc len w a n : Nat} {v : Value} {Mc : mmMi} (hok : mmOkI M (pc, .invokestatic n, len, w, a, 0, v, Mc) = true) (hk : ∀ L st μ, k L st μ → mmEnds d M (pc + len) L st μ P) (h : wpI d M P (pc, .invokestatic n, len, w, a, 0, v, Mc) k L st μ) : mmEnds d M pc L st μ P := by
  obtain ⟨hd, hX⟩ := mmOkI_ok hok
  dsimp only at hd
  obtain ⟨rfl, hw⟩ : len = 3 ∧ lw_tbl[w]? = some (.methodLink M.1.cls n Mc.1) := by simpa [mmOkX] using hX
  cases hp : mpop a [] st with
  | mk as r =>
    have h : mif (Nat.ble (mcat r) 8) (mmCl d Mc true a as μ r fun st ν => k L st ν) := by
      simp only [wpI, hp] at h
      exact h
    obtain ⟨hc8, h⟩ := mif_ok h
    obtain ⟨hg, hlen, d', hd', P', hmo, hcall⟩ := mmCl_ok h
    obtain ⟨bs, e1, rfl, -⟩ := mpop_ok a [] st as r hp
    rw [List.append_nil] at e1
    subst e1
    intro p l e s m args below meth c H locs B H0 sk sv D cA ls hx hb hr hml hown hts hlk hS hls hH hF hB
    have hls1 : ls.size = M.2.2.1 := hls.choose_spec.1.1
    refine mm_use (rest := r.map (mmV B sk)) (va_runS (As := bs.reverse.map (mmV B sk)) (own := M.1.cls) ⟨hx, hb, hml, hown, hts⟩ (hcall l B H0 sk sv D cA) ⟨mm_callB hg hd' hts (mm_word (M := M) hts hw rfl), hts _ (by simpa using hg.2.2.2.2)⟩ ⟨mm_blind, fun U hU hW => mm_pre hH hS hU hW⟩ rfl (by simpa using hlen) hls1 (by simp) (mm_rest hc8) hd ⟨Nat.le_refl _, Nat.le_refl _⟩) hH hF hB (fun v ν H1 locs1 hP hH1 hS1 => ?_)
    have h9 := hk _ _ _ (hmo _ _ hP) p l e s m args below meth c H1 locs1 B H0 sk sv D cA ls hx hb hr hml hown hts hlk hS hls hH1 hS1 hB
    cases v with
    | none => exact h9
    | some v => exact h9
theorem st_invokestatic1 {d : Nat} {M : mmMi} {P : Option Value → mmMem → Prop} {k : List Value → List Value → mmMem → Prop} {L st : List Value} {μ : mmMem} {pc len w a n : Nat} {v : Value} {Mc : mmMi} (hok : mmOkI M (pc, .invokestatic n, len, w, a, 1, v, Mc) = true) (hk : ∀ L st μ, k L st μ → mmEnds d M (pc + len) L st μ P) (h : wpI d M P (pc, .invokestatic n, len, w, a, 1, v, Mc) k L st μ) : mmEnds d M pc L st μ P := by
  obtain ⟨hd, hX⟩ := mmOkI_ok hok
  dsimp only at hd
  obtain ⟨rfl, hw⟩ : len = 3 ∧ (M.1.cls, n, Mc.1) ∈ mmNest := by simpa [mmOkX] using hX
  cases hp : mpop a [] st with
  | mk as r =>
    have h : mif (Nat.ble (mcat r) 8) (mmCl d Mc true a as μ r fun st ν => k L st ν) := by
      simp only [wpI, hp] at h
      exact h
    obtain ⟨hc8, h⟩ := mif_ok h
    obtain ⟨hg, hlen, d', hd', P', hmo, hcall⟩ := mmCl_ok h
    obtain ⟨bs, e1, rfl, -⟩ := mpop_ok a [] st as r hp
    rw [List.append_nil] at e1
    subst e1
    intro p l e s m args below meth c H locs B H0 sk sv D cA ls hx hb hr hml hown hts hlk hS hls hH hF hB
    have hls1 : ls.size = M.2.2.1 := hls.choose_spec.1.1
    have hnest := hS.2.2.2.2.2.2 _ hw
    refine mm_use (rest := r.map (mmV B sk)) (va_runSN (As := bs.reverse.map (mmV B sk)) (own := M.1.cls) (host := "ColumnCasts") ⟨hx, hb, hml, hown, hts⟩ (hcall l B H0 sk sv D cA) ⟨va_cnB a hts (mm_goodWs hg.1) rfl rfl rfl hnest (hts _ hg.2.1) hg.2.2.1 ⟨hd', by have := hg.2.2.2.1; show 8 + (Mc.2.2.1 + 11) + 40 * d' ≤ 40 * d; omega⟩, hts _ (by simpa using hg.2.2.2.2), trivial⟩ ⟨mm_blind, fun U hU hW => mm_pre hH hS hU hW⟩ rfl (by simpa using hlen) hls1 (by simp) (mm_rest hc8) hd ⟨Nat.le_refl _, Nat.le_refl _⟩) hH hF hB (fun v ν H1 locs1 hP hH1 hS1 => ?_)
    have h9 := hk _ _ _ (hmo _ _ hP) p l e s m args below meth c H1 locs1 B H0 sk sv D cA ls hx hb hr hml hown hts hlk hS hls hH1 hS1 hB
    cases v with
    | none => exact h9
    | some v => exact h9
theorem st_invokevirtual {d : Nat} {M : mmMi} {P : Option Value → mmMem → Prop} {k : List Value → List Value → mmMem → Prop} {L st : List Value} {μ : mmMem} {pc len w a b n : Nat} {v : Value} {Mc : mmMi} (hok : mmOkI M (pc, .invokevirtual n, len, w, a, b, v, Mc) = true) (hk : ∀ L st μ, k L st μ → mmEnds d M (pc + len) L st μ P) (h : wpI d M P (pc, .invokevirtual n, len, w, a, b, v, Mc) k L st μ) : mmEnds d M pc L st μ P := by
  obtain ⟨hd, hX⟩ := mmOkI_ok hok
  dsimp only at hd
  simp only [mmOkX, Bool.and_eq_true, beq_iff_eq, decide_eq_true_eq] at hX
  obtain ⟨⟨rfl, hw⟩, hX⟩ := hX
  cases hp : mpop a [] st with
  | mk as r0 =>
    obtain ⟨bs, e1, rfl, -⟩ := mpop_ok a [] st as r0 hp
    rw [List.append_nil] at e1
    subst e1
    match r0, hp, h with
    | .ref o :: r, hp, h =>
      have h : mmKD o = b ∧ mif (Nat.ble (mcat r) 8) (mmCl d Mc false a (.ref o :: bs.reverse) μ r fun st ν => k L st ν) := by
        simp only [wpI, hp] at h
        exact h
      obtain ⟨hKD, h⟩ := h
      obtain ⟨hc8, h⟩ := mif_ok h
      obtain ⟨hg, hlen, d', hd', P', hmo, hcall⟩ := mmCl_ok h
      by_cases hb99 : b = 98
      · exfalso
        have h1 : mmKD o = 98 := hKD.trans hb99
        have h2 : ∀ a, a < 160 → mmKD a ≠ 98 := by decide +kernel
        exact h2 o (mmKD_lt (by omega)) h1
      have hX : (vwCl[b]?).map (fun q => q.1) = some Mc.1.cls := by
        split at hX
        · exact absurd rfl hb99
        · simpa using hX
      intro p l e s m args below meth c H locs B H0 sk sv D cA ls hx hb hr hml hown hts hlk hS hls hH hF hB
      have hls1 : ls.size = M.2.2.1 := hls.choose_spec.1.1
      obtain ⟨⟨C, T, N⟩, hc, hC⟩ := Option.map_eq_some_iff.mp hX
      dsimp only at hC
      subst hC
      obtain ⟨hci, -⟩ := mm_cls hc
      have hgv : Cond.instanceMethod Mc.1 ∈ mmT ∧ Cond.selects Mc.1.cls Mc.1 Mc.1 ∈ mmT := by simpa using hg.2.2.2.2
      refine mm_use (rest := r.map (mmV B sk)) (va_runV (As := bs.reverse.map (mmV B sk)) (b := B + o) (C := Mc.1.cls) (own := M.1.cls) ⟨hx, hb, hml, hown, hts⟩ (hcall l B H0 sk sv D cA) ⟨mm_callB hg hd' hts (mm_word (M := M) hts hw rfl), hts _ hgv.1, hts _ hgv.2⟩ ⟨mm_blind, va_recv hS.2.1 hH.2.2 hc (mmE_o hKD hci), fun U hU hW => mm_pre (as := .ref o :: bs.reverse) hH hS hU hW⟩ rfl (by simpa using hlen) hls1 (by simp [mmV]) (mm_rest hc8) hd ⟨Nat.le_refl _, Nat.le_refl _⟩) hH hF hB (fun v ν H1 locs1 hP hH1 hS1 => ?_)
      have h9 := hk _ _ _ (hmo _ _ hP) p l e s m args below meth c H1 locs1 B H0 sk sv D cA ls hx hb hr hml hown hts hlk hS hls hH1 hS1 hB
      cases v with
      | none => exact h9
      | some v => exact h9
    | .retAddr x :: r, hp, h =>
      have h : mif (Nat.beq b 98) (mif (Nat.ble (mcat r) 8) (mmCl d Mc false a (.retAddr x :: bs.reverse) μ r fun st ν => k L st ν)) := by
        simp only [wpI, hp] at h
        exact h
      obtain ⟨hb9, h⟩ := mif_ok h
      obtain ⟨hc8, h⟩ := mif_ok h
      obtain ⟨hg, hlen, d', hd', P', hmo, hcall⟩ := mmCl_ok h
      have hb99 : b = 98 := Nat.eq_of_beq_eq_true hb9
      subst hb99
      have hC : Mc.1.cls = "java/lang/String" := by simpa using hX
      intro p l e s m args below meth c H locs B H0 sk sv D cA ls hx hb hr hml hown hts hlk hS hls hH hF hB
      have hls1 : ls.size = M.2.2.1 := hls.choose_spec.1.1
      have hgv : Cond.instanceMethod Mc.1 ∈ mmT ∧ Cond.selects Mc.1.cls Mc.1 Mc.1 ∈ mmT := by simpa using hg.2.2.2.2
      obtain ⟨cellS, g1, g2, g3, g4⟩ := (hS.2.2.2.1.1 0 (by omega)).1
      refine mm_use (rest := r.map (mmV B sk)) (va_runV (As := bs.reverse.map (mmV B sk)) (b := sk 0) (C := Mc.1.cls) (own := M.1.cls) ⟨hx, hb, hml, hown, hts⟩ (hcall l B H0 sk sv D cA) ⟨mm_callB hg hd' hts (mm_word (M := M) hts hw rfl), hts _ hgv.1, hts _ hgv.2⟩ ⟨mm_blind, ⟨cellS, by rw [hH.2.1 _ (Array.getElem?_eq_some_iff.mp g1).1 g4]; exact g1, g2, by rw [hC]; exact g3⟩, fun U hU hW => mm_pre (as := .retAddr x :: bs.reverse) hH hS hU hW⟩ rfl (by simpa using hlen) hls1 (by simp [mmV]) (mm_rest hc8) hd ⟨Nat.le_refl _, Nat.le_refl _⟩) hH hF hB (fun v ν H1 locs1 hP hH1 hS1 => ?_)
      have h9 := hk _ _ _ (hmo _ _ hP) p l e s m args below meth c H1 locs1 B H0 sk sv D cA ls hx hb hr hml hown hts hlk hS hls hH1 hS1 hB
      cases v with
      | none => exact h9
      | some v => exact h9
    | [], hp, h => simp only [wpI, hp] at h
    | .int _ :: _, hp, h => simp [wpI, hp] at h
    | .long _ :: _, hp, h => simp [wpI, hp] at h
    | .float _ :: _, hp, h => simp [wpI, hp] at h
    | .double _ :: _, hp, h => simp [wpI, hp] at h
    | .null :: _, hp, h => simp [wpI, hp] at h
theorem mm_acNat : Cond.native arraycopyName ∈ mmT := mm_in 371 (by decide +kernel) rfl
theorem mm_acSt : Cond.static arraycopyName ∈ mmT := mm_in 370 (by decide +kernel) rfl
theorem mm_acIni : Cond.initialized "java/lang/System" ∈ mmT := mm_in 27 (by decide +kernel) rfl
theorem st_arraycopy {d : Nat} {M : mmMi} {P : Option Value → mmMem → Prop} {k : List Value → List Value → mmMem → Prop} {L st : List Value} {μ : mmMem} {pc len w a b n : Nat} {v : Value} {Mc : mmMi} (hbb : b = 10 ∨ b = 11 ∨ b = 12) (hok : mmOkI M (pc, .invokestatic n, len, w, a, b, v, Mc) = true) (hk : ∀ L st μ, k L st μ → mmEnds d M (pc + len) L st μ P) (h : wpI d M P (pc, .invokestatic n, len, w, a, b, v, Mc) k L st μ) : mmEnds d M pc L st μ P := by
  obtain ⟨hd, hX⟩ := mmOkI_ok hok
  dsimp only at hd
  obtain ⟨rfl, hw⟩ : len = 3 ∧ lw_tbl[w]? = some (.methodLink M.1.cls n arraycopyName) := by
    rcases hbb with rfl | rfl | rfl <;> simpa [mmOkX] using hX
  rcases hbb with rfl | rfl | rfl
  · obtain ⟨n1, r, rfl, h⟩ := pI_ok h
    obtain ⟨dp, r, rfl, h⟩ := pI_ok h
    obtain ⟨y, r, rfl, h⟩ := pA_ok h
    obtain ⟨sp, r, rfl, h⟩ := pI_ok h
    obtain ⟨x, r, rfl, h1d, hKx, hKy, hsp, hdp, hn, hl1, hl2, h⟩ := pA_ok h
    obtain ⟨hc8, h⟩ := mif_ok h
    intro p l e s m args below meth c H locs B H0 sk sv D cA ls hx hb hr hml hown hts hlk hS hls hH hF hB
    have hls1 : ls.size = M.2.2.1 := hls.choose_spec.1.1
    have h7 : y < 160 := mmKD_lt (by rw [hKy]; decide)
    have h8 := mmE_10 (B := B) (cA := cA) (μ := cI μ x y sp.toNatClampNeg dp.toNatClampNeg n1.toNatClampNeg) hKy
    rw [mmW_get h7] at h8
    have h6 := congrArg Prod.snd (Option.some.inj h8)
    dsimp only at h6
    have e9 := mmW_set (B := B) (cA := cA) (μ := μ) (ν := cI μ x y sp.toNatClampNeg dp.toNatClampNeg n1.toNatClampNeg) h7 (fun q hq => by simp [cI, hq]) (fun q hq => by simp [cI, hq]) (fun q hq => by simp [cI, hq]) h6.symm
    refine va_copyi (own := M.1.cls) (t0 := 0) (t1 := 0) hx hb (hml.trans hls1.symm) hown (mm_word (M := M) hts hw rfl) (hts _ mm_acNat) (hts _ mm_acSt) (hts _ mm_acIni) hS.2.1 hH.2.2 mmW_D hF x y (mmE_10 hKx) (mmE_10 hKy) rfl rfl rfl hsp hdp hn hl1 hl2 (fun i hi => rfl) h1d (by rw [mcat_ok]; have := Nat.le_of_ble_eq_true hc8; show mcat r + (7 + 11) ≤ 40 * d; omega) hd (fun H1 locs1 hP1 hD1 hS1 => mm_sz fun hsz => ?_)
    have hP9 : va_P D vwCl (mmW B cA (cI μ x y sp.toNatClampNeg dp.toNatClampNeg n1.toNatClampNeg)) H1 := by
      rw [← e9]
      simpa [cI] using hP1
    exact hk _ _ _ h p l e s m args below meth c H1 locs1 B H0 sk sv D cA ls hx hb hr hml hown hts hlk hS hls (mm_next hH hF hB hP9 hS1 hsz) hS1 hB
  · obtain ⟨n1, r, rfl, h⟩ := pI_ok h
    obtain ⟨dp, r, rfl, h⟩ := pI_ok h
    obtain ⟨y, r, rfl, h⟩ := pA_ok h
    obtain ⟨sp, r, rfl, h⟩ := pI_ok h
    obtain ⟨x, r, rfl, h1d, hKx, hKy, hsp, hdp, hn, hl1, hl2, h⟩ := pA_ok h
    obtain ⟨hc8, h⟩ := mif_ok h
    intro p l e s m args below meth c H locs B H0 sk sv D cA ls hx hb hr hml hown hts hlk hS hls hH hF hB
    have hls1 : ls.size = M.2.2.1 := hls.choose_spec.1.1
    have h7 : y < 160 := mmKD_lt (by rw [hKy]; decide)
    have h8 := mmE_11 (B := B) (cA := cA) (μ := cJ μ x y sp.toNatClampNeg dp.toNatClampNeg n1.toNatClampNeg) hKy
    rw [mmW_get h7] at h8
    have h6 := congrArg Prod.snd (Option.some.inj h8)
    dsimp only at h6
    have e9 := mmW_set (B := B) (cA := cA) (μ := μ) (ν := cJ μ x y sp.toNatClampNeg dp.toNatClampNeg n1.toNatClampNeg) h7 (fun q hq => by simp [cJ, hq]) (fun q hq => by simp [cJ, hq]) (fun q hq => by simp [cJ, hq]) h6.symm
    refine va_copyl (own := M.1.cls) (t0 := 1) (t1 := 1) hx hb (hml.trans hls1.symm) hown (mm_word (M := M) hts hw rfl) (hts _ mm_acNat) (hts _ mm_acSt) (hts _ mm_acIni) hS.2.1 hH.2.2 mmW_D hF x y (mmE_11 hKx) (mmE_11 hKy) rfl rfl rfl hsp hdp hn hl1 hl2 (fun i hi => rfl) h1d (by rw [mcat_ok]; have := Nat.le_of_ble_eq_true hc8; show mcat r + (7 + 11) ≤ 40 * d; omega) hd (fun H1 locs1 hP1 hD1 hS1 => mm_sz fun hsz => ?_)
    have hP9 : va_P D vwCl (mmW B cA (cJ μ x y sp.toNatClampNeg dp.toNatClampNeg n1.toNatClampNeg)) H1 := by
      rw [← e9]
      simpa [cJ] using hP1
    exact hk _ _ _ h p l e s m args below meth c H1 locs1 B H0 sk sv D cA ls hx hb hr hml hown hts hlk hS hls (mm_next hH hF hB hP9 hS1 hsz) hS1 hB
  · obtain ⟨n1, r, rfl, h⟩ := pI_ok h
    obtain ⟨dp, r, rfl, h⟩ := pI_ok h
    obtain ⟨y, r, rfl, h⟩ := pA_ok h
    obtain ⟨sp, r, rfl, h⟩ := pI_ok h
    obtain ⟨x, r, rfl, h1d, hKx, hKy, hsp, hdp, hn, hl1, hl2, h⟩ := pA_ok h
    obtain ⟨hc8, h⟩ := mif_ok h
    intro p l e s m args below meth c H locs B H0 sk sv D cA ls hx hb hr hml hown hts hlk hS hls hH hF hB
    have hls1 : ls.size = M.2.2.1 := hls.choose_spec.1.1
    have h7 : y < 160 := mmKD_lt (by rw [hKy]; decide)
    have h8 := mmE_12 (B := B) (cA := cA) (μ := cD μ x y sp.toNatClampNeg dp.toNatClampNeg n1.toNatClampNeg) hKy
    rw [mmW_get h7] at h8
    have h6 := congrArg Prod.snd (Option.some.inj h8)
    dsimp only at h6
    have e9 := mmW_set (B := B) (cA := cA) (μ := μ) (ν := cD μ x y sp.toNatClampNeg dp.toNatClampNeg n1.toNatClampNeg) h7 (fun q hq => by simp [cD, hq]) (fun q hq => by simp [cD, hq]) (fun q hq => by simp [cD, hq]) h6.symm
    refine va_copyd (own := M.1.cls) (t0 := 2) (t1 := 2) hx hb (hml.trans hls1.symm) hown (mm_word (M := M) hts hw rfl) (hts _ mm_acNat) (hts _ mm_acSt) (hts _ mm_acIni) hS.2.1 hH.2.2 mmW_D hF x y (mmE_12 hKx) (mmE_12 hKy) rfl rfl rfl hsp hdp hn hl1 hl2 (fun i hi => rfl) h1d (by rw [mcat_ok]; have := Nat.le_of_ble_eq_true hc8; show mcat r + (7 + 11) ≤ 40 * d; omega) hd (fun H1 locs1 hP1 hD1 hS1 => mm_sz fun hsz => ?_)
    have hP9 : va_P D vwCl (mmW B cA (cD μ x y sp.toNatClampNeg dp.toNatClampNeg n1.toNatClampNeg)) H1 := by
      rw [← e9]
      simpa [cD] using hP1
    exact hk _ _ _ h p l e s m args below meth c H1 locs1 B H0 sk sv D cA ls hx hb hr hml hown hts hlk hS hls (mm_next hH hF hB hP9 hS1 hsz) hS1 hB
end
section
/-! ===== an instruction, a stretch, a whole method ===== -/
theorem mm_step {d : Nat} {M : mmMi} {P : Option Value → mmMem → Prop} {k : List Value → List Value → mmMem → Prop} {L st : List Value} {μ : mmMem} (q : mmMI) (hok : mmOkI M q = true) (hk : ∀ L st μ, k L st μ → mmEnds d M (q.1 + q.2.2.1) L st μ P) (h : wpI d M P q k L st μ) : mmEnds d M q.1 L st μ P := by
  obtain ⟨pc, i, len, w, a, b, v, Mc⟩ := q
  dsimp only at hk ⊢
  cases i with
  | iconst x0 => exact st_iconst hok hk h
  | bipush x0 => exact st_bipush hok hk h
  | sipush x0 => exact st_sipush hok hk h
  | lconst x0 => exact st_lconst hok hk h
  | dconst x0 => exact st_dconst hok hk h
  | ldc x0 => exact st_ldc hok hk h
  | ldc_w x0 => exact st_ldc_w hok hk h
  | ldc2_w x0 => exact st_ldc2_w hok hk h
  | aload x0 => exact st_aload hok hk h
  | aload_n x0 => exact st_aload_n hok hk h
  | iload x0 => exact st_iload hok hk h
  | iload_n x0 => exact st_iload_n hok hk h
  | lload x0 => exact st_lload hok hk h
  | lload_n x0 => exact st_lload_n hok hk h
  | fload x0 => exact st_fload hok hk h
  | fload_n x0 => exact st_fload_n hok hk h
  | dload x0 => exact st_dload hok hk h
  | dload_n x0 => exact st_dload_n hok hk h
  | istore x0 => exact st_istore hok hk h
  | istore_n x0 => exact st_istore_n hok hk h
  | astore x0 => exact st_astore hok hk h
  | astore_n x0 => exact st_astore_n hok hk h
  | lstore x0 => exact st_lstore hok hk h
  | lstore_n x0 => exact st_lstore_n hok hk h
  | dstore x0 => exact st_dstore hok hk h
  | dstore_n x0 => exact st_dstore_n hok hk h
  | iinc x0 x1 => exact st_iinc hok hk h
  | iadd => exact st_iadd hok hk h
  | isub => exact st_isub hok hk h
  | imul => exact st_imul hok hk h
  | iand => exact st_iand hok hk h
  | ior => exact st_ior hok hk h
  | idiv => exact st_idiv hok hk h
  | irem => exact st_irem hok hk h
  | ishl => exact st_ishl hok hk h
  | ishr => exact st_ishr hok hk h
  | ineg => exact st_ineg hok hk h
  | ladd => exact st_ladd hok hk h
  | lsub => exact st_lsub hok hk h
  | lmul => exact st_lmul hok hk h
  | land => exact st_land hok hk h
  | lor => exact st_lor hok hk h
  | lxor => exact st_lxor hok hk h
  | ldiv => exact st_ldiv hok hk h
  | lrem => exact st_lrem hok hk h
  | lneg => exact st_lneg hok hk h
  | lshl => exact st_lshl hok hk h
  | lcmp => exact st_lcmp hok hk h
  | i2l => exact st_i2l hok hk h
  | l2i => exact st_l2i hok hk h
  | i2b => exact st_i2b hok hk h
  | i2s => exact st_i2s hok hk h
  | i2c => exact st_i2c hok hk h
  | l2d => exact st_l2d hok hk h
  | l2f => exact st_l2f hok hk h
  | f2d => exact st_f2d hok hk h
  | d2f => exact st_d2f hok hk h
  | d2l => exact st_d2l hok hk h
  | d2i => exact st_d2i hok hk h
  | f2l => exact st_f2l hok hk h
  | dneg => exact st_dneg hok hk h
  | dadd => exact st_dadd hok hk h
  | dsub => exact st_dsub hok hk h
  | dmul => exact st_dmul hok hk h
  | ddiv => exact st_ddiv hok hk h
  | fmul => exact st_fmul hok hk h
  | fdiv => exact st_fdiv hok hk h
  | dcmp x0 => exact st_dcmp hok hk h
  | fcmp x0 => exact st_fcmp hok hk h
  | dup => exact st_dup hok hk h
  | dup2 => exact st_dup2 hok hk h
  | ifCond x0 x1 => exact st_ifCond hok hk h
  | if_icmp x0 x1 => exact st_if_icmp hok hk h
  | goto x0 => exact st_goto hok hk h
  | tableswitch x0 x1 x2 x3 => exact st_tableswitch hok hk h
  | lookupswitch x0 x1 => exact st_lookupswitch hok hk h
  | getfield x0 => exact st_getfield hok hk h
  | putfield x0 => exact st_putfield hok hk h
  | iaload => exact st_iaload hok hk h
  | laload => exact st_laload hok hk h
  | daload => exact st_daload hok hk h
  | baload => exact st_baload hok hk h
  | aaload => exact st_aaload hok hk h
  | iastore => exact st_iastore hok hk h
  | lastore => exact st_lastore hok hk h
  | dastore => exact st_dastore hok hk h
  | bastore => exact st_bastore hok hk h
  | arraylength => exact st_arraylength hok hk h
  | invokevirtual x0 => exact st_invokevirtual hok hk h
  | invokestatic n =>
    by_cases hb0 : b = 0
    · subst hb0
      exact st_invokestatic0 hok hk h
    · by_cases hb1 : b = 1
      · subst hb1
        exact st_invokestatic1 hok hk h
      · by_cases hbb : b = 10 ∨ b = 11 ∨ b = 12
        · exact st_arraycopy hbb hok hk h
        · exfalso
          unfold wpI at h
          dsimp only at h
          split at h
          · exact hb0 rfl
          · exact hb1 rfl
          · obtain ⟨n1, r1, q1, h1⟩ := pI_ok h
            obtain ⟨dp, r2, q2, h2⟩ := pI_ok h1
            obtain ⟨y, r3, q3, h3⟩ := pA_ok h2
            obtain ⟨sp, r4, q4, h4⟩ := pI_ok h3
            obtain ⟨x, r5, q5, h1d, hKx, hKy, hsp, hdp, hn, hl1, hl2, h5⟩ := pA_ok h4
            obtain ⟨hc8, h6⟩ := mif_ok h5
            split at h6
            · exact hbb (Or.inl rfl)
            · exact hbb (Or.inr (Or.inl rfl))
            · exact hbb (Or.inr (Or.inr rfl))
            · exact h6
  | ireturn => exact st_ireturn hok hk h
  | lreturn => exact st_lreturn hok hk h
  | dreturn => exact st_dreturn hok hk h
  | freturn => exact st_freturn hok hk h
  | areturn => exact st_areturn hok hk h
  | return_ => exact st_return_ hok hk h
  | _ => exact False.elim h
theorem mm_segE {d : Nat} {M : mmMi} {P : Option Value → mmMem → Prop} {e : Nat} : ∀ (seg : List mmMI) {L st : List Value} {μ : mmMem}, mmOk M e seg = true → wpS d M P e seg L st μ → mmEnds d M (mmHead seg e) L st μ P
  | [], _, _, _, _, h => h
  | q :: t, L, st, μ, ho, h => by
    simp only [mmOk, Bool.and_eq_true, beq_iff_eq] at ho
    obtain ⟨⟨h1, h2⟩, h3⟩ := ho
    refine mm_step q h1 (fun L st μ hh => ?_) h
    rw [h2]
    exact mm_segE t h3 hh
theorem mm_seg {d : Nat} {M : mmMi} {P : Option Value → mmMem → Prop} {e : Nat} {q : mmMI} {t : List mmMI} {L st : List Value} {μ : mmMem} (ho : mmOk M e (q :: t) = true) (h : wpS d M P e (q :: t) L st μ) : mmEnds d M q.1 L st μ P := mm_segE (q :: t) ho h
theorem mmEnds.mono {d : Nat} {M : mmMi} {pc : Nat} {L st : List Value} {μ : mmMem} {P Q : Option Value → mmMem → Prop} (h : mmEnds d M pc L st μ P) (hq : ∀ v ν, P v ν → Q v ν) : mmEnds d M pc L st μ Q := by
  intro p l e s m args below meth c H locs B H0 sk sv D cA ls hx hb hr hml hown hts hlk hS hls hH hF hB T hT X
  obtain ⟨t, a1, o, b1, b2, ⟨v, ν, e1, e2, e3⟩, b4⟩ := h p l e s m args below meth c H locs B H0 sk sv D cA ls hx hb hr hml hown hts hlk hS hls hH hF hB T hT X
  exact ⟨t, a1, o, b1, b2, ⟨v, ν, e1, hq v ν e2, e3⟩, b4⟩
/-! ===== trees of stretches: J says what a jump comes to ===== -/
def wpJ (J : Nat → List Value → List Value → mmMem → Prop) (d : Nat) (M : mmMi) (P : Option Value → mmMem → Prop) (q : mmMI) (k : List Value → List Value → mmMem → Prop) (L st : List Value) (μ : mmMem) : Prop :=
  match q with
  | (pc, i, len, w, a, b, v, Mc) => match i with
    | .ifCond c _ => pI st fun x r => (mmCt c x 0 → J a L r μ) ∧ (mmCf c x 0 → k L r μ)
    | .if_icmp c _ => pI st fun y r => pI r fun x r => (mmCt c x y → J a L r μ) ∧ (mmCf c x y → k L r μ)
    | .goto _ => J a L st μ
    | .tableswitch dflt lo hi offs => pI st fun x r => (x.toInt < lo ∨ hi < x.toInt → J ((pc : Int) + dflt).toNat L r μ) ∧ mmTs pc x (fun t => J t L r μ) lo offs.toList
    | .lookupswitch dflt ps => pI st fun x r => mmLk pc x (fun t => J t L r μ) dflt ps.toList
    | i => wpI d M P (pc, i, len, w, a, b, v, Mc) k L st μ
theorem mmTs_mono {pc : Nat} {x : Int32} {E F : Nat → Prop} (h : ∀ t, E t → F t) : ∀ (l : List Int) (lo : Int), mmTs pc x E lo l → mmTs pc x F lo l
  | [], _, _ => trivial
  | _ :: l, lo, q => ⟨fun e => h _ (q.1 e), mmTs_mono h l (lo + 1) q.2⟩
theorem mmLk_mono {pc : Nat} {x : Int32} {E F : Nat → Prop} {d : Int} (h : ∀ t, E t → F t) : ∀ (l : List (Int × Int)), mmLk pc x E d l → mmLk pc x F d l
  | [], q => h _ q
  | _ :: l, q => ⟨fun e => h _ (q.1 e), fun e => mmLk_mono h l (q.2 e)⟩
theorem wpJ_ok {J : Nat → List Value → List Value → mmMem → Prop} {d : Nat} {M : mmMi} {P : Option Value → mmMem → Prop} {q : mmMI} {k : List Value → List Value → mmMem → Prop} {L st : List Value} {μ : mmMem} (hJ : ∀ a L st μ, J a L st μ → mmEnds d M a L st μ P) (h : wpJ J d M P q k L st μ) : wpI d M P q k L st μ := by
  obtain ⟨pc, i, len, w, a, b, v, Mc⟩ := q
  cases i with
  | ifCond c n =>
    obtain ⟨x, r, rfl, h⟩ := pI_ok h
    exact ⟨fun e => hJ _ _ _ _ (h.1 e), h.2⟩
  | if_icmp c n =>
    obtain ⟨y, r, rfl, h⟩ := pI_ok h
    obtain ⟨x, r, rfl, h⟩ := pI_ok h
    exact ⟨fun e => hJ _ _ _ _ (h.1 e), h.2⟩
  | goto n => exact hJ _ _ _ _ h
  | tableswitch f lo hi offs =>
    obtain ⟨x, r, rfl, h⟩ := pI_ok h
    exact ⟨fun e => hJ _ _ _ _ (h.1 e), mmTs_mono (fun t => hJ t L r μ) _ _ h.2⟩
  | lookupswitch f ps =>
    obtain ⟨x, r, rfl, h⟩ := pI_ok h
    exact mmLk_mono (fun t => hJ t L r μ) _ h
  | _ => exact h
def wpC (J : Nat → List Value → List Value → mmMem → Prop) (d : Nat) (M : mmMi) (P : Option Value → mmMem → Prop) (e : Nat) : List mmMI → List Value → List Value → mmMem → Prop
  | [], L, st, μ => J e L st μ
  | q :: t, L, st, μ => wpJ J d M P q (fun L st μ => wpC J d M P e t L st μ) L st μ
theorem wpC_ok {J : Nat → List Value → List Value → mmMem → Prop} {d : Nat} {M : mmMi} {P : Option Value → mmMem → Prop} {e : Nat} (hJ : ∀ a L st μ, J a L st μ → mmEnds d M a L st μ P) : ∀ (seg : List mmMI) {L st : List Value} {μ : mmMem}, mmOk M e seg = true → wpC J d M P e seg L st μ → mmEnds d M (mmHead seg e) L st μ P
  | [], _, _, _, _, h => hJ _ _ _ _ h
  | q :: t, L, st, μ, ho, h => by
    simp only [mmOk, Bool.and_eq_true, beq_iff_eq] at ho
    obtain ⟨⟨h1, h2⟩, h3⟩ := ho
    refine mm_step q h1 (fun L st μ hh => ?_) (wpJ_ok hJ h)
    rw [h2]
    exact wpC_ok hJ t h3 hh
/-- blocks: where each begins, its rows, where it goes on behind them -/
abbrev mmBl : Type := List (Nat × List mmMI × Nat)
def mmFind : mmBl → Nat → Option (List mmMI × Nat)
  | [], _ => none
  | q :: t, pc => match Nat.beq q.1 pc with
    | true => some q.2
    | false => mmFind t pc
def wpT (bl : mmBl) (d : Nat) (M : mmMi) (P : Option Value → mmMem → Prop) : Nat → Nat → List Value → List Value → mmMem → Prop
  | 0, pc, L, st, μ => mmEnds d M pc L st μ P
  | n + 1, pc, L, st, μ => match mmFind bl pc with
    | some (seg, e) => wpC (wpT bl d M P n) d M P e seg L st μ
    | none => mmEnds d M pc L st μ P
def mmOkB (M : mmMi) (bl : mmBl) : Bool := bl.all fun q => mmOk M q.2.2 q.2.1 && Nat.beq (mmHead q.2.1 q.2.2) q.1
theorem mmFind_ok {bl : mmBl} {pc : Nat} {q : List mmMI × Nat} (h : mmFind bl pc = some q) : (pc, q) ∈ bl := by
  induction bl with
  | nil => cases h
  | cons x t ih =>
    unfold mmFind at h
    split at h
    · rename_i hb
      have := Nat.eq_of_beq_eq_true hb
      cases h
      subst this
      exact List.mem_cons_self
    · exact List.mem_cons_of_mem _ (ih h)
theorem wpT_ok {bl : mmBl} {d : Nat} {M : mmMi} {P : Option Value → mmMem → Prop} (hb : mmOkB M bl = true) : ∀ (n pc : Nat) (L st : List Value) (μ : mmMem), wpT bl d M P n pc L st μ → mmEnds d M pc L st μ P
  | 0, _, _, _, _, h => h
  | n + 1, pc, L, st, μ, h => by
    unfold wpT at h
    split at h
    · rename_i seg e hf
      have h1 := List.all_eq_true.mp hb _ (mmFind_ok hf)
      simp only [Bool.and_eq_true] at h1
      have h2 := wpC_ok (wpT_ok hb n) seg h1.1 h
      rwa [Nat.eq_of_beq_eq_true h1.2] at h2
    · exact h
/-- from a block on, the blocks of bl opened as they come -/
theorem mm_tree {bl : mmBl} {d : Nat} {M : mmMi} {P : Option Value → mmMem → Prop} (n : Nat) {e : Nat} {seg : List mmMI} {pc : Nat} {L st : List Value} {μ : mmMem} (hb : mmOkB M bl = true) (ho : mmOkB M [(pc, seg, e)] = true) (h : wpC (wpT bl d M P n) d M P e seg L st μ) : mmEnds d M pc L st μ P := by
  simp only [mmOkB, List.all_cons, List.all_nil, Bool.and_true, Bool.and_eq_true] at ho
  have h2 := wpC_ok (wpT_ok hb n) seg ho.1 h
  rwa [Nat.eq_of_beq_eq_true ho.2] at h2
/-- locals where a method begins -/
def mmLo : Nat → List Value → List Value
  | n, [] => List.replicate n (.retAddr 7)
  | n, v :: l => match v with
    | .long _ => v :: .retAddr 7 :: mmLo (n - 2) l
    | .double _ => v :: .retAddr 7 :: mmLo (n - 2) l
    | _ => v :: mmLo (n - 1) l
theorem mmLo_mem (B : Nat) (sk : Nat → Nat) : ∀ (as : List Value) (n off i : Nat) (v : Value), (mmLo n as)[i]? = some v → v ≠ .retAddr 7 → (off + i, mmV B sk v) ∈ lv_args off (as.map (mmV B sk)) := by
  intro as
  induction as with
  | nil =>
    intro n off i v h hv
    simp only [mmLo, List.getElem?_replicate] at h
    split at h
    · cases h
      exact absurd rfl hv
    · cases h
  | cons a l ih =>
    intro n off i v h hv
    have one : ∀ (m : Nat), (a :: mmLo m l)[i]? = some v → (mmV B sk a).category = 1 → (off + i, mmV B sk v) ∈ lv_args off ((a :: l).map (mmV B sk)) := by
      intro m hh hc
      cases i with
      | zero =>
        cases hh
        simp [lv_args]
      | succ i =>
        have := ih m (off + 1) i v (by simpa using hh) hv
        simp only [List.map_cons, lv_args, hc, List.mem_cons]
        right
        have e1 : off + 1 + i = off + (i + 1) := by omega
        rwa [e1] at this
    have two : ∀ (m : Nat), (a :: Value.retAddr 7 :: mmLo m l)[i]? = some v → (mmV B sk a).category = 2 → (off + i, mmV B sk v) ∈ lv_args off ((a :: l).map (mmV B sk)) := by
      intro m hh hc
      match i, hh with
      | 0, hh =>
        cases hh
        simp [lv_args]
      | 1, hh =>
        cases hh
        exact absurd rfl hv
      | i + 2, hh =>
        have := ih m (off + 2) i v (by simpa using hh) hv
        simp only [List.map_cons, lv_args, hc, List.mem_cons]
        right
        have e1 : off + 2 + i = off + (i + 2) := by omega
        rwa [e1] at this
    cases a with
    | long x => exact two _ h rfl
    | double x => exact two _ h rfl
    | _ => exact one _ h rfl
theorem mm_sl (B : Nat) (sk : Nat → Nat) : ∀ as : List Value, (lg_sl (as.map (mmV B sk))).length = mcat as := by
  intro as
  induction as with
  | nil => rfl
  | cons a l ih =>
    have e : lg_sl ((a :: l).map (mmV B sk)) = (if (mmV B sk a).category = 2 then [Slot.val (mmV B sk a), .second] else [.val (mmV B sk a)]) ++ lg_sl (l.map (mmV B sk)) := by simp [lg_sl]
    rw [e, List.length_append, ih, mcat]
    cases a <;> rfl
theorem mmCall.of {d : Nat} {M : mmMi} {as : List Value} {μ : mmMem} {P : Option Value → mmMem → Prop} (hy : plainFor M.1 = true) (hn : Nat.ble (mcat as) M.2.2.1 = true) (h : mmEnds d M 0 (mmLo M.2.2.1 as) [] μ P) : mmCall d M as μ P := by
  intro l B H0 sk sv D cA
  refine Jvm.Free.MetFree.of_bodySF (code := M.2.1) (maxLocals := M.2.2.1) (ret := M.2.2.2) hy (fun args s m hb hn => by
    obtain ⟨meth, c, h1, h2, h3, h4, h5, h6, -, -⟩ := Cond.code_spec hn (atoms_spec (ws := mmWs M) hb _ List.mem_cons_self)
    exact ⟨meth, c, h1, h2, h3, h4, h5, h6⟩) ?_
  intro p e s m args below meth c s₁ Bd hml hP _
  obtain ⟨rfl, hH, hS⟩ := hP
  have hh0 : s₁.heap = s.heap := by rw [Bd.state]; rfl
  have hts := atoms_spec (ws := mmWs M) Bd.pre
  rw [lg_entry_eq]
  have hen := lv_entry (as.map (mmV B sk)) (n := M.2.2.1) (by rw [mm_sl]; exact Nat.le_of_ble_eq_true hn)
  obtain ⟨t, a1, o, b1, b2, b3⟩ := h p l e s m _ below meth c s.heap [] B H0 sk sv D cA _ Bd.exec Bd.bytes Bd.returns hml (findClass_of_methodNamed Bd.named) (fun w hw => hts w (List.mem_cons_of_mem _ hw)) Bd.notSynchronized hS ⟨lv_args 0 _, hen, fun i v h1 h2 => by simpa using mmLo_mem B sk as _ 0 i v h1 h2⟩ hH ⟨Nat.le_refl _, fun q _ _ => rfl, fun q hq => by cases hq⟩ hH.1 s₁ hh0 (Stand.of_body Bd)
  exact ⟨t, o, a1, b1, b2, ⟨b3.1, b3.2⟩⟩
theorem mmCU.of {d d' : Nat} {M : mmMi} {st : Bool} {n : Nat} {as : List Value} {μ : mmMem} {P : Option Value → mmMem → Prop} (hg : mmGd M st n) (hy : plainFor M.1 = true) (hl : as.length = (match st with | true => n | false => n + 1)) (hn : Nat.ble (mcat as) M.2.2.1 = true) (hd : d' < d) (h : mmEnds d' M 0 (mmLo M.2.2.1 as) [] μ P) : mmCU d M st n as μ P :=
  by cases st <;> exact ⟨hg, hl, d', hd, P, fun _ _ h => h, mmCall.of hy hn h⟩
end
section
/-! ===== kinds, lengths ===== -/
def mm0 : mmMi := (yX0_init, ByteArray.empty, 0, none)
theorem mmC0.mono {d : Nat} {M : mmMi} {st : Bool} {n : Nat} {as : List Value} {μ : mmMem} {K K2 : mmMem → Prop} (h : mmC0 d M st n as μ K) (hk : ∀ ν, K ν → K2 ν) : mmC0 d M st n as μ K2 := mmCU.mono h (fun v ν q => by obtain ⟨rfl, q⟩ := mmP0_ok q; exact hk ν q)
theorem mmCI.mono {d : Nat} {M : mmMi} {st : Bool} {n : Nat} {as : List Value} {μ : mmMem} {K K2 : Int32 → mmMem → Prop} (h : mmCI d M st n as μ K) (hk : ∀ x ν, K x ν → K2 x ν) : mmCI d M st n as μ K2 := mmCU.mono h (fun v ν q => by obtain ⟨x, rfl, q⟩ := mmPI_ok q; exact hk x ν q)
theorem mmCJ.mono {d : Nat} {M : mmMi} {st : Bool} {n : Nat} {as : List Value} {μ : mmMem} {K K2 : Int64 → mmMem → Prop} (h : mmCJ d M st n as μ K) (hk : ∀ x ν, K x ν → K2 x ν) : mmCJ d M st n as μ K2 := mmCU.mono h (fun v ν q => by obtain ⟨x, rfl, q⟩ := mmPJ_ok q; exact hk x ν q)
theorem mmCF.mono {d : Nat} {M : mmMi} {st : Bool} {n : Nat} {as : List Value} {μ : mmMem} {K K2 : UInt32 → mmMem → Prop} (h : mmCF d M st n as μ K) (hk : ∀ x ν, K x ν → K2 x ν) : mmCF d M st n as μ K2 := mmCU.mono h (fun v ν q => by obtain ⟨x, rfl, q⟩ := mmPF_ok q; exact hk x ν q)
theorem mmCD.mono {d : Nat} {M : mmMi} {st : Bool} {n : Nat} {as : List Value} {μ : mmMem} {K K2 : UInt64 → mmMem → Prop} (h : mmCD d M st n as μ K) (hk : ∀ x ν, K x ν → K2 x ν) : mmCD d M st n as μ K2 := mmCU.mono h (fun v ν q => by obtain ⟨x, rfl, q⟩ := mmPD_ok q; exact hk x ν q)
theorem mmCA.mono {d : Nat} {M : mmMi} {st : Bool} {n : Nat} {as : List Value} {μ : mmMem} {K K2 : Nat → mmMem → Prop} (h : mmCA d M st n as μ K) (hk : ∀ x ν, K x ν → K2 x ν) : mmCA d M st n as μ K2 := mmCU.mono h (fun v ν q => by obtain ⟨x, rfl, q⟩ := mmPA_ok q; exact hk x ν q)
theorem kd_0 : mmKD 0 = 7 := by decide +kernel
theorem kd_1 : mmKD 1 = 4 := by decide +kernel
theorem kd_2 : mmKD 2 = 14 := by decide +kernel
theorem kd_3 : mmKD 3 = 15 := by decide +kernel
theorem kd_4 : mmKD 4 = 10 := by decide +kernel
theorem kd_5 : mmKD 5 = 13 := by decide +kernel
theorem kd_6 : mmKD 6 = 16 := by decide +kernel
theorem kd_7 : mmKD 7 = 1 := by decide +kernel
theorem kd_8 : mmKD 8 = 10 := by decide +kernel
theorem kd_9 : mmKD 9 = 11 := by decide +kernel
theorem kd_10 : mmKD 10 = 12 := by decide +kernel
theorem kd_11 : mmKD 11 = 1 := by decide +kernel
theorem kd_12 : mmKD 12 = 10 := by decide +kernel
theorem kd_13 : mmKD 13 = 11 := by decide +kernel
theorem kd_14 : mmKD 14 = 12 := by decide +kernel
theorem kd_15 : mmKD 15 = 1 := by decide +kernel
theorem kd_16 : mmKD 16 = 10 := by decide +kernel
theorem kd_17 : mmKD 17 = 11 := by decide +kernel
theorem kd_18 : mmKD 18 = 12 := by decide +kernel
theorem kd_19 : mmKD 19 = 1 := by decide +kernel
theorem kd_20 : mmKD 20 = 10 := by decide +kernel
theorem kd_21 : mmKD 21 = 11 := by decide +kernel
theorem kd_22 : mmKD 22 = 12 := by decide +kernel
theorem kd_23 : mmKD 23 = 1 := by decide +kernel
theorem kd_24 : mmKD 24 = 10 := by decide +kernel
theorem kd_25 : mmKD 25 = 11 := by decide +kernel
theorem kd_26 : mmKD 26 = 12 := by decide +kernel
theorem kd_27 : mmKD 27 = 1 := by decide +kernel
theorem kd_28 : mmKD 28 = 10 := by decide +kernel
theorem kd_29 : mmKD 29 = 11 := by decide +kernel
theorem kd_30 : mmKD 30 = 12 := by decide +kernel
theorem kd_31 : mmKD 31 = 1 := by decide +kernel
theorem kd_32 : mmKD 32 = 10 := by decide +kernel
theorem kd_33 : mmKD 33 = 11 := by decide +kernel
theorem kd_34 : mmKD 34 = 12 := by decide +kernel
theorem kd_35 : mmKD 35 = 1 := by decide +kernel
theorem kd_36 : mmKD 36 = 10 := by decide +kernel
theorem kd_37 : mmKD 37 = 11 := by decide +kernel
theorem kd_38 : mmKD 38 = 12 := by decide +kernel
theorem kd_39 : mmKD 39 = 1 := by decide +kernel
theorem kd_40 : mmKD 40 = 10 := by decide +kernel
theorem kd_41 : mmKD 41 = 11 := by decide +kernel
theorem kd_42 : mmKD 42 = 12 := by decide +kernel
theorem kd_43 : mmKD 43 = 1 := by decide +kernel
theorem kd_44 : mmKD 44 = 10 := by decide +kernel
theorem kd_45 : mmKD 45 = 11 := by decide +kernel
theorem kd_46 : mmKD 46 = 12 := by decide +kernel
theorem kd_47 : mmKD 47 = 1 := by decide +kernel
theorem kd_48 : mmKD 48 = 10 := by decide +kernel
theorem kd_49 : mmKD 49 = 11 := by decide +kernel
theorem kd_50 : mmKD 50 = 12 := by decide +kernel
theorem kd_51 : mmKD 51 = 1 := by decide +kernel
theorem kd_52 : mmKD 52 = 10 := by decide +kernel
theorem kd_53 : mmKD 53 = 11 := by decide +kernel
theorem kd_54 : mmKD 54 = 12 := by decide +kernel
theorem kd_55 : mmKD 55 = 6 := by decide +kernel
theorem kd_56 : mmKD 56 = 10 := by decide +kernel
theorem kd_57 : mmKD 57 = 6 := by decide +kernel
theorem kd_58 : mmKD 58 = 10 := by decide +kernel
theorem kd_59 : mmKD 59 = 2 := by decide +kernel
theorem kd_60 : mmKD 60 = 0 := by decide +kernel
theorem kd_61 : mmKD 61 = 2 := by decide +kernel
theorem kd_62 : mmKD 62 = 0 := by decide +kernel
theorem kd_63 : mmKD 63 = 2 := by decide +kernel
theorem kd_64 : mmKD 64 = 0 := by decide +kernel
theorem kd_65 : mmKD 65 = 2 := by decide +kernel
theorem kd_66 : mmKD 66 = 0 := by decide +kernel
theorem kd_67 : mmKD 67 = 2 := by decide +kernel
theorem kd_68 : mmKD 68 = 0 := by decide +kernel
theorem kd_69 : mmKD 69 = 2 := by decide +kernel
theorem kd_70 : mmKD 70 = 0 := by decide +kernel
theorem kd_71 : mmKD 71 = 4 := by decide +kernel
theorem kd_72 : mmKD 72 = 14 := by decide +kernel
theorem kd_73 : mmKD 73 = 15 := by decide +kernel
theorem kd_74 : mmKD 74 = 10 := by decide +kernel
theorem kd_75 : mmKD 75 = 13 := by decide +kernel
theorem kd_76 : mmKD 76 = 16 := by decide +kernel
theorem kd_77 : mmKD 77 = 1 := by decide +kernel
theorem kd_78 : mmKD 78 = 10 := by decide +kernel
theorem kd_79 : mmKD 79 = 11 := by decide +kernel
theorem kd_80 : mmKD 80 = 12 := by decide +kernel
theorem kd_81 : mmKD 81 = 1 := by decide +kernel
theorem kd_82 : mmKD 82 = 10 := by decide +kernel
theorem kd_83 : mmKD 83 = 11 := by decide +kernel
theorem kd_84 : mmKD 84 = 12 := by decide +kernel
theorem kd_85 : mmKD 85 = 1 := by decide +kernel
theorem kd_86 : mmKD 86 = 10 := by decide +kernel
theorem kd_87 : mmKD 87 = 11 := by decide +kernel
theorem kd_88 : mmKD 88 = 12 := by decide +kernel
theorem kd_89 : mmKD 89 = 1 := by decide +kernel
theorem kd_90 : mmKD 90 = 10 := by decide +kernel
theorem kd_91 : mmKD 91 = 11 := by decide +kernel
theorem kd_92 : mmKD 92 = 12 := by decide +kernel
theorem kd_93 : mmKD 93 = 1 := by decide +kernel
theorem kd_94 : mmKD 94 = 10 := by decide +kernel
theorem kd_95 : mmKD 95 = 11 := by decide +kernel
theorem kd_96 : mmKD 96 = 12 := by decide +kernel
theorem kd_97 : mmKD 97 = 1 := by decide +kernel
theorem kd_98 : mmKD 98 = 10 := by decide +kernel
theorem kd_99 : mmKD 99 = 11 := by decide +kernel
theorem kd_100 : mmKD 100 = 12 := by decide +kernel
theorem kd_101 : mmKD 101 = 1 := by decide +kernel
theorem kd_102 : mmKD 102 = 10 := by decide +kernel
theorem kd_103 : mmKD 103 = 11 := by decide +kernel
theorem kd_104 : mmKD 104 = 12 := by decide +kernel
theorem kd_105 : mmKD 105 = 1 := by decide +kernel
theorem kd_106 : mmKD 106 = 10 := by decide +kernel
theorem kd_107 : mmKD 107 = 11 := by decide +kernel
theorem kd_108 : mmKD 108 = 12 := by decide +kernel
theorem kd_109 : mmKD 109 = 1 := by decide +kernel
theorem kd_110 : mmKD 110 = 10 := by decide +kernel
theorem kd_111 : mmKD 111 = 11 := by decide +kernel
theorem kd_112 : mmKD 112 = 12 := by decide +kernel
theorem kd_113 : mmKD 113 = 1 := by decide +kernel
theorem kd_114 : mmKD 114 = 10 := by decide +kernel
theorem kd_115 : mmKD 115 = 11 := by decide +kernel
theorem kd_116 : mmKD 116 = 12 := by decide +kernel
theorem kd_117 : mmKD 117 = 1 := by decide +kernel
theorem kd_118 : mmKD 118 = 10 := by decide +kernel
theorem kd_119 : mmKD 119 = 11 := by decide +kernel
theorem kd_120 : mmKD 120 = 12 := by decide +kernel
theorem kd_121 : mmKD 121 = 1 := by decide +kernel
theorem kd_122 : mmKD 122 = 10 := by decide +kernel
theorem kd_123 : mmKD 123 = 11 := by decide +kernel
theorem kd_124 : mmKD 124 = 12 := by decide +kernel
theorem kd_125 : mmKD 125 = 6 := by decide +kernel
theorem kd_126 : mmKD 126 = 10 := by decide +kernel
theorem kd_127 : mmKD 127 = 6 := by decide +kernel
theorem kd_128 : mmKD 128 = 10 := by decide +kernel
theorem kd_129 : mmKD 129 = 2 := by decide +kernel
theorem kd_130 : mmKD 130 = 0 := by decide +kernel
theorem kd_131 : mmKD 131 = 2 := by decide +kernel
theorem kd_132 : mmKD 132 = 0 := by decide +kernel
theorem kd_133 : mmKD 133 = 2 := by decide +kernel
theorem kd_134 : mmKD 134 = 0 := by decide +kernel
theorem kd_135 : mmKD 135 = 2 := by decide +kernel
theorem kd_136 : mmKD 136 = 0 := by decide +kernel
theorem kd_137 : mmKD 137 = 2 := by decide +kernel
theorem kd_138 : mmKD 138 = 0 := by decide +kernel
theorem kd_139 : mmKD 139 = 2 := by decide +kernel
theorem kd_140 : mmKD 140 = 0 := by decide +kernel
theorem kd_141 : mmKD 141 = 5 := by decide +kernel
theorem kd_142 : mmKD 142 = 10 := by decide +kernel
theorem kd_143 : mmKD 143 = 0 := by decide +kernel
theorem kd_144 : mmKD 144 = 3 := by decide +kernel
theorem kd_145 : mmKD 145 = 10 := by decide +kernel
theorem kd_146 : mmKD 146 = 1 := by decide +kernel
theorem kd_147 : mmKD 147 = 10 := by decide +kernel
theorem kd_148 : mmKD 148 = 11 := by decide +kernel
theorem kd_149 : mmKD 149 = 12 := by decide +kernel
theorem kd_150 : mmKD 150 = 2 := by decide +kernel
theorem kd_151 : mmKD 151 = 0 := by decide +kernel
theorem kd_152 : mmKD 152 = 0 := by decide +kernel
theorem kd_153 : mmKD 153 = 0 := by decide +kernel
theorem kd_154 : mmKD 154 = 0 := by decide +kernel
theorem kd_155 : mmKD 155 = 10 := by decide +kernel
theorem kd_156 : mmKD 156 = 13 := by decide +kernel
theorem kd_157 : mmKD 157 = 10 := by decide +kernel
theorem kd_158 : mmKD 158 = 10 := by decide +kernel
theorem kd_159 : mmKD 159 = 10 := by decide +kernel
theorem ln_2 : mmLEN 2 = 12 := by decide +kernel
theorem ln_3 : mmLEN 3 = 2 := by decide +kernel
theorem ln_4 : mmLEN 4 = 4 := by decide +kernel
theorem ln_5 : mmLEN 5 = 4 := by decide +kernel
theorem ln_6 : mmLEN 6 = 6 := by decide +kernel
theorem ln_8 : mmLEN 8 = 40 := by decide +kernel
theorem ln_9 : mmLEN 9 = 40 := by decide +kernel
theorem ln_10 : mmLEN 10 = 40 := by decide +kernel
theorem ln_12 : mmLEN 12 = 40 := by decide +kernel
theorem ln_13 : mmLEN 13 = 40 := by decide +kernel
theorem ln_14 : mmLEN 14 = 40 := by decide +kernel
theorem ln_16 : mmLEN 16 = 40 := by decide +kernel
theorem ln_17 : mmLEN 17 = 40 := by decide +kernel
theorem ln_18 : mmLEN 18 = 40 := by decide +kernel
theorem ln_20 : mmLEN 20 = 40 := by decide +kernel
theorem ln_21 : mmLEN 21 = 40 := by decide +kernel
theorem ln_22 : mmLEN 22 = 40 := by decide +kernel
theorem ln_24 : mmLEN 24 = 40 := by decide +kernel
theorem ln_25 : mmLEN 25 = 40 := by decide +kernel
theorem ln_26 : mmLEN 26 = 40 := by decide +kernel
theorem ln_28 : mmLEN 28 = 40 := by decide +kernel
theorem ln_29 : mmLEN 29 = 40 := by decide +kernel
theorem ln_30 : mmLEN 30 = 40 := by decide +kernel
theorem ln_32 : mmLEN 32 = 40 := by decide +kernel
theorem ln_33 : mmLEN 33 = 40 := by decide +kernel
theorem ln_34 : mmLEN 34 = 40 := by decide +kernel
theorem ln_36 : mmLEN 36 = 40 := by decide +kernel
theorem ln_37 : mmLEN 37 = 40 := by decide +kernel
theorem ln_38 : mmLEN 38 = 40 := by decide +kernel
theorem ln_40 : mmLEN 40 = 40 := by decide +kernel
theorem ln_41 : mmLEN 41 = 40 := by decide +kernel
theorem ln_42 : mmLEN 42 = 40 := by decide +kernel
theorem ln_44 : mmLEN 44 = 40 := by decide +kernel
theorem ln_45 : mmLEN 45 = 40 := by decide +kernel
theorem ln_46 : mmLEN 46 = 40 := by decide +kernel
theorem ln_48 : mmLEN 48 = 40 := by decide +kernel
theorem ln_49 : mmLEN 49 = 40 := by decide +kernel
theorem ln_50 : mmLEN 50 = 40 := by decide +kernel
theorem ln_52 : mmLEN 52 = 40 := by decide +kernel
theorem ln_53 : mmLEN 53 = 40 := by decide +kernel
theorem ln_54 : mmLEN 54 = 40 := by decide +kernel
theorem ln_56 : mmLEN 56 = 40 := by decide +kernel
theorem ln_58 : mmLEN 58 = 40 := by decide +kernel
theorem ln_72 : mmLEN 72 = 12 := by decide +kernel
theorem ln_73 : mmLEN 73 = 2 := by decide +kernel
theorem ln_74 : mmLEN 74 = 4 := by decide +kernel
theorem ln_75 : mmLEN 75 = 4 := by decide +kernel
theorem ln_76 : mmLEN 76 = 6 := by decide +kernel
theorem ln_78 : mmLEN 78 = 40 := by decide +kernel
theorem ln_79 : mmLEN 79 = 40 := by decide +kernel
theorem ln_80 : mmLEN 80 = 40 := by decide +kernel
theorem ln_82 : mmLEN 82 = 40 := by decide +kernel
theorem ln_83 : mmLEN 83 = 40 := by decide +kernel
theorem ln_84 : mmLEN 84 = 40 := by decide +kernel
theorem ln_86 : mmLEN 86 = 40 := by decide +kernel
theorem ln_87 : mmLEN 87 = 40 := by decide +kernel
theorem ln_88 : mmLEN 88 = 40 := by decide +kernel
theorem ln_90 : mmLEN 90 = 40 := by decide +kernel
theorem ln_91 : mmLEN 91 = 40 := by decide +kernel
theorem ln_92 : mmLEN 92 = 40 := by decide +kernel
theorem ln_94 : mmLEN 94 = 40 := by decide +kernel
theorem ln_95 : mmLEN 95 = 40 := by decide +kernel
theorem ln_96 : mmLEN 96 = 40 := by decide +kernel
theorem ln_98 : mmLEN 98 = 40 := by decide +kernel
theorem ln_99 : mmLEN 99 = 40 := by decide +kernel
theorem ln_100 : mmLEN 100 = 40 := by decide +kernel
theorem ln_102 : mmLEN 102 = 40 := by decide +kernel
theorem ln_103 : mmLEN 103 = 40 := by decide +kernel
theorem ln_104 : mmLEN 104 = 40 := by decide +kernel
theorem ln_106 : mmLEN 106 = 40 := by decide +kernel
theorem ln_107 : mmLEN 107 = 40 := by decide +kernel
theorem ln_108 : mmLEN 108 = 40 := by decide +kernel
theorem ln_110 : mmLEN 110 = 40 := by decide +kernel
theorem ln_111 : mmLEN 111 = 40 := by decide +kernel
theorem ln_112 : mmLEN 112 = 40 := by decide +kernel
theorem ln_114 : mmLEN 114 = 40 := by decide +kernel
theorem ln_115 : mmLEN 115 = 40 := by decide +kernel
theorem ln_116 : mmLEN 116 = 40 := by decide +kernel
theorem ln_118 : mmLEN 118 = 40 := by decide +kernel
theorem ln_119 : mmLEN 119 = 40 := by decide +kernel
theorem ln_120 : mmLEN 120 = 40 := by decide +kernel
theorem ln_122 : mmLEN 122 = 40 := by decide +kernel
theorem ln_123 : mmLEN 123 = 40 := by decide +kernel
theorem ln_124 : mmLEN 124 = 40 := by decide +kernel
theorem ln_126 : mmLEN 126 = 40 := by decide +kernel
theorem ln_128 : mmLEN 128 = 40 := by decide +kernel
theorem ln_142 : mmLEN 142 = 100 := by decide +kernel
theorem ln_145 : mmLEN 145 = 1000 := by decide +kernel
theorem ln_147 : mmLEN 147 = 40 := by decide +kernel
theorem ln_148 : mmLEN 148 = 40 := by decide +kernel
theorem ln_149 : mmLEN 149 = 40 := by decide +kernel
theorem ln_155 : mmLEN 155 = 40 := by decide +kernel
theorem ln_156 : mmLEN 156 = 40 := by decide +kernel
theorem ln_157 : mmLEN 157 = 40 := by decide +kernel
theorem ln_158 : mmLEN 158 = 64 := by decide +kernel
theorem ln_159 : mmLEN 159 = 64 := by decide +kernel
theorem kfa_1_2 : ∀ o, o < 160 → mmKD o = 1 → mmKD (o + 1) = 10 ∧ mmLEN (o + 1) = 40 := by decide +kernel
theorem kf_1_2 {o : Nat} (h : mmKD o = 1) : mmKD (o + 1) = 10 := (kfa_1_2 o (mmKD_lt (by omega)) h).1
theorem lf_1_2 {o : Nat} (h : mmKD o = 1) : mmLEN (o + 1) = 40 := (kfa_1_2 o (mmKD_lt (by omega)) h).2
theorem kfa_1_3 : ∀ o, o < 160 → mmKD o = 1 → mmKD (o + 2) = 11 ∧ mmLEN (o + 2) = 40 := by decide +kernel
theorem kf_1_3 {o : Nat} (h : mmKD o = 1) : mmKD (o + 2) = 11 := (kfa_1_3 o (mmKD_lt (by omega)) h).1
theorem lf_1_3 {o : Nat} (h : mmKD o = 1) : mmLEN (o + 2) = 40 := (kfa_1_3 o (mmKD_lt (by omega)) h).2
theorem kfa_1_4 : ∀ o, o < 160 → mmKD o = 1 → mmKD (o + 3) = 12 ∧ mmLEN (o + 3) = 40 := by decide +kernel
theorem kf_1_4 {o : Nat} (h : mmKD o = 1) : mmKD (o + 3) = 12 := (kfa_1_4 o (mmKD_lt (by omega)) h).1
theorem lf_1_4 {o : Nat} (h : mmKD o = 1) : mmLEN (o + 3) = 40 := (kfa_1_4 o (mmKD_lt (by omega)) h).2
theorem kfa_2_2 : ∀ o, o < 160 → mmKD o = 2 → mmKD (o + 1) = 0 ∧ mmLEN (o + 1) = 0 := by decide +kernel
theorem kf_2_2 {o : Nat} (h : mmKD o = 2) : mmKD (o + 1) = 0 := (kfa_2_2 o (mmKD_lt (by omega)) h).1
theorem kfa_3_1 : ∀ o, o < 160 → mmKD o = 3 → mmKD (o + 1) = 10 ∧ mmLEN (o + 1) = 1000 := by decide +kernel
theorem kf_3_1 {o : Nat} (h : mmKD o = 3) : mmKD (o + 1) = 10 := (kfa_3_1 o (mmKD_lt (by omega)) h).1
theorem lf_3_1 {o : Nat} (h : mmKD o = 3) : mmLEN (o + 1) = 1000 := (kfa_3_1 o (mmKD_lt (by omega)) h).2
theorem kfa_4_4 : ∀ o, o < 160 → mmKD o = 4 → mmKD (o + 1) = 14 ∧ mmLEN (o + 1) = 12 := by decide +kernel
theorem kf_4_4 {o : Nat} (h : mmKD o = 4) : mmKD (o + 1) = 14 := (kfa_4_4 o (mmKD_lt (by omega)) h).1
theorem lf_4_4 {o : Nat} (h : mmKD o = 4) : mmLEN (o + 1) = 12 := (kfa_4_4 o (mmKD_lt (by omega)) h).2
theorem kfa_4_5 : ∀ o, o < 160 → mmKD o = 4 → mmKD (o + 2) = 15 ∧ mmLEN (o + 2) = 2 := by decide +kernel
theorem kf_4_5 {o : Nat} (h : mmKD o = 4) : mmKD (o + 2) = 15 := (kfa_4_5 o (mmKD_lt (by omega)) h).1
theorem lf_4_5 {o : Nat} (h : mmKD o = 4) : mmLEN (o + 2) = 2 := (kfa_4_5 o (mmKD_lt (by omega)) h).2
theorem kfa_4_6 : ∀ o, o < 160 → mmKD o = 4 → mmKD (o + 3) = 10 ∧ mmLEN (o + 3) = 4 := by decide +kernel
theorem kf_4_6 {o : Nat} (h : mmKD o = 4) : mmKD (o + 3) = 10 := (kfa_4_6 o (mmKD_lt (by omega)) h).1
theorem lf_4_6 {o : Nat} (h : mmKD o = 4) : mmLEN (o + 3) = 4 := (kfa_4_6 o (mmKD_lt (by omega)) h).2
theorem kfa_4_7 : ∀ o, o < 160 → mmKD o = 4 → mmKD (o + 4) = 13 ∧ mmLEN (o + 4) = 4 := by decide +kernel
theorem kf_4_7 {o : Nat} (h : mmKD o = 4) : mmKD (o + 4) = 13 := (kfa_4_7 o (mmKD_lt (by omega)) h).1
theorem lf_4_7 {o : Nat} (h : mmKD o = 4) : mmLEN (o + 4) = 4 := (kfa_4_7 o (mmKD_lt (by omega)) h).2
theorem kfa_4_8 : ∀ o, o < 160 → mmKD o = 4 → mmKD (o + 5) = 16 ∧ mmLEN (o + 5) = 6 := by decide +kernel
theorem kf_4_8 {o : Nat} (h : mmKD o = 4) : mmKD (o + 5) = 16 := (kfa_4_8 o (mmKD_lt (by omega)) h).1
theorem lf_4_8 {o : Nat} (h : mmKD o = 4) : mmLEN (o + 5) = 6 := (kfa_4_8 o (mmKD_lt (by omega)) h).2
theorem kfa_5_2 : ∀ o, o < 160 → mmKD o = 5 → mmKD (o + 1) = 10 ∧ mmLEN (o + 1) = 100 := by decide +kernel
theorem kf_5_2 {o : Nat} (h : mmKD o = 5) : mmKD (o + 1) = 10 := (kfa_5_2 o (mmKD_lt (by omega)) h).1
theorem lf_5_2 {o : Nat} (h : mmKD o = 5) : mmLEN (o + 1) = 100 := (kfa_5_2 o (mmKD_lt (by omega)) h).2
theorem kfa_5_3 : ∀ o, o < 160 → mmKD o = 5 → mmKD (o + 2) = 0 ∧ mmLEN (o + 2) = 0 := by decide +kernel
theorem kf_5_3 {o : Nat} (h : mmKD o = 5) : mmKD (o + 2) = 0 := (kfa_5_3 o (mmKD_lt (by omega)) h).1
theorem kfa_6_1 : ∀ o, o < 160 → mmKD o = 6 → mmKD (o + 1) = 10 ∧ mmLEN (o + 1) = 40 := by decide +kernel
theorem kf_6_1 {o : Nat} (h : mmKD o = 6) : mmKD (o + 1) = 10 := (kfa_6_1 o (mmKD_lt (by omega)) h).1
theorem lf_6_1 {o : Nat} (h : mmKD o = 6) : mmLEN (o + 1) = 40 := (kfa_6_1 o (mmKD_lt (by omega)) h).2
theorem kea_14 : ∀ o, o < 160 → mmKD o = 14 → ∀ i, i < mmLEN o → mmKD (o + 5 + 4 * i) = 1 := by decide +kernel
theorem ke_14 {o : Nat} {j : Int32} (h : mmKD o = 14) (hv : vp_in j (mmLEN o)) : mmKD (o + 5 + 4 * j.toNatClampNeg) = 1 := kea_14 o (mmKD_lt (by omega)) h _ (by unfold vp_in at hv; omega)
theorem kea_15 : ∀ o, o < 160 → mmKD o = 15 → ∀ i, i < mmLEN o → mmKD (o + 52 + 2 * i) = 6 := by decide +kernel
theorem ke_15 {o : Nat} {j : Int32} (h : mmKD o = 15) (hv : vp_in j (mmLEN o)) : mmKD (o + 52 + 2 * j.toNatClampNeg) = 6 := kea_15 o (mmKD_lt (by omega)) h _ (by unfold vp_in at hv; omega)
theorem kea_16 : ∀ o, o < 160 → mmKD o = 16 → ∀ i, i < mmLEN o → mmKD (o + 53 + 2 * i) = 2 := by decide +kernel
theorem ke_16 {o : Nat} {j : Int32} (h : mmKD o = 16) (hv : vp_in j (mmLEN o)) : mmKD (o + 53 + 2 * j.toNatClampNeg) = 2 := kea_16 o (mmKD_lt (by omega)) h _ (by unfold vp_in at hv; omega)
theorem vp_l {o n : Nat} {j : Int32} (e : mmLEN o = n) (h : vp_in j n) : vp_in j (mmLEN o) := e ▸ h
theorem vp_lit {x : Int32} {n : Nat} (h : 0 ≤ x.toInt ∧ x.toInt < n) : vp_in x n := vp_in_iff.mpr h
theorem vp_le {n m : Nat} {j : Int32} (h : vp_in j n) (hm : n ≤ m) : vp_in j m := by rw [vp_in_iff] at h ⊢; omega
theorem vp_mk {x c : Int32} {n : Nat} (h1 : ¬ x < 0) (h2 : ¬ c ≤ x) (hc : c.toInt ≤ n) : vp_in x n := by
  rw [vp_in_iff]
  rw [Int32.lt_iff_toInt_lt] at h1
  rw [Int32.le_iff_toInt_le] at h2
  have h3 : (0 : Int32).toInt = 0 := rfl
  omega
theorem cpl_l {o n a b : Nat} (e : mmLEN o = n) (h : a + b ≤ n) : a + b ≤ mmLEN o := e ▸ h
end
section
/-! ===== the methods ===== -/
def M_J6_compare_7cf53 : mmMi := (yJ6_compare_7cf53, cJ6_compare_7cf53, 2, (some .int))
def M_J13_compare_74951 : mmMi := (yJ13_compare_74951, cJ13_compare_74951, 4, (some .int))
def M_X1_renew : mmMi := (yX1_renew, cX1_renew, 4, none)
def M_X6_append : mmMi := (yX6_append, cX6_append, 4, none)
def M_X6_resize : mmMi := (yX6_resize, cX6_resize, 5, none)
def M_X4_resize : mmMi := (yX4_resize, cX4_resize, 3, none)
def M_X7_size : mmMi := (yX7_size, cX7_size, 3, (some .int))
def M_X1_begin : mmMi := (yX1_begin, cX1_begin, 3, none)
def M_X4_nextColumn : mmMi := (yX4_nextColumn, cX4_nextColumn, 1, (some (.object RX1)))
def M_X7_isKind : mmMi := (yX7_isKind, cX7_isKind, 1, (some .boolean))
def M_X7_column : mmMi := (yX7_column, cX7_column, 3, (some .int))
def M_X7_refused : mmMi := (yX7_refused, cX7_refused, 2, (some .int))
def M_X7_columnRefusal : mmMi := (yX7_columnRefusal, cX7_columnRefusal, 2, (some .int))
def M_X7_drop : mmMi := (yX7_drop, cX7_drop, 4, (some .int))
def M_X7_kindOf : mmMi := (yX7_kindOf, cX7_kindOf, 3, (some .int))
def M_X1_load : mmMi := (yX1_load, cX1_load, 3, none)
def M_X1_store : mmMi := (yX1_store, cX1_store, 3, none)
def M_X7_isRow : mmMi := (yX7_isRow, cX7_isRow, 2, (some .boolean))
def M_X7_swap : mmMi := (yX7_swap, cX7_swap, 6, (some .int))
def M_X0_isSame : mmMi := (yX0_isSame, cX0_isSame, 2, (some .boolean))
def M_X7_isSame : mmMi := (yX7_isSame, cX7_isSame, 4, (some .boolean))
def M_X7_differs : mmMi := (yX7_differs, cX7_differs, 4, (some .int))
def M_X6_showAll : mmMi := (yX6_showAll, cX6_showAll, 2, none)
def M_X7_isView : mmMi := (yX7_isView, cX7_isView, 1, (some .boolean))
def M_X7_view : mmMi := (yX7_view, cX7_view, 2, (some .int))
def M_X7_viewed : mmMi := (yX7_viewed, cX7_viewed, 4, (some .int))
def M_X4_addKey : mmMi := (yX4_addKey, cX4_addKey, 3, none)
def M_X7_key : mmMi := (yX7_key, cX7_key, 4, (some .int))
def M_X0_family : mmMi := (yX0_family, cX0_family, 1, (some .int))
def M_X0_isNumber : mmMi := (yX0_isNumber, cX0_isNumber, 1, (some .boolean))
def M_X0_place : mmMi := (yX0_place, cX0_place, 1, (some .long))
def M_X0_rankAgainst : mmMi := (yX0_rankAgainst, cX0_rankAgainst, 2, (some .int))
def M_X7_isAhead : mmMi := (yX7_isAhead, cX7_isAhead, 6, (some .boolean))
def M_X7_insertInOrder : mmMi := (yX7_insertInOrder, cX7_insertInOrder, 5, none)
def M_X7_sort : mmMi := (yX7_sort, cX7_sort, 5, (some .int))
def M_X0_copyFrom : mmMi := (yX0_copyFrom, cX0_copyFrom, 2, none)
def M_X0_lowestBits : mmMi := (yX0_lowestBits, cX0_lowestBits, 3, (some .long))
def M_X0_setReal : mmMi := (yX0_setReal, cX0_setReal, 4, none)
def M_X0_setWhole : mmMi := (yX0_setWhole, cX0_setWhole, 4, none)
def M_X0_turnReal : mmMi := (yX0_turnReal, cX0_turnReal, 4, none)
def M_X0_turnWhole : mmMi := (yX0_turnWhole, cX0_turnWhole, 4, none)
def M_X0_turnInto : mmMi := (yX0_turnInto, cX0_turnInto, 2, none)
def M_X7_boxKindIn : mmMi := (yX7_boxKindIn, cX7_boxKindIn, 1, (some .int))
def M_X7_comesBack : mmMi := (yX7_comesBack, cX7_comesBack, 3, (some .boolean))
def M_X7_firstLost : mmMi := (yX7_firstLost, cX7_firstLost, 4, (some .int))
def M_X7_loses : mmMi := (yX7_loses, cX7_loses, 4, (some .int))
def M_X7_casts : mmMi := (yX7_casts, cX7_casts, 5, (some .int))
def M_X0_isBox : mmMi := (yX0_isBox, cX0_isBox, 1, (some .boolean))
def M_X7_cast : mmMi := (yX7_cast, cX7_cast, 8, (some .int))
def M_X1_take : mmMi := (yX1_take, cX1_take, 5, none)
def M_X1_copyFrom : mmMi := (yX1_copyFrom, cX1_copyFrom, 2, none)
def M_X2_copyFrom : mmMi := (yX2_copyFrom, cX2_copyFrom, 2, none)
def M_X6_copyFrom : mmMi := (yX6_copyFrom, cX6_copyFrom, 2, none)
def M_X4_copyFrom : mmMi := (yX4_copyFrom, cX4_copyFrom, 3, none)
def M_X7_image : mmMi := (yX7_image, cX7_image, 1, (some .int))
def M_X7_undo : mmMi := (yX7_undo, cX7_undo, 1, (some .int))
def M_X7_count : mmMi := (yX7_count, cX7_count, 2, (some .int))
def M_X5_add : mmMi := (yX5_add, cX5_add, 2, none)
def M_X7_feed : mmMi := (yX7_feed, cX7_feed, 2, (some .int))
def M_X5_sign : mmMi := (yX5_sign, cX5_sign, 1, (some .int))
def M_X5_skip : mmMi := (yX5_skip, cX5_skip, 2, (some .boolean))
def M_X0_setEmpty : mmMi := (yX0_setEmpty, cX0_setEmpty, 1, none)
def M_X0_make : mmMi := (yX0_make, cX0_make, 4, none)
def M_X5_isDigit : mmMi := (yX5_isDigit, cX5_isDigit, 1, (some .boolean))
def M_X5_takeBox : mmMi := (yX5_takeBox, cX5_takeBox, 6, (some .boolean))
def M_J0_charAt_5068e : mmMi := (yJ0_charAt_5068e, cJ0_charAt_5068e, 2, (some .char))
def M_X5_takeKind : mmMi := (yX5_takeKind, cX5_takeKind, 3, (some .int))
def M_X0_setWord : mmMi := (yX0_setWord, cX0_setWord, 3, none)
def M_X5_isLetter : mmMi := (yX5_isLetter, cX5_isLetter, 1, (some .boolean))
def M_X5_takeWord : mmMi := (yX5_takeWord, cX5_takeWord, 3, (some .boolean))
def M_X5_takeItem : mmMi := (yX5_takeItem, cX5_takeItem, 3, (some .boolean))
def M_X5_takeItems : mmMi := (yX5_takeItems, cX5_takeItems, 4, (some .boolean))
def M_X5_parse : mmMi := (yX5_parse, cX5_parse, 4, (some .boolean))
def M_X7_read : mmMi := (yX7_read, cX7_read, 2, (some .int))
def M_X0_realBits : mmMi := (yX0_realBits, cX0_realBits, 12, (some .long))
def M_X0_bits : mmMi := (yX0_bits, cX0_bits, 1, (some .long))
def M_X7_widens : mmMi := (yX7_widens, cX7_widens, 2, (some .boolean))
def M_X7_askRefusal : mmMi := (yX7_askRefusal, cX7_askRefusal, 4, (some .int))
def M_X7_ask : mmMi := (yX7_ask, cX7_ask, 6, (some .int))
def M_X7_got : mmMi := (yX7_got, cX7_got, 1, (some .long))
end
section
theorem g_J6_compare_7cf53 : mmGd M_J6_compare_7cf53 true 2 := ⟨mm_in 390 (by decide +kernel) rfl, mm_in 28 (by decide +kernel) rfl, by decide +kernel, by decide, (show _ from mm_in 389 (by decide +kernel) rfl)⟩
def S_J6_compare_7cf53_0 : List mmMI := [(0, .iload_n 0, 1, 0, 0, 0, .null, mm0), (1, .iload_n 1, 1, 0, 0, 0, .null, mm0), (2, .if_icmp .ge 7, 3, 0, 9, 0, .null, mm0)]
def S_J6_compare_7cf53_5 : List mmMI := [(5, .iconst (-1), 1, 0, 0, 0, .int (-1 : Int32), mm0), (6, .goto 13, 3, 0, 19, 0, .null, mm0)]
def S_J6_compare_7cf53_9 : List mmMI := [(9, .iload_n 0, 1, 0, 0, 0, .null, mm0), (10, .iload_n 1, 1, 0, 0, 0, .null, mm0), (11, .if_icmp .ne 7, 3, 0, 18, 0, .null, mm0)]
def S_J6_compare_7cf53_14 : List mmMI := [(14, .iconst 0, 1, 0, 0, 0, .int (0 : Int32), mm0), (15, .goto 4, 3, 0, 19, 0, .null, mm0)]
def S_J6_compare_7cf53_18 : List mmMI := [(18, .iconst 1, 1, 0, 0, 0, .int (1 : Int32), mm0)]
def S_J6_compare_7cf53_19 : List mmMI := [(19, .ireturn, 1, 0, 0, 0, .null, mm0)]
def BL_J6_compare_7cf53 : mmBl := [(0, S_J6_compare_7cf53_0, 5), (5, S_J6_compare_7cf53_5, 9), (9, S_J6_compare_7cf53_9, 14), (14, S_J6_compare_7cf53_14, 18), (18, S_J6_compare_7cf53_18, 19), (19, S_J6_compare_7cf53_19, 20)]
theorem OB_J6_compare_7cf53 : mmOkB M_J6_compare_7cf53 BL_J6_compare_7cf53 = true := by decide +kernel
theorem OH_J6_compare_7cf53_0 : mmOkB M_J6_compare_7cf53 [(0, S_J6_compare_7cf53_0, 5)] = true := by decide +kernel
theorem s0_J6_compare_7cf53_0 {d : Nat} {P : Option Value → mmMem → Prop} {μ : mmMem} {x0 : Int32} {x1 : Int32} (h : (x1 ≤ x0 → (¬ x0 = x1 → P (some (.int (1 : Int32))) μ) ∧ (x0 = x1 → P (some (.int (0 : Int32))) μ)) ∧ (¬ x1 ≤ x0 → P (some (.int (-1 : Int32))) μ)) : mmEnds d M_J6_compare_7cf53 0 [.int x0, .int x1] [] μ P := mm_tree 7 OB_J6_compare_7cf53 OH_J6_compare_7cf53_0 h
theorem s_J6_compare_7cf53_0 {d : Nat} {P : Option Value → mmMem → Prop} {μ : mmMem} {x0 : Int32} {x1 : Int32} (hd : 0 ≤ d)  (h : (x1 ≤ x0 → (¬ x0 = x1 → P (some (.int (1 : Int32))) μ) ∧ (x0 = x1 → P (some (.int (0 : Int32))) μ)) ∧ (¬ x1 ≤ x0 → P (some (.int (-1 : Int32))) μ)) : mmEnds d M_J6_compare_7cf53 0 [.int x0, .int x1] [] μ P := s0_J6_compare_7cf53_0 (⟨fun q1 => (have h3 := (h).1 q1; ⟨fun q5 => (have h7 := (h3).1 q5; h7), fun q6 => (have h8 := (h3).2 q6; h8)⟩), fun q2 => (have h4 := (h).2 q2; h4)⟩)
theorem u_J6_compare_7cf53 {d : Nat} {K : Int32 → mmMem → Prop} {μ : mmMem} {x0 : Int32} {x1 : Int32} (hd : 1 ≤ d)  (h : (x1 ≤ x0 → (¬ x0 = x1 → K (1 : Int32) μ) ∧ (x0 = x1 → K (0 : Int32) μ)) ∧ (¬ x1 ≤ x0 → K (-1 : Int32) μ)) : mmCI d M_J6_compare_7cf53 true 2 [.int x0, .int x1] μ K :=
  mmCU.of (d' := d - 1) g_J6_compare_7cf53 (by decide +kernel) rfl rfl (by omega) (s_J6_compare_7cf53_0 (d := d - 1) (by omega)  h)
theorem g_J13_compare_74951 : mmGd M_J13_compare_74951 true 2 := ⟨mm_in 403 (by decide +kernel) rfl, mm_in 29 (by decide +kernel) rfl, by decide +kernel, by decide, (show _ from mm_in 402 (by decide +kernel) rfl)⟩
def S_J13_compare_74951_0 : List mmMI := [(0, .lload_n 0, 1, 0, 0, 0, .null, mm0), (1, .lload_n 2, 1, 0, 0, 0, .null, mm0), (2, .lcmp, 1, 0, 0, 0, .null, mm0), (3, .ifCond .ge 7, 3, 0, 10, 0, .null, mm0)]
def S_J13_compare_74951_6 : List mmMI := [(6, .iconst (-1), 1, 0, 0, 0, .int (-1 : Int32), mm0), (7, .goto 14, 3, 0, 21, 0, .null, mm0)]
def S_J13_compare_74951_10 : List mmMI := [(10, .lload_n 0, 1, 0, 0, 0, .null, mm0), (11, .lload_n 2, 1, 0, 0, 0, .null, mm0), (12, .lcmp, 1, 0, 0, 0, .null, mm0), (13, .ifCond .ne 7, 3, 0, 20, 0, .null, mm0)]
def S_J13_compare_74951_16 : List mmMI := [(16, .iconst 0, 1, 0, 0, 0, .int (0 : Int32), mm0), (17, .goto 4, 3, 0, 21, 0, .null, mm0)]
def S_J13_compare_74951_20 : List mmMI := [(20, .iconst 1, 1, 0, 0, 0, .int (1 : Int32), mm0)]
def S_J13_compare_74951_21 : List mmMI := [(21, .ireturn, 1, 0, 0, 0, .null, mm0)]
def BL_J13_compare_74951 : mmBl := [(0, S_J13_compare_74951_0, 6), (6, S_J13_compare_74951_6, 10), (10, S_J13_compare_74951_10, 16), (16, S_J13_compare_74951_16, 20), (20, S_J13_compare_74951_20, 21), (21, S_J13_compare_74951_21, 22)]
theorem OB_J13_compare_74951 : mmOkB M_J13_compare_74951 BL_J13_compare_74951 = true := by decide +kernel
theorem OH_J13_compare_74951_0 : mmOkB M_J13_compare_74951 [(0, S_J13_compare_74951_0, 6)] = true := by decide +kernel
theorem s0_J13_compare_74951_0 {d : Nat} {P : Option Value → mmMem → Prop} {μ : mmMem} {x0 : Int64} {x2 : Int64} (h : ((0 : Int32) ≤ (lg_cmp x0 x2) → (¬ (lg_cmp x0 x2) = (0 : Int32) → P (some (.int (1 : Int32))) μ) ∧ ((lg_cmp x0 x2) = (0 : Int32) → P (some (.int (0 : Int32))) μ)) ∧ (¬ (0 : Int32) ≤ (lg_cmp x0 x2) → P (some (.int (-1 : Int32))) μ)) : mmEnds d M_J13_compare_74951 0 [.long x0, .retAddr 7, .long x2, .retAddr 7] [] μ P := mm_tree 7 OB_J13_compare_74951 OH_J13_compare_74951_0 h
theorem s_J13_compare_74951_0 {d : Nat} {P : Option Value → mmMem → Prop} {μ : mmMem} {x0 : Int64} {x2 : Int64} (hd : 0 ≤ d)  (h : ((0 : Int32) ≤ (lg_cmp x0 x2) → (¬ (lg_cmp x0 x2) = (0 : Int32) → P (some (.int (1 : Int32))) μ) ∧ ((lg_cmp x0 x2) = (0 : Int32) → P (some (.int (0 : Int32))) μ)) ∧ (¬ (0 : Int32) ≤ (lg_cmp x0 x2) → P (some (.int (-1 : Int32))) μ)) : mmEnds d M_J13_compare_74951 0 [.long x0, .retAddr 7, .long x2, .retAddr 7] [] μ P := s0_J13_compare_74951_0 (⟨fun q1 => (have h3 := (h).1 q1; ⟨fun q5 => (have h7 := (h3).1 q5; h7), fun q6 => (have h8 := (h3).2 q6; h8)⟩), fun q2 => (have h4 := (h).2 q2; h4)⟩)
theorem u_J13_compare_74951 {d : Nat} {K : Int32 → mmMem → Prop} {μ : mmMem} {x0 : Int64} {x2 : Int64} (hd : 1 ≤ d)  (h : ((0 : Int32) ≤ (lg_cmp x0 x2) → (¬ (lg_cmp x0 x2) = (0 : Int32) → K (1 : Int32) μ) ∧ ((lg_cmp x0 x2) = (0 : Int32) → K (0 : Int32) μ)) ∧ (¬ (0 : Int32) ≤ (lg_cmp x0 x2) → K (-1 : Int32) μ)) : mmCI d M_J13_compare_74951 true 2 [.long x0, .long x2] μ K :=
  mmCU.of (d' := d - 1) g_J13_compare_74951 (by decide +kernel) rfl rfl (by omega) (s_J13_compare_74951_0 (d := d - 1) (by omega)  h)
theorem g_X1_renew : mmGd M_X1_renew false 2 := ⟨mm_in 273 (by decide +kernel) rfl, mm_in 12 (by decide +kernel) rfl, by decide +kernel, by decide, ⟨mm_in 271 (by decide +kernel) rfl, mm_in 272 (by decide +kernel) rfl⟩⟩
def S_X1_renew_0 : List mmMI := [(0, .iload_n 1, 1, 0, 0, 0, .null, mm0), (1, .istore_n 3, 1, 0, 0, 0, .null, mm0)]
def S_X1_renew_2 : List mmMI := [(2, .iload_n 3, 1, 0, 0, 0, .null, mm0), (3, .ifCond .lt 57, 3, 0, 60, 0, .null, mm0)]
def S_X1_renew_6 : List mmMI := [(6, .iload_n 3, 1, 0, 0, 0, .null, mm0), (7, .iload_n 2, 1, 0, 0, 0, .null, mm0), (8, .if_icmp .ge 52, 3, 0, 60, 0, .null, mm0)]
def S_X1_renew_11 : List mmMI := [(11, .iload_n 3, 1, 0, 0, 0, .null, mm0), (12, .bipush 40, 2, 0, 0, 0, .int (40 : Int32), mm0), (14, .if_icmp .ge 46, 3, 0, 60, 0, .null, mm0)]
def S_X1_renew_17 : List mmMI := [(17, .aload_n 0, 1, 0, 0, 0, .null, mm0), (18, .getfield 9, 3, 60, 1, 2, .null, mm0), (21, .iload_n 3, 1, 0, 0, 0, .null, mm0), (22, .aload_n 0, 1, 0, 0, 0, .null, mm0), (23, .getfield 37, 3, 55, 1, 0, .null, mm0), (26, .bipush 7, 2, 0, 0, 0, .int (7 : Int32), mm0), (28, .if_icmp .gt 10, 3, 0, 38, 0, .null, mm0)]
def S_X1_renew_31 : List mmMI := [(31, .aload_n 0, 1, 0, 0, 0, .null, mm0), (32, .getfield 37, 3, 55, 1, 0, .null, mm0), (35, .goto 4, 3, 0, 39, 0, .null, mm0)]
def S_X1_renew_38 : List mmMI := [(38, .iconst (-1), 1, 0, 0, 0, .int (-1 : Int32), mm0)]
def S_X1_renew_39 : List mmMI := [(39, .iastore, 1, 0, 0, 0, .null, mm0), (40, .aload_n 0, 1, 0, 0, 0, .null, mm0), (41, .getfield 15, 3, 61, 1, 3, .null, mm0), (44, .iload_n 3, 1, 0, 0, 0, .null, mm0), (45, .lconst 0, 1, 0, 0, 0, .long (0 : Int64), mm0), (46, .lastore, 1, 0, 0, 0, .null, mm0), (47, .aload_n 0, 1, 0, 0, 0, .null, mm0), (48, .getfield 19, 3, 62, 1, 4, .null, mm0), (51, .iload_n 3, 1, 0, 0, 0, .null, mm0), (52, .dconst 0, 1, 0, 0, 0, .double FP.dconst0, mm0), (53, .dastore, 1, 0, 0, 0, .null, mm0), (54, .iinc 3 1, 3, 0, 0, 0, .int (1 : Int32), mm0), (57, .goto (-55), 3, 0, 2, 0, .null, mm0)]
def S_X1_renew_60 : List mmMI := [(60, .return_, 1, 0, 0, 0, .null, mm0)]
def BL_X1_renew : mmBl := [(0, S_X1_renew_0, 2), (6, S_X1_renew_6, 11), (11, S_X1_renew_11, 17), (17, S_X1_renew_17, 31), (31, S_X1_renew_31, 38), (38, S_X1_renew_38, 39), (39, S_X1_renew_39, 60), (60, S_X1_renew_60, 61)]
theorem OB_X1_renew : mmOkB M_X1_renew BL_X1_renew = true := by decide +kernel
theorem OH_X1_renew_0 : mmOkB M_X1_renew [(0, S_X1_renew_0, 2)] = true := by decide +kernel
theorem s0_X1_renew_0 {d : Nat} {P : Option Value → mmMem → Prop} {μ : mmMem} {a0 : Nat} {x1 : Int32} {x2 : Int32} (h : mmEnds d M_X1_renew 2 [.ref a0, .int x1, .int x2, .int x1] [] μ P) : mmEnds d M_X1_renew 0 [.ref a0, .int x1, .int x2, .retAddr 7] [] μ P := mm_tree 9 OB_X1_renew OH_X1_renew_0 h
theorem s_X1_renew_0 {d : Nat} {P : Option Value → mmMem → Prop} {μ : mmMem} {a0 : Nat} {x1 : Int32} {x2 : Int32} (hd : 0 ≤ d) (k0 : mmKD a0 = 1) (h : mmEnds d M_X1_renew 2 [.ref a0, .int x1, .int x2, .int x1] [] μ P) : mmEnds d M_X1_renew 0 [.ref a0, .int x1, .int x2, .retAddr 7] [] μ P := s0_X1_renew_0 h
theorem OH_X1_renew_2 : mmOkB M_X1_renew [(2, S_X1_renew_2, 6)] = true := by decide +kernel
set_option maxRecDepth 10000 in
theorem s0_X1_renew_2 {d : Nat} {P : Option Value → mmMem → Prop} {μ : mmMem} {a0 : Nat} {x1 : Int32} {x2 : Int32} {x3 : Int32} (h : (x3 < (0 : Int32) → P none μ) ∧ (¬ x3 < (0 : Int32) → (x2 ≤ x3 → P none μ) ∧ (¬ x2 ≤ x3 → ((40 : Int32) ≤ x3 → P none μ) ∧ (¬ (40 : Int32) ≤ x3 → (mmKD a0 = 1) ∧ ((mmKD a0 = 1) ∧ (((7 : Int32) < (μ.1 a0 0) → (mmKD (a0 + 1) = 10) ∧ ((vp_in x3 (mmLEN (a0 + 1))) ∧ ((mmKD a0 = 1) ∧ ((mmKD (a0 + 2) = 11) ∧ ((vp_in x3 (mmLEN (a0 + 2))) ∧ ((mmKD a0 = 1) ∧ ((mmKD (a0 + 3) = 12) ∧ ((vp_in x3 (mmLEN (a0 + 3))) ∧ (mmEnds d M_X1_renew 2 [.ref a0, .int x1, .int x2, .int (x3 + (1 : Int32))] [] (sD (sJ (sI μ (a0 + 1) x3.toNatClampNeg (-1 : Int32)) (a0 + 2) x3.toNatClampNeg (0 : Int64)) (a0 + 3) x3.toNatClampNeg FP.dconst0) P))))))))) ∧ (¬ (7 : Int32) < (μ.1 a0 0) → (mmKD a0 = 1) ∧ ((mmKD (a0 + 1) = 10) ∧ ((vp_in x3 (mmLEN (a0 + 1))) ∧ ((mmKD a0 = 1) ∧ ((mmKD (a0 + 2) = 11) ∧ ((vp_in x3 (mmLEN (a0 + 2))) ∧ ((mmKD a0 = 1) ∧ ((mmKD (a0 + 3) = 12) ∧ ((vp_in x3 (mmLEN (a0 + 3))) ∧ (mmEnds d M_X1_renew 2 [.ref a0, .int x1, .int x2, .int (x3 + (1 : Int32))] [] (sD (sJ (sI μ (a0 + 1) x3.toNatClampNeg (μ.1 a0 0)) (a0 + 2) x3.toNatClampNeg (0 : Int64)) (a0 + 3) x3.toNatClampNeg FP.dconst0) P)))))))))))))))) : mmEnds d M_X1_renew 2 [.ref a0, .int x1, .int x2, .int x3] [] μ P := mm_tree 9 OB_X1_renew OH_X1_renew_2 h
theorem s_X1_renew_2 {d : Nat} {P : Option Value → mmMem → Prop} {μ : mmMem} {a0 : Nat} {x1 : Int32} {x2 : Int32} {x3 : Int32} (hd : 0 ≤ d) (k0 : mmKD a0 = 1) (h : (x3 < (0 : Int32) → P none μ) ∧ (¬ x3 < (0 : Int32) → (x2 ≤ x3 → P none μ) ∧ (¬ x2 ≤ x3 → ((40 : Int32) ≤ x3 → P none μ) ∧ (¬ (40 : Int32) ≤ x3 → ((7 : Int32) < (μ.1 a0 0) → mmEnds d M_X1_renew 2 [.ref a0, .int x1, .int x2, .int (x3 + (1 : Int32))] [] (sD (sJ (sI μ (a0 + 1) x3.toNatClampNeg (-1 : Int32)) (a0 + 2) x3.toNatClampNeg (0 : Int64)) (a0 + 3) x3.toNatClampNeg FP.dconst0) P) ∧ (¬ (7 : Int32) < (μ.1 a0 0) → mmEnds d M_X1_renew 2 [.ref a0, .int x1, .int x2, .int (x3 + (1 : Int32))] [] (sD (sJ (sI μ (a0 + 1) x3.toNatClampNeg (μ.1 a0 0)) (a0 + 2) x3.toNatClampNeg (0 : Int64)) (a0 + 3) x3.toNatClampNeg FP.dconst0) P))))) : mmEnds d M_X1_renew 2 [.ref a0, .int x1, .int x2, .int x3] [] μ P := s0_X1_renew_2 (⟨fun q1 => (have h3 := (h).1 q1; h3), fun q2 => (have h4 := (h).2 q2; ⟨fun q5 => (have h7 := (h4).1 q5; h7), fun q6 => (have h8 := (h4).2 q6; ⟨fun q9 => (have h11 := (h8).1 q9; h11), fun q10 => (have h12 := (h8).2 q10; ⟨k0, ⟨k0, ⟨fun q13 => (have h15 := (h12).1 q13; ⟨(kf_1_2 k0), ⟨(vp_l (lf_1_2 k0) (vp_mk q2 q10 (by decide))), ⟨k0, ⟨(kf_1_3 k0), ⟨(vp_l (lf_1_3 k0) (vp_mk q2 q10 (by decide))), ⟨k0, ⟨(kf_1_4 k0), ⟨(vp_l (lf_1_4 k0) (vp_mk q2 q10 (by decide))), h15⟩⟩⟩⟩⟩⟩⟩⟩), fun q14 => (have h16 := (h12).2 q14; ⟨k0, ⟨(kf_1_2 k0), ⟨(vp_l (lf_1_2 k0) (vp_mk q2 q10 (by decide))), ⟨k0, ⟨(kf_1_3 k0), ⟨(vp_l (lf_1_3 k0) (vp_mk q2 q10 (by decide))), ⟨k0, ⟨(kf_1_4 k0), ⟨(vp_l (lf_1_4 k0) (vp_mk q2 q10 (by decide))), h16⟩⟩⟩⟩⟩⟩⟩⟩⟩)⟩⟩⟩)⟩)⟩)⟩)
theorem u_X1_renew {d : Nat} {K : mmMem → Prop} {μ : mmMem} {a0 : Nat} {x1 : Int32} {x2 : Int32} (hd : 1 ≤ d) (k0 : mmKD a0 = 1) (h : mmEnds (d - 1) M_X1_renew 2 [.ref a0, .int x1, .int x2, .int x1] [] μ (mmP0 K)) : mmC0 d M_X1_renew false 2 [.ref a0, .int x1, .int x2] μ K :=
  mmCU.of (d' := d - 1) g_X1_renew (by decide +kernel) rfl rfl (by omega) (s_X1_renew_0 (d := d - 1) (by omega) k0 h)
theorem g_X6_append : mmGd M_X6_append false 2 := ⟨mm_in 281 (by decide +kernel) rfl, mm_in 13 (by decide +kernel) rfl, by decide +kernel, by decide, ⟨mm_in 279 (by decide +kernel) rfl, mm_in 280 (by decide +kernel) rfl⟩⟩
def S_X6_append_0 : List mmMI := [(0, .iload_n 1, 1, 0, 0, 0, .null, mm0), (1, .istore_n 3, 1, 0, 0, 0, .null, mm0)]
def S_X6_append_2 : List mmMI := [(2, .iload_n 3, 1, 0, 0, 0, .null, mm0), (3, .iload_n 2, 1, 0, 0, 0, .null, mm0), (4, .if_icmp .ge 38, 3, 0, 42, 0, .null, mm0)]
def S_X6_append_7 : List mmMI := [(7, .aload_n 0, 1, 0, 0, 0, .null, mm0), (8, .getfield 15, 3, 83, 6, 0, .null, mm0), (11, .bipush 40, 2, 0, 0, 0, .int (40 : Int32), mm0), (13, .if_icmp .ge 29, 3, 0, 42, 0, .null, mm0)]
def S_X6_append_16 : List mmMI := [(16, .aload_n 0, 1, 0, 0, 0, .null, mm0), (17, .getfield 9, 3, 85, 6, 1, .null, mm0), (20, .aload_n 0, 1, 0, 0, 0, .null, mm0), (21, .getfield 15, 3, 83, 6, 0, .null, mm0), (24, .iload_n 3, 1, 0, 0, 0, .null, mm0), (25, .iastore, 1, 0, 0, 0, .null, mm0), (26, .aload_n 0, 1, 0, 0, 0, .null, mm0), (27, .dup, 1, 0, 0, 0, .null, mm0), (28, .getfield 15, 3, 83, 6, 0, .null, mm0), (31, .iconst 1, 1, 0, 0, 0, .int (1 : Int32), mm0), (32, .iadd, 1, 0, 0, 0, .null, mm0), (33, .putfield 15, 3, 83, 6, 0, .null, mm0), (36, .iinc 3 1, 3, 0, 0, 0, .int (1 : Int32), mm0), (39, .goto (-37), 3, 0, 2, 0, .null, mm0)]
def S_X6_append_42 : List mmMI := [(42, .return_, 1, 0, 0, 0, .null, mm0)]
def BL_X6_append : mmBl := [(0, S_X6_append_0, 2), (7, S_X6_append_7, 16), (16, S_X6_append_16, 42), (42, S_X6_append_42, 43)]
theorem OB_X6_append : mmOkB M_X6_append BL_X6_append = true := by decide +kernel
theorem OH_X6_append_0 : mmOkB M_X6_append [(0, S_X6_append_0, 2)] = true := by decide +kernel
theorem s0_X6_append_0 {d : Nat} {P : Option Value → mmMem → Prop} {μ : mmMem} {a0 : Nat} {x1 : Int32} {x2 : Int32} (h : mmEnds d M_X6_append 2 [.ref a0, .int x1, .int x2, .int x1] [] μ P) : mmEnds d M_X6_append 0 [.ref a0, .int x1, .int x2, .retAddr 7] [] μ P := mm_tree 5 OB_X6_append OH_X6_append_0 h
theorem s_X6_append_0 {d : Nat} {P : Option Value → mmMem → Prop} {μ : mmMem} {a0 : Nat} {x1 : Int32} {x2 : Int32} (hd : 0 ≤ d) (k0 : mmKD a0 = 6) (h : mmEnds d M_X6_append 2 [.ref a0, .int x1, .int x2, .int x1] [] μ P) : mmEnds d M_X6_append 0 [.ref a0, .int x1, .int x2, .retAddr 7] [] μ P := s0_X6_append_0 h
theorem OH_X6_append_2 : mmOkB M_X6_append [(2, S_X6_append_2, 7)] = true := by decide +kernel
theorem s0_X6_append_2 {d : Nat} {P : Option Value → mmMem → Prop} {μ : mmMem} {a0 : Nat} {x1 : Int32} {x2 : Int32} {x3 : Int32} (h : (x2 ≤ x3 → P none μ) ∧ (¬ x2 ≤ x3 → (mmKD a0 = 6) ∧ (((40 : Int32) ≤ (μ.1 a0 0) → P none μ) ∧ (¬ (40 : Int32) ≤ (μ.1 a0 0) → (mmKD a0 = 6) ∧ ((mmKD a0 = 6) ∧ ((mmKD (a0 + 1) = 10) ∧ ((vp_in (μ.1 a0 0) (mmLEN (a0 + 1))) ∧ ((mmKD a0 = 6) ∧ ((mmKD a0 = 6) ∧ (mmEnds d M_X6_append 2 [.ref a0, .int x1, .int x2, .int (x3 + (1 : Int32))] [] (sI (sI μ (a0 + 1) (μ.1 a0 0).toNatClampNeg x3) a0 0 (((sI μ (a0 + 1) (μ.1 a0 0).toNatClampNeg x3).1 a0 0) + (1 : Int32))) P)))))))))) : mmEnds d M_X6_append 2 [.ref a0, .int x1, .int x2, .int x3] [] μ P := mm_tree 5 OB_X6_append OH_X6_append_2 h
theorem s_X6_append_2 {d : Nat} {P : Option Value → mmMem → Prop} {μ : mmMem} {a0 : Nat} {x1 : Int32} {x2 : Int32} {x3 : Int32} (hd : 0 ≤ d) (k0 : mmKD a0 = 6) (h : (x2 ≤ x3 → P none μ) ∧ (¬ x2 ≤ x3 → ((40 : Int32) ≤ (μ.1 a0 0) → P none μ) ∧ (¬ (40 : Int32) ≤ (μ.1 a0 0) → (vp_in (μ.1 a0 0) 40) ∧ (mmEnds d M_X6_append 2 [.ref a0, .int x1, .int x2, .int (x3 + (1 : Int32))] [] (sI (sI μ (a0 + 1) (μ.1 a0 0).toNatClampNeg x3) a0 0 (((sI μ (a0 + 1) (μ.1 a0 0).toNatClampNeg x3).1 a0 0) + (1 : Int32))) P)))) : mmEnds d M_X6_append 2 [.ref a0, .int x1, .int x2, .int x3] [] μ P := s0_X6_append_2 (⟨fun q1 => (have h3 := (h).1 q1; h3), fun q2 => (have h4 := (h).2 q2; ⟨k0, ⟨fun q5 => (have h7 := (h4).1 q5; h7), fun q6 => (have h8 := (h4).2 q6; ⟨k0, ⟨k0, ⟨(kf_6_1 k0), (have o9 := (h8).1; have h10 := (h8).2; ⟨vp_l (lf_6_1 k0) o9, ⟨k0, ⟨k0, h10⟩⟩⟩)⟩⟩⟩)⟩⟩)⟩)
theorem u_X6_append {d : Nat} {K : mmMem → Prop} {μ : mmMem} {a0 : Nat} {x1 : Int32} {x2 : Int32} (hd : 1 ≤ d) (k0 : mmKD a0 = 6) (h : mmEnds (d - 1) M_X6_append 2 [.ref a0, .int x1, .int x2, .int x1] [] μ (mmP0 K)) : mmC0 d M_X6_append false 2 [.ref a0, .int x1, .int x2] μ K :=
  mmCU.of (d' := d - 1) g_X6_append (by decide +kernel) rfl rfl (by omega) (s_X6_append_0 (d := d - 1) (by omega) k0 h)
theorem g_X6_resize : mmGd M_X6_resize false 2 := ⟨mm_in 277 (by decide +kernel) rfl, mm_in 13 (by decide +kernel) rfl, by decide +kernel, by decide, ⟨mm_in 275 (by decide +kernel) rfl, mm_in 276 (by decide +kernel) rfl⟩⟩
def S_X6_resize_0 : List mmMI := [(0, .iconst 0, 1, 0, 0, 0, .int (0 : Int32), mm0), (1, .istore_n 3, 1, 0, 0, 0, .null, mm0), (2, .iconst 0, 1, 0, 0, 0, .int (0 : Int32), mm0), (3, .istore 4, 2, 0, 0, 0, .null, mm0)]
def S_X6_resize_5 : List mmMI := [(5, .iload 4, 2, 0, 0, 0, .null, mm0), (7, .aload_n 0, 1, 0, 0, 0, .null, mm0), (8, .getfield 15, 3, 83, 6, 0, .null, mm0), (11, .if_icmp .ge 36, 3, 0, 47, 0, .null, mm0)]
def S_X6_resize_14 : List mmMI := [(14, .aload_n 0, 1, 0, 0, 0, .null, mm0), (15, .getfield 9, 3, 85, 6, 1, .null, mm0), (18, .iload 4, 2, 0, 0, 0, .null, mm0), (20, .iaload, 1, 0, 0, 0, .null, mm0), (21, .iload_n 2, 1, 0, 0, 0, .null, mm0), (22, .if_icmp .ge 19, 3, 0, 41, 0, .null, mm0)]
def S_X6_resize_25 : List mmMI := [(25, .aload_n 0, 1, 0, 0, 0, .null, mm0), (26, .getfield 9, 3, 85, 6, 1, .null, mm0), (29, .iload_n 3, 1, 0, 0, 0, .null, mm0), (30, .aload_n 0, 1, 0, 0, 0, .null, mm0), (31, .getfield 9, 3, 85, 6, 1, .null, mm0), (34, .iload 4, 2, 0, 0, 0, .null, mm0), (36, .iaload, 1, 0, 0, 0, .null, mm0), (37, .iastore, 1, 0, 0, 0, .null, mm0), (38, .iinc 3 1, 3, 0, 0, 0, .int (1 : Int32), mm0)]
def S_X6_resize_41 : List mmMI := [(41, .iinc 4 1, 3, 0, 0, 0, .int (1 : Int32), mm0), (44, .goto (-39), 3, 0, 5, 0, .null, mm0)]
def S_X6_resize_47 : List mmMI := [(47, .aload_n 0, 1, 0, 0, 0, .null, mm0), (48, .iload_n 3, 1, 0, 0, 0, .null, mm0), (49, .putfield 15, 3, 83, 6, 0, .null, mm0), (52, .aload_n 0, 1, 0, 0, 0, .null, mm0), (53, .iload_n 1, 1, 0, 0, 0, .null, mm0), (54, .iload_n 2, 1, 0, 0, 0, .null, mm0), (55, .invokevirtual 19, 3, 278, 2, 6, .null, M_X6_append), (58, .return_, 1, 0, 0, 0, .null, mm0)]
def BL_X6_resize : mmBl := [(0, S_X6_resize_0, 5), (14, S_X6_resize_14, 25), (25, S_X6_resize_25, 41), (41, S_X6_resize_41, 47), (47, S_X6_resize_47, 59)]
theorem OB_X6_resize : mmOkB M_X6_resize BL_X6_resize = true := by decide +kernel
theorem OH_X6_resize_0 : mmOkB M_X6_resize [(0, S_X6_resize_0, 5)] = true := by decide +kernel
theorem s0_X6_resize_0 {d : Nat} {P : Option Value → mmMem → Prop} {μ : mmMem} {a0 : Nat} {x1 : Int32} {x2 : Int32} (h : mmEnds d M_X6_resize 5 [.ref a0, .int x1, .int x2, .int (0 : Int32), .int (0 : Int32)] [] μ P) : mmEnds d M_X6_resize 0 [.ref a0, .int x1, .int x2, .retAddr 7, .retAddr 7] [] μ P := mm_tree 6 OB_X6_resize OH_X6_resize_0 h
theorem s_X6_resize_0 {d : Nat} {P : Option Value → mmMem → Prop} {μ : mmMem} {a0 : Nat} {x1 : Int32} {x2 : Int32} (hd : 0 ≤ d) (k0 : mmKD a0 = 6) (h : mmEnds d M_X6_resize 5 [.ref a0, .int x1, .int x2, .int (0 : Int32), .int (0 : Int32)] [] μ P) : mmEnds d M_X6_resize 0 [.ref a0, .int x1, .int x2, .retAddr 7, .retAddr 7] [] μ P := s0_X6_resize_0 h
theorem OH_X6_resize_5 : mmOkB M_X6_resize [(5, S_X6_resize_5, 14)] = true := by decide +kernel
set_option maxRecDepth 10000 in
theorem s0_X6_resize_5 {d : Nat} {P : Option Value → mmMem → Prop} {μ : mmMem} {a0 : Nat} {x1 : Int32} {x2 : Int32} {x3 : Int32} {x4 : Int32} (h : (mmKD a0 = 6) ∧ (((μ.1 a0 0) ≤ x4 → (mmKD a0 = 6) ∧ ((mmKD a0 = 6) ∧ (mmC0 d M_X6_append false 2 [.ref a0, .int x1, .int x2] (sI μ a0 0 x3) fun ν1 => P none ν1))) ∧ (¬ (μ.1 a0 0) ≤ x4 → (mmKD a0 = 6) ∧ ((mmKD (a0 + 1) = 10) ∧ ((vp_in x4 (mmLEN (a0 + 1))) ∧ ((x2 ≤ (μ.1 (a0 + 1) x4.toNatClampNeg) → mmEnds d M_X6_resize 5 [.ref a0, .int x1, .int x2, .int x3, .int (x4 + (1 : Int32))] [] μ P) ∧ (¬ x2 ≤ (μ.1 (a0 + 1) x4.toNatClampNeg) → (mmKD a0 = 6) ∧ ((mmKD a0 = 6) ∧ ((mmKD (a0 + 1) = 10) ∧ ((vp_in x4 (mmLEN (a0 + 1))) ∧ ((mmKD (a0 + 1) = 10) ∧ ((vp_in x3 (mmLEN (a0 + 1))) ∧ (mmEnds d M_X6_resize 5 [.ref a0, .int x1, .int x2, .int (x3 + (1 : Int32)), .int (x4 + (1 : Int32))] [] (sI μ (a0 + 1) x3.toNatClampNeg (μ.1 (a0 + 1) x4.toNatClampNeg)) P))))))))))))) : mmEnds d M_X6_resize 5 [.ref a0, .int x1, .int x2, .int x3, .int x4] [] μ P := mm_tree 6 OB_X6_resize OH_X6_resize_5 h
theorem s_X6_resize_5 {d : Nat} {P : Option Value → mmMem → Prop} {μ : mmMem} {a0 : Nat} {x1 : Int32} {x2 : Int32} {x3 : Int32} {x4 : Int32} (hd : 0 ≤ d) (k0 : mmKD a0 = 6) (h : ((μ.1 a0 0) ≤ x4 → mmC0 d M_X6_append false 2 [.ref a0, .int x1, .int x2] (sI μ a0 0 x3) fun ν5 => P none ν5) ∧ (¬ (μ.1 a0 0) ≤ x4 → (vp_in x4 40) ∧ ((x2 ≤ (μ.1 (a0 + 1) x4.toNatClampNeg) → mmEnds d M_X6_resize 5 [.ref a0, .int x1, .int x2, .int x3, .int (x4 + (1 : Int32))] [] μ P) ∧ (¬ x2 ≤ (μ.1 (a0 + 1) x4.toNatClampNeg) → (vp_in x3 40) ∧ (mmEnds d M_X6_resize 5 [.ref a0, .int x1, .int x2, .int (x3 + (1 : Int32)), .int (x4 + (1 : Int32))] [] (sI μ (a0 + 1) x3.toNatClampNeg (μ.1 (a0 + 1) x4.toNatClampNeg)) P))))) : mmEnds d M_X6_resize 5 [.ref a0, .int x1, .int x2, .int x3, .int x4] [] μ P := s0_X6_resize_5 (⟨k0, ⟨fun q1 => (have h3 := (h).1 q1; ⟨k0, ⟨k0, (mmC0.mono (h3) (fun ν5 h6 => h6))⟩⟩), fun q2 => (have h4 := (h).2 q2; ⟨k0, ⟨(kf_6_1 k0), (have o7 := (h4).1; have h8 := (h4).2; ⟨vp_l (lf_6_1 k0) o7, ⟨fun q9 => (have h11 := (h8).1 q9; h11), fun q10 => (have h12 := (h8).2 q10; ⟨k0, ⟨k0, ⟨(kf_6_1 k0), ⟨(vp_l (lf_6_1 k0) o7), ⟨(kf_6_1 k0), (have o13 := (h12).1; have h14 := (h12).2; ⟨vp_l (lf_6_1 k0) o13, h14⟩)⟩⟩⟩⟩⟩)⟩⟩)⟩⟩)⟩⟩)
theorem u_X6_resize {d : Nat} {K : mmMem → Prop} {μ : mmMem} {a0 : Nat} {x1 : Int32} {x2 : Int32} (hd : 1 ≤ d) (k0 : mmKD a0 = 6) (h : mmEnds (d - 1) M_X6_resize 5 [.ref a0, .int x1, .int x2, .int (0 : Int32), .int (0 : Int32)] [] μ (mmP0 K)) : mmC0 d M_X6_resize false 2 [.ref a0, .int x1, .int x2] μ K :=
  mmCU.of (d' := d - 1) g_X6_resize (by decide +kernel) rfl rfl (by omega) (s_X6_resize_0 (d := d - 1) (by omega) k0 h)
theorem g_X4_resize : mmGd M_X4_resize false 1 := ⟨mm_in 269 (by decide +kernel) rfl, mm_in 11 (by decide +kernel) rfl, by decide +kernel, by decide, ⟨mm_in 267 (by decide +kernel) rfl, mm_in 268 (by decide +kernel) rfl⟩⟩
def S_X4_resize_0 : List mmMI := [(0, .iconst 0, 1, 0, 0, 0, .int (0 : Int32), mm0), (1, .istore_n 2, 1, 0, 0, 0, .null, mm0)]
def S_X4_resize_2 : List mmMI := [(2, .iload_n 2, 1, 0, 0, 0, .null, mm0), (3, .aload_n 0, 1, 0, 0, 0, .null, mm0), (4, .getfield 40, 3, 129, 4, 1, .null, mm0), (7, .if_icmp .ge 23, 3, 0, 30, 0, .null, mm0)]
def S_X4_resize_10 : List mmMI := [(10, .aload_n 0, 1, 0, 0, 0, .null, mm0), (11, .getfield 11, 3, 135, 4, 4, .null, mm0), (14, .iload_n 2, 1, 0, 0, 0, .null, mm0), (15, .aaload, 1, 0, 14, 0, .null, mm0), (16, .aload_n 0, 1, 0, 0, 0, .null, mm0), (17, .getfield 44, 3, 128, 4, 0, .null, mm0), (20, .iload_n 1, 1, 0, 0, 0, .null, mm0), (21, .invokevirtual 47, 3, 270, 2, 1, .null, M_X1_renew), (24, .iinc 2 1, 3, 0, 0, 0, .int (1 : Int32), mm0), (27, .goto (-25), 3, 0, 2, 0, .null, mm0)]
def S_X4_resize_30 : List mmMI := [(30, .iconst 0, 1, 0, 0, 0, .int (0 : Int32), mm0), (31, .istore_n 2, 1, 0, 0, 0, .null, mm0)]
def S_X4_resize_32 : List mmMI := [(32, .iload_n 2, 1, 0, 0, 0, .null, mm0), (33, .iconst 2, 1, 0, 0, 0, .int (2 : Int32), mm0), (34, .if_icmp .ge 23, 3, 0, 57, 0, .null, mm0)]
def S_X4_resize_37 : List mmMI := [(37, .aload_n 0, 1, 0, 0, 0, .null, mm0), (38, .getfield 19, 3, 137, 4, 5, .null, mm0), (41, .iload_n 2, 1, 0, 0, 0, .null, mm0), (42, .aaload, 1, 0, 15, 0, .null, mm0), (43, .aload_n 0, 1, 0, 0, 0, .null, mm0), (44, .getfield 44, 3, 128, 4, 0, .null, mm0), (47, .iload_n 1, 1, 0, 0, 0, .null, mm0), (48, .invokevirtual 51, 3, 274, 2, 6, .null, M_X6_resize), (51, .iinc 2 1, 3, 0, 0, 0, .int (1 : Int32), mm0), (54, .goto (-22), 3, 0, 32, 0, .null, mm0)]
def S_X4_resize_57 : List mmMI := [(57, .aload_n 0, 1, 0, 0, 0, .null, mm0), (58, .iload_n 1, 1, 0, 0, 0, .null, mm0), (59, .putfield 44, 3, 128, 4, 0, .null, mm0), (62, .return_, 1, 0, 0, 0, .null, mm0)]
def BL_X4_resize : mmBl := [(0, S_X4_resize_0, 2), (10, S_X4_resize_10, 30), (30, S_X4_resize_30, 32), (37, S_X4_resize_37, 57), (57, S_X4_resize_57, 63)]
theorem OB_X4_resize : mmOkB M_X4_resize BL_X4_resize = true := by decide +kernel
theorem OH_X4_resize_0 : mmOkB M_X4_resize [(0, S_X4_resize_0, 2)] = true := by decide +kernel
theorem s0_X4_resize_0 {d : Nat} {P : Option Value → mmMem → Prop} {μ : mmMem} {a0 : Nat} {x1 : Int32} (h : mmEnds d M_X4_resize 2 [.ref a0, .int x1, .int (0 : Int32)] [] μ P) : mmEnds d M_X4_resize 0 [.ref a0, .int x1, .retAddr 7] [] μ P := mm_tree 6 OB_X4_resize OH_X4_resize_0 h
theorem s_X4_resize_0 {d : Nat} {P : Option Value → mmMem → Prop} {μ : mmMem} {a0 : Nat} {x1 : Int32} (hd : 0 ≤ d) (k0 : mmKD a0 = 4) (h : mmEnds d M_X4_resize 2 [.ref a0, .int x1, .int (0 : Int32)] [] μ P) : mmEnds d M_X4_resize 0 [.ref a0, .int x1, .retAddr 7] [] μ P := s0_X4_resize_0 h
theorem OH_X4_resize_2 : mmOkB M_X4_resize [(2, S_X4_resize_2, 10)] = true := by decide +kernel
theorem s0_X4_resize_2 {d : Nat} {P : Option Value → mmMem → Prop} {μ : mmMem} {a0 : Nat} {x1 : Int32} {x2 : Int32} (h : (mmKD a0 = 4) ∧ (((μ.1 a0 1) ≤ x2 → mmEnds d M_X4_resize 32 [.ref a0, .int x1, .int (0 : Int32)] [] μ P) ∧ (¬ (μ.1 a0 1) ≤ x2 → (mmKD a0 = 4) ∧ ((mmKD (a0 + 1) = 14) ∧ ((vp_in x2 (mmLEN (a0 + 1))) ∧ ((mmKD a0 = 4) ∧ ((mmKD (((a0 + 1) + 5) + 4 * x2.toNatClampNeg) = 1) ∧ (mmC0 d M_X1_renew false 2 [.ref (((a0 + 1) + 5) + 4 * x2.toNatClampNeg), .int (μ.1 a0 0), .int x1] μ fun ν1 => mmEnds d M_X4_resize 2 [.ref a0, .int x1, .int (x2 + (1 : Int32))] [] ν1 P)))))))) : mmEnds d M_X4_resize 2 [.ref a0, .int x1, .int x2] [] μ P := mm_tree 6 OB_X4_resize OH_X4_resize_2 h
theorem s_X4_resize_2 {d : Nat} {P : Option Value → mmMem → Prop} {μ : mmMem} {a0 : Nat} {x1 : Int32} {x2 : Int32} (hd : 0 ≤ d) (k0 : mmKD a0 = 4) (h : ((μ.1 a0 1) ≤ x2 → mmEnds d M_X4_resize 32 [.ref a0, .int x1, .int (0 : Int32)] [] μ P) ∧ (¬ (μ.1 a0 1) ≤ x2 → (vp_in x2 12) ∧ (mmC0 d M_X1_renew false 2 [.ref (((a0 + 1) + 5) + 4 * x2.toNatClampNeg), .int (μ.1 a0 0), .int x1] μ fun ν7 => mmEnds d M_X4_resize 2 [.ref a0, .int x1, .int (x2 + (1 : Int32))] [] ν7 P))) : mmEnds d M_X4_resize 2 [.ref a0, .int x1, .int x2] [] μ P := s0_X4_resize_2 (⟨k0, ⟨fun q1 => (have h3 := (h).1 q1; h3), fun q2 => (have h4 := (h).2 q2; ⟨k0, ⟨(kf_4_4 k0), (have o5 := (h4).1; have h6 := (h4).2; ⟨vp_l (lf_4_4 k0) o5, ⟨k0, ⟨(ke_14 (kf_4_4 k0) (vp_l (lf_4_4 k0) o5)), (mmC0.mono (h6) (fun ν7 h8 => h8))⟩⟩⟩)⟩⟩)⟩⟩)
theorem OH_X4_resize_32 : mmOkB M_X4_resize [(32, S_X4_resize_32, 37)] = true := by decide +kernel
theorem s0_X4_resize_32 {d : Nat} {P : Option Value → mmMem → Prop} {μ : mmMem} {a0 : Nat} {x1 : Int32} {x2 : Int32} (h : ((2 : Int32) ≤ x2 → (mmKD a0 = 4) ∧ (P none (sI μ a0 0 x1))) ∧ (¬ (2 : Int32) ≤ x2 → (mmKD a0 = 4) ∧ ((mmKD (a0 + 2) = 15) ∧ ((vp_in x2 (mmLEN (a0 + 2))) ∧ ((mmKD a0 = 4) ∧ ((mmKD (((a0 + 2) + 52) + 2 * x2.toNatClampNeg) = 6) ∧ (mmC0 d M_X6_resize false 2 [.ref (((a0 + 2) + 52) + 2 * x2.toNatClampNeg), .int (μ.1 a0 0), .int x1] μ fun ν1 => mmEnds d M_X4_resize 32 [.ref a0, .int x1, .int (x2 + (1 : Int32))] [] ν1 P))))))) : mmEnds d M_X4_resize 32 [.ref a0, .int x1, .int x2] [] μ P := mm_tree 6 OB_X4_resize OH_X4_resize_32 h
theorem s_X4_resize_32 {d : Nat} {P : Option Value → mmMem → Prop} {μ : mmMem} {a0 : Nat} {x1 : Int32} {x2 : Int32} (hd : 0 ≤ d) (k0 : mmKD a0 = 4) (h : ((2 : Int32) ≤ x2 → P none (sI μ a0 0 x1)) ∧ (¬ (2 : Int32) ≤ x2 → (vp_in x2 2) ∧ (mmC0 d M_X6_resize false 2 [.ref (((a0 + 2) + 52) + 2 * x2.toNatClampNeg), .int (μ.1 a0 0), .int x1] μ fun ν7 => mmEnds d M_X4_resize 32 [.ref a0, .int x1, .int (x2 + (1 : Int32))] [] ν7 P))) : mmEnds d M_X4_resize 32 [.ref a0, .int x1, .int x2] [] μ P := s0_X4_resize_32 (⟨fun q1 => (have h3 := (h).1 q1; ⟨k0, h3⟩), fun q2 => (have h4 := (h).2 q2; ⟨k0, ⟨(kf_4_5 k0), (have o5 := (h4).1; have h6 := (h4).2; ⟨vp_l (lf_4_5 k0) o5, ⟨k0, ⟨(ke_15 (kf_4_5 k0) (vp_l (lf_4_5 k0) o5)), (mmC0.mono (h6) (fun ν7 h8 => h8))⟩⟩⟩)⟩⟩)⟩)
theorem u_X4_resize {d : Nat} {K : mmMem → Prop} {μ : mmMem} {a0 : Nat} {x1 : Int32} (hd : 1 ≤ d) (k0 : mmKD a0 = 4) (h : mmEnds (d - 1) M_X4_resize 2 [.ref a0, .int x1, .int (0 : Int32)] [] μ (mmP0 K)) : mmC0 d M_X4_resize false 1 [.ref a0, .int x1] μ K :=
  mmCU.of (d' := d - 1) g_X4_resize (by decide +kernel) rfl rfl (by omega) (s_X4_resize_0 (d := d - 1) (by omega) k0 h)
theorem g_X1_begin : mmGd M_X1_begin false 2 := ⟨mm_in 296 (by decide +kernel) rfl, mm_in 12 (by decide +kernel) rfl, by decide +kernel, by decide, ⟨mm_in 294 (by decide +kernel) rfl, mm_in 295 (by decide +kernel) rfl⟩⟩
def S_X1_begin_0 : List mmMI := [(0, .aload_n 0, 1, 0, 0, 0, .null, mm0), (1, .iload_n 1, 1, 0, 0, 0, .null, mm0), (2, .putfield 37, 3, 55, 1, 0, .null, mm0), (5, .aload_n 0, 1, 0, 0, 0, .null, mm0), (6, .iconst 0, 1, 0, 0, 0, .int (0 : Int32), mm0), (7, .putfield 38, 3, 58, 1, 1, .null, mm0), (10, .aload_n 0, 1, 0, 0, 0, .null, mm0), (11, .iconst 0, 1, 0, 0, 0, .int (0 : Int32), mm0), (12, .iload_n 2, 1, 0, 0, 0, .null, mm0), (13, .invokevirtual 42, 3, 297, 2, 1, .null, M_X1_renew), (16, .return_, 1, 0, 0, 0, .null, mm0)]
def BL_X1_begin : mmBl := [(0, S_X1_begin_0, 17)]
theorem OB_X1_begin : mmOkB M_X1_begin BL_X1_begin = true := by decide +kernel
theorem OH_X1_begin_0 : mmOkB M_X1_begin [(0, S_X1_begin_0, 17)] = true := by decide +kernel
theorem s0_X1_begin_0 {d : Nat} {P : Option Value → mmMem → Prop} {μ : mmMem} {a0 : Nat} {x1 : Int32} {x2 : Int32} (h : (mmKD a0 = 1) ∧ ((mmKD a0 = 1) ∧ ((mmKD a0 = 1) ∧ (mmC0 d M_X1_renew false 2 [.ref a0, .int (0 : Int32), .int x2] (sI (sI μ a0 0 x1) a0 1 (0 : Int32)) fun ν1 => P none ν1)))) : mmEnds d M_X1_begin 0 [.ref a0, .int x1, .int x2] [] μ P := mm_tree 2 OB_X1_begin OH_X1_begin_0 h
theorem s_X1_begin_0 {d : Nat} {P : Option Value → mmMem → Prop} {μ : mmMem} {a0 : Nat} {x1 : Int32} {x2 : Int32} (hd : 0 ≤ d) (k0 : mmKD a0 = 1) (h : mmC0 d M_X1_renew false 2 [.ref a0, .int (0 : Int32), .int x2] (sI (sI μ a0 0 x1) a0 1 (0 : Int32)) fun ν1 => P none ν1) : mmEnds d M_X1_begin 0 [.ref a0, .int x1, .int x2] [] μ P := s0_X1_begin_0 (⟨k0, ⟨k0, ⟨k0, (mmC0.mono (h) (fun ν1 h2 => h2))⟩⟩⟩)
theorem u_X1_begin {d : Nat} {K : mmMem → Prop} {μ : mmMem} {a0 : Nat} {x1 : Int32} {x2 : Int32} (hd : 1 ≤ d) (k0 : mmKD a0 = 1) (h : mmC0 (d - 1) M_X1_renew false 2 [.ref a0, .int (0 : Int32), .int x2] (sI (sI μ a0 0 x1) a0 1 (0 : Int32)) fun ν1 => K ν1) : mmC0 d M_X1_begin false 2 [.ref a0, .int x1, .int x2] μ K :=
  mmCU.of (d' := d - 1) g_X1_begin (by decide +kernel) rfl rfl (by omega) (s_X1_begin_0 (d := d - 1) (by omega) k0 h)
theorem g_X4_nextColumn : mmGd M_X4_nextColumn false 0 := ⟨mm_in 292 (by decide +kernel) rfl, mm_in 11 (by decide +kernel) rfl, by decide +kernel, by decide, ⟨mm_in 290 (by decide +kernel) rfl, mm_in 291 (by decide +kernel) rfl⟩⟩
def S_X4_nextColumn_0 : List mmMI := [(0, .aload_n 0, 1, 0, 0, 0, .null, mm0), (1, .dup, 1, 0, 0, 0, .null, mm0), (2, .getfield 40, 3, 129, 4, 1, .null, mm0), (5, .iconst 1, 1, 0, 0, 0, .int (1 : Int32), mm0), (6, .iadd, 1, 0, 0, 0, .null, mm0), (7, .putfield 40, 3, 129, 4, 1, .null, mm0), (10, .aload_n 0, 1, 0, 0, 0, .null, mm0), (11, .getfield 11, 3, 135, 4, 4, .null, mm0), (14, .aload_n 0, 1, 0, 0, 0, .null, mm0), (15, .getfield 40, 3, 129, 4, 1, .null, mm0), (18, .iconst 1, 1, 0, 0, 0, .int (1 : Int32), mm0), (19, .isub, 1, 0, 0, 0, .null, mm0), (20, .aaload, 1, 0, 14, 0, .null, mm0), (21, .areturn, 1, 0, 0, 0, .null, mm0)]
def BL_X4_nextColumn : mmBl := [(0, S_X4_nextColumn_0, 22)]
theorem OB_X4_nextColumn : mmOkB M_X4_nextColumn BL_X4_nextColumn = true := by decide +kernel
theorem OH_X4_nextColumn_0 : mmOkB M_X4_nextColumn [(0, S_X4_nextColumn_0, 22)] = true := by decide +kernel
theorem s0_X4_nextColumn_0 {d : Nat} {P : Option Value → mmMem → Prop} {μ : mmMem} {a0 : Nat} (h : (mmKD a0 = 4) ∧ ((mmKD a0 = 4) ∧ ((mmKD a0 = 4) ∧ ((mmKD a0 = 4) ∧ ((mmKD (a0 + 1) = 14) ∧ ((vp_in (((sI μ a0 1 ((μ.1 a0 1) + (1 : Int32))).1 a0 1) - (1 : Int32)) (mmLEN (a0 + 1))) ∧ (P (some (.ref (((a0 + 1) + 5) + 4 * (((sI μ a0 1 ((μ.1 a0 1) + (1 : Int32))).1 a0 1) - (1 : Int32)).toNatClampNeg))) (sI μ a0 1 ((μ.1 a0 1) + (1 : Int32)))))))))) : mmEnds d M_X4_nextColumn 0 [.ref a0] [] μ P := mm_tree 2 OB_X4_nextColumn OH_X4_nextColumn_0 h
theorem s_X4_nextColumn_0 {d : Nat} {P : Option Value → mmMem → Prop} {μ : mmMem} {a0 : Nat} (hd : 0 ≤ d) (k0 : mmKD a0 = 4) (h : (vp_in (((sI μ a0 1 ((μ.1 a0 1) + (1 : Int32))).1 a0 1) - (1 : Int32)) 12) ∧ (P (some (.ref (((a0 + 1) + 5) + 4 * (((sI μ a0 1 ((μ.1 a0 1) + (1 : Int32))).1 a0 1) - (1 : Int32)).toNatClampNeg))) (sI μ a0 1 ((μ.1 a0 1) + (1 : Int32))))) : mmEnds d M_X4_nextColumn 0 [.ref a0] [] μ P := s0_X4_nextColumn_0 (⟨k0, ⟨k0, ⟨k0, ⟨k0, ⟨(kf_4_4 k0), (have o1 := (h).1; have h2 := (h).2; ⟨vp_l (lf_4_4 k0) o1, h2⟩)⟩⟩⟩⟩⟩)
theorem u_X4_nextColumn {d : Nat} {K : Nat → mmMem → Prop} {μ : mmMem} {a0 : Nat} (hd : 1 ≤ d) (k0 : mmKD a0 = 4) (h : (vp_in (((sI μ a0 1 ((μ.1 a0 1) + (1 : Int32))).1 a0 1) - (1 : Int32)) 12) ∧ (K (((a0 + 1) + 5) + 4 * (((sI μ a0 1 ((μ.1 a0 1) + (1 : Int32))).1 a0 1) - (1 : Int32)).toNatClampNeg) (sI μ a0 1 ((μ.1 a0 1) + (1 : Int32))))) : mmCA d M_X4_nextColumn false 0 [.ref a0] μ K :=
  mmCU.of (d' := d - 1) g_X4_nextColumn (by decide +kernel) rfl rfl (by omega) (s_X4_nextColumn_0 (d := d - 1) (by omega) k0 h)
theorem g_X1_load : mmGd M_X1_load false 2 := ⟨mm_in 325 (by decide +kernel) rfl, mm_in 12 (by decide +kernel) rfl, by decide +kernel, by decide, ⟨mm_in 323 (by decide +kernel) rfl, mm_in 324 (by decide +kernel) rfl⟩⟩
def S_X1_load_0 : List mmMI := [(0, .iload_n 1, 1, 0, 0, 0, .null, mm0), (1, .ifCond .lt 39, 3, 0, 40, 0, .null, mm0)]
def S_X1_load_4 : List mmMI := [(4, .iload_n 1, 1, 0, 0, 0, .null, mm0), (5, .bipush 40, 2, 0, 0, 0, .int (40 : Int32), mm0), (7, .if_icmp .ge 33, 3, 0, 40, 0, .null, mm0)]
def S_X1_load_10 : List mmMI := [(10, .aload_n 2, 1, 0, 0, 0, .null, mm0), (11, .aload_n 0, 1, 0, 0, 0, .null, mm0), (12, .getfield 9, 3, 60, 1, 2, .null, mm0), (15, .iload_n 1, 1, 0, 0, 0, .null, mm0), (16, .iaload, 1, 0, 0, 0, .null, mm0), (17, .putfield 23, 3, 104, 0, 0, .null, mm0), (20, .aload_n 2, 1, 0, 0, 0, .null, mm0), (21, .aload_n 0, 1, 0, 0, 0, .null, mm0), (22, .getfield 15, 3, 61, 1, 3, .null, mm0), (25, .iload_n 1, 1, 0, 0, 0, .null, mm0), (26, .laload, 1, 0, 0, 0, .null, mm0), (27, .putfield 29, 3, 107, 0, 1, .null, mm0), (30, .aload_n 2, 1, 0, 0, 0, .null, mm0), (31, .aload_n 0, 1, 0, 0, 0, .null, mm0), (32, .getfield 19, 3, 62, 1, 4, .null, mm0), (35, .iload_n 1, 1, 0, 0, 0, .null, mm0), (36, .daload, 1, 0, 0, 0, .null, mm0), (37, .putfield 33, 3, 109, 0, 2, .null, mm0)]
def S_X1_load_40 : List mmMI := [(40, .return_, 1, 0, 0, 0, .null, mm0)]
def BL_X1_load : mmBl := [(0, S_X1_load_0, 4), (4, S_X1_load_4, 10), (10, S_X1_load_10, 40), (40, S_X1_load_40, 41)]
theorem OB_X1_load : mmOkB M_X1_load BL_X1_load = true := by decide +kernel
theorem OH_X1_load_0 : mmOkB M_X1_load [(0, S_X1_load_0, 4)] = true := by decide +kernel
theorem s0_X1_load_0 {d : Nat} {P : Option Value → mmMem → Prop} {μ : mmMem} {a0 : Nat} {x1 : Int32} {a2 : Nat} (h : (x1 < (0 : Int32) → P none μ) ∧ (¬ x1 < (0 : Int32) → ((40 : Int32) ≤ x1 → P none μ) ∧ (¬ (40 : Int32) ≤ x1 → (mmKD a0 = 1) ∧ ((mmKD (a0 + 1) = 10) ∧ ((vp_in x1 (mmLEN (a0 + 1))) ∧ ((mmKD a2 = 0) ∧ ((mmKD a0 = 1) ∧ ((mmKD (a0 + 2) = 11) ∧ ((vp_in x1 (mmLEN (a0 + 2))) ∧ ((mmKD a2 = 0) ∧ ((mmKD a0 = 1) ∧ ((mmKD (a0 + 3) = 12) ∧ ((vp_in x1 (mmLEN (a0 + 3))) ∧ ((mmKD a2 = 0) ∧ (P none (sD (sJ (sI μ a2 0 (μ.1 (a0 + 1) x1.toNatClampNeg)) a2 1 (μ.2.1 (a0 + 2) x1.toNatClampNeg)) a2 2 (μ.2.2 (a0 + 3) x1.toNatClampNeg))))))))))))))))) : mmEnds d M_X1_load 0 [.ref a0, .int x1, .ref a2] [] μ P := mm_tree 5 OB_X1_load OH_X1_load_0 h
theorem s_X1_load_0 {d : Nat} {P : Option Value → mmMem → Prop} {μ : mmMem} {a0 : Nat} {x1 : Int32} {a2 : Nat} (hd : 0 ≤ d) (k0 : mmKD a0 = 1) (k2 : mmKD a2 = 0) (h : (x1 < (0 : Int32) → P none μ) ∧ (¬ x1 < (0 : Int32) → ((40 : Int32) ≤ x1 → P none μ) ∧ (¬ (40 : Int32) ≤ x1 → P none (sD (sJ (sI μ a2 0 (μ.1 (a0 + 1) x1.toNatClampNeg)) a2 1 (μ.2.1 (a0 + 2) x1.toNatClampNeg)) a2 2 (μ.2.2 (a0 + 3) x1.toNatClampNeg))))) : mmEnds d M_X1_load 0 [.ref a0, .int x1, .ref a2] [] μ P := s0_X1_load_0 (⟨fun q1 => (have h3 := (h).1 q1; h3), fun q2 => (have h4 := (h).2 q2; ⟨fun q5 => (have h7 := (h4).1 q5; h7), fun q6 => (have h8 := (h4).2 q6; ⟨k0, ⟨(kf_1_2 k0), ⟨(vp_l (lf_1_2 k0) (vp_mk q2 q6 (by decide))), ⟨k2, ⟨k0, ⟨(kf_1_3 k0), ⟨(vp_l (lf_1_3 k0) (vp_mk q2 q6 (by decide))), ⟨k2, ⟨k0, ⟨(kf_1_4 k0), ⟨(vp_l (lf_1_4 k0) (vp_mk q2 q6 (by decide))), ⟨k2, h8⟩⟩⟩⟩⟩⟩⟩⟩⟩⟩⟩⟩)⟩)⟩)
theorem u_X1_load {d : Nat} {K : mmMem → Prop} {μ : mmMem} {a0 : Nat} {x1 : Int32} {a2 : Nat} (hd : 1 ≤ d) (k0 : mmKD a0 = 1) (k2 : mmKD a2 = 0) (h : (x1 < (0 : Int32) → K μ) ∧ (¬ x1 < (0 : Int32) → ((40 : Int32) ≤ x1 → K μ) ∧ (¬ (40 : Int32) ≤ x1 → K (sD (sJ (sI μ a2 0 (μ.1 (a0 + 1) x1.toNatClampNeg)) a2 1 (μ.2.1 (a0 + 2) x1.toNatClampNeg)) a2 2 (μ.2.2 (a0 + 3) x1.toNatClampNeg))))) : mmC0 d M_X1_load false 2 [.ref a0, .int x1, .ref a2] μ K :=
  mmCU.of (d' := d - 1) g_X1_load (by decide +kernel) rfl rfl (by omega) (s_X1_load_0 (d := d - 1) (by omega) k0 k2 h)
theorem g_X1_store : mmGd M_X1_store false 2 := ⟨mm_in 329 (by decide +kernel) rfl, mm_in 12 (by decide +kernel) rfl, by decide +kernel, by decide, ⟨mm_in 327 (by decide +kernel) rfl, mm_in 328 (by decide +kernel) rfl⟩⟩
def S_X1_store_0 : List mmMI := [(0, .iload_n 1, 1, 0, 0, 0, .null, mm0), (1, .ifCond .lt 39, 3, 0, 40, 0, .null, mm0)]
def S_X1_store_4 : List mmMI := [(4, .iload_n 1, 1, 0, 0, 0, .null, mm0), (5, .bipush 40, 2, 0, 0, 0, .int (40 : Int32), mm0), (7, .if_icmp .ge 33, 3, 0, 40, 0, .null, mm0)]
def S_X1_store_10 : List mmMI := [(10, .aload_n 0, 1, 0, 0, 0, .null, mm0), (11, .getfield 9, 3, 60, 1, 2, .null, mm0), (14, .iload_n 1, 1, 0, 0, 0, .null, mm0), (15, .aload_n 2, 1, 0, 0, 0, .null, mm0), (16, .getfield 23, 3, 104, 0, 0, .null, mm0), (19, .iastore, 1, 0, 0, 0, .null, mm0), (20, .aload_n 0, 1, 0, 0, 0, .null, mm0), (21, .getfield 15, 3, 61, 1, 3, .null, mm0), (24, .iload_n 1, 1, 0, 0, 0, .null, mm0), (25, .aload_n 2, 1, 0, 0, 0, .null, mm0), (26, .getfield 29, 3, 107, 0, 1, .null, mm0), (29, .lastore, 1, 0, 0, 0, .null, mm0), (30, .aload_n 0, 1, 0, 0, 0, .null, mm0), (31, .getfield 19, 3, 62, 1, 4, .null, mm0), (34, .iload_n 1, 1, 0, 0, 0, .null, mm0), (35, .aload_n 2, 1, 0, 0, 0, .null, mm0), (36, .getfield 33, 3, 109, 0, 2, .null, mm0), (39, .dastore, 1, 0, 0, 0, .null, mm0)]
def S_X1_store_40 : List mmMI := [(40, .return_, 1, 0, 0, 0, .null, mm0)]
def BL_X1_store : mmBl := [(0, S_X1_store_0, 4), (4, S_X1_store_4, 10), (10, S_X1_store_10, 40), (40, S_X1_store_40, 41)]
theorem OB_X1_store : mmOkB M_X1_store BL_X1_store = true := by decide +kernel
theorem OH_X1_store_0 : mmOkB M_X1_store [(0, S_X1_store_0, 4)] = true := by decide +kernel
theorem s0_X1_store_0 {d : Nat} {P : Option Value → mmMem → Prop} {μ : mmMem} {a0 : Nat} {x1 : Int32} {a2 : Nat} (h : (x1 < (0 : Int32) → P none μ) ∧ (¬ x1 < (0 : Int32) → ((40 : Int32) ≤ x1 → P none μ) ∧ (¬ (40 : Int32) ≤ x1 → (mmKD a0 = 1) ∧ ((mmKD a2 = 0) ∧ ((mmKD (a0 + 1) = 10) ∧ ((vp_in x1 (mmLEN (a0 + 1))) ∧ ((mmKD a0 = 1) ∧ ((mmKD a2 = 0) ∧ ((mmKD (a0 + 2) = 11) ∧ ((vp_in x1 (mmLEN (a0 + 2))) ∧ ((mmKD a0 = 1) ∧ ((mmKD a2 = 0) ∧ ((mmKD (a0 + 3) = 12) ∧ ((vp_in x1 (mmLEN (a0 + 3))) ∧ (P none (sD (sJ (sI μ (a0 + 1) x1.toNatClampNeg (μ.1 a2 0)) (a0 + 2) x1.toNatClampNeg (μ.2.1 a2 1)) (a0 + 3) x1.toNatClampNeg (μ.2.2 a2 2))))))))))))))))) : mmEnds d M_X1_store 0 [.ref a0, .int x1, .ref a2] [] μ P := mm_tree 5 OB_X1_store OH_X1_store_0 h
theorem s_X1_store_0 {d : Nat} {P : Option Value → mmMem → Prop} {μ : mmMem} {a0 : Nat} {x1 : Int32} {a2 : Nat} (hd : 0 ≤ d) (k0 : mmKD a0 = 1) (k2 : mmKD a2 = 0) (h : (x1 < (0 : Int32) → P none μ) ∧ (¬ x1 < (0 : Int32) → ((40 : Int32) ≤ x1 → P none μ) ∧ (¬ (40 : Int32) ≤ x1 → P none (sD (sJ (sI μ (a0 + 1) x1.toNatClampNeg (μ.1 a2 0)) (a0 + 2) x1.toNatClampNeg (μ.2.1 a2 1)) (a0 + 3) x1.toNatClampNeg (μ.2.2 a2 2))))) : mmEnds d M_X1_store 0 [.ref a0, .int x1, .ref a2] [] μ P := s0_X1_store_0 (⟨fun q1 => (have h3 := (h).1 q1; h3), fun q2 => (have h4 := (h).2 q2; ⟨fun q5 => (have h7 := (h4).1 q5; h7), fun q6 => (have h8 := (h4).2 q6; ⟨k0, ⟨k2, ⟨(kf_1_2 k0), ⟨(vp_l (lf_1_2 k0) (vp_mk q2 q6 (by decide))), ⟨k0, ⟨k2, ⟨(kf_1_3 k0), ⟨(vp_l (lf_1_3 k0) (vp_mk q2 q6 (by decide))), ⟨k0, ⟨k2, ⟨(kf_1_4 k0), ⟨(vp_l (lf_1_4 k0) (vp_mk q2 q6 (by decide))), h8⟩⟩⟩⟩⟩⟩⟩⟩⟩⟩⟩⟩)⟩)⟩)
theorem u_X1_store {d : Nat} {K : mmMem → Prop} {μ : mmMem} {a0 : Nat} {x1 : Int32} {a2 : Nat} (hd : 1 ≤ d) (k0 : mmKD a0 = 1) (k2 : mmKD a2 = 0) (h : (x1 < (0 : Int32) → K μ) ∧ (¬ x1 < (0 : Int32) → ((40 : Int32) ≤ x1 → K μ) ∧ (¬ (40 : Int32) ≤ x1 → K (sD (sJ (sI μ (a0 + 1) x1.toNatClampNeg (μ.1 a2 0)) (a0 + 2) x1.toNatClampNeg (μ.2.1 a2 1)) (a0 + 3) x1.toNatClampNeg (μ.2.2 a2 2))))) : mmC0 d M_X1_store false 2 [.ref a0, .int x1, .ref a2] μ K :=
  mmCU.of (d' := d - 1) g_X1_store (by decide +kernel) rfl rfl (by omega) (s_X1_store_0 (d := d - 1) (by omega) k0 k2 h)
theorem g_X0_isSame : mmGd M_X0_isSame false 1 := ⟨mm_in 341 (by decide +kernel) rfl, mm_in 15 (by decide +kernel) rfl, by decide +kernel, by decide, ⟨mm_in 339 (by decide +kernel) rfl, mm_in 340 (by decide +kernel) rfl⟩⟩
def S_X0_isSame_0 : List mmMI := [(0, .aload_n 0, 1, 0, 0, 0, .null, mm0), (1, .getfield 9, 3, 103, 0, 0, .null, mm0), (4, .aload_n 1, 1, 0, 0, 0, .null, mm0), (5, .getfield 9, 3, 103, 0, 0, .null, mm0), (8, .if_icmp .ne 31, 3, 0, 39, 0, .null, mm0)]
def S_X0_isSame_11 : List mmMI := [(11, .aload_n 0, 1, 0, 0, 0, .null, mm0), (12, .getfield 15, 3, 106, 0, 1, .null, mm0), (15, .aload_n 1, 1, 0, 0, 0, .null, mm0), (16, .getfield 15, 3, 106, 0, 1, .null, mm0), (19, .lcmp, 1, 0, 0, 0, .null, mm0), (20, .ifCond .ne 19, 3, 0, 39, 0, .null, mm0)]
def S_X0_isSame_23 : List mmMI := [(23, .aload_n 0, 1, 0, 0, 0, .null, mm0), (24, .getfield 19, 3, 108, 0, 2, .null, mm0), (27, .aload_n 1, 1, 0, 0, 0, .null, mm0), (28, .getfield 19, 3, 108, 0, 2, .null, mm0), (31, .dcmp .l, 1, 0, 0, 0, .null, mm0), (32, .ifCond .ne 7, 3, 0, 39, 0, .null, mm0)]
def S_X0_isSame_35 : List mmMI := [(35, .iconst 1, 1, 0, 0, 0, .int (1 : Int32), mm0), (36, .goto 4, 3, 0, 40, 0, .null, mm0)]
def S_X0_isSame_39 : List mmMI := [(39, .iconst 0, 1, 0, 0, 0, .int (0 : Int32), mm0)]
def S_X0_isSame_40 : List mmMI := [(40, .ireturn, 1, 0, 0, 0, .null, mm0)]
def BL_X0_isSame : mmBl := [(0, S_X0_isSame_0, 11), (11, S_X0_isSame_11, 23), (23, S_X0_isSame_23, 35), (35, S_X0_isSame_35, 39), (39, S_X0_isSame_39, 40), (40, S_X0_isSame_40, 41)]
theorem OB_X0_isSame : mmOkB M_X0_isSame BL_X0_isSame = true := by decide +kernel
theorem OH_X0_isSame_0 : mmOkB M_X0_isSame [(0, S_X0_isSame_0, 11)] = true := by decide +kernel
theorem s0_X0_isSame_0 {d : Nat} {P : Option Value → mmMem → Prop} {μ : mmMem} {a0 : Nat} {a1 : Nat} (h : (mmKD a0 = 0) ∧ ((mmKD a1 = 0) ∧ ((¬ (μ.1 a0 0) = (μ.1 a1 0) → P (some (.int (0 : Int32))) μ) ∧ ((μ.1 a0 0) = (μ.1 a1 0) → (mmKD a0 = 0) ∧ ((mmKD a1 = 0) ∧ ((¬ (lg_cmp (μ.2.1 a0 1) (μ.2.1 a1 1)) = (0 : Int32) → P (some (.int (0 : Int32))) μ) ∧ ((lg_cmp (μ.2.1 a0 1) (μ.2.1 a1 1)) = (0 : Int32) → (mmKD a0 = 0) ∧ ((mmKD a1 = 0) ∧ ((¬ (Op.cmpValue (FP.dcmp (μ.2.2 a0 2) (μ.2.2 a1 2)) .l) = (0 : Int32) → P (some (.int (0 : Int32))) μ) ∧ ((Op.cmpValue (FP.dcmp (μ.2.2 a0 2) (μ.2.2 a1 2)) .l) = (0 : Int32) → P (some (.int (1 : Int32))) μ)))))))))) : mmEnds d M_X0_isSame 0 [.ref a0, .ref a1] [] μ P := mm_tree 7 OB_X0_isSame OH_X0_isSame_0 h
theorem s_X0_isSame_0 {d : Nat} {P : Option Value → mmMem → Prop} {μ : mmMem} {a0 : Nat} {a1 : Nat} (hd : 0 ≤ d) (k0 : mmKD a0 = 0) (k1 : mmKD a1 = 0) (h : (¬ (μ.1 a0 0) = (μ.1 a1 0) → P (some (.int (0 : Int32))) μ) ∧ ((μ.1 a0 0) = (μ.1 a1 0) → (¬ (lg_cmp (μ.2.1 a0 1) (μ.2.1 a1 1)) = (0 : Int32) → P (some (.int (0 : Int32))) μ) ∧ ((lg_cmp (μ.2.1 a0 1) (μ.2.1 a1 1)) = (0 : Int32) → (¬ (Op.cmpValue (FP.dcmp (μ.2.2 a0 2) (μ.2.2 a1 2)) .l) = (0 : Int32) → P (some (.int (0 : Int32))) μ) ∧ ((Op.cmpValue (FP.dcmp (μ.2.2 a0 2) (μ.2.2 a1 2)) .l) = (0 : Int32) → P (some (.int (1 : Int32))) μ)))) : mmEnds d M_X0_isSame 0 [.ref a0, .ref a1] [] μ P := s0_X0_isSame_0 (⟨k0, ⟨k1, ⟨fun q1 => (have h3 := (h).1 q1; h3), fun q2 => (have h4 := (h).2 q2; ⟨k0, ⟨k1, ⟨fun q5 => (have h7 := (h4).1 q5; h7), fun q6 => (have h8 := (h4).2 q6; ⟨k0, ⟨k1, ⟨fun q9 => (have h11 := (h8).1 q9; h11), fun q10 => (have h12 := (h8).2 q10; h12)⟩⟩⟩)⟩⟩⟩)⟩⟩⟩)
theorem u_X0_isSame {d : Nat} {K : Int32 → mmMem → Prop} {μ : mmMem} {a0 : Nat} {a1 : Nat} (hd : 1 ≤ d) (k0 : mmKD a0 = 0) (k1 : mmKD a1 = 0) (h : (¬ (μ.1 a0 0) = (μ.1 a1 0) → K (0 : Int32) μ) ∧ ((μ.1 a0 0) = (μ.1 a1 0) → (¬ (lg_cmp (μ.2.1 a0 1) (μ.2.1 a1 1)) = (0 : Int32) → K (0 : Int32) μ) ∧ ((lg_cmp (μ.2.1 a0 1) (μ.2.1 a1 1)) = (0 : Int32) → (¬ (Op.cmpValue (FP.dcmp (μ.2.2 a0 2) (μ.2.2 a1 2)) .l) = (0 : Int32) → K (0 : Int32) μ) ∧ ((Op.cmpValue (FP.dcmp (μ.2.2 a0 2) (μ.2.2 a1 2)) .l) = (0 : Int32) → K (1 : Int32) μ)))) : mmCI d M_X0_isSame false 1 [.ref a0, .ref a1] μ K :=
  mmCU.of (d' := d - 1) g_X0_isSame (by decide +kernel) rfl rfl (by omega) (s_X0_isSame_0 (d := d - 1) (by omega) k0 k1 h)
theorem g_X6_showAll : mmGd M_X6_showAll false 1 := ⟨mm_in 352 (by decide +kernel) rfl, mm_in 13 (by decide +kernel) rfl, by decide +kernel, by decide, ⟨mm_in 350 (by decide +kernel) rfl, mm_in 351 (by decide +kernel) rfl⟩⟩
def S_X6_showAll_0 : List mmMI := [(0, .aload_n 0, 1, 0, 0, 0, .null, mm0), (1, .iconst 0, 1, 0, 0, 0, .int (0 : Int32), mm0), (2, .putfield 15, 3, 83, 6, 0, .null, mm0), (5, .aload_n 0, 1, 0, 0, 0, .null, mm0), (6, .iconst 0, 1, 0, 0, 0, .int (0 : Int32), mm0), (7, .iload_n 1, 1, 0, 0, 0, .null, mm0), (8, .invokevirtual 19, 3, 278, 2, 6, .null, M_X6_append), (11, .return_, 1, 0, 0, 0, .null, mm0)]
def BL_X6_showAll : mmBl := [(0, S_X6_showAll_0, 12)]
theorem OB_X6_showAll : mmOkB M_X6_showAll BL_X6_showAll = true := by decide +kernel
theorem OH_X6_showAll_0 : mmOkB M_X6_showAll [(0, S_X6_showAll_0, 12)] = true := by decide +kernel
theorem s0_X6_showAll_0 {d : Nat} {P : Option Value → mmMem → Prop} {μ : mmMem} {a0 : Nat} {x1 : Int32} (h : (mmKD a0 = 6) ∧ ((mmKD a0 = 6) ∧ (mmC0 d M_X6_append false 2 [.ref a0, .int (0 : Int32), .int x1] (sI μ a0 0 (0 : Int32)) fun ν1 => P none ν1))) : mmEnds d M_X6_showAll 0 [.ref a0, .int x1] [] μ P := mm_tree 2 OB_X6_showAll OH_X6_showAll_0 h
theorem s_X6_showAll_0 {d : Nat} {P : Option Value → mmMem → Prop} {μ : mmMem} {a0 : Nat} {x1 : Int32} (hd : 0 ≤ d) (k0 : mmKD a0 = 6) (h : mmC0 d M_X6_append false 2 [.ref a0, .int (0 : Int32), .int x1] (sI μ a0 0 (0 : Int32)) fun ν1 => P none ν1) : mmEnds d M_X6_showAll 0 [.ref a0, .int x1] [] μ P := s0_X6_showAll_0 (⟨k0, ⟨k0, (mmC0.mono (h) (fun ν1 h2 => h2))⟩⟩)
theorem u_X6_showAll {d : Nat} {K : mmMem → Prop} {μ : mmMem} {a0 : Nat} {x1 : Int32} (hd : 1 ≤ d) (k0 : mmKD a0 = 6) (h : mmC0 (d - 1) M_X6_append false 2 [.ref a0, .int (0 : Int32), .int x1] (sI μ a0 0 (0 : Int32)) fun ν1 => K ν1) : mmC0 d M_X6_showAll false 1 [.ref a0, .int x1] μ K :=
  mmCU.of (d' := d - 1) g_X6_showAll (by decide +kernel) rfl rfl (by omega) (s_X6_showAll_0 (d := d - 1) (by omega) k0 h)
theorem g_X4_addKey : mmGd M_X4_addKey false 2 := ⟨mm_in 364 (by decide +kernel) rfl, mm_in 11 (by decide +kernel) rfl, by decide +kernel, by decide, ⟨mm_in 362 (by decide +kernel) rfl, mm_in 363 (by decide +kernel) rfl⟩⟩
def S_X4_addKey_0 : List mmMI := [(0, .aload_n 0, 1, 0, 0, 0, .null, mm0), (1, .getfield 23, 3, 139, 4, 6, .null, mm0), (4, .aload_n 0, 1, 0, 0, 0, .null, mm0), (5, .getfield 54, 3, 131, 4, 2, .null, mm0), (8, .iload_n 1, 1, 0, 0, 0, .null, mm0), (9, .iastore, 1, 0, 0, 0, .null, mm0), (10, .aload_n 0, 1, 0, 0, 0, .null, mm0), (11, .getfield 27, 3, 141, 4, 7, .null, mm0), (14, .aload_n 0, 1, 0, 0, 0, .null, mm0), (15, .getfield 54, 3, 131, 4, 2, .null, mm0), (18, .iload_n 2, 1, 0, 0, 0, .null, mm0), (19, .bastore, 1, 0, 0, 0, .null, mm0), (20, .aload_n 0, 1, 0, 0, 0, .null, mm0), (21, .dup, 1, 0, 0, 0, .null, mm0), (22, .getfield 54, 3, 131, 4, 2, .null, mm0), (25, .iconst 1, 1, 0, 0, 0, .int (1 : Int32), mm0), (26, .iadd, 1, 0, 0, 0, .null, mm0), (27, .putfield 54, 3, 131, 4, 2, .null, mm0), (30, .return_, 1, 0, 0, 0, .null, mm0)]
def BL_X4_addKey : mmBl := [(0, S_X4_addKey_0, 31)]
theorem OB_X4_addKey : mmOkB M_X4_addKey BL_X4_addKey = true := by decide +kernel
theorem OH_X4_addKey_0 : mmOkB M_X4_addKey [(0, S_X4_addKey_0, 31)] = true := by decide +kernel
theorem s0_X4_addKey_0 {d : Nat} {P : Option Value → mmMem → Prop} {μ : mmMem} {a0 : Nat} {x1 : Int32} {x2 : Int32} (h : (mmKD a0 = 4) ∧ ((mmKD a0 = 4) ∧ ((mmKD (a0 + 3) = 10) ∧ ((vp_in (μ.1 a0 2) (mmLEN (a0 + 3))) ∧ ((mmKD a0 = 4) ∧ ((mmKD a0 = 4) ∧ ((mmKD (a0 + 4) = 13) ∧ ((vp_in ((sI μ (a0 + 3) (μ.1 a0 2).toNatClampNeg x1).1 a0 2) (mmLEN (a0 + 4))) ∧ ((mmKD a0 = 4) ∧ ((mmKD a0 = 4) ∧ (P none (sI (sI (sI μ (a0 + 3) (μ.1 a0 2).toNatClampNeg x1) (a0 + 4) ((sI μ (a0 + 3) (μ.1 a0 2).toNatClampNeg x1).1 a0 2).toNatClampNeg (vp_nar .boolean x2)) a0 2 (((sI (sI μ (a0 + 3) (μ.1 a0 2).toNatClampNeg x1) (a0 + 4) ((sI μ (a0 + 3) (μ.1 a0 2).toNatClampNeg x1).1 a0 2).toNatClampNeg (vp_nar .boolean x2)).1 a0 2) + (1 : Int32)))))))))))))) : mmEnds d M_X4_addKey 0 [.ref a0, .int x1, .int x2] [] μ P := mm_tree 2 OB_X4_addKey OH_X4_addKey_0 h
theorem s_X4_addKey_0 {d : Nat} {P : Option Value → mmMem → Prop} {μ : mmMem} {a0 : Nat} {x1 : Int32} {x2 : Int32} (hd : 0 ≤ d) (k0 : mmKD a0 = 4) (h : (vp_in (μ.1 a0 2) 4) ∧ ((vp_in ((sI μ (a0 + 3) (μ.1 a0 2).toNatClampNeg x1).1 a0 2) 4) ∧ (P none (sI (sI (sI μ (a0 + 3) (μ.1 a0 2).toNatClampNeg x1) (a0 + 4) ((sI μ (a0 + 3) (μ.1 a0 2).toNatClampNeg x1).1 a0 2).toNatClampNeg (vp_nar .boolean x2)) a0 2 (((sI (sI μ (a0 + 3) (μ.1 a0 2).toNatClampNeg x1) (a0 + 4) ((sI μ (a0 + 3) (μ.1 a0 2).toNatClampNeg x1).1 a0 2).toNatClampNeg (vp_nar .boolean x2)).1 a0 2) + (1 : Int32)))))) : mmEnds d M_X4_addKey 0 [.ref a0, .int x1, .int x2] [] μ P := s0_X4_addKey_0 (⟨k0, ⟨k0, ⟨(kf_4_6 k0), (have o1 := (h).1; have h2 := (h).2; ⟨vp_l (lf_4_6 k0) o1, ⟨k0, ⟨k0, ⟨(kf_4_7 k0), (have o3 := (h2).1; have h4 := (h2).2; ⟨vp_l (lf_4_7 k0) o3, ⟨k0, ⟨k0, h4⟩⟩⟩)⟩⟩⟩⟩)⟩⟩⟩)
theorem u_X4_addKey {d : Nat} {K : mmMem → Prop} {μ : mmMem} {a0 : Nat} {x1 : Int32} {x2 : Int32} (hd : 1 ≤ d) (k0 : mmKD a0 = 4) (h : (vp_in (μ.1 a0 2) 4) ∧ ((vp_in ((sI μ (a0 + 3) (μ.1 a0 2).toNatClampNeg x1).1 a0 2) 4) ∧ (K (sI (sI (sI μ (a0 + 3) (μ.1 a0 2).toNatClampNeg x1) (a0 + 4) ((sI μ (a0 + 3) (μ.1 a0 2).toNatClampNeg x1).1 a0 2).toNatClampNeg (vp_nar .boolean x2)) a0 2 (((sI (sI μ (a0 + 3) (μ.1 a0 2).toNatClampNeg x1) (a0 + 4) ((sI μ (a0 + 3) (μ.1 a0 2).toNatClampNeg x1).1 a0 2).toNatClampNeg (vp_nar .boolean x2)).1 a0 2) + (1 : Int32)))))) : mmC0 d M_X4_addKey false 2 [.ref a0, .int x1, .int x2] μ K :=
  mmCU.of (d' := d - 1) g_X4_addKey (by decide +kernel) rfl rfl (by omega) (s_X4_addKey_0 (d := d - 1) (by omega) k0 h)
theorem g_X0_family : mmGd M_X0_family false 0 := ⟨mm_in 387 (by decide +kernel) rfl, mm_in 15 (by decide +kernel) rfl, by decide +kernel, by decide, ⟨mm_in 385 (by decide +kernel) rfl, mm_in 386 (by decide +kernel) rfl⟩⟩
def S_X0_family_0 : List mmMI := [(0, .aload_n 0, 1, 0, 0, 0, .null, mm0), (1, .getfield 9, 3, 103, 0, 0, .null, mm0), (4, .iconst (-1), 1, 0, 0, 0, .int (-1 : Int32), mm0), (5, .if_icmp .ne 5, 3, 0, 10, 0, .null, mm0)]
def S_X0_family_8 : List mmMI := [(8, .iconst 3, 1, 0, 0, 0, .int (3 : Int32), mm0), (9, .ireturn, 1, 0, 0, 0, .null, mm0)]
def S_X0_family_10 : List mmMI := [(10, .aload_n 0, 1, 0, 0, 0, .null, mm0), (11, .getfield 9, 3, 103, 0, 0, .null, mm0), (14, .bipush 10, 2, 0, 0, 0, .int (10 : Int32), mm0), (16, .if_icmp .ne 5, 3, 0, 21, 0, .null, mm0)]
def S_X0_family_19 : List mmMI := [(19, .iconst 2, 1, 0, 0, 0, .int (2 : Int32), mm0), (20, .ireturn, 1, 0, 0, 0, .null, mm0)]
def S_X0_family_21 : List mmMI := [(21, .aload_n 0, 1, 0, 0, 0, .null, mm0), (22, .getfield 9, 3, 103, 0, 0, .null, mm0), (25, .ifCond .ne 7, 3, 0, 32, 0, .null, mm0)]
def S_X0_family_28 : List mmMI := [(28, .iconst 0, 1, 0, 0, 0, .int (0 : Int32), mm0), (29, .goto 4, 3, 0, 33, 0, .null, mm0)]
def S_X0_family_32 : List mmMI := [(32, .iconst 1, 1, 0, 0, 0, .int (1 : Int32), mm0)]
def S_X0_family_33 : List mmMI := [(33, .ireturn, 1, 0, 0, 0, .null, mm0)]
def BL_X0_family : mmBl := [(0, S_X0_family_0, 8), (8, S_X0_family_8, 10), (10, S_X0_family_10, 19), (19, S_X0_family_19, 21), (21, S_X0_family_21, 28), (28, S_X0_family_28, 32), (32, S_X0_family_32, 33), (33, S_X0_family_33, 34)]
theorem OB_X0_family : mmOkB M_X0_family BL_X0_family = true := by decide +kernel
theorem OH_X0_family_0 : mmOkB M_X0_family [(0, S_X0_family_0, 8)] = true := by decide +kernel
theorem s0_X0_family_0 {d : Nat} {P : Option Value → mmMem → Prop} {μ : mmMem} {a0 : Nat} (h : (mmKD a0 = 0) ∧ ((¬ (μ.1 a0 0) = (-1 : Int32) → (mmKD a0 = 0) ∧ ((¬ (μ.1 a0 0) = (10 : Int32) → (mmKD a0 = 0) ∧ ((¬ (μ.1 a0 0) = (0 : Int32) → P (some (.int (1 : Int32))) μ) ∧ ((μ.1 a0 0) = (0 : Int32) → P (some (.int (0 : Int32))) μ))) ∧ ((μ.1 a0 0) = (10 : Int32) → P (some (.int (2 : Int32))) μ))) ∧ ((μ.1 a0 0) = (-1 : Int32) → P (some (.int (3 : Int32))) μ))) : mmEnds d M_X0_family 0 [.ref a0] [] μ P := mm_tree 9 OB_X0_family OH_X0_family_0 h
theorem s_X0_family_0 {d : Nat} {P : Option Value → mmMem → Prop} {μ : mmMem} {a0 : Nat} (hd : 0 ≤ d) (k0 : mmKD a0 = 0) (h : (¬ (μ.1 a0 0) = (-1 : Int32) → (¬ (μ.1 a0 0) = (10 : Int32) → (¬ (μ.1 a0 0) = (0 : Int32) → P (some (.int (1 : Int32))) μ) ∧ ((μ.1 a0 0) = (0 : Int32) → P (some (.int (0 : Int32))) μ)) ∧ ((μ.1 a0 0) = (10 : Int32) → P (some (.int (2 : Int32))) μ)) ∧ ((μ.1 a0 0) = (-1 : Int32) → P (some (.int (3 : Int32))) μ)) : mmEnds d M_X0_family 0 [.ref a0] [] μ P := s0_X0_family_0 (⟨k0, ⟨fun q1 => (have h3 := (h).1 q1; ⟨k0, ⟨fun q5 => (have h7 := (h3).1 q5; ⟨k0, ⟨fun q9 => (have h11 := (h7).1 q9; h11), fun q10 => (have h12 := (h7).2 q10; h12)⟩⟩), fun q6 => (have h8 := (h3).2 q6; h8)⟩⟩), fun q2 => (have h4 := (h).2 q2; h4)⟩⟩)
theorem u_X0_family {d : Nat} {K : Int32 → mmMem → Prop} {μ : mmMem} {a0 : Nat} (hd : 1 ≤ d) (k0 : mmKD a0 = 0) (h : (¬ (μ.1 a0 0) = (-1 : Int32) → (¬ (μ.1 a0 0) = (10 : Int32) → (¬ (μ.1 a0 0) = (0 : Int32) → K (1 : Int32) μ) ∧ ((μ.1 a0 0) = (0 : Int32) → K (0 : Int32) μ)) ∧ ((μ.1 a0 0) = (10 : Int32) → K (2 : Int32) μ)) ∧ ((μ.1 a0 0) = (-1 : Int32) → K (3 : Int32) μ)) : mmCI d M_X0_family false 0 [.ref a0] μ K :=
  mmCU.of (d' := d - 1) g_X0_family (by decide +kernel) rfl rfl (by omega) (s_X0_family_0 (d := d - 1) (by omega) k0 h)
theorem g_X0_isNumber : mmGd M_X0_isNumber false 0 := ⟨mm_in 394 (by decide +kernel) rfl, mm_in 15 (by decide +kernel) rfl, by decide +kernel, by decide, ⟨mm_in 392 (by decide +kernel) rfl, mm_in 393 (by decide +kernel) rfl⟩⟩
def S_X0_isNumber_0 : List mmMI := [(0, .aload_n 0, 1, 0, 0, 0, .null, mm0), (1, .getfield 9, 3, 103, 0, 0, .null, mm0), (4, .iconst 1, 1, 0, 0, 0, .int (1 : Int32), mm0), (5, .if_icmp .lt 16, 3, 0, 21, 0, .null, mm0)]
def S_X0_isNumber_8 : List mmMI := [(8, .aload_n 0, 1, 0, 0, 0, .null, mm0), (9, .getfield 9, 3, 103, 0, 0, .null, mm0), (12, .bipush 7, 2, 0, 0, 0, .int (7 : Int32), mm0), (14, .if_icmp .gt 7, 3, 0, 21, 0, .null, mm0)]
def S_X0_isNumber_17 : List mmMI := [(17, .iconst 1, 1, 0, 0, 0, .int (1 : Int32), mm0), (18, .goto 4, 3, 0, 22, 0, .null, mm0)]
def S_X0_isNumber_21 : List mmMI := [(21, .iconst 0, 1, 0, 0, 0, .int (0 : Int32), mm0)]
def S_X0_isNumber_22 : List mmMI := [(22, .ireturn, 1, 0, 0, 0, .null, mm0)]
def BL_X0_isNumber : mmBl := [(0, S_X0_isNumber_0, 8), (8, S_X0_isNumber_8, 17), (17, S_X0_isNumber_17, 21), (21, S_X0_isNumber_21, 22), (22, S_X0_isNumber_22, 23)]
theorem OB_X0_isNumber : mmOkB M_X0_isNumber BL_X0_isNumber = true := by decide +kernel
theorem OH_X0_isNumber_0 : mmOkB M_X0_isNumber [(0, S_X0_isNumber_0, 8)] = true := by decide +kernel
theorem s0_X0_isNumber_0 {d : Nat} {P : Option Value → mmMem → Prop} {μ : mmMem} {a0 : Nat} (h : (mmKD a0 = 0) ∧ (((μ.1 a0 0) < (1 : Int32) → P (some (.int (0 : Int32))) μ) ∧ (¬ (μ.1 a0 0) < (1 : Int32) → (mmKD a0 = 0) ∧ (((7 : Int32) < (μ.1 a0 0) → P (some (.int (0 : Int32))) μ) ∧ (¬ (7 : Int32) < (μ.1 a0 0) → P (some (.int (1 : Int32))) μ))))) : mmEnds d M_X0_isNumber 0 [.ref a0] [] μ P := mm_tree 6 OB_X0_isNumber OH_X0_isNumber_0 h
theorem s_X0_isNumber_0 {d : Nat} {P : Option Value → mmMem → Prop} {μ : mmMem} {a0 : Nat} (hd : 0 ≤ d) (k0 : mmKD a0 = 0) (h : ((μ.1 a0 0) < (1 : Int32) → P (some (.int (0 : Int32))) μ) ∧ (¬ (μ.1 a0 0) < (1 : Int32) → ((7 : Int32) < (μ.1 a0 0) → P (some (.int (0 : Int32))) μ) ∧ (¬ (7 : Int32) < (μ.1 a0 0) → P (some (.int (1 : Int32))) μ))) : mmEnds d M_X0_isNumber 0 [.ref a0] [] μ P := s0_X0_isNumber_0 (⟨k0, ⟨fun q1 => (have h3 := (h).1 q1; h3), fun q2 => (have h4 := (h).2 q2; ⟨k0, ⟨fun q5 => (have h7 := (h4).1 q5; h7), fun q6 => (have h8 := (h4).2 q6; h8)⟩⟩)⟩⟩)
theorem u_X0_isNumber {d : Nat} {K : Int32 → mmMem → Prop} {μ : mmMem} {a0 : Nat} (hd : 1 ≤ d) (k0 : mmKD a0 = 0) (h : ((μ.1 a0 0) < (1 : Int32) → K (0 : Int32) μ) ∧ (¬ (μ.1 a0 0) < (1 : Int32) → ((7 : Int32) < (μ.1 a0 0) → K (0 : Int32) μ) ∧ (¬ (7 : Int32) < (μ.1 a0 0) → K (1 : Int32) μ))) : mmCI d M_X0_isNumber false 0 [.ref a0] μ K :=
  mmCU.of (d' := d - 1) g_X0_isNumber (by decide +kernel) rfl rfl (by omega) (s_X0_isNumber_0 (d := d - 1) (by omega) k0 h)
theorem g_X0_place : mmGd M_X0_place false 0 := ⟨mm_in 398 (by decide +kernel) rfl, mm_in 15 (by decide +kernel) rfl, by decide +kernel, by decide, ⟨mm_in 396 (by decide +kernel) rfl, mm_in 397 (by decide +kernel) rfl⟩⟩
def S_X0_place_0 : List mmMI := [(0, .aload_n 0, 1, 0, 0, 0, .null, mm0), (1, .getfield 9, 3, 103, 0, 0, .null, mm0), (4, .bipush 10, 2, 0, 0, 0, .int (10 : Int32), mm0), (6, .if_icmp .eq 8, 3, 0, 14, 0, .null, mm0)]
def S_X0_place_9 : List mmMI := [(9, .aload_n 0, 1, 0, 0, 0, .null, mm0), (10, .getfield 15, 3, 106, 0, 1, .null, mm0), (13, .lreturn, 1, 0, 0, 0, .null, mm0)]
def S_X0_place_14 : List mmMI := [(14, .aload_n 0, 1, 0, 0, 0, .null, mm0), (15, .getfield 15, 3, 106, 0, 1, .null, mm0), (18, .ldc2_w 50, 3, 399, 0, 0, .long (26 : Int64), mm0), (21, .lcmp, 1, 0, 0, 0, .null, mm0), (22, .ifCond .gt 14, 3, 0, 36, 0, .null, mm0)]
def S_X0_place_25 : List mmMI := [(25, .aload_n 0, 1, 0, 0, 0, .null, mm0), (26, .getfield 15, 3, 106, 0, 1, .null, mm0), (29, .lconst 1, 1, 0, 0, 0, .long (1 : Int64), mm0), (30, .lsub, 1, 0, 0, 0, .null, mm0), (31, .ldc2_w 52, 3, 400, 0, 0, .long (27 : Int64), mm0), (34, .lmul, 1, 0, 0, 0, .null, mm0), (35, .lreturn, 1, 0, 0, 0, .null, mm0)]
def S_X0_place_36 : List mmMI := [(36, .aload_n 0, 1, 0, 0, 0, .null, mm0), (37, .getfield 15, 3, 106, 0, 1, .null, mm0), (40, .ldc2_w 52, 3, 400, 0, 0, .long (27 : Int64), mm0), (43, .lsub, 1, 0, 0, 0, .null, mm0), (44, .ldc2_w 50, 3, 399, 0, 0, .long (26 : Int64), mm0), (47, .ldiv, 1, 0, 0, 0, .null, mm0), (48, .ldc2_w 52, 3, 400, 0, 0, .long (27 : Int64), mm0), (51, .lmul, 1, 0, 0, 0, .null, mm0), (52, .aload_n 0, 1, 0, 0, 0, .null, mm0), (53, .getfield 15, 3, 106, 0, 1, .null, mm0), (56, .ldc2_w 52, 3, 400, 0, 0, .long (27 : Int64), mm0), (59, .lsub, 1, 0, 0, 0, .null, mm0), (60, .ldc2_w 50, 3, 399, 0, 0, .long (26 : Int64), mm0), (63, .lrem, 1, 0, 0, 0, .null, mm0), (64, .ladd, 1, 0, 0, 0, .null, mm0), (65, .lconst 1, 1, 0, 0, 0, .long (1 : Int64), mm0), (66, .ladd, 1, 0, 0, 0, .null, mm0), (67, .lreturn, 1, 0, 0, 0, .null, mm0)]
def BL_X0_place : mmBl := [(0, S_X0_place_0, 9), (9, S_X0_place_9, 14), (14, S_X0_place_14, 25), (25, S_X0_place_25, 36), (36, S_X0_place_36, 68)]
theorem OB_X0_place : mmOkB M_X0_place BL_X0_place = true := by decide +kernel
theorem OH_X0_place_0 : mmOkB M_X0_place [(0, S_X0_place_0, 9)] = true := by decide +kernel
theorem s0_X0_place_0 {d : Nat} {P : Option Value → mmMem → Prop} {μ : mmMem} {a0 : Nat} (h : (mmKD a0 = 0) ∧ (((μ.1 a0 0) = (10 : Int32) → (mmKD a0 = 0) ∧ (((0 : Int32) < (lg_cmp (μ.2.1 a0 1) (26 : Int64)) → (mmKD a0 = 0) ∧ ((¬ (26 : Int64) = 0) ∧ ((mmKD a0 = 0) ∧ ((¬ (26 : Int64) = 0) ∧ (P (some (.long ((((((μ.2.1 a0 1) - (27 : Int64)) / (26 : Int64)) * (27 : Int64)) + (((μ.2.1 a0 1) - (27 : Int64)) - ((μ.2.1 a0 1) - (27 : Int64)) / (26 : Int64) * (26 : Int64))) + (1 : Int64)))) μ))))) ∧ (¬ (0 : Int32) < (lg_cmp (μ.2.1 a0 1) (26 : Int64)) → (mmKD a0 = 0) ∧ (P (some (.long (((μ.2.1 a0 1) - (1 : Int64)) * (27 : Int64)))) μ)))) ∧ (¬ (μ.1 a0 0) = (10 : Int32) → (mmKD a0 = 0) ∧ (P (some (.long (μ.2.1 a0 1))) μ)))) : mmEnds d M_X0_place 0 [.ref a0] [] μ P := mm_tree 6 OB_X0_place OH_X0_place_0 h
theorem s_X0_place_0 {d : Nat} {P : Option Value → mmMem → Prop} {μ : mmMem} {a0 : Nat} (hd : 0 ≤ d) (k0 : mmKD a0 = 0) (h : ((μ.1 a0 0) = (10 : Int32) → ((0 : Int32) < (lg_cmp (μ.2.1 a0 1) (26 : Int64)) → P (some (.long ((((((μ.2.1 a0 1) - (27 : Int64)) / (26 : Int64)) * (27 : Int64)) + (((μ.2.1 a0 1) - (27 : Int64)) - ((μ.2.1 a0 1) - (27 : Int64)) / (26 : Int64) * (26 : Int64))) + (1 : Int64)))) μ) ∧ (¬ (0 : Int32) < (lg_cmp (μ.2.1 a0 1) (26 : Int64)) → P (some (.long (((μ.2.1 a0 1) - (1 : Int64)) * (27 : Int64)))) μ)) ∧ (¬ (μ.1 a0 0) = (10 : Int32) → P (some (.long (μ.2.1 a0 1))) μ)) : mmEnds d M_X0_place 0 [.ref a0] [] μ P := s0_X0_place_0 (⟨k0, ⟨fun q1 => (have h3 := (h).1 q1; ⟨k0, ⟨fun q5 => (have h7 := (h3).1 q5; ⟨k0, ⟨(by decide), ⟨k0, ⟨(by decide), h7⟩⟩⟩⟩), fun q6 => (have h8 := (h3).2 q6; ⟨k0, h8⟩)⟩⟩), fun q2 => (have h4 := (h).2 q2; ⟨k0, h4⟩)⟩⟩)
theorem u_X0_place {d : Nat} {K : Int64 → mmMem → Prop} {μ : mmMem} {a0 : Nat} (hd : 1 ≤ d) (k0 : mmKD a0 = 0) (h : ((μ.1 a0 0) = (10 : Int32) → ((0 : Int32) < (lg_cmp (μ.2.1 a0 1) (26 : Int64)) → K ((((((μ.2.1 a0 1) - (27 : Int64)) / (26 : Int64)) * (27 : Int64)) + (((μ.2.1 a0 1) - (27 : Int64)) - ((μ.2.1 a0 1) - (27 : Int64)) / (26 : Int64) * (26 : Int64))) + (1 : Int64)) μ) ∧ (¬ (0 : Int32) < (lg_cmp (μ.2.1 a0 1) (26 : Int64)) → K (((μ.2.1 a0 1) - (1 : Int64)) * (27 : Int64)) μ)) ∧ (¬ (μ.1 a0 0) = (10 : Int32) → K (μ.2.1 a0 1) μ)) : mmCJ d M_X0_place false 0 [.ref a0] μ K :=
  mmCU.of (d' := d - 1) g_X0_place (by decide +kernel) rfl rfl (by omega) (s_X0_place_0 (d := d - 1) (by omega) k0 h)
theorem g_X0_rankAgainst : mmGd M_X0_rankAgainst false 1 := ⟨mm_in 383 (by decide +kernel) rfl, mm_in 15 (by decide +kernel) rfl, by decide +kernel, by decide, ⟨mm_in 381 (by decide +kernel) rfl, mm_in 382 (by decide +kernel) rfl⟩⟩
def S_X0_rankAgainst_0 : List mmMI := [(0, .aload_n 0, 1, 0, 0, 0, .null, mm0), (1, .invokevirtual 54, 3, 384, 0, 0, .null, M_X0_family), (4, .aload_n 1, 1, 0, 0, 0, .null, mm0), (5, .invokevirtual 54, 3, 384, 0, 0, .null, M_X0_family), (8, .if_icmp .eq 15, 3, 0, 23, 0, .null, mm0)]
def S_X0_rankAgainst_11 : List mmMI := [(11, .aload_n 0, 1, 0, 0, 0, .null, mm0), (12, .invokevirtual 54, 3, 384, 0, 0, .null, M_X0_family), (15, .aload_n 1, 1, 0, 0, 0, .null, mm0), (16, .invokevirtual 54, 3, 384, 0, 0, .null, M_X0_family), (19, .invokestatic 58, 3, 388, 2, 0, .null, M_J6_compare_7cf53), (22, .ireturn, 1, 0, 0, 0, .null, mm0)]
def S_X0_rankAgainst_23 : List mmMI := [(23, .aload_n 0, 1, 0, 0, 0, .null, mm0), (24, .getfield 19, 3, 108, 0, 2, .null, mm0), (27, .aload_n 1, 1, 0, 0, 0, .null, mm0), (28, .getfield 19, 3, 108, 0, 2, .null, mm0), (31, .dcmp .l, 1, 0, 0, 0, .null, mm0), (32, .ifCond .eq 21, 3, 0, 53, 0, .null, mm0)]
def S_X0_rankAgainst_35 : List mmMI := [(35, .aload_n 0, 1, 0, 0, 0, .null, mm0), (36, .getfield 19, 3, 108, 0, 2, .null, mm0), (39, .aload_n 1, 1, 0, 0, 0, .null, mm0), (40, .getfield 19, 3, 108, 0, 2, .null, mm0), (43, .dcmp .g, 1, 0, 0, 0, .null, mm0), (44, .ifCond .ge 7, 3, 0, 51, 0, .null, mm0)]
def S_X0_rankAgainst_47 : List mmMI := [(47, .iconst (-1), 1, 0, 0, 0, .int (-1 : Int32), mm0), (48, .goto 4, 3, 0, 52, 0, .null, mm0)]
def S_X0_rankAgainst_51 : List mmMI := [(51, .iconst 1, 1, 0, 0, 0, .int (1 : Int32), mm0)]
def S_X0_rankAgainst_52 : List mmMI := [(52, .ireturn, 1, 0, 0, 0, .null, mm0)]
def S_X0_rankAgainst_53 : List mmMI := [(53, .aload_n 0, 1, 0, 0, 0, .null, mm0), (54, .invokevirtual 64, 3, 391, 0, 0, .null, M_X0_isNumber), (57, .ifCond .eq 26, 3, 0, 83, 0, .null, mm0)]
def S_X0_rankAgainst_60 : List mmMI := [(60, .aload_n 0, 1, 0, 0, 0, .null, mm0), (61, .getfield 9, 3, 103, 0, 0, .null, mm0), (64, .aload_n 1, 1, 0, 0, 0, .null, mm0), (65, .getfield 9, 3, 103, 0, 0, .null, mm0), (68, .if_icmp .eq 15, 3, 0, 83, 0, .null, mm0)]
def S_X0_rankAgainst_71 : List mmMI := [(71, .aload_n 0, 1, 0, 0, 0, .null, mm0), (72, .getfield 9, 3, 103, 0, 0, .null, mm0), (75, .aload_n 1, 1, 0, 0, 0, .null, mm0), (76, .getfield 9, 3, 103, 0, 0, .null, mm0), (79, .invokestatic 58, 3, 388, 2, 0, .null, M_J6_compare_7cf53), (82, .ireturn, 1, 0, 0, 0, .null, mm0)]
def S_X0_rankAgainst_83 : List mmMI := [(83, .aload_n 0, 1, 0, 0, 0, .null, mm0), (84, .invokevirtual 68, 3, 395, 0, 0, .null, M_X0_place), (87, .aload_n 1, 1, 0, 0, 0, .null, mm0), (88, .invokevirtual 68, 3, 395, 0, 0, .null, M_X0_place), (91, .invokestatic 72, 3, 401, 2, 0, .null, M_J13_compare_74951), (94, .ireturn, 1, 0, 0, 0, .null, mm0)]
def BL_X0_rankAgainst : mmBl := [(0, S_X0_rankAgainst_0, 11), (11, S_X0_rankAgainst_11, 23), (23, S_X0_rankAgainst_23, 35), (35, S_X0_rankAgainst_35, 47), (47, S_X0_rankAgainst_47, 51), (51, S_X0_rankAgainst_51, 52), (52, S_X0_rankAgainst_52, 53), (53, S_X0_rankAgainst_53, 60), (60, S_X0_rankAgainst_60, 71), (71, S_X0_rankAgainst_71, 83), (83, S_X0_rankAgainst_83, 95)]
theorem OB_X0_rankAgainst : mmOkB M_X0_rankAgainst BL_X0_rankAgainst = true := by decide +kernel
theorem OH_X0_rankAgainst_0 : mmOkB M_X0_rankAgainst [(0, S_X0_rankAgainst_0, 11)] = true := by decide +kernel
set_option maxRecDepth 10000 in
theorem s0_X0_rankAgainst_0 {d : Nat} {P : Option Value → mmMem → Prop} {μ : mmMem} {a0 : Nat} {a1 : Nat} (h : (mmKD a0 = 0) ∧ (mmCI d M_X0_family false 0 [.ref a0] μ fun y1 ν1 => (mmKD a1 = 0) ∧ (mmCI d M_X0_family false 0 [.ref a1] ν1 fun y2 ν2 => (y1 = y2 → (mmKD a0 = 0) ∧ ((mmKD a1 = 0) ∧ (((Op.cmpValue (FP.dcmp (ν2.2.2 a0 2) (ν2.2.2 a1 2)) .l) = (0 : Int32) → (mmKD a0 = 0) ∧ (mmCI d M_X0_isNumber false 0 [.ref a0] ν2 fun y3 ν3 => (y3 = (0 : Int32) → (mmKD a0 = 0) ∧ (mmCJ d M_X0_place false 0 [.ref a0] ν3 fun y4 ν4 => (mmKD a1 = 0) ∧ (mmCJ d M_X0_place false 0 [.ref a1] ν4 fun y5 ν5 => mmCI d M_J13_compare_74951 true 2 [.long y4, .long y5] ν5 fun y6 ν6 => P (some (.int y6)) ν6))) ∧ (¬ y3 = (0 : Int32) → (mmKD a0 = 0) ∧ ((mmKD a1 = 0) ∧ (((ν3.1 a0 0) = (ν3.1 a1 0) → (mmKD a0 = 0) ∧ (mmCJ d M_X0_place false 0 [.ref a0] ν3 fun y7 ν7 => (mmKD a1 = 0) ∧ (mmCJ d M_X0_place false 0 [.ref a1] ν7 fun y8 ν8 => mmCI d M_J13_compare_74951 true 2 [.long y7, .long y8] ν8 fun y9 ν9 => P (some (.int y9)) ν9))) ∧ (¬ (ν3.1 a0 0) = (ν3.1 a1 0) → (mmKD a0 = 0) ∧ ((mmKD a1 = 0) ∧ (mmCI d M_J6_compare_7cf53 true 2 [.int (ν3.1 a0 0), .int (ν3.1 a1 0)] ν3 fun y10 ν10 => P (some (.int y10)) ν10)))))))) ∧ (¬ (Op.cmpValue (FP.dcmp (ν2.2.2 a0 2) (ν2.2.2 a1 2)) .l) = (0 : Int32) → (mmKD a0 = 0) ∧ ((mmKD a1 = 0) ∧ (((0 : Int32) ≤ (Op.cmpValue (FP.dcmp (ν2.2.2 a0 2) (ν2.2.2 a1 2)) .g) → P (some (.int (1 : Int32))) ν2) ∧ (¬ (0 : Int32) ≤ (Op.cmpValue (FP.dcmp (ν2.2.2 a0 2) (ν2.2.2 a1 2)) .g) → P (some (.int (-1 : Int32))) ν2))))))) ∧ (¬ y1 = y2 → (mmKD a0 = 0) ∧ (mmCI d M_X0_family false 0 [.ref a0] ν2 fun y11 ν11 => (mmKD a1 = 0) ∧ (mmCI d M_X0_family false 0 [.ref a1] ν11 fun y12 ν12 => mmCI d M_J6_compare_7cf53 true 2 [.int y11, .int y12] ν12 fun y13 ν13 => P (some (.int y13)) ν13)))))) : mmEnds d M_X0_rankAgainst 0 [.ref a0, .ref a1] [] μ P := mm_tree 12 OB_X0_rankAgainst OH_X0_rankAgainst_0 h
set_option maxRecDepth 10000 in
theorem s_X0_rankAgainst_0 {d : Nat} {P : Option Value → mmMem → Prop} {μ : mmMem} {a0 : Nat} {a1 : Nat} (hd : 1 ≤ d) (k0 : mmKD a0 = 0) (k1 : mmKD a1 = 0) (h : mmCI d M_X0_family false 0 [.ref a0] μ fun y2 ν1 => mmCI d M_X0_family false 0 [.ref a1] ν1 fun y4 ν3 => (y2 = y4 → ((Op.cmpValue (FP.dcmp (ν3.2.2 a0 2) (ν3.2.2 a1 2)) .l) = (0 : Int32) → mmCI d M_X0_isNumber false 0 [.ref a0] ν3 fun y14 ν13 => (y14 = (0 : Int32) → mmCJ d M_X0_place false 0 [.ref a0] ν13 fun y20 ν19 => mmCJ d M_X0_place false 0 [.ref a1] ν19 fun y22 ν21 => ((0 : Int32) ≤ (lg_cmp y20 y22) → (¬ (lg_cmp y20 y22) = (0 : Int32) → P (some (.int (1 : Int32))) ν21) ∧ ((lg_cmp y20 y22) = (0 : Int32) → P (some (.int (0 : Int32))) ν21)) ∧ (¬ (0 : Int32) ≤ (lg_cmp y20 y22) → P (some (.int (-1 : Int32))) ν21)) ∧ (¬ y14 = (0 : Int32) → ((ν13.1 a0 0) = (ν13.1 a1 0) → mmCJ d M_X0_place false 0 [.ref a0] ν13 fun y38 ν37 => mmCJ d M_X0_place false 0 [.ref a1] ν37 fun y40 ν39 => ((0 : Int32) ≤ (lg_cmp y38 y40) → (¬ (lg_cmp y38 y40) = (0 : Int32) → P (some (.int (1 : Int32))) ν39) ∧ ((lg_cmp y38 y40) = (0 : Int32) → P (some (.int (0 : Int32))) ν39)) ∧ (¬ (0 : Int32) ≤ (lg_cmp y38 y40) → P (some (.int (-1 : Int32))) ν39)) ∧ (¬ (ν13.1 a0 0) = (ν13.1 a1 0) → ((ν13.1 a1 0) ≤ (ν13.1 a0 0) → P (some (.int (1 : Int32))) ν13) ∧ (¬ (ν13.1 a1 0) ≤ (ν13.1 a0 0) → P (some (.int (-1 : Int32))) ν13)))) ∧ (¬ (Op.cmpValue (FP.dcmp (ν3.2.2 a0 2) (ν3.2.2 a1 2)) .l) = (0 : Int32) → ((0 : Int32) ≤ (Op.cmpValue (FP.dcmp (ν3.2.2 a0 2) (ν3.2.2 a1 2)) .g) → P (some (.int (1 : Int32))) ν3) ∧ (¬ (0 : Int32) ≤ (Op.cmpValue (FP.dcmp (ν3.2.2 a0 2) (ν3.2.2 a1 2)) .g) → P (some (.int (-1 : Int32))) ν3))) ∧ (¬ y2 = y4 → mmCI d M_X0_family false 0 [.ref a0] ν3 fun y62 ν61 => mmCI d M_X0_family false 0 [.ref a1] ν61 fun y64 ν63 => (y64 ≤ y62 → (¬ y62 = y64 → P (some (.int (1 : Int32))) ν63) ∧ (y62 = y64 → P (some (.int (0 : Int32))) ν63)) ∧ (¬ y64 ≤ y62 → P (some (.int (-1 : Int32))) ν63))) : mmEnds d M_X0_rankAgainst 0 [.ref a0, .ref a1] [] μ P := s0_X0_rankAgainst_0 (⟨k0, (mmCI.mono (h) (fun y2 ν1 h76 => ⟨k1, (mmCI.mono (h76) (fun y4 ν3 h75 => ⟨fun q5 => (have h7 := (h75).1 q5; ⟨k0, ⟨k1, ⟨fun q9 => (have h11 := (h7).1 q9; ⟨k0, (mmCI.mono (h11) (fun y14 ν13 h56 => ⟨fun q15 => (have h17 := (h56).1 q15; ⟨k0, (mmCJ.mono (h17) (fun y20 ν19 h32 => ⟨k1, (mmCJ.mono (h32) (fun y22 ν21 h31 => (u_J13_compare_74951 (by omega)  (⟨fun q23 => (have h25 := (h31).1 q23; ⟨fun q27 => (have h29 := (h25).1 q27; h29), fun q28 => (have h30 := (h25).2 q28; h30)⟩), fun q24 => (have h26 := (h31).2 q24; h26)⟩))))⟩))⟩), fun q16 => (have h18 := (h56).2 q16; ⟨k0, ⟨k1, ⟨fun q33 => (have h35 := (h18).1 q33; ⟨k0, (mmCJ.mono (h35) (fun y38 ν37 h50 => ⟨k1, (mmCJ.mono (h50) (fun y40 ν39 h49 => (u_J13_compare_74951 (by omega)  (⟨fun q41 => (have h43 := (h49).1 q41; ⟨fun q45 => (have h47 := (h43).1 q45; h47), fun q46 => (have h48 := (h43).2 q46; h48)⟩), fun q42 => (have h44 := (h49).2 q42; h44)⟩))))⟩))⟩), fun q34 => (have h36 := (h18).2 q34; ⟨k0, ⟨k1, (u_J6_compare_7cf53 (by omega)  (⟨fun q51 => (have h53 := (h36).1 q51; ⟨fun _ => h53, fun q55 => absurd q55 q34⟩), fun q52 => (have h54 := (h36).2 q52; h54)⟩))⟩⟩)⟩⟩⟩)⟩))⟩), fun q10 => (have h12 := (h7).2 q10; ⟨k0, ⟨k1, ⟨fun q57 => (have h59 := (h12).1 q57; h59), fun q58 => (have h60 := (h12).2 q58; h60)⟩⟩⟩)⟩⟩⟩), fun q6 => (have h8 := (h75).2 q6; ⟨k0, (mmCI.mono (h8) (fun y62 ν61 h74 => ⟨k1, (mmCI.mono (h74) (fun y64 ν63 h73 => (u_J6_compare_7cf53 (by omega)  (⟨fun q65 => (have h67 := (h73).1 q65; ⟨fun q69 => (have h71 := (h67).1 q69; h71), fun q70 => (have h72 := (h67).2 q70; h72)⟩), fun q66 => (have h68 := (h73).2 q66; h68)⟩))))⟩))⟩)⟩))⟩))⟩)
set_option maxRecDepth 10000 in
theorem u_X0_rankAgainst {d : Nat} {K : Int32 → mmMem → Prop} {μ : mmMem} {a0 : Nat} {a1 : Nat} (hd : 2 ≤ d) (k0 : mmKD a0 = 0) (k1 : mmKD a1 = 0) (h : mmCI (d - 1) M_X0_family false 0 [.ref a0] μ fun y2 ν1 => mmCI (d - 1) M_X0_family false 0 [.ref a1] ν1 fun y4 ν3 => (y2 = y4 → ((Op.cmpValue (FP.dcmp (ν3.2.2 a0 2) (ν3.2.2 a1 2)) .l) = (0 : Int32) → mmCI (d - 1) M_X0_isNumber false 0 [.ref a0] ν3 fun y14 ν13 => (y14 = (0 : Int32) → mmCJ (d - 1) M_X0_place false 0 [.ref a0] ν13 fun y20 ν19 => mmCJ (d - 1) M_X0_place false 0 [.ref a1] ν19 fun y22 ν21 => ((0 : Int32) ≤ (lg_cmp y20 y22) → (¬ (lg_cmp y20 y22) = (0 : Int32) → K (1 : Int32) ν21) ∧ ((lg_cmp y20 y22) = (0 : Int32) → K (0 : Int32) ν21)) ∧ (¬ (0 : Int32) ≤ (lg_cmp y20 y22) → K (-1 : Int32) ν21)) ∧ (¬ y14 = (0 : Int32) → ((ν13.1 a0 0) = (ν13.1 a1 0) → mmCJ (d - 1) M_X0_place false 0 [.ref a0] ν13 fun y38 ν37 => mmCJ (d - 1) M_X0_place false 0 [.ref a1] ν37 fun y40 ν39 => ((0 : Int32) ≤ (lg_cmp y38 y40) → (¬ (lg_cmp y38 y40) = (0 : Int32) → K (1 : Int32) ν39) ∧ ((lg_cmp y38 y40) = (0 : Int32) → K (0 : Int32) ν39)) ∧ (¬ (0 : Int32) ≤ (lg_cmp y38 y40) → K (-1 : Int32) ν39)) ∧ (¬ (ν13.1 a0 0) = (ν13.1 a1 0) → ((ν13.1 a1 0) ≤ (ν13.1 a0 0) → K (1 : Int32) ν13) ∧ (¬ (ν13.1 a1 0) ≤ (ν13.1 a0 0) → K (-1 : Int32) ν13)))) ∧ (¬ (Op.cmpValue (FP.dcmp (ν3.2.2 a0 2) (ν3.2.2 a1 2)) .l) = (0 : Int32) → ((0 : Int32) ≤ (Op.cmpValue (FP.dcmp (ν3.2.2 a0 2) (ν3.2.2 a1 2)) .g) → K (1 : Int32) ν3) ∧ (¬ (0 : Int32) ≤ (Op.cmpValue (FP.dcmp (ν3.2.2 a0 2) (ν3.2.2 a1 2)) .g) → K (-1 : Int32) ν3))) ∧ (¬ y2 = y4 → mmCI (d - 1) M_X0_family false 0 [.ref a0] ν3 fun y62 ν61 => mmCI (d - 1) M_X0_family false 0 [.ref a1] ν61 fun y64 ν63 => (y64 ≤ y62 → (¬ y62 = y64 → K (1 : Int32) ν63) ∧ (y62 = y64 → K (0 : Int32) ν63)) ∧ (¬ y64 ≤ y62 → K (-1 : Int32) ν63))) : mmCI d M_X0_rankAgainst false 1 [.ref a0, .ref a1] μ K :=
  mmCU.of (d' := d - 1) g_X0_rankAgainst (by decide +kernel) rfl rfl (by omega) (s_X0_rankAgainst_0 (d := d - 1) (by omega) k0 k1 h)
theorem g_X0_copyFrom : mmGd M_X0_copyFrom false 1 := ⟨mm_in 419 (by decide +kernel) rfl, mm_in 15 (by decide +kernel) rfl, by decide +kernel, by decide, ⟨mm_in 417 (by decide +kernel) rfl, mm_in 418 (by decide +kernel) rfl⟩⟩
def S_X0_copyFrom_0 : List mmMI := [(0, .aload_n 0, 1, 0, 0, 0, .null, mm0), (1, .aload_n 1, 1, 0, 0, 0, .null, mm0), (2, .getfield 9, 3, 103, 0, 0, .null, mm0), (5, .putfield 9, 3, 103, 0, 0, .null, mm0), (8, .aload_n 0, 1, 0, 0, 0, .null, mm0), (9, .aload_n 1, 1, 0, 0, 0, .null, mm0), (10, .getfield 15, 3, 106, 0, 1, .null, mm0), (13, .putfield 15, 3, 106, 0, 1, .null, mm0), (16, .aload_n 0, 1, 0, 0, 0, .null, mm0), (17, .aload_n 1, 1, 0, 0, 0, .null, mm0), (18, .getfield 19, 3, 108, 0, 2, .null, mm0), (21, .putfield 19, 3, 108, 0, 2, .null, mm0), (24, .return_, 1, 0, 0, 0, .null, mm0)]
def BL_X0_copyFrom : mmBl := [(0, S_X0_copyFrom_0, 25)]
theorem OB_X0_copyFrom : mmOkB M_X0_copyFrom BL_X0_copyFrom = true := by decide +kernel
theorem OH_X0_copyFrom_0 : mmOkB M_X0_copyFrom [(0, S_X0_copyFrom_0, 25)] = true := by decide +kernel
theorem s0_X0_copyFrom_0 {d : Nat} {P : Option Value → mmMem → Prop} {μ : mmMem} {a0 : Nat} {a1 : Nat} (h : (mmKD a1 = 0) ∧ ((mmKD a0 = 0) ∧ ((mmKD a1 = 0) ∧ ((mmKD a0 = 0) ∧ ((mmKD a1 = 0) ∧ ((mmKD a0 = 0) ∧ (P none (sD (sJ (sI μ a0 0 (μ.1 a1 0)) a0 1 (μ.2.1 a1 1)) a0 2 (μ.2.2 a1 2))))))))) : mmEnds d M_X0_copyFrom 0 [.ref a0, .ref a1] [] μ P := mm_tree 2 OB_X0_copyFrom OH_X0_copyFrom_0 h
theorem s_X0_copyFrom_0 {d : Nat} {P : Option Value → mmMem → Prop} {μ : mmMem} {a0 : Nat} {a1 : Nat} (hd : 0 ≤ d) (k0 : mmKD a0 = 0) (k1 : mmKD a1 = 0) (h : P none (sD (sJ (sI μ a0 0 (μ.1 a1 0)) a0 1 (μ.2.1 a1 1)) a0 2 (μ.2.2 a1 2))) : mmEnds d M_X0_copyFrom 0 [.ref a0, .ref a1] [] μ P := s0_X0_copyFrom_0 (⟨k1, ⟨k0, ⟨k1, ⟨k0, ⟨k1, ⟨k0, h⟩⟩⟩⟩⟩⟩)
theorem u_X0_copyFrom {d : Nat} {K : mmMem → Prop} {μ : mmMem} {a0 : Nat} {a1 : Nat} (hd : 1 ≤ d) (k0 : mmKD a0 = 0) (k1 : mmKD a1 = 0) (h : K (sD (sJ (sI μ a0 0 (μ.1 a1 0)) a0 1 (μ.2.1 a1 1)) a0 2 (μ.2.2 a1 2))) : mmC0 d M_X0_copyFrom false 1 [.ref a0, .ref a1] μ K :=
  mmCU.of (d' := d - 1) g_X0_copyFrom (by decide +kernel) rfl rfl (by omega) (s_X0_copyFrom_0 (d := d - 1) (by omega) k0 k1 h)
theorem g_X0_lowestBits : mmGd M_X0_lowestBits true 2 := ⟨mm_in 441 (by decide +kernel) rfl, mm_in 15 (by decide +kernel) rfl, by decide +kernel, by decide, (show _ from mm_in 440 (by decide +kernel) rfl)⟩
def S_X0_lowestBits_0 : List mmMI := [(0, .iload_n 0, 1, 0, 0, 0, .null, mm0), (1, .tableswitch 50 1 4 #[31, 36, 41, 46], 31, 0, 0, 0, .null, mm0)]
def S_X0_lowestBits_32 : List mmMI := [(32, .lload_n 1, 1, 0, 0, 0, .null, mm0), (33, .l2i, 1, 0, 0, 0, .null, mm0), (34, .i2b, 1, 0, 0, 0, .null, mm0), (35, .i2l, 1, 0, 0, 0, .null, mm0), (36, .lreturn, 1, 0, 0, 0, .null, mm0)]
def S_X0_lowestBits_37 : List mmMI := [(37, .lload_n 1, 1, 0, 0, 0, .null, mm0), (38, .l2i, 1, 0, 0, 0, .null, mm0), (39, .i2c, 1, 0, 0, 0, .null, mm0), (40, .i2l, 1, 0, 0, 0, .null, mm0), (41, .lreturn, 1, 0, 0, 0, .null, mm0)]
def S_X0_lowestBits_42 : List mmMI := [(42, .lload_n 1, 1, 0, 0, 0, .null, mm0), (43, .l2i, 1, 0, 0, 0, .null, mm0), (44, .i2s, 1, 0, 0, 0, .null, mm0), (45, .i2l, 1, 0, 0, 0, .null, mm0), (46, .lreturn, 1, 0, 0, 0, .null, mm0)]
def S_X0_lowestBits_47 : List mmMI := [(47, .lload_n 1, 1, 0, 0, 0, .null, mm0), (48, .l2i, 1, 0, 0, 0, .null, mm0), (49, .i2l, 1, 0, 0, 0, .null, mm0), (50, .lreturn, 1, 0, 0, 0, .null, mm0)]
def S_X0_lowestBits_51 : List mmMI := [(51, .lload_n 1, 1, 0, 0, 0, .null, mm0), (52, .lreturn, 1, 0, 0, 0, .null, mm0)]
def BL_X0_lowestBits : mmBl := [(0, S_X0_lowestBits_0, 32), (32, S_X0_lowestBits_32, 37), (37, S_X0_lowestBits_37, 42), (42, S_X0_lowestBits_42, 47), (47, S_X0_lowestBits_47, 51), (51, S_X0_lowestBits_51, 53)]
theorem OB_X0_lowestBits : mmOkB M_X0_lowestBits BL_X0_lowestBits = true := by decide +kernel
theorem OH_X0_lowestBits_0 : mmOkB M_X0_lowestBits [(0, S_X0_lowestBits_0, 32)] = true := by decide +kernel
theorem s0_X0_lowestBits_0 {d : Nat} {P : Option Value → mmMem → Prop} {μ : mmMem} {x0 : Int32} {x1 : Int64} (h : (x0.toInt < 1 ∨ 4 < x0.toInt → P (some (.long x1)) μ) ∧ (x0.toInt = 1 → P (some (.long x1.toInt32.toInt8.toInt32.toInt64)) μ) ∧ (x0.toInt = 2 → P (some (.long (((x1.toInt32.toUInt32 % 65536).toInt32).toInt64))) μ) ∧ (x0.toInt = 3 → P (some (.long x1.toInt32.toInt16.toInt32.toInt64)) μ) ∧ (x0.toInt = 4 → P (some (.long x1.toInt32.toInt64)) μ) ∧ True) : mmEnds d M_X0_lowestBits 0 [.int x0, .long x1, .retAddr 7] [] μ P := mm_tree 7 OB_X0_lowestBits OH_X0_lowestBits_0 h
theorem s_X0_lowestBits_0 {d : Nat} {P : Option Value → mmMem → Prop} {μ : mmMem} {x0 : Int32} {x1 : Int64} (hd : 0 ≤ d)  (h : (x0.toInt < 1 ∨ 4 < x0.toInt → P (some (.long x1)) μ) ∧ (x0.toInt = 1 → P (some (.long x1.toInt32.toInt8.toInt32.toInt64)) μ) ∧ (x0.toInt = 2 → P (some (.long (((x1.toInt32.toUInt32 % 65536).toInt32).toInt64))) μ) ∧ (x0.toInt = 3 → P (some (.long x1.toInt32.toInt16.toInt32.toInt64)) μ) ∧ (x0.toInt = 4 → P (some (.long x1.toInt32.toInt64)) μ) ∧ True) : mmEnds d M_X0_lowestBits 0 [.int x0, .long x1, .retAddr 7] [] μ P := s0_X0_lowestBits_0 (⟨fun q1 => (have h2 := (h).1 q1; h2), fun q1 => (have h2 := (h).2.1 q1; h2), fun q1 => (have h2 := (h).2.2.1 q1; h2), fun q1 => (have h2 := (h).2.2.2.1 q1; h2), fun q1 => (have h2 := (h).2.2.2.2.1 q1; h2), trivial⟩)
theorem u_X0_lowestBits {d : Nat} {K : Int64 → mmMem → Prop} {μ : mmMem} {x0 : Int32} {x1 : Int64} (hd : 1 ≤ d)  (h : (x0.toInt < 1 ∨ 4 < x0.toInt → K x1 μ) ∧ (x0.toInt = 1 → K x1.toInt32.toInt8.toInt32.toInt64 μ) ∧ (x0.toInt = 2 → K (((x1.toInt32.toUInt32 % 65536).toInt32).toInt64) μ) ∧ (x0.toInt = 3 → K x1.toInt32.toInt16.toInt32.toInt64 μ) ∧ (x0.toInt = 4 → K x1.toInt32.toInt64 μ) ∧ True) : mmCJ d M_X0_lowestBits true 2 [.int x0, .long x1] μ K :=
  mmCU.of (d' := d - 1) g_X0_lowestBits (by decide +kernel) rfl rfl (by omega) (s_X0_lowestBits_0 (d := d - 1) (by omega)  h)
theorem g_X0_setReal : mmGd M_X0_setReal false 2 := ⟨mm_in 438 (by decide +kernel) rfl, mm_in 15 (by decide +kernel) rfl, by decide +kernel, by decide, ⟨mm_in 436 (by decide +kernel) rfl, mm_in 437 (by decide +kernel) rfl⟩⟩
def S_X0_setReal_0 : List mmMI := [(0, .aload_n 0, 1, 0, 0, 0, .null, mm0), (1, .iload_n 1, 1, 0, 0, 0, .null, mm0), (2, .putfield 9, 3, 103, 0, 0, .null, mm0), (5, .aload_n 0, 1, 0, 0, 0, .null, mm0), (6, .lconst 0, 1, 0, 0, 0, .long (0 : Int64), mm0), (7, .putfield 15, 3, 106, 0, 1, .null, mm0), (10, .aload_n 0, 1, 0, 0, 0, .null, mm0), (11, .dload_n 2, 1, 0, 0, 0, .null, mm0), (12, .putfield 19, 3, 108, 0, 2, .null, mm0), (15, .return_, 1, 0, 0, 0, .null, mm0)]
def BL_X0_setReal : mmBl := [(0, S_X0_setReal_0, 16)]
theorem OB_X0_setReal : mmOkB M_X0_setReal BL_X0_setReal = true := by decide +kernel
theorem OH_X0_setReal_0 : mmOkB M_X0_setReal [(0, S_X0_setReal_0, 16)] = true := by decide +kernel
theorem s0_X0_setReal_0 {d : Nat} {P : Option Value → mmMem → Prop} {μ : mmMem} {a0 : Nat} {x1 : Int32} {x2 : UInt64} (h : (mmKD a0 = 0) ∧ ((mmKD a0 = 0) ∧ ((mmKD a0 = 0) ∧ (P none (sD (sJ (sI μ a0 0 x1) a0 1 (0 : Int64)) a0 2 x2))))) : mmEnds d M_X0_setReal 0 [.ref a0, .int x1, .double x2, .retAddr 7] [] μ P := mm_tree 2 OB_X0_setReal OH_X0_setReal_0 h
theorem s_X0_setReal_0 {d : Nat} {P : Option Value → mmMem → Prop} {μ : mmMem} {a0 : Nat} {x1 : Int32} {x2 : UInt64} (hd : 0 ≤ d) (k0 : mmKD a0 = 0) (h : P none (sD (sJ (sI μ a0 0 x1) a0 1 (0 : Int64)) a0 2 x2)) : mmEnds d M_X0_setReal 0 [.ref a0, .int x1, .double x2, .retAddr 7] [] μ P := s0_X0_setReal_0 (⟨k0, ⟨k0, ⟨k0, h⟩⟩⟩)
theorem u_X0_setReal {d : Nat} {K : mmMem → Prop} {μ : mmMem} {a0 : Nat} {x1 : Int32} {x2 : UInt64} (hd : 1 ≤ d) (k0 : mmKD a0 = 0) (h : K (sD (sJ (sI μ a0 0 x1) a0 1 (0 : Int64)) a0 2 x2)) : mmC0 d M_X0_setReal false 2 [.ref a0, .int x1, .double x2] μ K :=
  mmCU.of (d' := d - 1) g_X0_setReal (by decide +kernel) rfl rfl (by omega) (s_X0_setReal_0 (d := d - 1) (by omega) k0 h)
theorem g_X0_setWhole : mmGd M_X0_setWhole false 2 := ⟨mm_in 434 (by decide +kernel) rfl, mm_in 15 (by decide +kernel) rfl, by decide +kernel, by decide, ⟨mm_in 432 (by decide +kernel) rfl, mm_in 433 (by decide +kernel) rfl⟩⟩
def S_X0_setWhole_0 : List mmMI := [(0, .aload_n 0, 1, 0, 0, 0, .null, mm0), (1, .iload_n 1, 1, 0, 0, 0, .null, mm0), (2, .putfield 9, 3, 103, 0, 0, .null, mm0), (5, .aload_n 0, 1, 0, 0, 0, .null, mm0), (6, .lload_n 2, 1, 0, 0, 0, .null, mm0), (7, .putfield 15, 3, 106, 0, 1, .null, mm0), (10, .aload_n 0, 1, 0, 0, 0, .null, mm0), (11, .iload_n 1, 1, 0, 0, 0, .null, mm0), (12, .ifCond .ne 7, 3, 0, 19, 0, .null, mm0)]
def S_X0_setWhole_15 : List mmMI := [(15, .dconst 0, 1, 0, 0, 0, .double FP.dconst0, mm0), (16, .goto 5, 3, 0, 21, 0, .null, mm0)]
def S_X0_setWhole_19 : List mmMI := [(19, .lload_n 2, 1, 0, 0, 0, .null, mm0), (20, .l2d, 1, 0, 0, 0, .null, mm0)]
def S_X0_setWhole_21 : List mmMI := [(21, .putfield 19, 3, 108, 0, 2, .null, mm0), (24, .return_, 1, 0, 0, 0, .null, mm0)]
def BL_X0_setWhole : mmBl := [(0, S_X0_setWhole_0, 15), (15, S_X0_setWhole_15, 19), (19, S_X0_setWhole_19, 21), (21, S_X0_setWhole_21, 25)]
theorem OB_X0_setWhole : mmOkB M_X0_setWhole BL_X0_setWhole = true := by decide +kernel
theorem OH_X0_setWhole_0 : mmOkB M_X0_setWhole [(0, S_X0_setWhole_0, 15)] = true := by decide +kernel
theorem s0_X0_setWhole_0 {d : Nat} {P : Option Value → mmMem → Prop} {μ : mmMem} {a0 : Nat} {x1 : Int32} {x2 : Int64} (h : (mmKD a0 = 0) ∧ ((mmKD a0 = 0) ∧ ((¬ x1 = (0 : Int32) → (mmKD a0 = 0) ∧ (P none (sD (sJ (sI μ a0 0 x1) a0 1 x2) a0 2 (FP.l2d x2)))) ∧ (x1 = (0 : Int32) → (mmKD a0 = 0) ∧ (P none (sD (sJ (sI μ a0 0 x1) a0 1 x2) a0 2 FP.dconst0)))))) : mmEnds d M_X0_setWhole 0 [.ref a0, .int x1, .long x2, .retAddr 7] [] μ P := mm_tree 5 OB_X0_setWhole OH_X0_setWhole_0 h
theorem s_X0_setWhole_0 {d : Nat} {P : Option Value → mmMem → Prop} {μ : mmMem} {a0 : Nat} {x1 : Int32} {x2 : Int64} (hd : 0 ≤ d) (k0 : mmKD a0 = 0) (h : (¬ x1 = (0 : Int32) → P none (sD (sJ (sI μ a0 0 x1) a0 1 x2) a0 2 (FP.l2d x2))) ∧ (x1 = (0 : Int32) → P none (sD (sJ (sI μ a0 0 x1) a0 1 x2) a0 2 FP.dconst0))) : mmEnds d M_X0_setWhole 0 [.ref a0, .int x1, .long x2, .retAddr 7] [] μ P := s0_X0_setWhole_0 (⟨k0, ⟨k0, ⟨fun q1 => (have h3 := (h).1 q1; ⟨k0, h3⟩), fun q2 => (have h4 := (h).2 q2; ⟨k0, h4⟩)⟩⟩⟩)
theorem u_X0_setWhole {d : Nat} {K : mmMem → Prop} {μ : mmMem} {a0 : Nat} {x1 : Int32} {x2 : Int64} (hd : 1 ≤ d) (k0 : mmKD a0 = 0) (h : (¬ x1 = (0 : Int32) → K (sD (sJ (sI μ a0 0 x1) a0 1 x2) a0 2 (FP.l2d x2))) ∧ (x1 = (0 : Int32) → K (sD (sJ (sI μ a0 0 x1) a0 1 x2) a0 2 FP.dconst0))) : mmC0 d M_X0_setWhole false 2 [.ref a0, .int x1, .long x2] μ K :=
  mmCU.of (d' := d - 1) g_X0_setWhole (by decide +kernel) rfl rfl (by omega) (s_X0_setWhole_0 (d := d - 1) (by omega) k0 h)
theorem g_X0_turnReal : mmGd M_X0_turnReal false 2 := ⟨mm_in 430 (by decide +kernel) rfl, mm_in 15 (by decide +kernel) rfl, by decide +kernel, by decide, ⟨mm_in 428 (by decide +kernel) rfl, mm_in 429 (by decide +kernel) rfl⟩⟩
def S_X0_turnReal_0 : List mmMI := [(0, .iload_n 1, 1, 0, 0, 0, .null, mm0), (1, .tableswitch 98 0 7 #[47, 98, 98, 98, 98, 66, 76, 88], 47, 0, 0, 0, .null, mm0)]
def S_X0_turnReal_48 : List mmMI := [(48, .aload_n 0, 1, 0, 0, 0, .null, mm0), (49, .iconst 0, 1, 0, 0, 0, .int (0 : Int32), mm0), (50, .dload_n 2, 1, 0, 0, 0, .null, mm0), (51, .dconst 0, 1, 0, 0, 0, .double FP.dconst0, mm0), (52, .dcmp .l, 1, 0, 0, 0, .null, mm0), (53, .ifCond .eq 7, 3, 0, 60, 0, .null, mm0)]
def S_X0_turnReal_56 : List mmMI := [(56, .lconst 1, 1, 0, 0, 0, .long (1 : Int64), mm0), (57, .goto 4, 3, 0, 61, 0, .null, mm0)]
def S_X0_turnReal_60 : List mmMI := [(60, .lconst 0, 1, 0, 0, 0, .long (0 : Int64), mm0)]
def S_X0_turnReal_61 : List mmMI := [(61, .invokevirtual 23, 3, 431, 2, 0, .null, M_X0_setWhole), (64, .goto 47, 3, 0, 111, 0, .null, mm0)]
def S_X0_turnReal_67 : List mmMI := [(67, .aload_n 0, 1, 0, 0, 0, .null, mm0), (68, .iconst 5, 1, 0, 0, 0, .int (5 : Int32), mm0), (69, .dload_n 2, 1, 0, 0, 0, .null, mm0), (70, .d2l, 1, 0, 0, 0, .null, mm0), (71, .invokevirtual 23, 3, 431, 2, 0, .null, M_X0_setWhole), (74, .goto 37, 3, 0, 111, 0, .null, mm0)]
def S_X0_turnReal_77 : List mmMI := [(77, .aload_n 0, 1, 0, 0, 0, .null, mm0), (78, .bipush 6, 2, 0, 0, 0, .int (6 : Int32), mm0), (80, .dload_n 2, 1, 0, 0, 0, .null, mm0), (81, .d2f, 1, 0, 0, 0, .null, mm0), (82, .f2d, 1, 0, 0, 0, .null, mm0), (83, .invokevirtual 28, 3, 435, 2, 0, .null, M_X0_setReal), (86, .goto 25, 3, 0, 111, 0, .null, mm0)]
def S_X0_turnReal_89 : List mmMI := [(89, .aload_n 0, 1, 0, 0, 0, .null, mm0), (90, .bipush 7, 2, 0, 0, 0, .int (7 : Int32), mm0), (92, .dload_n 2, 1, 0, 0, 0, .null, mm0), (93, .invokevirtual 28, 3, 435, 2, 0, .null, M_X0_setReal), (96, .goto 15, 3, 0, 111, 0, .null, mm0)]
def S_X0_turnReal_99 : List mmMI := [(99, .aload_n 0, 1, 0, 0, 0, .null, mm0), (100, .iload_n 1, 1, 0, 0, 0, .null, mm0), (101, .iload_n 1, 1, 0, 0, 0, .null, mm0), (102, .dload_n 2, 1, 0, 0, 0, .null, mm0), (103, .d2i, 1, 0, 0, 0, .null, mm0), (104, .i2l, 1, 0, 0, 0, .null, mm0), (105, .invokestatic 34, 3, 439, 2, 0, .null, M_X0_lowestBits), (108, .invokevirtual 23, 3, 431, 2, 0, .null, M_X0_setWhole)]
def S_X0_turnReal_111 : List mmMI := [(111, .return_, 1, 0, 0, 0, .null, mm0)]
def BL_X0_turnReal : mmBl := [(0, S_X0_turnReal_0, 48), (48, S_X0_turnReal_48, 56), (56, S_X0_turnReal_56, 60), (60, S_X0_turnReal_60, 61), (61, S_X0_turnReal_61, 67), (67, S_X0_turnReal_67, 77), (77, S_X0_turnReal_77, 89), (89, S_X0_turnReal_89, 99), (99, S_X0_turnReal_99, 111), (111, S_X0_turnReal_111, 112)]
theorem OB_X0_turnReal : mmOkB M_X0_turnReal BL_X0_turnReal = true := by decide +kernel
theorem OH_X0_turnReal_0 : mmOkB M_X0_turnReal [(0, S_X0_turnReal_0, 48)] = true := by decide +kernel
set_option maxRecDepth 10000 in
theorem s0_X0_turnReal_0 {d : Nat} {P : Option Value → mmMem → Prop} {μ : mmMem} {a0 : Nat} {x1 : Int32} {x2 : UInt64} (h : (x1.toInt < 0 ∨ 7 < x1.toInt → mmCJ d M_X0_lowestBits true 2 [.int x1, .long ((FP.d2i x2).toInt64)] μ fun y1 ν1 => (mmKD a0 = 0) ∧ (mmC0 d M_X0_setWhole false 2 [.ref a0, .int x1, .long y1] ν1 fun ν2 => P none ν2)) ∧ (x1.toInt = 0 → ((Op.cmpValue (FP.dcmp x2 FP.dconst0) .l) = (0 : Int32) → (mmKD a0 = 0) ∧ (mmC0 d M_X0_setWhole false 2 [.ref a0, .int (0 : Int32), .long (0 : Int64)] μ fun ν3 => P none ν3)) ∧ (¬ (Op.cmpValue (FP.dcmp x2 FP.dconst0) .l) = (0 : Int32) → (mmKD a0 = 0) ∧ (mmC0 d M_X0_setWhole false 2 [.ref a0, .int (0 : Int32), .long (1 : Int64)] μ fun ν4 => P none ν4))) ∧ (x1.toInt = 1 → mmCJ d M_X0_lowestBits true 2 [.int x1, .long ((FP.d2i x2).toInt64)] μ fun y5 ν5 => (mmKD a0 = 0) ∧ (mmC0 d M_X0_setWhole false 2 [.ref a0, .int x1, .long y5] ν5 fun ν6 => P none ν6)) ∧ (x1.toInt = 2 → mmCJ d M_X0_lowestBits true 2 [.int x1, .long ((FP.d2i x2).toInt64)] μ fun y7 ν7 => (mmKD a0 = 0) ∧ (mmC0 d M_X0_setWhole false 2 [.ref a0, .int x1, .long y7] ν7 fun ν8 => P none ν8)) ∧ (x1.toInt = 3 → mmCJ d M_X0_lowestBits true 2 [.int x1, .long ((FP.d2i x2).toInt64)] μ fun y9 ν9 => (mmKD a0 = 0) ∧ (mmC0 d M_X0_setWhole false 2 [.ref a0, .int x1, .long y9] ν9 fun ν10 => P none ν10)) ∧ (x1.toInt = 4 → mmCJ d M_X0_lowestBits true 2 [.int x1, .long ((FP.d2i x2).toInt64)] μ fun y11 ν11 => (mmKD a0 = 0) ∧ (mmC0 d M_X0_setWhole false 2 [.ref a0, .int x1, .long y11] ν11 fun ν12 => P none ν12)) ∧ (x1.toInt = 5 → (mmKD a0 = 0) ∧ (mmC0 d M_X0_setWhole false 2 [.ref a0, .int (5 : Int32), .long (FP.d2l x2)] μ fun ν13 => P none ν13)) ∧ (x1.toInt = 6 → (vf_n32 (FP.d2f x2)) ∧ ((vf_n64 (FP.f2d (FP.d2f x2))) ∧ ((mmKD a0 = 0) ∧ (mmC0 d M_X0_setReal false 2 [.ref a0, .int (6 : Int32), .double (FP.f2d (FP.d2f x2))] μ fun ν14 => P none ν14)))) ∧ (x1.toInt = 7 → (mmKD a0 = 0) ∧ (mmC0 d M_X0_setReal false 2 [.ref a0, .int (7 : Int32), .double x2] μ fun ν15 => P none ν15)) ∧ True) : mmEnds d M_X0_turnReal 0 [.ref a0, .int x1, .double x2, .retAddr 7] [] μ P := mm_tree 11 OB_X0_turnReal OH_X0_turnReal_0 h
set_option maxRecDepth 10000 in
theorem s_X0_turnReal_0 {d : Nat} {P : Option Value → mmMem → Prop} {μ : mmMem} {a0 : Nat} {x1 : Int32} {x2 : UInt64} (hd : 1 ≤ d) (k0 : mmKD a0 = 0) (h : (x1.toInt < 0 ∨ 7 < x1.toInt → mmCJ d M_X0_lowestBits true 2 [.int x1, .long ((FP.d2i x2).toInt64)] μ fun y4 ν3 => (¬ x1 = (0 : Int32) → P none (sD (sJ (sI ν3 a0 0 x1) a0 1 y4) a0 2 (FP.l2d y4))) ∧ (x1 = (0 : Int32) → P none (sD (sJ (sI ν3 a0 0 x1) a0 1 y4) a0 2 FP.dconst0))) ∧ (x1.toInt = 0 → ((Op.cmpValue (FP.dcmp x2 FP.dconst0) .l) = (0 : Int32) → P none (sD (sJ (sI μ a0 0 (0 : Int32)) a0 1 (0 : Int64)) a0 2 FP.dconst0)) ∧ (¬ (Op.cmpValue (FP.dcmp x2 FP.dconst0) .l) = (0 : Int32) → P none (sD (sJ (sI μ a0 0 (0 : Int32)) a0 1 (1 : Int64)) a0 2 FP.dconst0))) ∧ (x1.toInt = 1 → mmCJ d M_X0_lowestBits true 2 [.int x1, .long ((FP.d2i x2).toInt64)] μ fun y17 ν16 => (¬ x1 = (0 : Int32) → P none (sD (sJ (sI ν16 a0 0 x1) a0 1 y17) a0 2 (FP.l2d y17))) ∧ (x1 = (0 : Int32) → P none (sD (sJ (sI ν16 a0 0 x1) a0 1 y17) a0 2 FP.dconst0))) ∧ (x1.toInt = 2 → mmCJ d M_X0_lowestBits true 2 [.int x1, .long ((FP.d2i x2).toInt64)] μ fun y24 ν23 => (¬ x1 = (0 : Int32) → P none (sD (sJ (sI ν23 a0 0 x1) a0 1 y24) a0 2 (FP.l2d y24))) ∧ (x1 = (0 : Int32) → P none (sD (sJ (sI ν23 a0 0 x1) a0 1 y24) a0 2 FP.dconst0))) ∧ (x1.toInt = 3 → mmCJ d M_X0_lowestBits true 2 [.int x1, .long ((FP.d2i x2).toInt64)] μ fun y31 ν30 => (¬ x1 = (0 : Int32) → P none (sD (sJ (sI ν30 a0 0 x1) a0 1 y31) a0 2 (FP.l2d y31))) ∧ (x1 = (0 : Int32) → P none (sD (sJ (sI ν30 a0 0 x1) a0 1 y31) a0 2 FP.dconst0))) ∧ (x1.toInt = 4 → mmCJ d M_X0_lowestBits true 2 [.int x1, .long ((FP.d2i x2).toInt64)] μ fun y38 ν37 => (¬ x1 = (0 : Int32) → P none (sD (sJ (sI ν37 a0 0 x1) a0 1 y38) a0 2 (FP.l2d y38))) ∧ (x1 = (0 : Int32) → P none (sD (sJ (sI ν37 a0 0 x1) a0 1 y38) a0 2 FP.dconst0))) ∧ (x1.toInt = 5 → P none (sD (sJ (sI μ a0 0 (5 : Int32)) a0 1 (FP.d2l x2)) a0 2 (FP.l2d (FP.d2l x2)))) ∧ (x1.toInt = 6 → (vf_n32 (FP.d2f x2)) ∧ ((vf_n64 (FP.f2d (FP.d2f x2))) ∧ (P none (sD (sJ (sI μ a0 0 (6 : Int32)) a0 1 (0 : Int64)) a0 2 (FP.f2d (FP.d2f x2)))))) ∧ (x1.toInt = 7 → P none (sD (sJ (sI μ a0 0 (7 : Int32)) a0 1 (0 : Int64)) a0 2 x2)) ∧ True) : mmEnds d M_X0_turnReal 0 [.ref a0, .int x1, .double x2, .retAddr 7] [] μ P := s0_X0_turnReal_0 (⟨fun q1 => (have h2 := (h).1 q1; (mmCJ.mono (h2) (fun y4 ν3 h9 => ⟨k0, (u_X0_setWhole (by omega) k0 (⟨fun q5 => (have h7 := (h9).1 q5; h7), fun q6 => (have h8 := (h9).2 q6; h8)⟩))⟩))), fun q1 => (have h2 := (h).2.1 q1; ⟨fun q10 => (have h12 := (h2).1 q10; ⟨k0, (u_X0_setWhole (by omega) k0 (⟨fun q14 => absurd (by decide : (0 : Int32) = (0 : Int32)) q14, fun _ => h12⟩))⟩), fun q11 => (have h13 := (h2).2 q11; ⟨k0, (u_X0_setWhole (by omega) k0 (⟨fun q15 => absurd (by decide : (0 : Int32) = (0 : Int32)) q15, fun _ => h13⟩))⟩)⟩), fun q1 => (have h2 := (h).2.2.1 q1; (mmCJ.mono (h2) (fun y17 ν16 h22 => ⟨k0, (u_X0_setWhole (by omega) k0 (⟨fun q18 => (have h20 := (h22).1 q18; h20), fun q19 => (have h21 := (h22).2 q19; h21)⟩))⟩))), fun q1 => (have h2 := (h).2.2.2.1 q1; (mmCJ.mono (h2) (fun y24 ν23 h29 => ⟨k0, (u_X0_setWhole (by omega) k0 (⟨fun q25 => (have h27 := (h29).1 q25; h27), fun q26 => (have h28 := (h29).2 q26; h28)⟩))⟩))), fun q1 => (have h2 := (h).2.2.2.2.1 q1; (mmCJ.mono (h2) (fun y31 ν30 h36 => ⟨k0, (u_X0_setWhole (by omega) k0 (⟨fun q32 => (have h34 := (h36).1 q32; h34), fun q33 => (have h35 := (h36).2 q33; h35)⟩))⟩))), fun q1 => (have h2 := (h).2.2.2.2.2.1 q1; (mmCJ.mono (h2) (fun y38 ν37 h43 => ⟨k0, (u_X0_setWhole (by omega) k0 (⟨fun q39 => (have h41 := (h43).1 q39; h41), fun q40 => (have h42 := (h43).2 q40; h42)⟩))⟩))), fun q1 => (have h2 := (h).2.2.2.2.2.2.1 q1; ⟨k0, (u_X0_setWhole (by omega) k0 (⟨fun _ => h2, fun q44 => absurd q44 (by decide : ¬ (5 : Int32) = (0 : Int32))⟩))⟩), fun q1 => (have h2 := (h).2.2.2.2.2.2.2.1 q1; (have o45 := (h2).1; have h46 := (h2).2; ⟨o45, (have o47 := (h46).1; have h48 := (h46).2; ⟨o47, ⟨k0, (u_X0_setReal (by omega) k0 h48)⟩⟩)⟩)), fun q1 => (have h2 := (h).2.2.2.2.2.2.2.2.1 q1; ⟨k0, (u_X0_setReal (by omega) k0 h2)⟩), trivial⟩)
set_option maxRecDepth 10000 in
theorem u_X0_turnReal {d : Nat} {K : mmMem → Prop} {μ : mmMem} {a0 : Nat} {x1 : Int32} {x2 : UInt64} (hd : 2 ≤ d) (k0 : mmKD a0 = 0) (h : (x1.toInt < 0 ∨ 7 < x1.toInt → mmCJ (d - 1) M_X0_lowestBits true 2 [.int x1, .long ((FP.d2i x2).toInt64)] μ fun y4 ν3 => (¬ x1 = (0 : Int32) → K (sD (sJ (sI ν3 a0 0 x1) a0 1 y4) a0 2 (FP.l2d y4))) ∧ (x1 = (0 : Int32) → K (sD (sJ (sI ν3 a0 0 x1) a0 1 y4) a0 2 FP.dconst0))) ∧ (x1.toInt = 0 → ((Op.cmpValue (FP.dcmp x2 FP.dconst0) .l) = (0 : Int32) → K (sD (sJ (sI μ a0 0 (0 : Int32)) a0 1 (0 : Int64)) a0 2 FP.dconst0)) ∧ (¬ (Op.cmpValue (FP.dcmp x2 FP.dconst0) .l) = (0 : Int32) → K (sD (sJ (sI μ a0 0 (0 : Int32)) a0 1 (1 : Int64)) a0 2 FP.dconst0))) ∧ (x1.toInt = 1 → mmCJ (d - 1) M_X0_lowestBits true 2 [.int x1, .long ((FP.d2i x2).toInt64)] μ fun y17 ν16 => (¬ x1 = (0 : Int32) → K (sD (sJ (sI ν16 a0 0 x1) a0 1 y17) a0 2 (FP.l2d y17))) ∧ (x1 = (0 : Int32) → K (sD (sJ (sI ν16 a0 0 x1) a0 1 y17) a0 2 FP.dconst0))) ∧ (x1.toInt = 2 → mmCJ (d - 1) M_X0_lowestBits true 2 [.int x1, .long ((FP.d2i x2).toInt64)] μ fun y24 ν23 => (¬ x1 = (0 : Int32) → K (sD (sJ (sI ν23 a0 0 x1) a0 1 y24) a0 2 (FP.l2d y24))) ∧ (x1 = (0 : Int32) → K (sD (sJ (sI ν23 a0 0 x1) a0 1 y24) a0 2 FP.dconst0))) ∧ (x1.toInt = 3 → mmCJ (d - 1) M_X0_lowestBits true 2 [.int x1, .long ((FP.d2i x2).toInt64)] μ fun y31 ν30 => (¬ x1 = (0 : Int32) → K (sD (sJ (sI ν30 a0 0 x1) a0 1 y31) a0 2 (FP.l2d y31))) ∧ (x1 = (0 : Int32) → K (sD (sJ (sI ν30 a0 0 x1) a0 1 y31) a0 2 FP.dconst0))) ∧ (x1.toInt = 4 → mmCJ (d - 1) M_X0_lowestBits true 2 [.int x1, .long ((FP.d2i x2).toInt64)] μ fun y38 ν37 => (¬ x1 = (0 : Int32) → K (sD (sJ (sI ν37 a0 0 x1) a0 1 y38) a0 2 (FP.l2d y38))) ∧ (x1 = (0 : Int32) → K (sD (sJ (sI ν37 a0 0 x1) a0 1 y38) a0 2 FP.dconst0))) ∧ (x1.toInt = 5 → K (sD (sJ (sI μ a0 0 (5 : Int32)) a0 1 (FP.d2l x2)) a0 2 (FP.l2d (FP.d2l x2)))) ∧ (x1.toInt = 6 → (vf_n32 (FP.d2f x2)) ∧ ((vf_n64 (FP.f2d (FP.d2f x2))) ∧ (K (sD (sJ (sI μ a0 0 (6 : Int32)) a0 1 (0 : Int64)) a0 2 (FP.f2d (FP.d2f x2)))))) ∧ (x1.toInt = 7 → K (sD (sJ (sI μ a0 0 (7 : Int32)) a0 1 (0 : Int64)) a0 2 x2)) ∧ True) : mmC0 d M_X0_turnReal false 2 [.ref a0, .int x1, .double x2] μ K :=
  mmCU.of (d' := d - 1) g_X0_turnReal (by decide +kernel) rfl rfl (by omega) (s_X0_turnReal_0 (d := d - 1) (by omega) k0 h)
theorem g_X0_turnWhole : mmGd M_X0_turnWhole false 2 := ⟨mm_in 445 (by decide +kernel) rfl, mm_in 15 (by decide +kernel) rfl, by decide +kernel, by decide, ⟨mm_in 443 (by decide +kernel) rfl, mm_in 444 (by decide +kernel) rfl⟩⟩
def S_X0_turnWhole_0 : List mmMI := [(0, .iload_n 1, 1, 0, 0, 0, .null, mm0), (1, .lookupswitch 77 #[(0, 35), (6, 54), (7, 66)], 35, 0, 0, 0, .null, mm0)]
def S_X0_turnWhole_36 : List mmMI := [(36, .aload_n 0, 1, 0, 0, 0, .null, mm0), (37, .iconst 0, 1, 0, 0, 0, .int (0 : Int32), mm0), (38, .lload_n 2, 1, 0, 0, 0, .null, mm0), (39, .lconst 0, 1, 0, 0, 0, .long (0 : Int64), mm0), (40, .lcmp, 1, 0, 0, 0, .null, mm0), (41, .ifCond .eq 7, 3, 0, 48, 0, .null, mm0)]
def S_X0_turnWhole_44 : List mmMI := [(44, .lconst 1, 1, 0, 0, 0, .long (1 : Int64), mm0), (45, .goto 4, 3, 0, 49, 0, .null, mm0)]
def S_X0_turnWhole_48 : List mmMI := [(48, .lconst 0, 1, 0, 0, 0, .long (0 : Int64), mm0)]
def S_X0_turnWhole_49 : List mmMI := [(49, .invokevirtual 23, 3, 431, 2, 0, .null, M_X0_setWhole), (52, .goto 36, 3, 0, 88, 0, .null, mm0)]
def S_X0_turnWhole_55 : List mmMI := [(55, .aload_n 0, 1, 0, 0, 0, .null, mm0), (56, .bipush 6, 2, 0, 0, 0, .int (6 : Int32), mm0), (58, .lload_n 2, 1, 0, 0, 0, .null, mm0), (59, .l2f, 1, 0, 0, 0, .null, mm0), (60, .f2d, 1, 0, 0, 0, .null, mm0), (61, .invokevirtual 28, 3, 435, 2, 0, .null, M_X0_setReal), (64, .goto 24, 3, 0, 88, 0, .null, mm0)]
def S_X0_turnWhole_67 : List mmMI := [(67, .aload_n 0, 1, 0, 0, 0, .null, mm0), (68, .bipush 7, 2, 0, 0, 0, .int (7 : Int32), mm0), (70, .lload_n 2, 1, 0, 0, 0, .null, mm0), (71, .l2d, 1, 0, 0, 0, .null, mm0), (72, .invokevirtual 28, 3, 435, 2, 0, .null, M_X0_setReal), (75, .goto 13, 3, 0, 88, 0, .null, mm0)]
def S_X0_turnWhole_78 : List mmMI := [(78, .aload_n 0, 1, 0, 0, 0, .null, mm0), (79, .iload_n 1, 1, 0, 0, 0, .null, mm0), (80, .iload_n 1, 1, 0, 0, 0, .null, mm0), (81, .lload_n 2, 1, 0, 0, 0, .null, mm0), (82, .invokestatic 34, 3, 439, 2, 0, .null, M_X0_lowestBits), (85, .invokevirtual 23, 3, 431, 2, 0, .null, M_X0_setWhole)]
def S_X0_turnWhole_88 : List mmMI := [(88, .return_, 1, 0, 0, 0, .null, mm0)]
def BL_X0_turnWhole : mmBl := [(0, S_X0_turnWhole_0, 36), (36, S_X0_turnWhole_36, 44), (44, S_X0_turnWhole_44, 48), (48, S_X0_turnWhole_48, 49), (49, S_X0_turnWhole_49, 55), (55, S_X0_turnWhole_55, 67), (67, S_X0_turnWhole_67, 78), (78, S_X0_turnWhole_78, 88), (88, S_X0_turnWhole_88, 89)]
theorem OB_X0_turnWhole : mmOkB M_X0_turnWhole BL_X0_turnWhole = true := by decide +kernel
theorem OH_X0_turnWhole_0 : mmOkB M_X0_turnWhole [(0, S_X0_turnWhole_0, 36)] = true := by decide +kernel
set_option maxRecDepth 10000 in
theorem s0_X0_turnWhole_0 {d : Nat} {P : Option Value → mmMem → Prop} {μ : mmMem} {a0 : Nat} {x1 : Int32} {x2 : Int64} (h : (x1.toInt = 0 → ((lg_cmp x2 (0 : Int64)) = (0 : Int32) → (mmKD a0 = 0) ∧ (mmC0 d M_X0_setWhole false 2 [.ref a0, .int (0 : Int32), .long (0 : Int64)] μ fun ν1 => P none ν1)) ∧ (¬ (lg_cmp x2 (0 : Int64)) = (0 : Int32) → (mmKD a0 = 0) ∧ (mmC0 d M_X0_setWhole false 2 [.ref a0, .int (0 : Int32), .long (1 : Int64)] μ fun ν2 => P none ν2))) ∧ (¬ x1.toInt = 0 → (x1.toInt = 6 → (vf_n64 (FP.f2d (FP.l2f x2))) ∧ ((mmKD a0 = 0) ∧ (mmC0 d M_X0_setReal false 2 [.ref a0, .int (6 : Int32), .double (FP.f2d (FP.l2f x2))] μ fun ν3 => P none ν3))) ∧ (¬ x1.toInt = 6 → (x1.toInt = 7 → (mmKD a0 = 0) ∧ (mmC0 d M_X0_setReal false 2 [.ref a0, .int (7 : Int32), .double (FP.l2d x2)] μ fun ν4 => P none ν4)) ∧ (¬ x1.toInt = 7 → mmCJ d M_X0_lowestBits true 2 [.int x1, .long x2] μ fun y5 ν5 => (mmKD a0 = 0) ∧ (mmC0 d M_X0_setWhole false 2 [.ref a0, .int x1, .long y5] ν5 fun ν6 => P none ν6))))) : mmEnds d M_X0_turnWhole 0 [.ref a0, .int x1, .long x2, .retAddr 7] [] μ P := mm_tree 10 OB_X0_turnWhole OH_X0_turnWhole_0 h
set_option maxRecDepth 10000 in
theorem s_X0_turnWhole_0 {d : Nat} {P : Option Value → mmMem → Prop} {μ : mmMem} {a0 : Nat} {x1 : Int32} {x2 : Int64} (hd : 1 ≤ d) (k0 : mmKD a0 = 0) (h : (x1.toInt = 0 → ((lg_cmp x2 (0 : Int64)) = (0 : Int32) → P none (sD (sJ (sI μ a0 0 (0 : Int32)) a0 1 (0 : Int64)) a0 2 FP.dconst0)) ∧ (¬ (lg_cmp x2 (0 : Int64)) = (0 : Int32) → P none (sD (sJ (sI μ a0 0 (0 : Int32)) a0 1 (1 : Int64)) a0 2 FP.dconst0))) ∧ (¬ x1.toInt = 0 → (x1.toInt = 6 → (vf_n64 (FP.f2d (FP.l2f x2))) ∧ (P none (sD (sJ (sI μ a0 0 (6 : Int32)) a0 1 (0 : Int64)) a0 2 (FP.f2d (FP.l2f x2))))) ∧ (¬ x1.toInt = 6 → (x1.toInt = 7 → P none (sD (sJ (sI μ a0 0 (7 : Int32)) a0 1 (0 : Int64)) a0 2 (FP.l2d x2))) ∧ (¬ x1.toInt = 7 → mmCJ d M_X0_lowestBits true 2 [.int x1, .long x2] μ fun y11 ν10 => (¬ x1 = (0 : Int32) → P none (sD (sJ (sI ν10 a0 0 x1) a0 1 y11) a0 2 (FP.l2d y11))) ∧ (x1 = (0 : Int32) → P none (sD (sJ (sI ν10 a0 0 x1) a0 1 y11) a0 2 FP.dconst0)))))) : mmEnds d M_X0_turnWhole 0 [.ref a0, .int x1, .long x2, .retAddr 7] [] μ P := s0_X0_turnWhole_0 (⟨fun q1 => (have h17 := (h).1 q1; ⟨fun q2 => (have h4 := (h17).1 q2; ⟨k0, (u_X0_setWhole (by omega) k0 (⟨fun q6 => absurd (by decide : (0 : Int32) = (0 : Int32)) q6, fun _ => h4⟩))⟩), fun q3 => (have h5 := (h17).2 q3; ⟨k0, (u_X0_setWhole (by omega) k0 (⟨fun q7 => absurd (by decide : (0 : Int32) = (0 : Int32)) q7, fun _ => h5⟩))⟩)⟩), fun q1 => (have h18 := (h).2 q1; ⟨fun q1 => (have h19 := (h18).1 q1; (have o8 := (h19).1; have h9 := (h19).2; ⟨o8, ⟨k0, (u_X0_setReal (by omega) k0 h9)⟩⟩)), fun q1 => (have h20 := (h18).2 q1; ⟨fun q1 => (have h21 := (h20).1 q1; ⟨k0, (u_X0_setReal (by omega) k0 h21)⟩), fun q1 => (have h22 := (h20).2 q1; (mmCJ.mono (h22) (fun y11 ν10 h16 => ⟨k0, (u_X0_setWhole (by omega) k0 (⟨fun q12 => (have h14 := (h16).1 q12; h14), fun q13 => (have h15 := (h16).2 q13; h15)⟩))⟩)))⟩)⟩)⟩)
set_option maxRecDepth 10000 in
theorem u_X0_turnWhole {d : Nat} {K : mmMem → Prop} {μ : mmMem} {a0 : Nat} {x1 : Int32} {x2 : Int64} (hd : 2 ≤ d) (k0 : mmKD a0 = 0) (h : (x1.toInt = 0 → ((lg_cmp x2 (0 : Int64)) = (0 : Int32) → K (sD (sJ (sI μ a0 0 (0 : Int32)) a0 1 (0 : Int64)) a0 2 FP.dconst0)) ∧ (¬ (lg_cmp x2 (0 : Int64)) = (0 : Int32) → K (sD (sJ (sI μ a0 0 (0 : Int32)) a0 1 (1 : Int64)) a0 2 FP.dconst0))) ∧ (¬ x1.toInt = 0 → (x1.toInt = 6 → (vf_n64 (FP.f2d (FP.l2f x2))) ∧ (K (sD (sJ (sI μ a0 0 (6 : Int32)) a0 1 (0 : Int64)) a0 2 (FP.f2d (FP.l2f x2))))) ∧ (¬ x1.toInt = 6 → (x1.toInt = 7 → K (sD (sJ (sI μ a0 0 (7 : Int32)) a0 1 (0 : Int64)) a0 2 (FP.l2d x2))) ∧ (¬ x1.toInt = 7 → mmCJ (d - 1) M_X0_lowestBits true 2 [.int x1, .long x2] μ fun y11 ν10 => (¬ x1 = (0 : Int32) → K (sD (sJ (sI ν10 a0 0 x1) a0 1 y11) a0 2 (FP.l2d y11))) ∧ (x1 = (0 : Int32) → K (sD (sJ (sI ν10 a0 0 x1) a0 1 y11) a0 2 FP.dconst0)))))) : mmC0 d M_X0_turnWhole false 2 [.ref a0, .int x1, .long x2] μ K :=
  mmCU.of (d' := d - 1) g_X0_turnWhole (by decide +kernel) rfl rfl (by omega) (s_X0_turnWhole_0 (d := d - 1) (by omega) k0 h)
theorem g_X0_turnInto : mmGd M_X0_turnInto false 1 := ⟨mm_in 426 (by decide +kernel) rfl, mm_in 15 (by decide +kernel) rfl, by decide +kernel, by decide, ⟨mm_in 424 (by decide +kernel) rfl, mm_in 425 (by decide +kernel) rfl⟩⟩
def S_X0_turnInto_0 : List mmMI := [(0, .aload_n 0, 1, 0, 0, 0, .null, mm0), (1, .getfield 9, 3, 103, 0, 0, .null, mm0), (4, .bipush 6, 2, 0, 0, 0, .int (6 : Int32), mm0), (6, .if_icmp .eq 12, 3, 0, 18, 0, .null, mm0)]
def S_X0_turnInto_9 : List mmMI := [(9, .aload_n 0, 1, 0, 0, 0, .null, mm0), (10, .getfield 9, 3, 103, 0, 0, .null, mm0), (13, .bipush 7, 2, 0, 0, 0, .int (7 : Int32), mm0), (15, .if_icmp .ne 15, 3, 0, 30, 0, .null, mm0)]
def S_X0_turnInto_18 : List mmMI := [(18, .aload_n 0, 1, 0, 0, 0, .null, mm0), (19, .iload_n 1, 1, 0, 0, 0, .null, mm0), (20, .aload_n 0, 1, 0, 0, 0, .null, mm0), (21, .getfield 19, 3, 108, 0, 2, .null, mm0), (24, .invokevirtual 38, 3, 427, 2, 0, .null, M_X0_turnReal), (27, .goto 12, 3, 0, 39, 0, .null, mm0)]
def S_X0_turnInto_30 : List mmMI := [(30, .aload_n 0, 1, 0, 0, 0, .null, mm0), (31, .iload_n 1, 1, 0, 0, 0, .null, mm0), (32, .aload_n 0, 1, 0, 0, 0, .null, mm0), (33, .getfield 15, 3, 106, 0, 1, .null, mm0), (36, .invokevirtual 41, 3, 442, 2, 0, .null, M_X0_turnWhole)]
def S_X0_turnInto_39 : List mmMI := [(39, .return_, 1, 0, 0, 0, .null, mm0)]
def BL_X0_turnInto : mmBl := [(0, S_X0_turnInto_0, 9), (9, S_X0_turnInto_9, 18), (18, S_X0_turnInto_18, 30), (30, S_X0_turnInto_30, 39), (39, S_X0_turnInto_39, 40)]
theorem OB_X0_turnInto : mmOkB M_X0_turnInto BL_X0_turnInto = true := by decide +kernel
theorem OH_X0_turnInto_0 : mmOkB M_X0_turnInto [(0, S_X0_turnInto_0, 9)] = true := by decide +kernel
theorem s0_X0_turnInto_0 {d : Nat} {P : Option Value → mmMem → Prop} {μ : mmMem} {a0 : Nat} {x1 : Int32} (h : (mmKD a0 = 0) ∧ (((μ.1 a0 0) = (6 : Int32) → (mmKD a0 = 0) ∧ ((mmKD a0 = 0) ∧ (mmC0 d M_X0_turnReal false 2 [.ref a0, .int x1, .double (μ.2.2 a0 2)] μ fun ν1 => P none ν1))) ∧ (¬ (μ.1 a0 0) = (6 : Int32) → (mmKD a0 = 0) ∧ ((¬ (μ.1 a0 0) = (7 : Int32) → (mmKD a0 = 0) ∧ ((mmKD a0 = 0) ∧ (mmC0 d M_X0_turnWhole false 2 [.ref a0, .int x1, .long (μ.2.1 a0 1)] μ fun ν2 => P none ν2))) ∧ ((μ.1 a0 0) = (7 : Int32) → (mmKD a0 = 0) ∧ ((mmKD a0 = 0) ∧ (mmC0 d M_X0_turnReal false 2 [.ref a0, .int x1, .double (μ.2.2 a0 2)] μ fun ν3 => P none ν3))))))) : mmEnds d M_X0_turnInto 0 [.ref a0, .int x1] [] μ P := mm_tree 6 OB_X0_turnInto OH_X0_turnInto_0 h
theorem s_X0_turnInto_0 {d : Nat} {P : Option Value → mmMem → Prop} {μ : mmMem} {a0 : Nat} {x1 : Int32} (hd : 0 ≤ d) (k0 : mmKD a0 = 0) (h : ((μ.1 a0 0) = (6 : Int32) → mmC0 d M_X0_turnReal false 2 [.ref a0, .int x1, .double (μ.2.2 a0 2)] μ fun ν5 => P none ν5) ∧ (¬ (μ.1 a0 0) = (6 : Int32) → (¬ (μ.1 a0 0) = (7 : Int32) → mmC0 d M_X0_turnWhole false 2 [.ref a0, .int x1, .long (μ.2.1 a0 1)] μ fun ν11 => P none ν11) ∧ ((μ.1 a0 0) = (7 : Int32) → mmC0 d M_X0_turnReal false 2 [.ref a0, .int x1, .double (μ.2.2 a0 2)] μ fun ν13 => P none ν13))) : mmEnds d M_X0_turnInto 0 [.ref a0, .int x1] [] μ P := s0_X0_turnInto_0 (⟨k0, ⟨fun q1 => (have h3 := (h).1 q1; ⟨k0, ⟨k0, (mmC0.mono (h3) (fun ν5 h6 => h6))⟩⟩), fun q2 => (have h4 := (h).2 q2; ⟨k0, ⟨fun q7 => (have h9 := (h4).1 q7; ⟨k0, ⟨k0, (mmC0.mono (h9) (fun ν11 h12 => h12))⟩⟩), fun q8 => (have h10 := (h4).2 q8; ⟨k0, ⟨k0, (mmC0.mono (h10) (fun ν13 h14 => h14))⟩⟩)⟩⟩)⟩⟩)
theorem u_X0_turnInto {d : Nat} {K : mmMem → Prop} {μ : mmMem} {a0 : Nat} {x1 : Int32} (hd : 1 ≤ d) (k0 : mmKD a0 = 0) (h : ((μ.1 a0 0) = (6 : Int32) → mmC0 (d - 1) M_X0_turnReal false 2 [.ref a0, .int x1, .double (μ.2.2 a0 2)] μ fun ν5 => K ν5) ∧ (¬ (μ.1 a0 0) = (6 : Int32) → (¬ (μ.1 a0 0) = (7 : Int32) → mmC0 (d - 1) M_X0_turnWhole false 2 [.ref a0, .int x1, .long (μ.2.1 a0 1)] μ fun ν11 => K ν11) ∧ ((μ.1 a0 0) = (7 : Int32) → mmC0 (d - 1) M_X0_turnReal false 2 [.ref a0, .int x1, .double (μ.2.2 a0 2)] μ fun ν13 => K ν13))) : mmC0 d M_X0_turnInto false 1 [.ref a0, .int x1] μ K :=
  mmCU.of (d' := d - 1) g_X0_turnInto (by decide +kernel) rfl rfl (by omega) (s_X0_turnInto_0 (d := d - 1) (by omega) k0 h)
theorem g_X7_boxKindIn : mmGd M_X7_boxKindIn true 1 := ⟨mm_in 422 (by decide +kernel) rfl, mm_in 10 (by decide +kernel) rfl, by decide +kernel, by decide, (show _ from mm_in 421 (by decide +kernel) rfl)⟩
def S_X7_boxKindIn_0 : List mmMI := [(0, .iload_n 0, 1, 0, 0, 0, .null, mm0), (1, .bipush 8, 2, 0, 0, 0, .int (8 : Int32), mm0), (3, .if_icmp .ne 7, 3, 0, 10, 0, .null, mm0)]
def S_X7_boxKindIn_6 : List mmMI := [(6, .iconst 4, 1, 0, 0, 0, .int (4 : Int32), mm0), (7, .goto 4, 3, 0, 11, 0, .null, mm0)]
def S_X7_boxKindIn_10 : List mmMI := [(10, .iload_n 0, 1, 0, 0, 0, .null, mm0)]
def S_X7_boxKindIn_11 : List mmMI := [(11, .ireturn, 1, 0, 0, 0, .null, mm0)]
def BL_X7_boxKindIn : mmBl := [(0, S_X7_boxKindIn_0, 6), (6, S_X7_boxKindIn_6, 10), (10, S_X7_boxKindIn_10, 11), (11, S_X7_boxKindIn_11, 12)]
theorem OB_X7_boxKindIn : mmOkB M_X7_boxKindIn BL_X7_boxKindIn = true := by decide +kernel
theorem OH_X7_boxKindIn_0 : mmOkB M_X7_boxKindIn [(0, S_X7_boxKindIn_0, 6)] = true := by decide +kernel
theorem s0_X7_boxKindIn_0 {d : Nat} {P : Option Value → mmMem → Prop} {μ : mmMem} {x0 : Int32} (h : (¬ x0 = (8 : Int32) → P (some (.int x0)) μ) ∧ (x0 = (8 : Int32) → P (some (.int (4 : Int32))) μ)) : mmEnds d M_X7_boxKindIn 0 [.int x0] [] μ P := mm_tree 5 OB_X7_boxKindIn OH_X7_boxKindIn_0 h
theorem s_X7_boxKindIn_0 {d : Nat} {P : Option Value → mmMem → Prop} {μ : mmMem} {x0 : Int32} (hd : 0 ≤ d)  (h : (¬ x0 = (8 : Int32) → P (some (.int x0)) μ) ∧ (x0 = (8 : Int32) → P (some (.int (4 : Int32))) μ)) : mmEnds d M_X7_boxKindIn 0 [.int x0] [] μ P := s0_X7_boxKindIn_0 (⟨fun q1 => (have h3 := (h).1 q1; h3), fun q2 => (have h4 := (h).2 q2; h4)⟩)
theorem u_X7_boxKindIn {d : Nat} {K : Int32 → mmMem → Prop} {μ : mmMem} {x0 : Int32} (hd : 1 ≤ d)  (h : (¬ x0 = (8 : Int32) → K x0 μ) ∧ (x0 = (8 : Int32) → K (4 : Int32) μ)) : mmCI d M_X7_boxKindIn true 1 [.int x0] μ K :=
  mmCU.of (d' := d - 1) g_X7_boxKindIn (by decide +kernel) rfl rfl (by omega) (s_X7_boxKindIn_0 (d := d - 1) (by omega)  h)
theorem g_X0_isBox : mmGd M_X0_isBox false 0 := ⟨mm_in 457 (by decide +kernel) rfl, mm_in 15 (by decide +kernel) rfl, by decide +kernel, by decide, ⟨mm_in 455 (by decide +kernel) rfl, mm_in 456 (by decide +kernel) rfl⟩⟩
def S_X0_isBox_0 : List mmMI := [(0, .aload_n 0, 1, 0, 0, 0, .null, mm0), (1, .getfield 9, 3, 103, 0, 0, .null, mm0), (4, .ifCond .lt 16, 3, 0, 20, 0, .null, mm0)]
def S_X0_isBox_7 : List mmMI := [(7, .aload_n 0, 1, 0, 0, 0, .null, mm0), (8, .getfield 9, 3, 103, 0, 0, .null, mm0), (11, .bipush 7, 2, 0, 0, 0, .int (7 : Int32), mm0), (13, .if_icmp .gt 7, 3, 0, 20, 0, .null, mm0)]
def S_X0_isBox_16 : List mmMI := [(16, .iconst 1, 1, 0, 0, 0, .int (1 : Int32), mm0), (17, .goto 4, 3, 0, 21, 0, .null, mm0)]
def S_X0_isBox_20 : List mmMI := [(20, .iconst 0, 1, 0, 0, 0, .int (0 : Int32), mm0)]
def S_X0_isBox_21 : List mmMI := [(21, .ireturn, 1, 0, 0, 0, .null, mm0)]
def BL_X0_isBox : mmBl := [(0, S_X0_isBox_0, 7), (7, S_X0_isBox_7, 16), (16, S_X0_isBox_16, 20), (20, S_X0_isBox_20, 21), (21, S_X0_isBox_21, 22)]
theorem OB_X0_isBox : mmOkB M_X0_isBox BL_X0_isBox = true := by decide +kernel
theorem OH_X0_isBox_0 : mmOkB M_X0_isBox [(0, S_X0_isBox_0, 7)] = true := by decide +kernel
theorem s0_X0_isBox_0 {d : Nat} {P : Option Value → mmMem → Prop} {μ : mmMem} {a0 : Nat} (h : (mmKD a0 = 0) ∧ (((μ.1 a0 0) < (0 : Int32) → P (some (.int (0 : Int32))) μ) ∧ (¬ (μ.1 a0 0) < (0 : Int32) → (mmKD a0 = 0) ∧ (((7 : Int32) < (μ.1 a0 0) → P (some (.int (0 : Int32))) μ) ∧ (¬ (7 : Int32) < (μ.1 a0 0) → P (some (.int (1 : Int32))) μ))))) : mmEnds d M_X0_isBox 0 [.ref a0] [] μ P := mm_tree 6 OB_X0_isBox OH_X0_isBox_0 h
theorem s_X0_isBox_0 {d : Nat} {P : Option Value → mmMem → Prop} {μ : mmMem} {a0 : Nat} (hd : 0 ≤ d) (k0 : mmKD a0 = 0) (h : ((μ.1 a0 0) < (0 : Int32) → P (some (.int (0 : Int32))) μ) ∧ (¬ (μ.1 a0 0) < (0 : Int32) → ((7 : Int32) < (μ.1 a0 0) → P (some (.int (0 : Int32))) μ) ∧ (¬ (7 : Int32) < (μ.1 a0 0) → P (some (.int (1 : Int32))) μ))) : mmEnds d M_X0_isBox 0 [.ref a0] [] μ P := s0_X0_isBox_0 (⟨k0, ⟨fun q1 => (have h3 := (h).1 q1; h3), fun q2 => (have h4 := (h).2 q2; ⟨k0, ⟨fun q5 => (have h7 := (h4).1 q5; h7), fun q6 => (have h8 := (h4).2 q6; h8)⟩⟩)⟩⟩)
theorem u_X0_isBox {d : Nat} {K : Int32 → mmMem → Prop} {μ : mmMem} {a0 : Nat} (hd : 1 ≤ d) (k0 : mmKD a0 = 0) (h : ((μ.1 a0 0) < (0 : Int32) → K (0 : Int32) μ) ∧ (¬ (μ.1 a0 0) < (0 : Int32) → ((7 : Int32) < (μ.1 a0 0) → K (0 : Int32) μ) ∧ (¬ (7 : Int32) < (μ.1 a0 0) → K (1 : Int32) μ))) : mmCI d M_X0_isBox false 0 [.ref a0] μ K :=
  mmCU.of (d' := d - 1) g_X0_isBox (by decide +kernel) rfl rfl (by omega) (s_X0_isBox_0 (d := d - 1) (by omega) k0 h)
theorem g_X1_take : mmGd M_X1_take false 4 := ⟨mm_in 473 (by decide +kernel) rfl, mm_in 12 (by decide +kernel) rfl, by decide +kernel, by decide, ⟨mm_in 471 (by decide +kernel) rfl, mm_in 472 (by decide +kernel) rfl⟩⟩
def S_X1_take_0 : List mmMI := [(0, .aload_n 1, 1, 0, 0, 0, .null, mm0), (1, .getfield 9, 3, 60, 1, 2, .null, mm0), (4, .iload_n 2, 1, 0, 0, 0, .null, mm0), (5, .aload_n 0, 1, 0, 0, 0, .null, mm0), (6, .getfield 9, 3, 60, 1, 2, .null, mm0), (9, .iload_n 3, 1, 0, 0, 0, .null, mm0), (10, .iload 4, 2, 0, 0, 0, .null, mm0), (12, .invokestatic 46, 3, 474, 0, 10, .null, mm0), (15, .aload_n 1, 1, 0, 0, 0, .null, mm0), (16, .getfield 15, 3, 61, 1, 3, .null, mm0), (19, .iload_n 2, 1, 0, 0, 0, .null, mm0), (20, .aload_n 0, 1, 0, 0, 0, .null, mm0), (21, .getfield 15, 3, 61, 1, 3, .null, mm0), (24, .iload_n 3, 1, 0, 0, 0, .null, mm0), (25, .iload 4, 2, 0, 0, 0, .null, mm0), (27, .invokestatic 46, 3, 474, 0, 11, .null, mm0), (30, .aload_n 1, 1, 0, 0, 0, .null, mm0), (31, .getfield 19, 3, 62, 1, 4, .null, mm0), (34, .iload_n 2, 1, 0, 0, 0, .null, mm0), (35, .aload_n 0, 1, 0, 0, 0, .null, mm0), (36, .getfield 19, 3, 62, 1, 4, .null, mm0), (39, .iload_n 3, 1, 0, 0, 0, .null, mm0), (40, .iload 4, 2, 0, 0, 0, .null, mm0), (42, .invokestatic 46, 3, 474, 0, 12, .null, mm0), (45, .return_, 1, 0, 0, 0, .null, mm0)]
def BL_X1_take : mmBl := [(0, S_X1_take_0, 46)]
theorem OB_X1_take : mmOkB M_X1_take BL_X1_take = true := by decide +kernel
theorem OH_X1_take_0 : mmOkB M_X1_take [(0, S_X1_take_0, 46)] = true := by decide +kernel
set_option maxRecDepth 10000 in
theorem s0_X1_take_0 {d : Nat} {P : Option Value → mmMem → Prop} {μ : mmMem} {a0 : Nat} {a1 : Nat} {x2 : Int32} {x3 : Int32} {x4 : Int32} (h : (mmKD a1 = 1) ∧ ((mmKD a0 = 1) ∧ ((1 ≤ d) ∧ ((mmKD (a1 + 1) = 10) ∧ ((mmKD (a0 + 1) = 10) ∧ ((¬ x2 < (0 : Int32)) ∧ ((¬ x3 < (0 : Int32)) ∧ ((¬ x4 < (0 : Int32)) ∧ ((x2.toNatClampNeg + x4.toNatClampNeg ≤ mmLEN (a1 + 1)) ∧ ((x3.toNatClampNeg + x4.toNatClampNeg ≤ mmLEN (a0 + 1)) ∧ ((mmKD a1 = 1) ∧ ((mmKD a0 = 1) ∧ ((1 ≤ d) ∧ ((mmKD (a1 + 2) = 11) ∧ ((mmKD (a0 + 2) = 11) ∧ ((¬ x2 < (0 : Int32)) ∧ ((¬ x3 < (0 : Int32)) ∧ ((¬ x4 < (0 : Int32)) ∧ ((x2.toNatClampNeg + x4.toNatClampNeg ≤ mmLEN (a1 + 2)) ∧ ((x3.toNatClampNeg + x4.toNatClampNeg ≤ mmLEN (a0 + 2)) ∧ ((mmKD a1 = 1) ∧ ((mmKD a0 = 1) ∧ ((1 ≤ d) ∧ ((mmKD (a1 + 3) = 12) ∧ ((mmKD (a0 + 3) = 12) ∧ ((¬ x2 < (0 : Int32)) ∧ ((¬ x3 < (0 : Int32)) ∧ ((¬ x4 < (0 : Int32)) ∧ ((x2.toNatClampNeg + x4.toNatClampNeg ≤ mmLEN (a1 + 3)) ∧ ((x3.toNatClampNeg + x4.toNatClampNeg ≤ mmLEN (a0 + 3)) ∧ (P none (cD (cJ (cI μ (a1 + 1) (a0 + 1) x2.toNatClampNeg x3.toNatClampNeg x4.toNatClampNeg) (a1 + 2) (a0 + 2) x2.toNatClampNeg x3.toNatClampNeg x4.toNatClampNeg) (a1 + 3) (a0 + 3) x2.toNatClampNeg x3.toNatClampNeg x4.toNatClampNeg)))))))))))))))))))))))))))))))) : mmEnds d M_X1_take 0 [.ref a0, .ref a1, .int x2, .int x3, .int x4] [] μ P := mm_tree 2 OB_X1_take OH_X1_take_0 h
theorem s_X1_take_0 {d : Nat} {P : Option Value → mmMem → Prop} {μ : mmMem} {a0 : Nat} {a1 : Nat} {x2 : Int32} {x3 : Int32} {x4 : Int32} (hd : 1 ≤ d) (k0 : mmKD a0 = 1) (k1 : mmKD a1 = 1) (h : (¬ x2 < (0 : Int32)) ∧ ((¬ x3 < (0 : Int32)) ∧ ((¬ x4 < (0 : Int32)) ∧ ((x2.toNatClampNeg + x4.toNatClampNeg ≤ 40) ∧ ((x3.toNatClampNeg + x4.toNatClampNeg ≤ 40) ∧ (P none (cD (cJ (cI μ (a1 + 1) (a0 + 1) x2.toNatClampNeg x3.toNatClampNeg x4.toNatClampNeg) (a1 + 2) (a0 + 2) x2.toNatClampNeg x3.toNatClampNeg x4.toNatClampNeg) (a1 + 3) (a0 + 3) x2.toNatClampNeg x3.toNatClampNeg x4.toNatClampNeg))))))) : mmEnds d M_X1_take 0 [.ref a0, .ref a1, .int x2, .int x3, .int x4] [] μ P := s0_X1_take_0 (⟨k1, ⟨k0, ⟨(by omega), ⟨(kf_1_2 k1), ⟨(kf_1_2 k0), (have o1 := (h).1; have h2 := (h).2; ⟨o1, (have o3 := (h2).1; have h4 := (h2).2; ⟨o3, (have o5 := (h4).1; have h6 := (h4).2; ⟨o5, (have o7 := (h6).1; have h8 := (h6).2; ⟨cpl_l (lf_1_2 k1) o7, (have o9 := (h8).1; have h10 := (h8).2; ⟨cpl_l (lf_1_2 k0) o9, ⟨k1, ⟨k0, ⟨(by omega), ⟨(kf_1_3 k1), ⟨(kf_1_3 k0), ⟨o1, ⟨o3, ⟨o5, ⟨cpl_l (lf_1_3 k1) o7, ⟨cpl_l (lf_1_3 k0) o9, ⟨k1, ⟨k0, ⟨(by omega), ⟨(kf_1_4 k1), ⟨(kf_1_4 k0), ⟨o1, ⟨o3, ⟨o5, ⟨cpl_l (lf_1_4 k1) o7, ⟨cpl_l (lf_1_4 k0) o9, h10⟩⟩⟩⟩⟩⟩⟩⟩⟩⟩⟩⟩⟩⟩⟩⟩⟩⟩⟩⟩⟩)⟩)⟩)⟩)⟩)⟩⟩⟩⟩⟩)
theorem u_X1_take {d : Nat} {K : mmMem → Prop} {μ : mmMem} {a0 : Nat} {a1 : Nat} {x2 : Int32} {x3 : Int32} {x4 : Int32} (hd : 2 ≤ d) (k0 : mmKD a0 = 1) (k1 : mmKD a1 = 1) (h : (¬ x2 < (0 : Int32)) ∧ ((¬ x3 < (0 : Int32)) ∧ ((¬ x4 < (0 : Int32)) ∧ ((x2.toNatClampNeg + x4.toNatClampNeg ≤ 40) ∧ ((x3.toNatClampNeg + x4.toNatClampNeg ≤ 40) ∧ (K (cD (cJ (cI μ (a1 + 1) (a0 + 1) x2.toNatClampNeg x3.toNatClampNeg x4.toNatClampNeg) (a1 + 2) (a0 + 2) x2.toNatClampNeg x3.toNatClampNeg x4.toNatClampNeg) (a1 + 3) (a0 + 3) x2.toNatClampNeg x3.toNatClampNeg x4.toNatClampNeg))))))) : mmC0 d M_X1_take false 4 [.ref a0, .ref a1, .int x2, .int x3, .int x4] μ K :=
  mmCU.of (d' := d - 1) g_X1_take (by decide +kernel) rfl rfl (by omega) (s_X1_take_0 (d := d - 1) (by omega) k0 k1 h)
theorem g_X1_copyFrom : mmGd M_X1_copyFrom false 1 := ⟨mm_in 469 (by decide +kernel) rfl, mm_in 12 (by decide +kernel) rfl, by decide +kernel, by decide, ⟨mm_in 467 (by decide +kernel) rfl, mm_in 468 (by decide +kernel) rfl⟩⟩
def S_X1_copyFrom_0 : List mmMI := [(0, .aload_n 0, 1, 0, 0, 0, .null, mm0), (1, .aload_n 1, 1, 0, 0, 0, .null, mm0), (2, .getfield 37, 3, 55, 1, 0, .null, mm0), (5, .putfield 37, 3, 55, 1, 0, .null, mm0), (8, .aload_n 0, 1, 0, 0, 0, .null, mm0), (9, .aload_n 1, 1, 0, 0, 0, .null, mm0), (10, .getfield 38, 3, 58, 1, 1, .null, mm0), (13, .putfield 38, 3, 58, 1, 1, .null, mm0), (16, .aload_n 0, 1, 0, 0, 0, .null, mm0), (17, .aload_n 1, 1, 0, 0, 0, .null, mm0), (18, .iconst 0, 1, 0, 0, 0, .int (0 : Int32), mm0), (19, .iconst 0, 1, 0, 0, 0, .int (0 : Int32), mm0), (20, .bipush 40, 2, 0, 0, 0, .int (40 : Int32), mm0), (22, .invokevirtual 52, 3, 470, 4, 1, .null, M_X1_take), (25, .return_, 1, 0, 0, 0, .null, mm0)]
def BL_X1_copyFrom : mmBl := [(0, S_X1_copyFrom_0, 26)]
theorem OB_X1_copyFrom : mmOkB M_X1_copyFrom BL_X1_copyFrom = true := by decide +kernel
theorem OH_X1_copyFrom_0 : mmOkB M_X1_copyFrom [(0, S_X1_copyFrom_0, 26)] = true := by decide +kernel
theorem s0_X1_copyFrom_0 {d : Nat} {P : Option Value → mmMem → Prop} {μ : mmMem} {a0 : Nat} {a1 : Nat} (h : (mmKD a1 = 1) ∧ ((mmKD a0 = 1) ∧ ((mmKD a1 = 1) ∧ ((mmKD a0 = 1) ∧ (mbl ((sI μ a0 0 (μ.1 a1 0)).1 a1 1) ((mmKD a0 = 1) ∧ (mmC0 d M_X1_take false 4 [.ref a0, .ref a1, .int (0 : Int32), .int (0 : Int32), .int (40 : Int32)] (sI (sI μ a0 0 (μ.1 a1 0)) a0 1 ((sI μ a0 0 (μ.1 a1 0)).1 a1 1)) fun ν1 => P none ν1))))))) : mmEnds d M_X1_copyFrom 0 [.ref a0, .ref a1] [] μ P := mm_tree 2 OB_X1_copyFrom OH_X1_copyFrom_0 h
theorem s_X1_copyFrom_0 {d : Nat} {P : Option Value → mmMem → Prop} {μ : mmMem} {a0 : Nat} {a1 : Nat} (hd : 0 ≤ d) (k0 : mmKD a0 = 1) (k1 : mmKD a1 = 1) (h : (((sI μ a0 0 (μ.1 a1 0)).1 a1 1) = 0 ∨ ((sI μ a0 0 (μ.1 a1 0)).1 a1 1) = 1) ∧ (mmC0 d M_X1_take false 4 [.ref a0, .ref a1, .int (0 : Int32), .int (0 : Int32), .int (40 : Int32)] (sI (sI μ a0 0 (μ.1 a1 0)) a0 1 ((sI μ a0 0 (μ.1 a1 0)).1 a1 1)) fun ν3 => P none ν3)) : mmEnds d M_X1_copyFrom 0 [.ref a0, .ref a1] [] μ P := s0_X1_copyFrom_0 (⟨k1, ⟨k0, ⟨k1, ⟨k0, (have o1 := (h).1; have h2 := (h).2; mbl_i o1 ⟨k0, (mmC0.mono (h2) (fun ν3 h4 => h4))⟩)⟩⟩⟩⟩)
theorem u_X1_copyFrom {d : Nat} {K : mmMem → Prop} {μ : mmMem} {a0 : Nat} {a1 : Nat} (hd : 1 ≤ d) (k0 : mmKD a0 = 1) (k1 : mmKD a1 = 1) (h : (((sI μ a0 0 (μ.1 a1 0)).1 a1 1) = 0 ∨ ((sI μ a0 0 (μ.1 a1 0)).1 a1 1) = 1) ∧ (mmC0 (d - 1) M_X1_take false 4 [.ref a0, .ref a1, .int (0 : Int32), .int (0 : Int32), .int (40 : Int32)] (sI (sI μ a0 0 (μ.1 a1 0)) a0 1 ((sI μ a0 0 (μ.1 a1 0)).1 a1 1)) fun ν3 => K ν3)) : mmC0 d M_X1_copyFrom false 1 [.ref a0, .ref a1] μ K :=
  mmCU.of (d' := d - 1) g_X1_copyFrom (by decide +kernel) rfl rfl (by omega) (s_X1_copyFrom_0 (d := d - 1) (by omega) k0 k1 h)
theorem g_X2_copyFrom : mmGd M_X2_copyFrom false 1 := ⟨mm_in 483 (by decide +kernel) rfl, mm_in 14 (by decide +kernel) rfl, by decide +kernel, by decide, ⟨mm_in 481 (by decide +kernel) rfl, mm_in 482 (by decide +kernel) rfl⟩⟩
def S_X2_copyFrom_0 : List mmMI := [(0, .aload_n 0, 1, 0, 0, 0, .null, mm0), (1, .aload_n 1, 1, 0, 0, 0, .null, mm0), (2, .getfield 18, 3, 117, 2, 0, .null, mm0), (5, .putfield 18, 3, 117, 2, 0, .null, mm0), (8, .aload_n 0, 1, 0, 0, 0, .null, mm0), (9, .aload_n 1, 1, 0, 0, 0, .null, mm0), (10, .getfield 22, 3, 118, 2, 1, .null, mm0), (13, .putfield 22, 3, 118, 2, 1, .null, mm0), (16, .aload_n 0, 1, 0, 0, 0, .null, mm0), (17, .getfield 12, 3, 119, 2, 2, .null, mm0), (20, .aload_n 1, 1, 0, 0, 0, .null, mm0), (21, .getfield 12, 3, 119, 2, 2, .null, mm0), (24, .invokevirtual 33, 3, 484, 1, 0, .null, M_X0_copyFrom), (27, .return_, 1, 0, 0, 0, .null, mm0)]
def BL_X2_copyFrom : mmBl := [(0, S_X2_copyFrom_0, 28)]
theorem OB_X2_copyFrom : mmOkB M_X2_copyFrom BL_X2_copyFrom = true := by decide +kernel
theorem OH_X2_copyFrom_0 : mmOkB M_X2_copyFrom [(0, S_X2_copyFrom_0, 28)] = true := by decide +kernel
theorem s0_X2_copyFrom_0 {d : Nat} {P : Option Value → mmMem → Prop} {μ : mmMem} {a0 : Nat} {a1 : Nat} (h : (mmKD a1 = 2) ∧ ((mmKD a0 = 2) ∧ ((mmKD a1 = 2) ∧ ((mmKD a0 = 2) ∧ ((mmKD a0 = 2) ∧ ((mmKD a1 = 2) ∧ ((mmKD (a0 + 1) = 0) ∧ (mmC0 d M_X0_copyFrom false 1 [.ref (a0 + 1), .ref (a1 + 1)] (sI (sI μ a0 0 (μ.1 a1 0)) a0 1 ((sI μ a0 0 (μ.1 a1 0)).1 a1 1)) fun ν1 => P none ν1)))))))) : mmEnds d M_X2_copyFrom 0 [.ref a0, .ref a1] [] μ P := mm_tree 2 OB_X2_copyFrom OH_X2_copyFrom_0 h
theorem s_X2_copyFrom_0 {d : Nat} {P : Option Value → mmMem → Prop} {μ : mmMem} {a0 : Nat} {a1 : Nat} (hd : 0 ≤ d) (k0 : mmKD a0 = 2) (k1 : mmKD a1 = 2) (h : mmC0 d M_X0_copyFrom false 1 [.ref (a0 + 1), .ref (a1 + 1)] (sI (sI μ a0 0 (μ.1 a1 0)) a0 1 ((sI μ a0 0 (μ.1 a1 0)).1 a1 1)) fun ν1 => P none ν1) : mmEnds d M_X2_copyFrom 0 [.ref a0, .ref a1] [] μ P := s0_X2_copyFrom_0 (⟨k1, ⟨k0, ⟨k1, ⟨k0, ⟨k0, ⟨k1, ⟨(kf_2_2 k0), (mmC0.mono (h) (fun ν1 h2 => h2))⟩⟩⟩⟩⟩⟩⟩)
theorem u_X2_copyFrom {d : Nat} {K : mmMem → Prop} {μ : mmMem} {a0 : Nat} {a1 : Nat} (hd : 1 ≤ d) (k0 : mmKD a0 = 2) (k1 : mmKD a1 = 2) (h : mmC0 (d - 1) M_X0_copyFrom false 1 [.ref (a0 + 1), .ref (a1 + 1)] (sI (sI μ a0 0 (μ.1 a1 0)) a0 1 ((sI μ a0 0 (μ.1 a1 0)).1 a1 1)) fun ν1 => K ν1) : mmC0 d M_X2_copyFrom false 1 [.ref a0, .ref a1] μ K :=
  mmCU.of (d' := d - 1) g_X2_copyFrom (by decide +kernel) rfl rfl (by omega) (s_X2_copyFrom_0 (d := d - 1) (by omega) k0 k1 h)
theorem g_X6_copyFrom : mmGd M_X6_copyFrom false 1 := ⟨mm_in 478 (by decide +kernel) rfl, mm_in 13 (by decide +kernel) rfl, by decide +kernel, by decide, ⟨mm_in 476 (by decide +kernel) rfl, mm_in 477 (by decide +kernel) rfl⟩⟩
def S_X6_copyFrom_0 : List mmMI := [(0, .aload_n 0, 1, 0, 0, 0, .null, mm0), (1, .aload_n 1, 1, 0, 0, 0, .null, mm0), (2, .getfield 15, 3, 83, 6, 0, .null, mm0), (5, .putfield 15, 3, 83, 6, 0, .null, mm0), (8, .aload_n 1, 1, 0, 0, 0, .null, mm0), (9, .getfield 9, 3, 85, 6, 1, .null, mm0), (12, .iconst 0, 1, 0, 0, 0, .int (0 : Int32), mm0), (13, .aload_n 0, 1, 0, 0, 0, .null, mm0), (14, .getfield 9, 3, 85, 6, 1, .null, mm0), (17, .iconst 0, 1, 0, 0, 0, .int (0 : Int32), mm0), (18, .bipush 40, 2, 0, 0, 0, .int (40 : Int32), mm0), (20, .invokestatic 23, 3, 479, 0, 10, .null, mm0), (23, .return_, 1, 0, 0, 0, .null, mm0)]
def BL_X6_copyFrom : mmBl := [(0, S_X6_copyFrom_0, 24)]
theorem OB_X6_copyFrom : mmOkB M_X6_copyFrom BL_X6_copyFrom = true := by decide +kernel
theorem OH_X6_copyFrom_0 : mmOkB M_X6_copyFrom [(0, S_X6_copyFrom_0, 24)] = true := by decide +kernel
theorem s0_X6_copyFrom_0 {d : Nat} {P : Option Value → mmMem → Prop} {μ : mmMem} {a0 : Nat} {a1 : Nat} (h : (mmKD a1 = 6) ∧ ((mmKD a0 = 6) ∧ ((mmKD a1 = 6) ∧ ((mmKD a0 = 6) ∧ ((1 ≤ d) ∧ ((mmKD (a1 + 1) = 10) ∧ ((mmKD (a0 + 1) = 10) ∧ ((¬ (0 : Int32) < (0 : Int32)) ∧ ((¬ (0 : Int32) < (0 : Int32)) ∧ ((¬ (40 : Int32) < (0 : Int32)) ∧ (((0 : Int32).toNatClampNeg + (40 : Int32).toNatClampNeg ≤ mmLEN (a1 + 1)) ∧ (((0 : Int32).toNatClampNeg + (40 : Int32).toNatClampNeg ≤ mmLEN (a0 + 1)) ∧ (P none (cI (sI μ a0 0 (μ.1 a1 0)) (a1 + 1) (a0 + 1) (0 : Int32).toNatClampNeg (0 : Int32).toNatClampNeg (40 : Int32).toNatClampNeg)))))))))))))) : mmEnds d M_X6_copyFrom 0 [.ref a0, .ref a1] [] μ P := mm_tree 2 OB_X6_copyFrom OH_X6_copyFrom_0 h
theorem s_X6_copyFrom_0 {d : Nat} {P : Option Value → mmMem → Prop} {μ : mmMem} {a0 : Nat} {a1 : Nat} (hd : 1 ≤ d) (k0 : mmKD a0 = 6) (k1 : mmKD a1 = 6) (h : P none (cI (sI μ a0 0 (μ.1 a1 0)) (a1 + 1) (a0 + 1) (0 : Int32).toNatClampNeg (0 : Int32).toNatClampNeg (40 : Int32).toNatClampNeg)) : mmEnds d M_X6_copyFrom 0 [.ref a0, .ref a1] [] μ P := s0_X6_copyFrom_0 (⟨k1, ⟨k0, ⟨k1, ⟨k0, ⟨(by omega), ⟨(kf_6_1 k1), ⟨(kf_6_1 k0), ⟨(by decide), ⟨(by decide), ⟨(by decide), ⟨cpl_l (lf_6_1 k1) (by decide), ⟨cpl_l (lf_6_1 k0) (by decide), h⟩⟩⟩⟩⟩⟩⟩⟩⟩⟩⟩⟩)
theorem u_X6_copyFrom {d : Nat} {K : mmMem → Prop} {μ : mmMem} {a0 : Nat} {a1 : Nat} (hd : 2 ≤ d) (k0 : mmKD a0 = 6) (k1 : mmKD a1 = 6) (h : K (cI (sI μ a0 0 (μ.1 a1 0)) (a1 + 1) (a0 + 1) (0 : Int32).toNatClampNeg (0 : Int32).toNatClampNeg (40 : Int32).toNatClampNeg)) : mmC0 d M_X6_copyFrom false 1 [.ref a0, .ref a1] μ K :=
  mmCU.of (d' := d - 1) g_X6_copyFrom (by decide +kernel) rfl rfl (by omega) (s_X6_copyFrom_0 (d := d - 1) (by omega) k0 k1 h)
theorem g_X4_copyFrom : mmGd M_X4_copyFrom false 1 := ⟨mm_in 465 (by decide +kernel) rfl, mm_in 11 (by decide +kernel) rfl, by decide +kernel, by decide, ⟨mm_in 463 (by decide +kernel) rfl, mm_in 464 (by decide +kernel) rfl⟩⟩
def S_X4_copyFrom_0 : List mmMI := [(0, .aload_n 0, 1, 0, 0, 0, .null, mm0), (1, .aload_n 1, 1, 0, 0, 0, .null, mm0), (2, .getfield 44, 3, 128, 4, 0, .null, mm0), (5, .putfield 44, 3, 128, 4, 0, .null, mm0), (8, .aload_n 0, 1, 0, 0, 0, .null, mm0), (9, .aload_n 1, 1, 0, 0, 0, .null, mm0), (10, .getfield 40, 3, 129, 4, 1, .null, mm0), (13, .putfield 40, 3, 129, 4, 1, .null, mm0), (16, .aload_n 0, 1, 0, 0, 0, .null, mm0), (17, .aload_n 1, 1, 0, 0, 0, .null, mm0), (18, .getfield 54, 3, 131, 4, 2, .null, mm0), (21, .putfield 54, 3, 131, 4, 2, .null, mm0), (24, .aload_n 0, 1, 0, 0, 0, .null, mm0), (25, .aload_n 1, 1, 0, 0, 0, .null, mm0), (26, .getfield 57, 3, 133, 4, 3, .null, mm0), (29, .putfield 57, 3, 133, 4, 3, .null, mm0), (32, .iconst 0, 1, 0, 0, 0, .int (0 : Int32), mm0), (33, .istore_n 2, 1, 0, 0, 0, .null, mm0)]
def S_X4_copyFrom_34 : List mmMI := [(34, .iload_n 2, 1, 0, 0, 0, .null, mm0), (35, .aload_n 0, 1, 0, 0, 0, .null, mm0), (36, .getfield 40, 3, 129, 4, 1, .null, mm0), (39, .if_icmp .ge 24, 3, 0, 63, 0, .null, mm0)]
def S_X4_copyFrom_42 : List mmMI := [(42, .aload_n 0, 1, 0, 0, 0, .null, mm0), (43, .getfield 11, 3, 135, 4, 4, .null, mm0), (46, .iload_n 2, 1, 0, 0, 0, .null, mm0), (47, .aaload, 1, 0, 14, 0, .null, mm0), (48, .aload_n 1, 1, 0, 0, 0, .null, mm0), (49, .getfield 11, 3, 135, 4, 4, .null, mm0), (52, .iload_n 2, 1, 0, 0, 0, .null, mm0), (53, .aaload, 1, 0, 14, 0, .null, mm0), (54, .invokevirtual 60, 3, 466, 1, 1, .null, M_X1_copyFrom), (57, .iinc 2 1, 3, 0, 0, 0, .int (1 : Int32), mm0), (60, .goto (-26), 3, 0, 34, 0, .null, mm0)]
def S_X4_copyFrom_63 : List mmMI := [(63, .iconst 0, 1, 0, 0, 0, .int (0 : Int32), mm0), (64, .istore_n 2, 1, 0, 0, 0, .null, mm0)]
def S_X4_copyFrom_65 : List mmMI := [(65, .iload_n 2, 1, 0, 0, 0, .null, mm0), (66, .iconst 2, 1, 0, 0, 0, .int (2 : Int32), mm0), (67, .if_icmp .ge 24, 3, 0, 91, 0, .null, mm0)]
def S_X4_copyFrom_70 : List mmMI := [(70, .aload_n 0, 1, 0, 0, 0, .null, mm0), (71, .getfield 19, 3, 137, 4, 5, .null, mm0), (74, .iload_n 2, 1, 0, 0, 0, .null, mm0), (75, .aaload, 1, 0, 15, 0, .null, mm0), (76, .aload_n 1, 1, 0, 0, 0, .null, mm0), (77, .getfield 19, 3, 137, 4, 5, .null, mm0), (80, .iload_n 2, 1, 0, 0, 0, .null, mm0), (81, .aaload, 1, 0, 15, 0, .null, mm0), (82, .invokevirtual 64, 3, 475, 1, 6, .null, M_X6_copyFrom), (85, .iinc 2 1, 3, 0, 0, 0, .int (1 : Int32), mm0), (88, .goto (-23), 3, 0, 65, 0, .null, mm0)]
def S_X4_copyFrom_91 : List mmMI := [(91, .iconst 0, 1, 0, 0, 0, .int (0 : Int32), mm0), (92, .istore_n 2, 1, 0, 0, 0, .null, mm0)]
def S_X4_copyFrom_93 : List mmMI := [(93, .iload_n 2, 1, 0, 0, 0, .null, mm0), (94, .aload_n 0, 1, 0, 0, 0, .null, mm0), (95, .getfield 54, 3, 131, 4, 2, .null, mm0), (98, .if_icmp .ge 33, 3, 0, 131, 0, .null, mm0)]
def S_X4_copyFrom_101 : List mmMI := [(101, .aload_n 0, 1, 0, 0, 0, .null, mm0), (102, .getfield 23, 3, 139, 4, 6, .null, mm0), (105, .iload_n 2, 1, 0, 0, 0, .null, mm0), (106, .aload_n 1, 1, 0, 0, 0, .null, mm0), (107, .getfield 23, 3, 139, 4, 6, .null, mm0), (110, .iload_n 2, 1, 0, 0, 0, .null, mm0), (111, .iaload, 1, 0, 0, 0, .null, mm0), (112, .iastore, 1, 0, 0, 0, .null, mm0), (113, .aload_n 0, 1, 0, 0, 0, .null, mm0), (114, .getfield 27, 3, 141, 4, 7, .null, mm0), (117, .iload_n 2, 1, 0, 0, 0, .null, mm0), (118, .aload_n 1, 1, 0, 0, 0, .null, mm0), (119, .getfield 27, 3, 141, 4, 7, .null, mm0), (122, .iload_n 2, 1, 0, 0, 0, .null, mm0), (123, .baload, 1, 0, 0, 0, .null, mm0), (124, .bastore, 1, 0, 0, 0, .null, mm0), (125, .iinc 2 1, 3, 0, 0, 0, .int (1 : Int32), mm0), (128, .goto (-35), 3, 0, 93, 0, .null, mm0)]
def S_X4_copyFrom_131 : List mmMI := [(131, .iconst 0, 1, 0, 0, 0, .int (0 : Int32), mm0), (132, .istore_n 2, 1, 0, 0, 0, .null, mm0)]
def S_X4_copyFrom_133 : List mmMI := [(133, .iload_n 2, 1, 0, 0, 0, .null, mm0), (134, .aload_n 0, 1, 0, 0, 0, .null, mm0), (135, .getfield 57, 3, 133, 4, 3, .null, mm0), (138, .if_icmp .ge 24, 3, 0, 162, 0, .null, mm0)]
def S_X4_copyFrom_141 : List mmMI := [(141, .aload_n 0, 1, 0, 0, 0, .null, mm0), (142, .getfield 33, 3, 143, 4, 8, .null, mm0), (145, .iload_n 2, 1, 0, 0, 0, .null, mm0), (146, .aaload, 1, 0, 16, 0, .null, mm0), (147, .aload_n 1, 1, 0, 0, 0, .null, mm0), (148, .getfield 33, 3, 143, 4, 8, .null, mm0), (151, .iload_n 2, 1, 0, 0, 0, .null, mm0), (152, .aaload, 1, 0, 16, 0, .null, mm0), (153, .invokevirtual 67, 3, 480, 1, 2, .null, M_X2_copyFrom), (156, .iinc 2 1, 3, 0, 0, 0, .int (1 : Int32), mm0), (159, .goto (-26), 3, 0, 133, 0, .null, mm0)]
def S_X4_copyFrom_162 : List mmMI := [(162, .return_, 1, 0, 0, 0, .null, mm0)]
def BL_X4_copyFrom : mmBl := [(0, S_X4_copyFrom_0, 34), (42, S_X4_copyFrom_42, 63), (63, S_X4_copyFrom_63, 65), (70, S_X4_copyFrom_70, 91), (91, S_X4_copyFrom_91, 93), (101, S_X4_copyFrom_101, 131), (131, S_X4_copyFrom_131, 133), (141, S_X4_copyFrom_141, 162), (162, S_X4_copyFrom_162, 163)]
theorem OB_X4_copyFrom : mmOkB M_X4_copyFrom BL_X4_copyFrom = true := by decide +kernel
theorem OH_X4_copyFrom_0 : mmOkB M_X4_copyFrom [(0, S_X4_copyFrom_0, 34)] = true := by decide +kernel
theorem s0_X4_copyFrom_0 {d : Nat} {P : Option Value → mmMem → Prop} {μ : mmMem} {a0 : Nat} {a1 : Nat} (h : (mmKD a1 = 4) ∧ ((mmKD a0 = 4) ∧ ((mmKD a1 = 4) ∧ ((mmKD a0 = 4) ∧ ((mmKD a1 = 4) ∧ ((mmKD a0 = 4) ∧ ((mmKD a1 = 4) ∧ ((mmKD a0 = 4) ∧ (mmEnds d M_X4_copyFrom 34 [.ref a0, .ref a1, .int (0 : Int32)] [] (sI (sI (sI (sI μ a0 0 (μ.1 a1 0)) a0 1 ((sI μ a0 0 (μ.1 a1 0)).1 a1 1)) a0 2 ((sI (sI μ a0 0 (μ.1 a1 0)) a0 1 ((sI μ a0 0 (μ.1 a1 0)).1 a1 1)).1 a1 2)) a0 3 ((sI (sI (sI μ a0 0 (μ.1 a1 0)) a0 1 ((sI μ a0 0 (μ.1 a1 0)).1 a1 1)) a0 2 ((sI (sI μ a0 0 (μ.1 a1 0)) a0 1 ((sI μ a0 0 (μ.1 a1 0)).1 a1 1)).1 a1 2)).1 a1 3)) P))))))))) : mmEnds d M_X4_copyFrom 0 [.ref a0, .ref a1, .retAddr 7] [] μ P := mm_tree 10 OB_X4_copyFrom OH_X4_copyFrom_0 h
theorem s_X4_copyFrom_0 {d : Nat} {P : Option Value → mmMem → Prop} {μ : mmMem} {a0 : Nat} {a1 : Nat} (hd : 0 ≤ d) (k0 : mmKD a0 = 4) (k1 : mmKD a1 = 4) (h : mmEnds d M_X4_copyFrom 34 [.ref a0, .ref a1, .int (0 : Int32)] [] (sI (sI (sI (sI μ a0 0 (μ.1 a1 0)) a0 1 ((sI μ a0 0 (μ.1 a1 0)).1 a1 1)) a0 2 ((sI (sI μ a0 0 (μ.1 a1 0)) a0 1 ((sI μ a0 0 (μ.1 a1 0)).1 a1 1)).1 a1 2)) a0 3 ((sI (sI (sI μ a0 0 (μ.1 a1 0)) a0 1 ((sI μ a0 0 (μ.1 a1 0)).1 a1 1)) a0 2 ((sI (sI μ a0 0 (μ.1 a1 0)) a0 1 ((sI μ a0 0 (μ.1 a1 0)).1 a1 1)).1 a1 2)).1 a1 3)) P) : mmEnds d M_X4_copyFrom 0 [.ref a0, .ref a1, .retAddr 7] [] μ P := s0_X4_copyFrom_0 (⟨k1, ⟨k0, ⟨k1, ⟨k0, ⟨k1, ⟨k0, ⟨k1, ⟨k0, h⟩⟩⟩⟩⟩⟩⟩⟩)
theorem OH_X4_copyFrom_34 : mmOkB M_X4_copyFrom [(34, S_X4_copyFrom_34, 42)] = true := by decide +kernel
theorem s0_X4_copyFrom_34 {d : Nat} {P : Option Value → mmMem → Prop} {μ : mmMem} {a0 : Nat} {a1 : Nat} {x2 : Int32} (h : (mmKD a0 = 4) ∧ (((μ.1 a0 1) ≤ x2 → mmEnds d M_X4_copyFrom 65 [.ref a0, .ref a1, .int (0 : Int32)] [] μ P) ∧ (¬ (μ.1 a0 1) ≤ x2 → (mmKD a0 = 4) ∧ ((mmKD (a0 + 1) = 14) ∧ ((vp_in x2 (mmLEN (a0 + 1))) ∧ ((mmKD a1 = 4) ∧ ((mmKD (a1 + 1) = 14) ∧ ((vp_in x2 (mmLEN (a1 + 1))) ∧ ((mmKD (((a0 + 1) + 5) + 4 * x2.toNatClampNeg) = 1) ∧ (mmC0 d M_X1_copyFrom false 1 [.ref (((a0 + 1) + 5) + 4 * x2.toNatClampNeg), .ref (((a1 + 1) + 5) + 4 * x2.toNatClampNeg)] μ fun ν1 => mmEnds d M_X4_copyFrom 34 [.ref a0, .ref a1, .int (x2 + (1 : Int32))] [] ν1 P)))))))))) : mmEnds d M_X4_copyFrom 34 [.ref a0, .ref a1, .int x2] [] μ P := mm_tree 10 OB_X4_copyFrom OH_X4_copyFrom_34 h
theorem s_X4_copyFrom_34 {d : Nat} {P : Option Value → mmMem → Prop} {μ : mmMem} {a0 : Nat} {a1 : Nat} {x2 : Int32} (hd : 0 ≤ d) (k0 : mmKD a0 = 4) (k1 : mmKD a1 = 4) (h : ((μ.1 a0 1) ≤ x2 → mmEnds d M_X4_copyFrom 65 [.ref a0, .ref a1, .int (0 : Int32)] [] μ P) ∧ (¬ (μ.1 a0 1) ≤ x2 → (vp_in x2 12) ∧ (mmC0 d M_X1_copyFrom false 1 [.ref (((a0 + 1) + 5) + 4 * x2.toNatClampNeg), .ref (((a1 + 1) + 5) + 4 * x2.toNatClampNeg)] μ fun ν7 => mmEnds d M_X4_copyFrom 34 [.ref a0, .ref a1, .int (x2 + (1 : Int32))] [] ν7 P))) : mmEnds d M_X4_copyFrom 34 [.ref a0, .ref a1, .int x2] [] μ P := s0_X4_copyFrom_34 (⟨k0, ⟨fun q1 => (have h3 := (h).1 q1; h3), fun q2 => (have h4 := (h).2 q2; ⟨k0, ⟨(kf_4_4 k0), (have o5 := (h4).1; have h6 := (h4).2; ⟨vp_l (lf_4_4 k0) o5, ⟨k1, ⟨(kf_4_4 k1), ⟨(vp_l (lf_4_4 k1) o5), ⟨(ke_14 (kf_4_4 k0) (vp_l (lf_4_4 k0) o5)), (mmC0.mono (h6) (fun ν7 h8 => h8))⟩⟩⟩⟩⟩)⟩⟩)⟩⟩)
theorem OH_X4_copyFrom_65 : mmOkB M_X4_copyFrom [(65, S_X4_copyFrom_65, 70)] = true := by decide +kernel
theorem s0_X4_copyFrom_65 {d : Nat} {P : Option Value → mmMem → Prop} {μ : mmMem} {a0 : Nat} {a1 : Nat} {x2 : Int32} (h : ((2 : Int32) ≤ x2 → mmEnds d M_X4_copyFrom 93 [.ref a0, .ref a1, .int (0 : Int32)] [] μ P) ∧ (¬ (2 : Int32) ≤ x2 → (mmKD a0 = 4) ∧ ((mmKD (a0 + 2) = 15) ∧ ((vp_in x2 (mmLEN (a0 + 2))) ∧ ((mmKD a1 = 4) ∧ ((mmKD (a1 + 2) = 15) ∧ ((vp_in x2 (mmLEN (a1 + 2))) ∧ ((mmKD (((a0 + 2) + 52) + 2 * x2.toNatClampNeg) = 6) ∧ (mmC0 d M_X6_copyFrom false 1 [.ref (((a0 + 2) + 52) + 2 * x2.toNatClampNeg), .ref (((a1 + 2) + 52) + 2 * x2.toNatClampNeg)] μ fun ν1 => mmEnds d M_X4_copyFrom 65 [.ref a0, .ref a1, .int (x2 + (1 : Int32))] [] ν1 P))))))))) : mmEnds d M_X4_copyFrom 65 [.ref a0, .ref a1, .int x2] [] μ P := mm_tree 10 OB_X4_copyFrom OH_X4_copyFrom_65 h
theorem s_X4_copyFrom_65 {d : Nat} {P : Option Value → mmMem → Prop} {μ : mmMem} {a0 : Nat} {a1 : Nat} {x2 : Int32} (hd : 0 ≤ d) (k0 : mmKD a0 = 4) (k1 : mmKD a1 = 4) (h : ((2 : Int32) ≤ x2 → mmEnds d M_X4_copyFrom 93 [.ref a0, .ref a1, .int (0 : Int32)] [] μ P) ∧ (¬ (2 : Int32) ≤ x2 → (vp_in x2 2) ∧ (mmC0 d M_X6_copyFrom false 1 [.ref (((a0 + 2) + 52) + 2 * x2.toNatClampNeg), .ref (((a1 + 2) + 52) + 2 * x2.toNatClampNeg)] μ fun ν7 => mmEnds d M_X4_copyFrom 65 [.ref a0, .ref a1, .int (x2 + (1 : Int32))] [] ν7 P))) : mmEnds d M_X4_copyFrom 65 [.ref a0, .ref a1, .int x2] [] μ P := s0_X4_copyFrom_65 (⟨fun q1 => (have h3 := (h).1 q1; h3), fun q2 => (have h4 := (h).2 q2; ⟨k0, ⟨(kf_4_5 k0), (have o5 := (h4).1; have h6 := (h4).2; ⟨vp_l (lf_4_5 k0) o5, ⟨k1, ⟨(kf_4_5 k1), ⟨(vp_l (lf_4_5 k1) o5), ⟨(ke_15 (kf_4_5 k0) (vp_l (lf_4_5 k0) o5)), (mmC0.mono (h6) (fun ν7 h8 => h8))⟩⟩⟩⟩⟩)⟩⟩)⟩)
theorem OH_X4_copyFrom_93 : mmOkB M_X4_copyFrom [(93, S_X4_copyFrom_93, 101)] = true := by decide +kernel
set_option maxRecDepth 10000 in
theorem s0_X4_copyFrom_93 {d : Nat} {P : Option Value → mmMem → Prop} {μ : mmMem} {a0 : Nat} {a1 : Nat} {x2 : Int32} (h : (mmKD a0 = 4) ∧ (((μ.1 a0 2) ≤ x2 → mmEnds d M_X4_copyFrom 133 [.ref a0, .ref a1, .int (0 : Int32)] [] μ P) ∧ (¬ (μ.1 a0 2) ≤ x2 → (mmKD a0 = 4) ∧ ((mmKD a1 = 4) ∧ ((mmKD (a1 + 3) = 10) ∧ ((vp_in x2 (mmLEN (a1 + 3))) ∧ ((mmKD (a0 + 3) = 10) ∧ ((vp_in x2 (mmLEN (a0 + 3))) ∧ ((mmKD a0 = 4) ∧ ((mmKD a1 = 4) ∧ ((mmKD (a1 + 4) = 13) ∧ ((vp_in x2 (mmLEN (a1 + 4))) ∧ ((mmKD (a0 + 4) = 13) ∧ ((vp_in x2 (mmLEN (a0 + 4))) ∧ (mmEnds d M_X4_copyFrom 93 [.ref a0, .ref a1, .int (x2 + (1 : Int32))] [] (sI (sI μ (a0 + 3) x2.toNatClampNeg (μ.1 (a1 + 3) x2.toNatClampNeg)) (a0 + 4) x2.toNatClampNeg (vp_nar .boolean ((sI μ (a0 + 3) x2.toNatClampNeg (μ.1 (a1 + 3) x2.toNatClampNeg)).1 (a1 + 4) x2.toNatClampNeg))) P))))))))))))))) : mmEnds d M_X4_copyFrom 93 [.ref a0, .ref a1, .int x2] [] μ P := mm_tree 10 OB_X4_copyFrom OH_X4_copyFrom_93 h
theorem s_X4_copyFrom_93 {d : Nat} {P : Option Value → mmMem → Prop} {μ : mmMem} {a0 : Nat} {a1 : Nat} {x2 : Int32} (hd : 0 ≤ d) (k0 : mmKD a0 = 4) (k1 : mmKD a1 = 4) (h : ((μ.1 a0 2) ≤ x2 → mmEnds d M_X4_copyFrom 133 [.ref a0, .ref a1, .int (0 : Int32)] [] μ P) ∧ (¬ (μ.1 a0 2) ≤ x2 → (vp_in x2 4) ∧ (mmEnds d M_X4_copyFrom 93 [.ref a0, .ref a1, .int (x2 + (1 : Int32))] [] (sI (sI μ (a0 + 3) x2.toNatClampNeg (μ.1 (a1 + 3) x2.toNatClampNeg)) (a0 + 4) x2.toNatClampNeg (vp_nar .boolean ((sI μ (a0 + 3) x2.toNatClampNeg (μ.1 (a1 + 3) x2.toNatClampNeg)).1 (a1 + 4) x2.toNatClampNeg))) P))) : mmEnds d M_X4_copyFrom 93 [.ref a0, .ref a1, .int x2] [] μ P := s0_X4_copyFrom_93 (⟨k0, ⟨fun q1 => (have h3 := (h).1 q1; h3), fun q2 => (have h4 := (h).2 q2; ⟨k0, ⟨k1, ⟨(kf_4_6 k1), (have o5 := (h4).1; have h6 := (h4).2; ⟨vp_l (lf_4_6 k1) o5, ⟨(kf_4_6 k0), ⟨(vp_l (lf_4_6 k0) o5), ⟨k0, ⟨k1, ⟨(kf_4_7 k1), ⟨(vp_l (lf_4_7 k1) o5), ⟨(kf_4_7 k0), ⟨(vp_l (lf_4_7 k0) o5), h6⟩⟩⟩⟩⟩⟩⟩⟩⟩)⟩⟩⟩)⟩⟩)
theorem OH_X4_copyFrom_133 : mmOkB M_X4_copyFrom [(133, S_X4_copyFrom_133, 141)] = true := by decide +kernel
theorem s0_X4_copyFrom_133 {d : Nat} {P : Option Value → mmMem → Prop} {μ : mmMem} {a0 : Nat} {a1 : Nat} {x2 : Int32} (h : (mmKD a0 = 4) ∧ (((μ.1 a0 3) ≤ x2 → P none μ) ∧ (¬ (μ.1 a0 3) ≤ x2 → (mmKD a0 = 4) ∧ ((mmKD (a0 + 5) = 16) ∧ ((vp_in x2 (mmLEN (a0 + 5))) ∧ ((mmKD a1 = 4) ∧ ((mmKD (a1 + 5) = 16) ∧ ((vp_in x2 (mmLEN (a1 + 5))) ∧ ((mmKD (((a0 + 5) + 53) + 2 * x2.toNatClampNeg) = 2) ∧ (mmC0 d M_X2_copyFrom false 1 [.ref (((a0 + 5) + 53) + 2 * x2.toNatClampNeg), .ref (((a1 + 5) + 53) + 2 * x2.toNatClampNeg)] μ fun ν1 => mmEnds d M_X4_copyFrom 133 [.ref a0, .ref a1, .int (x2 + (1 : Int32))] [] ν1 P)))))))))) : mmEnds d M_X4_copyFrom 133 [.ref a0, .ref a1, .int x2] [] μ P := mm_tree 10 OB_X4_copyFrom OH_X4_copyFrom_133 h
theorem s_X4_copyFrom_133 {d : Nat} {P : Option Value → mmMem → Prop} {μ : mmMem} {a0 : Nat} {a1 : Nat} {x2 : Int32} (hd : 0 ≤ d) (k0 : mmKD a0 = 4) (k1 : mmKD a1 = 4) (h : ((μ.1 a0 3) ≤ x2 → P none μ) ∧ (¬ (μ.1 a0 3) ≤ x2 → (vp_in x2 6) ∧ (mmC0 d M_X2_copyFrom false 1 [.ref (((a0 + 5) + 53) + 2 * x2.toNatClampNeg), .ref (((a1 + 5) + 53) + 2 * x2.toNatClampNeg)] μ fun ν7 => mmEnds d M_X4_copyFrom 133 [.ref a0, .ref a1, .int (x2 + (1 : Int32))] [] ν7 P))) : mmEnds d M_X4_copyFrom 133 [.ref a0, .ref a1, .int x2] [] μ P := s0_X4_copyFrom_133 (⟨k0, ⟨fun q1 => (have h3 := (h).1 q1; h3), fun q2 => (have h4 := (h).2 q2; ⟨k0, ⟨(kf_4_8 k0), (have o5 := (h4).1; have h6 := (h4).2; ⟨vp_l (lf_4_8 k0) o5, ⟨k1, ⟨(kf_4_8 k1), ⟨(vp_l (lf_4_8 k1) o5), ⟨(ke_16 (kf_4_8 k0) (vp_l (lf_4_8 k0) o5)), (mmC0.mono (h6) (fun ν7 h8 => h8))⟩⟩⟩⟩⟩)⟩⟩)⟩⟩)
theorem u_X4_copyFrom {d : Nat} {K : mmMem → Prop} {μ : mmMem} {a0 : Nat} {a1 : Nat} (hd : 1 ≤ d) (k0 : mmKD a0 = 4) (k1 : mmKD a1 = 4) (h : mmEnds (d - 1) M_X4_copyFrom 34 [.ref a0, .ref a1, .int (0 : Int32)] [] (sI (sI (sI (sI μ a0 0 (μ.1 a1 0)) a0 1 ((sI μ a0 0 (μ.1 a1 0)).1 a1 1)) a0 2 ((sI (sI μ a0 0 (μ.1 a1 0)) a0 1 ((sI μ a0 0 (μ.1 a1 0)).1 a1 1)).1 a1 2)) a0 3 ((sI (sI (sI μ a0 0 (μ.1 a1 0)) a0 1 ((sI μ a0 0 (μ.1 a1 0)).1 a1 1)) a0 2 ((sI (sI μ a0 0 (μ.1 a1 0)) a0 1 ((sI μ a0 0 (μ.1 a1 0)).1 a1 1)).1 a1 2)).1 a1 3)) (mmP0 K)) : mmC0 d M_X4_copyFrom false 1 [.ref a0, .ref a1] μ K :=
  mmCU.of (d' := d - 1) g_X4_copyFrom (by decide +kernel) rfl rfl (by omega) (s_X4_copyFrom_0 (d := d - 1) (by omega) k0 k1 h)
theorem g_X0_setEmpty : mmGd M_X0_setEmpty false 0 := ⟨mm_in 841 (by decide +kernel) rfl, mm_in 15 (by decide +kernel) rfl, by decide +kernel, by decide, ⟨mm_in 839 (by decide +kernel) rfl, mm_in 840 (by decide +kernel) rfl⟩⟩
def S_X0_setEmpty_0 : List mmMI := [(0, .aload_n 0, 1, 0, 0, 0, .null, mm0), (1, .iconst (-1), 1, 0, 0, 0, .int (-1 : Int32), mm0), (2, .putfield 9, 3, 103, 0, 0, .null, mm0), (5, .aload_n 0, 1, 0, 0, 0, .null, mm0), (6, .lconst 0, 1, 0, 0, 0, .long (0 : Int64), mm0), (7, .putfield 15, 3, 106, 0, 1, .null, mm0), (10, .aload_n 0, 1, 0, 0, 0, .null, mm0), (11, .dconst 0, 1, 0, 0, 0, .double FP.dconst0, mm0), (12, .putfield 19, 3, 108, 0, 2, .null, mm0), (15, .return_, 1, 0, 0, 0, .null, mm0)]
def BL_X0_setEmpty : mmBl := [(0, S_X0_setEmpty_0, 16)]
theorem OB_X0_setEmpty : mmOkB M_X0_setEmpty BL_X0_setEmpty = true := by decide +kernel
theorem OH_X0_setEmpty_0 : mmOkB M_X0_setEmpty [(0, S_X0_setEmpty_0, 16)] = true := by decide +kernel
theorem s0_X0_setEmpty_0 {d : Nat} {P : Option Value → mmMem → Prop} {μ : mmMem} {a0 : Nat} (h : (mmKD a0 = 0) ∧ ((mmKD a0 = 0) ∧ ((mmKD a0 = 0) ∧ (P none (sD (sJ (sI μ a0 0 (-1 : Int32)) a0 1 (0 : Int64)) a0 2 FP.dconst0))))) : mmEnds d M_X0_setEmpty 0 [.ref a0] [] μ P := mm_tree 2 OB_X0_setEmpty OH_X0_setEmpty_0 h
theorem s_X0_setEmpty_0 {d : Nat} {P : Option Value → mmMem → Prop} {μ : mmMem} {a0 : Nat} (hd : 0 ≤ d) (k0 : mmKD a0 = 0) (h : P none (sD (sJ (sI μ a0 0 (-1 : Int32)) a0 1 (0 : Int64)) a0 2 FP.dconst0)) : mmEnds d M_X0_setEmpty 0 [.ref a0] [] μ P := s0_X0_setEmpty_0 (⟨k0, ⟨k0, ⟨k0, h⟩⟩⟩)
theorem u_X0_setEmpty {d : Nat} {K : mmMem → Prop} {μ : mmMem} {a0 : Nat} (hd : 1 ≤ d) (k0 : mmKD a0 = 0) (h : K (sD (sJ (sI μ a0 0 (-1 : Int32)) a0 1 (0 : Int64)) a0 2 FP.dconst0)) : mmC0 d M_X0_setEmpty false 0 [.ref a0] μ K :=
  mmCU.of (d' := d - 1) g_X0_setEmpty (by decide +kernel) rfl rfl (by omega) (s_X0_setEmpty_0 (d := d - 1) (by omega) k0 h)
theorem g_X0_make : mmGd M_X0_make false 2 := ⟨mm_in 868 (by decide +kernel) rfl, mm_in 15 (by decide +kernel) rfl, by decide +kernel, by decide, ⟨mm_in 866 (by decide +kernel) rfl, mm_in 867 (by decide +kernel) rfl⟩⟩
def S_X0_make_0 : List mmMI := [(0, .iload_n 1, 1, 0, 0, 0, .null, mm0), (1, .lookupswitch 76 #[(0, 35), (6, 46), (7, 61)], 35, 0, 0, 0, .null, mm0)]
def S_X0_make_36 : List mmMI := [(36, .aload_n 0, 1, 0, 0, 0, .null, mm0), (37, .iconst 0, 1, 0, 0, 0, .int (0 : Int32), mm0), (38, .lload_n 2, 1, 0, 0, 0, .null, mm0), (39, .lconst 1, 1, 0, 0, 0, .long (1 : Int64), mm0), (40, .land, 1, 0, 0, 0, .null, mm0), (41, .invokevirtual 23, 3, 431, 2, 0, .null, M_X0_setWhole), (44, .goto 43, 3, 0, 87, 0, .null, mm0)]
def S_X0_make_47 : List mmMI := [(47, .aload_n 0, 1, 0, 0, 0, .null, mm0), (48, .bipush 6, 2, 0, 0, 0, .int (6 : Int32), mm0), (50, .lload_n 2, 1, 0, 0, 0, .null, mm0), (51, .l2f, 1, 0, 0, 0, .null, mm0), (52, .ldc 27, 2, 869, 0, 0, .float (1082130432 : UInt32), mm0), (54, .fdiv, 1, 0, 0, 0, .null, mm0), (55, .f2d, 1, 0, 0, 0, .null, mm0), (56, .invokevirtual 28, 3, 435, 2, 0, .null, M_X0_setReal), (59, .goto 28, 3, 0, 87, 0, .null, mm0)]
def S_X0_make_62 : List mmMI := [(62, .aload_n 0, 1, 0, 0, 0, .null, mm0), (63, .bipush 7, 2, 0, 0, 0, .int (7 : Int32), mm0), (65, .lload_n 2, 1, 0, 0, 0, .null, mm0), (66, .l2d, 1, 0, 0, 0, .null, mm0), (67, .ldc2_w 32, 3, 870, 0, 0, .double (4616189618054758400 : UInt64), mm0), (70, .ddiv, 1, 0, 0, 0, .null, mm0), (71, .invokevirtual 28, 3, 435, 2, 0, .null, M_X0_setReal), (74, .goto 13, 3, 0, 87, 0, .null, mm0)]
def S_X0_make_77 : List mmMI := [(77, .aload_n 0, 1, 0, 0, 0, .null, mm0), (78, .iload_n 1, 1, 0, 0, 0, .null, mm0), (79, .iload_n 1, 1, 0, 0, 0, .null, mm0), (80, .lload_n 2, 1, 0, 0, 0, .null, mm0), (81, .invokestatic 34, 3, 439, 2, 0, .null, M_X0_lowestBits), (84, .invokevirtual 23, 3, 431, 2, 0, .null, M_X0_setWhole)]
def S_X0_make_87 : List mmMI := [(87, .return_, 1, 0, 0, 0, .null, mm0)]
def BL_X0_make : mmBl := [(0, S_X0_make_0, 36), (36, S_X0_make_36, 47), (47, S_X0_make_47, 62), (62, S_X0_make_62, 77), (77, S_X0_make_77, 87), (87, S_X0_make_87, 88)]
theorem OB_X0_make : mmOkB M_X0_make BL_X0_make = true := by decide +kernel
theorem OH_X0_make_0 : mmOkB M_X0_make [(0, S_X0_make_0, 36)] = true := by decide +kernel
set_option maxRecDepth 10000 in
theorem s0_X0_make_0 {d : Nat} {P : Option Value → mmMem → Prop} {μ : mmMem} {a0 : Nat} {x1 : Int32} {x2 : Int64} (h : (x1.toInt = 0 → (mmKD a0 = 0) ∧ (mmC0 d M_X0_setWhole false 2 [.ref a0, .int (0 : Int32), .long (x2 &&& (1 : Int64))] μ fun ν1 => P none ν1)) ∧ (¬ x1.toInt = 0 → (x1.toInt = 6 → (vf_n32 (FP.fdiv (FP.l2f x2) (1082130432 : UInt32))) ∧ ((vf_n64 (FP.f2d (FP.fdiv (FP.l2f x2) (1082130432 : UInt32)))) ∧ ((mmKD a0 = 0) ∧ (mmC0 d M_X0_setReal false 2 [.ref a0, .int (6 : Int32), .double (FP.f2d (FP.fdiv (FP.l2f x2) (1082130432 : UInt32)))] μ fun ν2 => P none ν2)))) ∧ (¬ x1.toInt = 6 → (x1.toInt = 7 → (vf_n64 (FP.ddiv (FP.l2d x2) (4616189618054758400 : UInt64))) ∧ ((mmKD a0 = 0) ∧ (mmC0 d M_X0_setReal false 2 [.ref a0, .int (7 : Int32), .double (FP.ddiv (FP.l2d x2) (4616189618054758400 : UInt64))] μ fun ν3 => P none ν3))) ∧ (¬ x1.toInt = 7 → mmCJ d M_X0_lowestBits true 2 [.int x1, .long x2] μ fun y4 ν4 => (mmKD a0 = 0) ∧ (mmC0 d M_X0_setWhole false 2 [.ref a0, .int x1, .long y4] ν4 fun ν5 => P none ν5))))) : mmEnds d M_X0_make 0 [.ref a0, .int x1, .long x2, .retAddr 7] [] μ P := mm_tree 7 OB_X0_make OH_X0_make_0 h
set_option maxRecDepth 10000 in
theorem s_X0_make_0 {d : Nat} {P : Option Value → mmMem → Prop} {μ : mmMem} {a0 : Nat} {x1 : Int32} {x2 : Int64} (hd : 1 ≤ d) (k0 : mmKD a0 = 0) (h : (x1.toInt = 0 → P none (sD (sJ (sI μ a0 0 (0 : Int32)) a0 1 (x2 &&& (1 : Int64))) a0 2 FP.dconst0)) ∧ (¬ x1.toInt = 0 → (x1.toInt = 6 → (vf_n32 (FP.fdiv (FP.l2f x2) (1082130432 : UInt32))) ∧ ((vf_n64 (FP.f2d (FP.fdiv (FP.l2f x2) (1082130432 : UInt32)))) ∧ (P none (sD (sJ (sI μ a0 0 (6 : Int32)) a0 1 (0 : Int64)) a0 2 (FP.f2d (FP.fdiv (FP.l2f x2) (1082130432 : UInt32))))))) ∧ (¬ x1.toInt = 6 → (x1.toInt = 7 → (vf_n64 (FP.ddiv (FP.l2d x2) (4616189618054758400 : UInt64))) ∧ (P none (sD (sJ (sI μ a0 0 (7 : Int32)) a0 1 (0 : Int64)) a0 2 (FP.ddiv (FP.l2d x2) (4616189618054758400 : UInt64))))) ∧ (¬ x1.toInt = 7 → mmCJ d M_X0_lowestBits true 2 [.int x1, .long x2] μ fun y10 ν9 => (¬ x1 = (0 : Int32) → P none (sD (sJ (sI ν9 a0 0 x1) a0 1 y10) a0 2 (FP.l2d y10))) ∧ (x1 = (0 : Int32) → P none (sD (sJ (sI ν9 a0 0 x1) a0 1 y10) a0 2 FP.dconst0)))))) : mmEnds d M_X0_make 0 [.ref a0, .int x1, .long x2, .retAddr 7] [] μ P := s0_X0_make_0 (⟨fun q1 => (have h16 := (h).1 q1; ⟨k0, (u_X0_setWhole (by omega) k0 (⟨fun q2 => absurd (by decide : (0 : Int32) = (0 : Int32)) q2, fun _ => h16⟩))⟩), fun q1 => (have h17 := (h).2 q1; ⟨fun q1 => (have h18 := (h17).1 q1; (have o3 := (h18).1; have h4 := (h18).2; ⟨o3, (have o5 := (h4).1; have h6 := (h4).2; ⟨o5, ⟨k0, (u_X0_setReal (by omega) k0 h6)⟩⟩)⟩)), fun q1 => (have h19 := (h17).2 q1; ⟨fun q1 => (have h20 := (h19).1 q1; (have o7 := (h20).1; have h8 := (h20).2; ⟨o7, ⟨k0, (u_X0_setReal (by omega) k0 h8)⟩⟩)), fun q1 => (have h21 := (h19).2 q1; (mmCJ.mono (h21) (fun y10 ν9 h15 => ⟨k0, (u_X0_setWhole (by omega) k0 (⟨fun q11 => (have h13 := (h15).1 q11; h13), fun q12 => (have h14 := (h15).2 q12; h14)⟩))⟩)))⟩)⟩)⟩)
set_option maxRecDepth 10000 in
theorem u_X0_make {d : Nat} {K : mmMem → Prop} {μ : mmMem} {a0 : Nat} {x1 : Int32} {x2 : Int64} (hd : 2 ≤ d) (k0 : mmKD a0 = 0) (h : (x1.toInt = 0 → K (sD (sJ (sI μ a0 0 (0 : Int32)) a0 1 (x2 &&& (1 : Int64))) a0 2 FP.dconst0)) ∧ (¬ x1.toInt = 0 → (x1.toInt = 6 → (vf_n32 (FP.fdiv (FP.l2f x2) (1082130432 : UInt32))) ∧ ((vf_n64 (FP.f2d (FP.fdiv (FP.l2f x2) (1082130432 : UInt32)))) ∧ (K (sD (sJ (sI μ a0 0 (6 : Int32)) a0 1 (0 : Int64)) a0 2 (FP.f2d (FP.fdiv (FP.l2f x2) (1082130432 : UInt32))))))) ∧ (¬ x1.toInt = 6 → (x1.toInt = 7 → (vf_n64 (FP.ddiv (FP.l2d x2) (4616189618054758400 : UInt64))) ∧ (K (sD (sJ (sI μ a0 0 (7 : Int32)) a0 1 (0 : Int64)) a0 2 (FP.ddiv (FP.l2d x2) (4616189618054758400 : UInt64))))) ∧ (¬ x1.toInt = 7 → mmCJ (d - 1) M_X0_lowestBits true 2 [.int x1, .long x2] μ fun y10 ν9 => (¬ x1 = (0 : Int32) → K (sD (sJ (sI ν9 a0 0 x1) a0 1 y10) a0 2 (FP.l2d y10))) ∧ (x1 = (0 : Int32) → K (sD (sJ (sI ν9 a0 0 x1) a0 1 y10) a0 2 FP.dconst0)))))) : mmC0 d M_X0_make false 2 [.ref a0, .int x1, .long x2] μ K :=
  mmCU.of (d' := d - 1) g_X0_make (by decide +kernel) rfl rfl (by omega) (s_X0_make_0 (d := d - 1) (by omega) k0 h)
theorem g_X0_setWord : mmGd M_X0_setWord false 1 := ⟨mm_in 854 (by decide +kernel) rfl, mm_in 15 (by decide +kernel) rfl, by decide +kernel, by decide, ⟨mm_in 852 (by decide +kernel) rfl, mm_in 853 (by decide +kernel) rfl⟩⟩
def S_X0_setWord_0 : List mmMI := [(0, .aload_n 0, 1, 0, 0, 0, .null, mm0), (1, .bipush 10, 2, 0, 0, 0, .int (10 : Int32), mm0), (3, .putfield 9, 3, 103, 0, 0, .null, mm0), (6, .aload_n 0, 1, 0, 0, 0, .null, mm0), (7, .lload_n 1, 1, 0, 0, 0, .null, mm0), (8, .putfield 15, 3, 106, 0, 1, .null, mm0), (11, .aload_n 0, 1, 0, 0, 0, .null, mm0), (12, .dconst 0, 1, 0, 0, 0, .double FP.dconst0, mm0), (13, .putfield 19, 3, 108, 0, 2, .null, mm0), (16, .return_, 1, 0, 0, 0, .null, mm0)]
def BL_X0_setWord : mmBl := [(0, S_X0_setWord_0, 17)]
theorem OB_X0_setWord : mmOkB M_X0_setWord BL_X0_setWord = true := by decide +kernel
theorem OH_X0_setWord_0 : mmOkB M_X0_setWord [(0, S_X0_setWord_0, 17)] = true := by decide +kernel
theorem s0_X0_setWord_0 {d : Nat} {P : Option Value → mmMem → Prop} {μ : mmMem} {a0 : Nat} {x1 : Int64} (h : (mmKD a0 = 0) ∧ ((mmKD a0 = 0) ∧ ((mmKD a0 = 0) ∧ (P none (sD (sJ (sI μ a0 0 (10 : Int32)) a0 1 x1) a0 2 FP.dconst0))))) : mmEnds d M_X0_setWord 0 [.ref a0, .long x1, .retAddr 7] [] μ P := mm_tree 2 OB_X0_setWord OH_X0_setWord_0 h
theorem s_X0_setWord_0 {d : Nat} {P : Option Value → mmMem → Prop} {μ : mmMem} {a0 : Nat} {x1 : Int64} (hd : 0 ≤ d) (k0 : mmKD a0 = 0) (h : P none (sD (sJ (sI μ a0 0 (10 : Int32)) a0 1 x1) a0 2 FP.dconst0)) : mmEnds d M_X0_setWord 0 [.ref a0, .long x1, .retAddr 7] [] μ P := s0_X0_setWord_0 (⟨k0, ⟨k0, ⟨k0, h⟩⟩⟩)
theorem u_X0_setWord {d : Nat} {K : mmMem → Prop} {μ : mmMem} {a0 : Nat} {x1 : Int64} (hd : 1 ≤ d) (k0 : mmKD a0 = 0) (h : K (sD (sJ (sI μ a0 0 (10 : Int32)) a0 1 x1) a0 2 FP.dconst0)) : mmC0 d M_X0_setWord false 1 [.ref a0, .long x1] μ K :=
  mmCU.of (d' := d - 1) g_X0_setWord (by decide +kernel) rfl rfl (by omega) (s_X0_setWord_0 (d := d - 1) (by omega) k0 h)
theorem g_X0_realBits : mmGd M_X0_realBits false 3 := ⟨mm_in 894 (by decide +kernel) rfl, mm_in 15 (by decide +kernel) rfl, by decide +kernel, by decide, ⟨mm_in 892 (by decide +kernel) rfl, mm_in 893 (by decide +kernel) rfl⟩⟩
def S_X0_realBits_0 : List mmMI := [(0, .aload_n 0, 1, 0, 0, 0, .null, mm0), (1, .getfield 19, 3, 108, 0, 2, .null, mm0), (4, .dconst 0, 1, 0, 0, 0, .double FP.dconst0, mm0), (5, .dcmp .l, 1, 0, 0, 0, .null, mm0), (6, .ifCond .ne 5, 3, 0, 11, 0, .null, mm0)]
def S_X0_realBits_9 : List mmMI := [(9, .lconst 0, 1, 0, 0, 0, .long (0 : Int64), mm0), (10, .lreturn, 1, 0, 0, 0, .null, mm0)]
def S_X0_realBits_11 : List mmMI := [(11, .aload_n 0, 1, 0, 0, 0, .null, mm0), (12, .getfield 19, 3, 108, 0, 2, .null, mm0), (15, .dconst 0, 1, 0, 0, 0, .double FP.dconst0, mm0), (16, .dcmp .g, 1, 0, 0, 0, .null, mm0), (17, .ifCond .ge 11, 3, 0, 28, 0, .null, mm0)]
def S_X0_realBits_20 : List mmMI := [(20, .aload_n 0, 1, 0, 0, 0, .null, mm0), (21, .getfield 19, 3, 108, 0, 2, .null, mm0), (24, .dneg, 1, 0, 0, 0, .null, mm0), (25, .goto 7, 3, 0, 32, 0, .null, mm0)]
def S_X0_realBits_28 : List mmMI := [(28, .aload_n 0, 1, 0, 0, 0, .null, mm0), (29, .getfield 19, 3, 108, 0, 2, .null, mm0)]
def S_X0_realBits_32 : List mmMI := [(32, .dstore 4, 2, 0, 0, 0, .null, mm0), (34, .iload_n 2, 1, 0, 0, 0, .null, mm0), (35, .i2l, 1, 0, 0, 0, .null, mm0), (36, .lstore 6, 2, 0, 0, 0, .null, mm0), (38, .iconst 0, 1, 0, 0, 0, .int (0 : Int32), mm0), (39, .istore 8, 2, 0, 0, 0, .null, mm0)]
def S_X0_realBits_41 : List mmMI := [(41, .iload 8, 2, 0, 0, 0, .null, mm0), (43, .sipush 2000, 3, 0, 0, 0, .int (2000 : Int32), mm0), (46, .if_icmp .ge 32, 3, 0, 78, 0, .null, mm0)]
def S_X0_realBits_49 : List mmMI := [(49, .dload 4, 2, 0, 0, 0, .null, mm0), (51, .ldc2_w 48, 3, 895, 0, 0, .double (4611686018427387904 : UInt64), mm0), (54, .dcmp .l, 1, 0, 0, 0, .null, mm0), (55, .ifCond .lt 23, 3, 0, 78, 0, .null, mm0)]
def S_X0_realBits_58 : List mmMI := [(58, .dload 4, 2, 0, 0, 0, .null, mm0), (60, .ldc2_w 48, 3, 895, 0, 0, .double (4611686018427387904 : UInt64), mm0), (63, .ddiv, 1, 0, 0, 0, .null, mm0), (64, .dstore 4, 2, 0, 0, 0, .null, mm0), (66, .lload 6, 2, 0, 0, 0, .null, mm0), (68, .lconst 1, 1, 0, 0, 0, .long (1 : Int64), mm0), (69, .ladd, 1, 0, 0, 0, .null, mm0), (70, .lstore 6, 2, 0, 0, 0, .null, mm0), (72, .iinc 8 1, 3, 0, 0, 0, .int (1 : Int32), mm0), (75, .goto (-34), 3, 0, 41, 0, .null, mm0)]
def S_X0_realBits_78 : List mmMI := [(78, .iconst 0, 1, 0, 0, 0, .int (0 : Int32), mm0), (79, .istore 8, 2, 0, 0, 0, .null, mm0)]
def S_X0_realBits_81 : List mmMI := [(81, .iload 8, 2, 0, 0, 0, .null, mm0), (83, .sipush 2000, 3, 0, 0, 0, .int (2000 : Int32), mm0), (86, .if_icmp .ge 30, 3, 0, 116, 0, .null, mm0)]
def S_X0_realBits_89 : List mmMI := [(89, .dload 4, 2, 0, 0, 0, .null, mm0), (91, .dconst 1, 1, 0, 0, 0, .double FP.dconst1, mm0), (92, .dcmp .g, 1, 0, 0, 0, .null, mm0), (93, .ifCond .ge 23, 3, 0, 116, 0, .null, mm0)]
def S_X0_realBits_96 : List mmMI := [(96, .dload 4, 2, 0, 0, 0, .null, mm0), (98, .ldc2_w 48, 3, 895, 0, 0, .double (4611686018427387904 : UInt64), mm0), (101, .dmul, 1, 0, 0, 0, .null, mm0), (102, .dstore 4, 2, 0, 0, 0, .null, mm0), (104, .lload 6, 2, 0, 0, 0, .null, mm0), (106, .lconst 1, 1, 0, 0, 0, .long (1 : Int64), mm0), (107, .lsub, 1, 0, 0, 0, .null, mm0), (108, .lstore 6, 2, 0, 0, 0, .null, mm0), (110, .iinc 8 1, 3, 0, 0, 0, .int (1 : Int32), mm0), (113, .goto (-32), 3, 0, 81, 0, .null, mm0)]
def S_X0_realBits_116 : List mmMI := [(116, .dload 4, 2, 0, 0, 0, .null, mm0), (118, .dconst 1, 1, 0, 0, 0, .double FP.dconst1, mm0), (119, .dsub, 1, 0, 0, 0, .null, mm0), (120, .lconst 1, 1, 0, 0, 0, .long (1 : Int64), mm0), (121, .iload_n 1, 1, 0, 0, 0, .null, mm0), (122, .lshl, 1, 0, 0, 0, .null, mm0), (123, .l2d, 1, 0, 0, 0, .null, mm0), (124, .dmul, 1, 0, 0, 0, .null, mm0), (125, .d2l, 1, 0, 0, 0, .null, mm0), (126, .lstore 8, 2, 0, 0, 0, .null, mm0), (128, .aload_n 0, 1, 0, 0, 0, .null, mm0), (129, .getfield 19, 3, 108, 0, 2, .null, mm0), (132, .dconst 0, 1, 0, 0, 0, .double FP.dconst0, mm0), (133, .dcmp .g, 1, 0, 0, 0, .null, mm0), (134, .ifCond .ge 9, 3, 0, 143, 0, .null, mm0)]
def S_X0_realBits_137 : List mmMI := [(137, .lconst 1, 1, 0, 0, 0, .long (1 : Int64), mm0), (138, .iload_n 3, 1, 0, 0, 0, .null, mm0), (139, .lshl, 1, 0, 0, 0, .null, mm0), (140, .goto 4, 3, 0, 144, 0, .null, mm0)]
def S_X0_realBits_143 : List mmMI := [(143, .lconst 0, 1, 0, 0, 0, .long (0 : Int64), mm0)]
def S_X0_realBits_144 : List mmMI := [(144, .lstore 10, 2, 0, 0, 0, .null, mm0), (146, .lload 10, 2, 0, 0, 0, .null, mm0), (148, .lload 6, 2, 0, 0, 0, .null, mm0), (150, .iload_n 1, 1, 0, 0, 0, .null, mm0), (151, .lshl, 1, 0, 0, 0, .null, mm0), (152, .lor, 1, 0, 0, 0, .null, mm0), (153, .lload 8, 2, 0, 0, 0, .null, mm0), (155, .lor, 1, 0, 0, 0, .null, mm0), (156, .lreturn, 1, 0, 0, 0, .null, mm0)]
def BL_X0_realBits : mmBl := [(0, S_X0_realBits_0, 9), (9, S_X0_realBits_9, 11), (11, S_X0_realBits_11, 20), (20, S_X0_realBits_20, 28), (28, S_X0_realBits_28, 32), (32, S_X0_realBits_32, 41), (49, S_X0_realBits_49, 58), (58, S_X0_realBits_58, 78), (78, S_X0_realBits_78, 81), (89, S_X0_realBits_89, 96), (96, S_X0_realBits_96, 116), (116, S_X0_realBits_116, 137), (137, S_X0_realBits_137, 143), (143, S_X0_realBits_143, 144), (144, S_X0_realBits_144, 157)]
theorem OB_X0_realBits : mmOkB M_X0_realBits BL_X0_realBits = true := by decide +kernel
theorem OH_X0_realBits_0 : mmOkB M_X0_realBits [(0, S_X0_realBits_0, 9)] = true := by decide +kernel
set_option maxRecDepth 10000 in
theorem s0_X0_realBits_0 {d : Nat} {P : Option Value → mmMem → Prop} {μ : mmMem} {a0 : Nat} {x1 : Int32} {x2 : Int32} {x3 : Int32} (h : (mmKD a0 = 0) ∧ ((¬ (Op.cmpValue (FP.dcmp (μ.2.2 a0 2) FP.dconst0) .l) = (0 : Int32) → (mmKD a0 = 0) ∧ (((0 : Int32) ≤ (Op.cmpValue (FP.dcmp (μ.2.2 a0 2) FP.dconst0) .g) → (mmKD a0 = 0) ∧ (mmEnds d M_X0_realBits 41 [.ref a0, .int x1, .int x2, .int x3, .double (μ.2.2 a0 2), .retAddr 7, .long x2.toInt64, .retAddr 7, .int (0 : Int32), .retAddr 7, .retAddr 7, .retAddr 7] [] μ P)) ∧ (¬ (0 : Int32) ≤ (Op.cmpValue (FP.dcmp (μ.2.2 a0 2) FP.dconst0) .g) → (mmKD a0 = 0) ∧ (mmEnds d M_X0_realBits 41 [.ref a0, .int x1, .int x2, .int x3, .double (FP.dneg (μ.2.2 a0 2)), .retAddr 7, .long x2.toInt64, .retAddr 7, .int (0 : Int32), .retAddr 7, .retAddr 7, .retAddr 7] [] μ P)))) ∧ ((Op.cmpValue (FP.dcmp (μ.2.2 a0 2) FP.dconst0) .l) = (0 : Int32) → P (some (.long (0 : Int64))) μ))) : mmEnds d M_X0_realBits 0 [.ref a0, .int x1, .int x2, .int x3, .retAddr 7, .retAddr 7, .retAddr 7, .retAddr 7, .retAddr 7, .retAddr 7, .retAddr 7, .retAddr 7] [] μ P := mm_tree 16 OB_X0_realBits OH_X0_realBits_0 h
theorem s_X0_realBits_0 {d : Nat} {P : Option Value → mmMem → Prop} {μ : mmMem} {a0 : Nat} {x1 : Int32} {x2 : Int32} {x3 : Int32} (hd : 0 ≤ d) (k0 : mmKD a0 = 0) (h : (¬ (Op.cmpValue (FP.dcmp (μ.2.2 a0 2) FP.dconst0) .l) = (0 : Int32) → ((0 : Int32) ≤ (Op.cmpValue (FP.dcmp (μ.2.2 a0 2) FP.dconst0) .g) → mmEnds d M_X0_realBits 41 [.ref a0, .int x1, .int x2, .int x3, .double (μ.2.2 a0 2), .retAddr 7, .long x2.toInt64, .retAddr 7, .int (0 : Int32), .retAddr 7, .retAddr 7, .retAddr 7] [] μ P) ∧ (¬ (0 : Int32) ≤ (Op.cmpValue (FP.dcmp (μ.2.2 a0 2) FP.dconst0) .g) → mmEnds d M_X0_realBits 41 [.ref a0, .int x1, .int x2, .int x3, .double (FP.dneg (μ.2.2 a0 2)), .retAddr 7, .long x2.toInt64, .retAddr 7, .int (0 : Int32), .retAddr 7, .retAddr 7, .retAddr 7] [] μ P)) ∧ ((Op.cmpValue (FP.dcmp (μ.2.2 a0 2) FP.dconst0) .l) = (0 : Int32) → P (some (.long (0 : Int64))) μ)) : mmEnds d M_X0_realBits 0 [.ref a0, .int x1, .int x2, .int x3, .retAddr 7, .retAddr 7, .retAddr 7, .retAddr 7, .retAddr 7, .retAddr 7, .retAddr 7, .retAddr 7] [] μ P := s0_X0_realBits_0 (⟨k0, ⟨fun q1 => (have h3 := (h).1 q1; ⟨k0, ⟨fun q5 => (have h7 := (h3).1 q5; ⟨k0, h7⟩), fun q6 => (have h8 := (h3).2 q6; ⟨k0, h8⟩)⟩⟩), fun q2 => (have h4 := (h).2 q2; h4)⟩⟩)
theorem OH_X0_realBits_41 : mmOkB M_X0_realBits [(41, S_X0_realBits_41, 49)] = true := by decide +kernel
set_option maxRecDepth 10000 in
theorem s0_X0_realBits_41 {d : Nat} {P : Option Value → mmMem → Prop} {μ : mmMem} {a0 : Nat} {x1 : Int32} {x2 : Int32} {x3 : Int32} {x4 : UInt64} {x6 : Int64} {x8 : Int32} {v9 : Value} {v10 : Value} {v11 : Value} (h : ((2000 : Int32) ≤ x8 → mmEnds d M_X0_realBits 81 [.ref a0, .int x1, .int x2, .int x3, .double x4, .retAddr 7, .long x6, .retAddr 7, .int (0 : Int32), v9, v10, v11] [] μ P) ∧ (¬ (2000 : Int32) ≤ x8 → ((Op.cmpValue (FP.dcmp x4 (4611686018427387904 : UInt64)) .l) < (0 : Int32) → mmEnds d M_X0_realBits 81 [.ref a0, .int x1, .int x2, .int x3, .double x4, .retAddr 7, .long x6, .retAddr 7, .int (0 : Int32), v9, v10, v11] [] μ P) ∧ (¬ (Op.cmpValue (FP.dcmp x4 (4611686018427387904 : UInt64)) .l) < (0 : Int32) → (vf_n64 (FP.ddiv x4 (4611686018427387904 : UInt64))) ∧ (mmEnds d M_X0_realBits 41 [.ref a0, .int x1, .int x2, .int x3, .double (FP.ddiv x4 (4611686018427387904 : UInt64)), .retAddr 7, .long (x6 + (1 : Int64)), .retAddr 7, .int (x8 + (1 : Int32)), v9, v10, v11] [] μ P)))) : mmEnds d M_X0_realBits 41 [.ref a0, .int x1, .int x2, .int x3, .double x4, .retAddr 7, .long x6, .retAddr 7, .int x8, v9, v10, v11] [] μ P := mm_tree 16 OB_X0_realBits OH_X0_realBits_41 h
set_option maxRecDepth 10000 in
theorem s_X0_realBits_41 {d : Nat} {P : Option Value → mmMem → Prop} {μ : mmMem} {a0 : Nat} {x1 : Int32} {x2 : Int32} {x3 : Int32} {x4 : UInt64} {x6 : Int64} {x8 : Int32} {v9 : Value} {v10 : Value} {v11 : Value} (hd : 0 ≤ d) (k0 : mmKD a0 = 0) (h : ((2000 : Int32) ≤ x8 → mmEnds d M_X0_realBits 81 [.ref a0, .int x1, .int x2, .int x3, .double x4, .retAddr 7, .long x6, .retAddr 7, .int (0 : Int32), v9, v10, v11] [] μ P) ∧ (¬ (2000 : Int32) ≤ x8 → ((Op.cmpValue (FP.dcmp x4 (4611686018427387904 : UInt64)) .l) < (0 : Int32) → mmEnds d M_X0_realBits 81 [.ref a0, .int x1, .int x2, .int x3, .double x4, .retAddr 7, .long x6, .retAddr 7, .int (0 : Int32), v9, v10, v11] [] μ P) ∧ (¬ (Op.cmpValue (FP.dcmp x4 (4611686018427387904 : UInt64)) .l) < (0 : Int32) → (vf_n64 (FP.ddiv x4 (4611686018427387904 : UInt64))) ∧ (mmEnds d M_X0_realBits 41 [.ref a0, .int x1, .int x2, .int x3, .double (FP.ddiv x4 (4611686018427387904 : UInt64)), .retAddr 7, .long (x6 + (1 : Int64)), .retAddr 7, .int (x8 + (1 : Int32)), v9, v10, v11] [] μ P)))) : mmEnds d M_X0_realBits 41 [.ref a0, .int x1, .int x2, .int x3, .double x4, .retAddr 7, .long x6, .retAddr 7, .int x8, v9, v10, v11] [] μ P := s0_X0_realBits_41 (⟨fun q1 => (have h3 := (h).1 q1; h3), fun q2 => (have h4 := (h).2 q2; ⟨fun q5 => (have h7 := (h4).1 q5; h7), fun q6 => (have h8 := (h4).2 q6; (have o9 := (h8).1; have h10 := (h8).2; ⟨o9, h10⟩))⟩)⟩)
theorem OH_X0_realBits_81 : mmOkB M_X0_realBits [(81, S_X0_realBits_81, 89)] = true := by decide +kernel
set_option maxRecDepth 10000 in
theorem s0_X0_realBits_81 {d : Nat} {P : Option Value → mmMem → Prop} {μ : mmMem} {a0 : Nat} {x1 : Int32} {x2 : Int32} {x3 : Int32} {x4 : UInt64} {x6 : Int64} {x8 : Int32} {v9 : Value} {v10 : Value} {v11 : Value} (h : ((2000 : Int32) ≤ x8 → (vf_n64 (FP.dsub x4 FP.dconst1)) ∧ ((vf_n64 (FP.dmul (FP.dsub x4 FP.dconst1) (FP.l2d ((1 : Int64) <<< (x1.toInt64 &&& 63))))) ∧ ((mmKD a0 = 0) ∧ (((0 : Int32) ≤ (Op.cmpValue (FP.dcmp (μ.2.2 a0 2) FP.dconst0) .g) → P (some (.long (((0 : Int64) ||| (x6 <<< (x1.toInt64 &&& 63))) ||| (FP.d2l (FP.dmul (FP.dsub x4 FP.dconst1) (FP.l2d ((1 : Int64) <<< (x1.toInt64 &&& 63)))))))) μ) ∧ (¬ (0 : Int32) ≤ (Op.cmpValue (FP.dcmp (μ.2.2 a0 2) FP.dconst0) .g) → P (some (.long ((((1 : Int64) <<< (x3.toInt64 &&& 63)) ||| (x6 <<< (x1.toInt64 &&& 63))) ||| (FP.d2l (FP.dmul (FP.dsub x4 FP.dconst1) (FP.l2d ((1 : Int64) <<< (x1.toInt64 &&& 63)))))))) μ))))) ∧ (¬ (2000 : Int32) ≤ x8 → ((0 : Int32) ≤ (Op.cmpValue (FP.dcmp x4 FP.dconst1) .g) → (vf_n64 (FP.dsub x4 FP.dconst1)) ∧ ((vf_n64 (FP.dmul (FP.dsub x4 FP.dconst1) (FP.l2d ((1 : Int64) <<< (x1.toInt64 &&& 63))))) ∧ ((mmKD a0 = 0) ∧ (((0 : Int32) ≤ (Op.cmpValue (FP.dcmp (μ.2.2 a0 2) FP.dconst0) .g) → P (some (.long (((0 : Int64) ||| (x6 <<< (x1.toInt64 &&& 63))) ||| (FP.d2l (FP.dmul (FP.dsub x4 FP.dconst1) (FP.l2d ((1 : Int64) <<< (x1.toInt64 &&& 63)))))))) μ) ∧ (¬ (0 : Int32) ≤ (Op.cmpValue (FP.dcmp (μ.2.2 a0 2) FP.dconst0) .g) → P (some (.long ((((1 : Int64) <<< (x3.toInt64 &&& 63)) ||| (x6 <<< (x1.toInt64 &&& 63))) ||| (FP.d2l (FP.dmul (FP.dsub x4 FP.dconst1) (FP.l2d ((1 : Int64) <<< (x1.toInt64 &&& 63)))))))) μ))))) ∧ (¬ (0 : Int32) ≤ (Op.cmpValue (FP.dcmp x4 FP.dconst1) .g) → (vf_n64 (FP.dmul x4 (4611686018427387904 : UInt64))) ∧ (mmEnds d M_X0_realBits 81 [.ref a0, .int x1, .int x2, .int x3, .double (FP.dmul x4 (4611686018427387904 : UInt64)), .retAddr 7, .long (x6 - (1 : Int64)), .retAddr 7, .int (x8 + (1 : Int32)), v9, v10, v11] [] μ P)))) : mmEnds d M_X0_realBits 81 [.ref a0, .int x1, .int x2, .int x3, .double x4, .retAddr 7, .long x6, .retAddr 7, .int x8, v9, v10, v11] [] μ P := mm_tree 16 OB_X0_realBits OH_X0_realBits_81 h
set_option maxRecDepth 10000 in
theorem s_X0_realBits_81 {d : Nat} {P : Option Value → mmMem → Prop} {μ : mmMem} {a0 : Nat} {x1 : Int32} {x2 : Int32} {x3 : Int32} {x4 : UInt64} {x6 : Int64} {x8 : Int32} {v9 : Value} {v10 : Value} {v11 : Value} (hd : 0 ≤ d) (k0 : mmKD a0 = 0) (h : ((2000 : Int32) ≤ x8 → (vf_n64 (FP.dsub x4 FP.dconst1)) ∧ ((vf_n64 (FP.dmul (FP.dsub x4 FP.dconst1) (FP.l2d ((1 : Int64) <<< (x1.toInt64 &&& 63))))) ∧ (((0 : Int32) ≤ (Op.cmpValue (FP.dcmp (μ.2.2 a0 2) FP.dconst0) .g) → P (some (.long (((0 : Int64) ||| (x6 <<< (x1.toInt64 &&& 63))) ||| (FP.d2l (FP.dmul (FP.dsub x4 FP.dconst1) (FP.l2d ((1 : Int64) <<< (x1.toInt64 &&& 63)))))))) μ) ∧ (¬ (0 : Int32) ≤ (Op.cmpValue (FP.dcmp (μ.2.2 a0 2) FP.dconst0) .g) → P (some (.long ((((1 : Int64) <<< (x3.toInt64 &&& 63)) ||| (x6 <<< (x1.toInt64 &&& 63))) ||| (FP.d2l (FP.dmul (FP.dsub x4 FP.dconst1) (FP.l2d ((1 : Int64) <<< (x1.toInt64 &&& 63)))))))) μ)))) ∧ (¬ (2000 : Int32) ≤ x8 → ((0 : Int32) ≤ (Op.cmpValue (FP.dcmp x4 FP.dconst1) .g) → (vf_n64 (FP.dsub x4 FP.dconst1)) ∧ ((vf_n64 (FP.dmul (FP.dsub x4 FP.dconst1) (FP.l2d ((1 : Int64) <<< (x1.toInt64 &&& 63))))) ∧ (((0 : Int32) ≤ (Op.cmpValue (FP.dcmp (μ.2.2 a0 2) FP.dconst0) .g) → P (some (.long (((0 : Int64) ||| (x6 <<< (x1.toInt64 &&& 63))) ||| (FP.d2l (FP.dmul (FP.dsub x4 FP.dconst1) (FP.l2d ((1 : Int64) <<< (x1.toInt64 &&& 63)))))))) μ) ∧ (¬ (0 : Int32) ≤ (Op.cmpValue (FP.dcmp (μ.2.2 a0 2) FP.dconst0) .g) → P (some (.long ((((1 : Int64) <<< (x3.toInt64 &&& 63)) ||| (x6 <<< (x1.toInt64 &&& 63))) ||| (FP.d2l (FP.dmul (FP.dsub x4 FP.dconst1) (FP.l2d ((1 : Int64) <<< (x1.toInt64 &&& 63)))))))) μ)))) ∧ (¬ (0 : Int32) ≤ (Op.cmpValue (FP.dcmp x4 FP.dconst1) .g) → (vf_n64 (FP.dmul x4 (4611686018427387904 : UInt64))) ∧ (mmEnds d M_X0_realBits 81 [.ref a0, .int x1, .int x2, .int x3, .double (FP.dmul x4 (4611686018427387904 : UInt64)), .retAddr 7, .long (x6 - (1 : Int64)), .retAddr 7, .int (x8 + (1 : Int32)), v9, v10, v11] [] μ P)))) : mmEnds d M_X0_realBits 81 [.ref a0, .int x1, .int x2, .int x3, .double x4, .retAddr 7, .long x6, .retAddr 7, .int x8, v9, v10, v11] [] μ P := s0_X0_realBits_81 (⟨fun q1 => (have h3 := (h).1 q1; (have o5 := (h3).1; have h6 := (h3).2; ⟨o5, (have o7 := (h6).1; have h8 := (h6).2; ⟨o7, ⟨k0, ⟨fun q9 => (have h11 := (h8).1 q9; h11), fun q10 => (have h12 := (h8).2 q10; h12)⟩⟩⟩)⟩)), fun q2 => (have h4 := (h).2 q2; ⟨fun q13 => (have h15 := (h4).1 q13; (have o17 := (h15).1; have h18 := (h15).2; ⟨o17, (have o19 := (h18).1; have h20 := (h18).2; ⟨o19, ⟨k0, ⟨fun q21 => (have h23 := (h20).1 q21; h23), fun q22 => (have h24 := (h20).2 q22; h24)⟩⟩⟩)⟩)), fun q14 => (have h16 := (h4).2 q14; (have o25 := (h16).1; have h26 := (h16).2; ⟨o25, h26⟩))⟩)⟩)
set_option maxRecDepth 10000 in
theorem u_X0_realBits {d : Nat} {K : Int64 → mmMem → Prop} {μ : mmMem} {a0 : Nat} {x1 : Int32} {x2 : Int32} {x3 : Int32} (hd : 1 ≤ d) (k0 : mmKD a0 = 0) (h : (¬ (Op.cmpValue (FP.dcmp (μ.2.2 a0 2) FP.dconst0) .l) = (0 : Int32) → ((0 : Int32) ≤ (Op.cmpValue (FP.dcmp (μ.2.2 a0 2) FP.dconst0) .g) → mmEnds (d - 1) M_X0_realBits 41 [.ref a0, .int x1, .int x2, .int x3, .double (μ.2.2 a0 2), .retAddr 7, .long x2.toInt64, .retAddr 7, .int (0 : Int32), .retAddr 7, .retAddr 7, .retAddr 7] [] μ (mmPJ K)) ∧ (¬ (0 : Int32) ≤ (Op.cmpValue (FP.dcmp (μ.2.2 a0 2) FP.dconst0) .g) → mmEnds (d - 1) M_X0_realBits 41 [.ref a0, .int x1, .int x2, .int x3, .double (FP.dneg (μ.2.2 a0 2)), .retAddr 7, .long x2.toInt64, .retAddr 7, .int (0 : Int32), .retAddr 7, .retAddr 7, .retAddr 7] [] μ (mmPJ K))) ∧ ((Op.cmpValue (FP.dcmp (μ.2.2 a0 2) FP.dconst0) .l) = (0 : Int32) → K (0 : Int64) μ)) : mmCJ d M_X0_realBits false 3 [.ref a0, .int x1, .int x2, .int x3] μ K :=
  mmCU.of (d' := d - 1) g_X0_realBits (by decide +kernel) rfl rfl (by omega) (s_X0_realBits_0 (d := d - 1) (by omega) k0 h)
theorem g_X0_bits : mmGd M_X0_bits false 0 := ⟨mm_in 890 (by decide +kernel) rfl, mm_in 15 (by decide +kernel) rfl, by decide +kernel, by decide, ⟨mm_in 888 (by decide +kernel) rfl, mm_in 889 (by decide +kernel) rfl⟩⟩
def S_X0_bits_0 : List mmMI := [(0, .aload_n 0, 1, 0, 0, 0, .null, mm0), (1, .getfield 9, 3, 103, 0, 0, .null, mm0), (4, .bipush 6, 2, 0, 0, 0, .int (6 : Int32), mm0), (6, .if_icmp .ne 16, 3, 0, 22, 0, .null, mm0)]
def S_X0_bits_9 : List mmMI := [(9, .aload_n 0, 1, 0, 0, 0, .null, mm0), (10, .bipush 23, 2, 0, 0, 0, .int (23 : Int32), mm0), (12, .bipush 127, 2, 0, 0, 0, .int (127 : Int32), mm0), (14, .bipush 31, 2, 0, 0, 0, .int (31 : Int32), mm0), (16, .invokevirtual 44, 3, 891, 3, 0, .null, M_X0_realBits), (19, .l2i, 1, 0, 0, 0, .null, mm0), (20, .i2l, 1, 0, 0, 0, .null, mm0), (21, .lreturn, 1, 0, 0, 0, .null, mm0)]
def S_X0_bits_22 : List mmMI := [(22, .aload_n 0, 1, 0, 0, 0, .null, mm0), (23, .getfield 9, 3, 103, 0, 0, .null, mm0), (26, .bipush 7, 2, 0, 0, 0, .int (7 : Int32), mm0), (28, .if_icmp .ne 17, 3, 0, 45, 0, .null, mm0)]
def S_X0_bits_31 : List mmMI := [(31, .aload_n 0, 1, 0, 0, 0, .null, mm0), (32, .bipush 52, 2, 0, 0, 0, .int (52 : Int32), mm0), (34, .sipush 1023, 3, 0, 0, 0, .int (1023 : Int32), mm0), (37, .bipush 63, 2, 0, 0, 0, .int (63 : Int32), mm0), (39, .invokevirtual 44, 3, 891, 3, 0, .null, M_X0_realBits), (42, .goto 7, 3, 0, 49, 0, .null, mm0)]
def S_X0_bits_45 : List mmMI := [(45, .aload_n 0, 1, 0, 0, 0, .null, mm0), (46, .getfield 15, 3, 106, 0, 1, .null, mm0)]
def S_X0_bits_49 : List mmMI := [(49, .lreturn, 1, 0, 0, 0, .null, mm0)]
def BL_X0_bits : mmBl := [(0, S_X0_bits_0, 9), (9, S_X0_bits_9, 22), (22, S_X0_bits_22, 31), (31, S_X0_bits_31, 45), (45, S_X0_bits_45, 49), (49, S_X0_bits_49, 50)]
theorem OB_X0_bits : mmOkB M_X0_bits BL_X0_bits = true := by decide +kernel
theorem OH_X0_bits_0 : mmOkB M_X0_bits [(0, S_X0_bits_0, 9)] = true := by decide +kernel
theorem s0_X0_bits_0 {d : Nat} {P : Option Value → mmMem → Prop} {μ : mmMem} {a0 : Nat} (h : (mmKD a0 = 0) ∧ ((¬ (μ.1 a0 0) = (6 : Int32) → (mmKD a0 = 0) ∧ ((¬ (μ.1 a0 0) = (7 : Int32) → (mmKD a0 = 0) ∧ (P (some (.long (μ.2.1 a0 1))) μ)) ∧ ((μ.1 a0 0) = (7 : Int32) → (mmKD a0 = 0) ∧ (mmCJ d M_X0_realBits false 3 [.ref a0, .int (52 : Int32), .int (1023 : Int32), .int (63 : Int32)] μ fun y1 ν1 => P (some (.long y1)) ν1)))) ∧ ((μ.1 a0 0) = (6 : Int32) → (mmKD a0 = 0) ∧ (mmCJ d M_X0_realBits false 3 [.ref a0, .int (23 : Int32), .int (127 : Int32), .int (31 : Int32)] μ fun y2 ν2 => P (some (.long y2.toInt32.toInt64)) ν2)))) : mmEnds d M_X0_bits 0 [.ref a0] [] μ P := mm_tree 7 OB_X0_bits OH_X0_bits_0 h
theorem s_X0_bits_0 {d : Nat} {P : Option Value → mmMem → Prop} {μ : mmMem} {a0 : Nat} (hd : 0 ≤ d) (k0 : mmKD a0 = 0) (h : (¬ (μ.1 a0 0) = (6 : Int32) → (¬ (μ.1 a0 0) = (7 : Int32) → P (some (.long (μ.2.1 a0 1))) μ) ∧ ((μ.1 a0 0) = (7 : Int32) → mmCJ d M_X0_realBits false 3 [.ref a0, .int (52 : Int32), .int (1023 : Int32), .int (63 : Int32)] μ fun y10 ν9 => P (some (.long y10)) ν9)) ∧ ((μ.1 a0 0) = (6 : Int32) → mmCJ d M_X0_realBits false 3 [.ref a0, .int (23 : Int32), .int (127 : Int32), .int (31 : Int32)] μ fun y13 ν12 => P (some (.long y13.toInt32.toInt64)) ν12)) : mmEnds d M_X0_bits 0 [.ref a0] [] μ P := s0_X0_bits_0 (⟨k0, ⟨fun q1 => (have h3 := (h).1 q1; ⟨k0, ⟨fun q5 => (have h7 := (h3).1 q5; ⟨k0, h7⟩), fun q6 => (have h8 := (h3).2 q6; ⟨k0, (mmCJ.mono (h8) (fun y10 ν9 h11 => h11))⟩)⟩⟩), fun q2 => (have h4 := (h).2 q2; ⟨k0, (mmCJ.mono (h4) (fun y13 ν12 h14 => h14))⟩)⟩⟩)
theorem u_X0_bits {d : Nat} {K : Int64 → mmMem → Prop} {μ : mmMem} {a0 : Nat} (hd : 1 ≤ d) (k0 : mmKD a0 = 0) (h : (¬ (μ.1 a0 0) = (6 : Int32) → (¬ (μ.1 a0 0) = (7 : Int32) → K (μ.2.1 a0 1) μ) ∧ ((μ.1 a0 0) = (7 : Int32) → mmCJ (d - 1) M_X0_realBits false 3 [.ref a0, .int (52 : Int32), .int (1023 : Int32), .int (63 : Int32)] μ fun y10 ν9 => K y10 ν9)) ∧ ((μ.1 a0 0) = (6 : Int32) → mmCJ (d - 1) M_X0_realBits false 3 [.ref a0, .int (23 : Int32), .int (127 : Int32), .int (31 : Int32)] μ fun y13 ν12 => K y13.toInt32.toInt64 ν12)) : mmCJ d M_X0_bits false 0 [.ref a0] μ K :=
  mmCU.of (d' := d - 1) g_X0_bits (by decide +kernel) rfl rfl (by omega) (s_X0_bits_0 (d := d - 1) (by omega) k0 h)
end
section
theorem g_X5_add : mmGd M_X5_add false 1 := ⟨mm_in 806 (by decide +kernel) rfl, mm_in 16 (by decide +kernel) rfl, by decide +kernel, by decide, ⟨mm_in 804 (by decide +kernel) rfl, mm_in 805 (by decide +kernel) rfl⟩⟩
def S_X5_add_0 : List mmMI := [(0, .aload_n 0, 1, 0, 0, 0, .null, mm0), (1, .getfield 22, 3, 171, 5, 0, .null, mm0), (4, .bipush 100, 2, 0, 0, 0, .int (100 : Int32), mm0), (6, .if_icmp .ge 23, 3, 0, 29, 0, .null, mm0)]
def S_X5_add_9 : List mmMI := [(9, .aload_n 0, 1, 0, 0, 0, .null, mm0), (10, .getfield 9, 3, 175, 5, 2, .null, mm0), (13, .aload_n 0, 1, 0, 0, 0, .null, mm0), (14, .getfield 22, 3, 171, 5, 0, .null, mm0), (17, .iload_n 1, 1, 0, 0, 0, .null, mm0), (18, .iastore, 1, 0, 0, 0, .null, mm0), (19, .aload_n 0, 1, 0, 0, 0, .null, mm0), (20, .dup, 1, 0, 0, 0, .null, mm0), (21, .getfield 22, 3, 171, 5, 0, .null, mm0), (24, .iconst 1, 1, 0, 0, 0, .int (1 : Int32), mm0), (25, .iadd, 1, 0, 0, 0, .null, mm0), (26, .putfield 22, 3, 171, 5, 0, .null, mm0)]
def S_X5_add_29 : List mmMI := [(29, .return_, 1, 0, 0, 0, .null, mm0)]
def BL_X5_add : mmBl := [(0, S_X5_add_0, 9), (9, S_X5_add_9, 29), (29, S_X5_add_29, 30)]
theorem OB_X5_add : mmOkB M_X5_add BL_X5_add = true := by decide +kernel
theorem OH_X5_add_0 : mmOkB M_X5_add [(0, S_X5_add_0, 9)] = true := by decide +kernel
theorem s0_X5_add_0 {d : Nat} {P : Option Value → mmMem → Prop} {μ : mmMem} {x1 : Int32} (h : (mmKD 141 = 5) ∧ (((100 : Int32) ≤ (μ.1 141 0) → P none μ) ∧ (¬ (100 : Int32) ≤ (μ.1 141 0) → (mmKD 141 = 5) ∧ ((mmKD 141 = 5) ∧ ((mmKD 142 = 10) ∧ ((vp_in (μ.1 141 0) (mmLEN 142)) ∧ ((mmKD 141 = 5) ∧ ((mmKD 141 = 5) ∧ (P none (sI (sI μ 142 (μ.1 141 0).toNatClampNeg x1) 141 0 ((μ.1 141 0) + (1 : Int32)))))))))))) : mmEnds d M_X5_add 0 [.ref 141, .int x1] [] μ P := mm_tree 4 OB_X5_add OH_X5_add_0 h
theorem s_X5_add_0 {d : Nat} {P : Option Value → mmMem → Prop} {μ : mmMem} {x1 : Int32} (hd : 0 ≤ d)  (h : ((100 : Int32) ≤ (μ.1 141 0) → P none μ) ∧ (¬ (100 : Int32) ≤ (μ.1 141 0) → (vp_in (μ.1 141 0) 100) ∧ (P none (sI (sI μ 142 (μ.1 141 0).toNatClampNeg x1) 141 0 ((μ.1 141 0) + (1 : Int32)))))) : mmEnds d M_X5_add 0 [.ref 141, .int x1] [] μ P := s0_X5_add_0 (⟨kd_141, ⟨fun q1 => (have h3 := (h).1 q1; h3), fun q2 => (have h4 := (h).2 q2; ⟨kd_141, ⟨kd_141, ⟨kd_142, (have o5 := (h4).1; have h6 := (h4).2; ⟨vp_l ln_142 o5, ⟨kd_141, ⟨kd_141, h6⟩⟩⟩)⟩⟩⟩)⟩⟩)
theorem u_X5_add {d : Nat} {K : mmMem → Prop} {μ : mmMem} {x1 : Int32} (hd : 1 ≤ d)  (h : ((100 : Int32) ≤ (μ.1 141 0) → K μ) ∧ (¬ (100 : Int32) ≤ (μ.1 141 0) → (vp_in (μ.1 141 0) 100) ∧ (K (sI (sI μ 142 (μ.1 141 0).toNatClampNeg x1) 141 0 ((μ.1 141 0) + (1 : Int32)))))) : mmC0 d M_X5_add false 1 [.ref 141, .int x1] μ K :=
  mmCU.of (d' := d - 1) g_X5_add (by decide +kernel) rfl rfl (by omega) (s_X5_add_0 (d := d - 1) (by omega)  h)
theorem g_X5_sign : mmGd M_X5_sign false 0 := ⟨mm_in 828 (by decide +kernel) rfl, mm_in 16 (by decide +kernel) rfl, by decide +kernel, by decide, ⟨mm_in 826 (by decide +kernel) rfl, mm_in 827 (by decide +kernel) rfl⟩⟩
def S_X5_sign_0 : List mmMI := [(0, .aload_n 0, 1, 0, 0, 0, .null, mm0), (1, .getfield 26, 3, 173, 5, 1, .null, mm0), (4, .aload_n 0, 1, 0, 0, 0, .null, mm0), (5, .getfield 22, 3, 171, 5, 0, .null, mm0), (8, .if_icmp .ge 15, 3, 0, 23, 0, .null, mm0)]
def S_X5_sign_11 : List mmMI := [(11, .aload_n 0, 1, 0, 0, 0, .null, mm0), (12, .getfield 9, 3, 175, 5, 2, .null, mm0), (15, .aload_n 0, 1, 0, 0, 0, .null, mm0), (16, .getfield 26, 3, 173, 5, 1, .null, mm0), (19, .iaload, 1, 0, 0, 0, .null, mm0), (20, .goto 4, 3, 0, 24, 0, .null, mm0)]
def S_X5_sign_23 : List mmMI := [(23, .iconst (-1), 1, 0, 0, 0, .int (-1 : Int32), mm0)]
def S_X5_sign_24 : List mmMI := [(24, .ireturn, 1, 0, 0, 0, .null, mm0)]
def BL_X5_sign : mmBl := [(0, S_X5_sign_0, 11), (11, S_X5_sign_11, 23), (23, S_X5_sign_23, 24), (24, S_X5_sign_24, 25)]
theorem OB_X5_sign : mmOkB M_X5_sign BL_X5_sign = true := by decide +kernel
theorem OH_X5_sign_0 : mmOkB M_X5_sign [(0, S_X5_sign_0, 11)] = true := by decide +kernel
theorem s0_X5_sign_0 {d : Nat} {P : Option Value → mmMem → Prop} {μ : mmMem}  (h : (mmKD 141 = 5) ∧ ((mmKD 141 = 5) ∧ (((μ.1 141 0) ≤ (μ.1 141 1) → P (some (.int (-1 : Int32))) μ) ∧ (¬ (μ.1 141 0) ≤ (μ.1 141 1) → (mmKD 141 = 5) ∧ ((mmKD 141 = 5) ∧ ((mmKD 142 = 10) ∧ ((vp_in (μ.1 141 1) (mmLEN 142)) ∧ (P (some (.int (μ.1 142 (μ.1 141 1).toNatClampNeg))) μ)))))))) : mmEnds d M_X5_sign 0 [.ref 141] [] μ P := mm_tree 5 OB_X5_sign OH_X5_sign_0 h
theorem s_X5_sign_0 {d : Nat} {P : Option Value → mmMem → Prop} {μ : mmMem}  (hd : 0 ≤ d)  (h : ((μ.1 141 0) ≤ (μ.1 141 1) → P (some (.int (-1 : Int32))) μ) ∧ (¬ (μ.1 141 0) ≤ (μ.1 141 1) → (vp_in (μ.1 141 1) 100) ∧ (P (some (.int (μ.1 142 (μ.1 141 1).toNatClampNeg))) μ))) : mmEnds d M_X5_sign 0 [.ref 141] [] μ P := s0_X5_sign_0 (⟨kd_141, ⟨kd_141, ⟨fun q1 => (have h3 := (h).1 q1; h3), fun q2 => (have h4 := (h).2 q2; ⟨kd_141, ⟨kd_141, ⟨kd_142, (have o5 := (h4).1; have h6 := (h4).2; ⟨vp_l ln_142 o5, h6⟩)⟩⟩⟩)⟩⟩⟩)
theorem u_X5_sign {d : Nat} {K : Int32 → mmMem → Prop} {μ : mmMem}  (hd : 1 ≤ d)  (h : ((μ.1 141 0) ≤ (μ.1 141 1) → K (-1 : Int32) μ) ∧ (¬ (μ.1 141 0) ≤ (μ.1 141 1) → (vp_in (μ.1 141 1) 100) ∧ (K (μ.1 142 (μ.1 141 1).toNatClampNeg) μ))) : mmCI d M_X5_sign false 0 [.ref 141] μ K :=
  mmCU.of (d' := d - 1) g_X5_sign (by decide +kernel) rfl rfl (by omega) (s_X5_sign_0 (d := d - 1) (by omega)  h)
theorem g_X5_skip : mmGd M_X5_skip false 1 := ⟨mm_in 824 (by decide +kernel) rfl, mm_in 16 (by decide +kernel) rfl, by decide +kernel, by decide, ⟨mm_in 822 (by decide +kernel) rfl, mm_in 823 (by decide +kernel) rfl⟩⟩
def S_X5_skip_0 : List mmMI := [(0, .aload_n 0, 1, 0, 0, 0, .null, mm0), (1, .invokevirtual 29, 3, 825, 0, 5, .null, M_X5_sign), (4, .iload_n 1, 1, 0, 0, 0, .null, mm0), (5, .if_icmp .eq 5, 3, 0, 10, 0, .null, mm0)]
def S_X5_skip_8 : List mmMI := [(8, .iconst 0, 1, 0, 0, 0, .int (0 : Int32), mm0), (9, .ireturn, 1, 0, 0, 0, .null, mm0)]
def S_X5_skip_10 : List mmMI := [(10, .aload_n 0, 1, 0, 0, 0, .null, mm0), (11, .dup, 1, 0, 0, 0, .null, mm0), (12, .getfield 26, 3, 173, 5, 1, .null, mm0), (15, .iconst 1, 1, 0, 0, 0, .int (1 : Int32), mm0), (16, .iadd, 1, 0, 0, 0, .null, mm0), (17, .putfield 26, 3, 173, 5, 1, .null, mm0), (20, .iconst 1, 1, 0, 0, 0, .int (1 : Int32), mm0), (21, .ireturn, 1, 0, 0, 0, .null, mm0)]
def BL_X5_skip : mmBl := [(0, S_X5_skip_0, 8), (8, S_X5_skip_8, 10), (10, S_X5_skip_10, 22)]
theorem OB_X5_skip : mmOkB M_X5_skip BL_X5_skip = true := by decide +kernel
theorem OH_X5_skip_0 : mmOkB M_X5_skip [(0, S_X5_skip_0, 8)] = true := by decide +kernel
theorem s0_X5_skip_0 {d : Nat} {P : Option Value → mmMem → Prop} {μ : mmMem} {x1 : Int32} (h : (mmKD 141 = 5) ∧ (mmCI d M_X5_sign false 0 [.ref 141] μ fun y1 ν1 => (y1 = x1 → (mmKD 141 = 5) ∧ ((mmKD 141 = 5) ∧ (P (some (.int (1 : Int32))) (sI ν1 141 1 ((ν1.1 141 1) + (1 : Int32)))))) ∧ (¬ y1 = x1 → P (some (.int (0 : Int32))) ν1))) : mmEnds d M_X5_skip 0 [.ref 141, .int x1] [] μ P := mm_tree 4 OB_X5_skip OH_X5_skip_0 h
theorem s_X5_skip_0 {d : Nat} {P : Option Value → mmMem → Prop} {μ : mmMem} {x1 : Int32} (hd : 0 ≤ d)  (h : mmCI d M_X5_sign false 0 [.ref 141] μ fun y2 ν1 => (y2 = x1 → P (some (.int (1 : Int32))) (sI ν1 141 1 ((ν1.1 141 1) + (1 : Int32)))) ∧ (¬ y2 = x1 → P (some (.int (0 : Int32))) ν1)) : mmEnds d M_X5_skip 0 [.ref 141, .int x1] [] μ P := s0_X5_skip_0 (⟨kd_141, (mmCI.mono (h) (fun y2 ν1 h7 => ⟨fun q3 => (have h5 := (h7).1 q3; ⟨kd_141, ⟨kd_141, h5⟩⟩), fun q4 => (have h6 := (h7).2 q4; h6)⟩))⟩)
theorem u_X5_skip {d : Nat} {K : Int32 → mmMem → Prop} {μ : mmMem} {x1 : Int32} (hd : 1 ≤ d)  (h : mmCI (d - 1) M_X5_sign false 0 [.ref 141] μ fun y2 ν1 => (y2 = x1 → K (1 : Int32) (sI ν1 141 1 ((ν1.1 141 1) + (1 : Int32)))) ∧ (¬ y2 = x1 → K (0 : Int32) ν1)) : mmCI d M_X5_skip false 1 [.ref 141, .int x1] μ K :=
  mmCU.of (d' := d - 1) g_X5_skip (by decide +kernel) rfl rfl (by omega) (s_X5_skip_0 (d := d - 1) (by omega)  h)
theorem g_X5_isDigit : mmGd M_X5_isDigit false 0 := ⟨mm_in 863 (by decide +kernel) rfl, mm_in 16 (by decide +kernel) rfl, by decide +kernel, by decide, ⟨mm_in 861 (by decide +kernel) rfl, mm_in 862 (by decide +kernel) rfl⟩⟩
def S_X5_isDigit_0 : List mmMI := [(0, .aload_n 0, 1, 0, 0, 0, .null, mm0), (1, .invokevirtual 29, 3, 825, 0, 5, .null, M_X5_sign), (4, .bipush 48, 2, 0, 0, 0, .int (48 : Int32), mm0), (6, .if_icmp .lt 16, 3, 0, 22, 0, .null, mm0)]
def S_X5_isDigit_9 : List mmMI := [(9, .aload_n 0, 1, 0, 0, 0, .null, mm0), (10, .invokevirtual 29, 3, 825, 0, 5, .null, M_X5_sign), (13, .bipush 57, 2, 0, 0, 0, .int (57 : Int32), mm0), (15, .if_icmp .gt 7, 3, 0, 22, 0, .null, mm0)]
def S_X5_isDigit_18 : List mmMI := [(18, .iconst 1, 1, 0, 0, 0, .int (1 : Int32), mm0), (19, .goto 4, 3, 0, 23, 0, .null, mm0)]
def S_X5_isDigit_22 : List mmMI := [(22, .iconst 0, 1, 0, 0, 0, .int (0 : Int32), mm0)]
def S_X5_isDigit_23 : List mmMI := [(23, .ireturn, 1, 0, 0, 0, .null, mm0)]
def BL_X5_isDigit : mmBl := [(0, S_X5_isDigit_0, 9), (9, S_X5_isDigit_9, 18), (18, S_X5_isDigit_18, 22), (22, S_X5_isDigit_22, 23), (23, S_X5_isDigit_23, 24)]
theorem OB_X5_isDigit : mmOkB M_X5_isDigit BL_X5_isDigit = true := by decide +kernel
theorem OH_X5_isDigit_0 : mmOkB M_X5_isDigit [(0, S_X5_isDigit_0, 9)] = true := by decide +kernel
theorem s0_X5_isDigit_0 {d : Nat} {P : Option Value → mmMem → Prop} {μ : mmMem}  (h : (mmKD 141 = 5) ∧ (mmCI d M_X5_sign false 0 [.ref 141] μ fun y1 ν1 => (y1 < (48 : Int32) → P (some (.int (0 : Int32))) ν1) ∧ (¬ y1 < (48 : Int32) → (mmKD 141 = 5) ∧ (mmCI d M_X5_sign false 0 [.ref 141] ν1 fun y2 ν2 => ((57 : Int32) < y2 → P (some (.int (0 : Int32))) ν2) ∧ (¬ (57 : Int32) < y2 → P (some (.int (1 : Int32))) ν2))))) : mmEnds d M_X5_isDigit 0 [.ref 141] [] μ P := mm_tree 6 OB_X5_isDigit OH_X5_isDigit_0 h
theorem s_X5_isDigit_0 {d : Nat} {P : Option Value → mmMem → Prop} {μ : mmMem}  (hd : 0 ≤ d)  (h : mmCI d M_X5_sign false 0 [.ref 141] μ fun y2 ν1 => (y2 < (48 : Int32) → P (some (.int (0 : Int32))) ν1) ∧ (¬ y2 < (48 : Int32) → mmCI d M_X5_sign false 0 [.ref 141] ν1 fun y8 ν7 => ((57 : Int32) < y8 → P (some (.int (0 : Int32))) ν7) ∧ (¬ (57 : Int32) < y8 → P (some (.int (1 : Int32))) ν7))) : mmEnds d M_X5_isDigit 0 [.ref 141] [] μ P := s0_X5_isDigit_0 (⟨kd_141, (mmCI.mono (h) (fun y2 ν1 h14 => ⟨fun q3 => (have h5 := (h14).1 q3; h5), fun q4 => (have h6 := (h14).2 q4; ⟨kd_141, (mmCI.mono (h6) (fun y8 ν7 h13 => ⟨fun q9 => (have h11 := (h13).1 q9; h11), fun q10 => (have h12 := (h13).2 q10; h12)⟩))⟩)⟩))⟩)
theorem u_X5_isDigit {d : Nat} {K : Int32 → mmMem → Prop} {μ : mmMem}  (hd : 1 ≤ d)  (h : mmCI (d - 1) M_X5_sign false 0 [.ref 141] μ fun y2 ν1 => (y2 < (48 : Int32) → K (0 : Int32) ν1) ∧ (¬ y2 < (48 : Int32) → mmCI (d - 1) M_X5_sign false 0 [.ref 141] ν1 fun y8 ν7 => ((57 : Int32) < y8 → K (0 : Int32) ν7) ∧ (¬ (57 : Int32) < y8 → K (1 : Int32) ν7))) : mmCI d M_X5_isDigit false 0 [.ref 141] μ K :=
  mmCU.of (d' := d - 1) g_X5_isDigit (by decide +kernel) rfl rfl (by omega) (s_X5_isDigit_0 (d := d - 1) (by omega)  h)
theorem g_X5_takeBox : mmGd M_X5_takeBox false 1 := ⟨mm_in 859 (by decide +kernel) rfl, mm_in 16 (by decide +kernel) rfl, by decide +kernel, by decide, ⟨mm_in 857 (by decide +kernel) rfl, mm_in 858 (by decide +kernel) rfl⟩⟩
def S_X5_takeBox_0 : List mmMI := [(0, .aload_n 0, 1, 0, 0, 0, .null, mm0), (1, .bipush 45, 2, 0, 0, 0, .int (45 : Int32), mm0), (3, .invokevirtual 37, 3, 821, 1, 5, .null, M_X5_skip), (6, .istore_n 2, 1, 0, 0, 0, .null, mm0), (7, .iconst 0, 1, 0, 0, 0, .int (0 : Int32), mm0), (8, .istore_n 3, 1, 0, 0, 0, .null, mm0), (9, .lconst 0, 1, 0, 0, 0, .long (0 : Int64), mm0), (10, .lstore 4, 2, 0, 0, 0, .null, mm0)]
def S_X5_takeBox_12 : List mmMI := [(12, .iload_n 3, 1, 0, 0, 0, .null, mm0), (13, .bipush 6, 2, 0, 0, 0, .int (6 : Int32), mm0), (15, .if_icmp .ge 43, 3, 0, 58, 0, .null, mm0)]
def S_X5_takeBox_18 : List mmMI := [(18, .aload_n 0, 1, 0, 0, 0, .null, mm0), (19, .invokevirtual 82, 3, 860, 0, 5, .null, M_X5_isDigit), (22, .ifCond .eq 36, 3, 0, 58, 0, .null, mm0)]
def S_X5_takeBox_25 : List mmMI := [(25, .lload 4, 2, 0, 0, 0, .null, mm0), (27, .ldc2_w 85, 3, 864, 0, 0, .long (10 : Int64), mm0), (30, .lmul, 1, 0, 0, 0, .null, mm0), (31, .aload_n 0, 1, 0, 0, 0, .null, mm0), (32, .invokevirtual 29, 3, 825, 0, 5, .null, M_X5_sign), (35, .bipush 48, 2, 0, 0, 0, .int (48 : Int32), mm0), (37, .isub, 1, 0, 0, 0, .null, mm0), (38, .i2l, 1, 0, 0, 0, .null, mm0), (39, .ladd, 1, 0, 0, 0, .null, mm0), (40, .lstore 4, 2, 0, 0, 0, .null, mm0), (42, .aload_n 0, 1, 0, 0, 0, .null, mm0), (43, .dup, 1, 0, 0, 0, .null, mm0), (44, .getfield 26, 3, 173, 5, 1, .null, mm0), (47, .iconst 1, 1, 0, 0, 0, .int (1 : Int32), mm0), (48, .iadd, 1, 0, 0, 0, .null, mm0), (49, .putfield 26, 3, 173, 5, 1, .null, mm0), (52, .iinc 3 1, 3, 0, 0, 0, .int (1 : Int32), mm0), (55, .goto (-43), 3, 0, 12, 0, .null, mm0)]
def S_X5_takeBox_58 : List mmMI := [(58, .aload_n 0, 1, 0, 0, 0, .null, mm0), (59, .getfield 18, 3, 176, 5, 3, .null, mm0), (62, .iload_n 1, 1, 0, 0, 0, .null, mm0), (63, .iload_n 2, 1, 0, 0, 0, .null, mm0), (64, .ifCond .eq 9, 3, 0, 73, 0, .null, mm0)]
def S_X5_takeBox_67 : List mmMI := [(67, .lload 4, 2, 0, 0, 0, .null, mm0), (69, .lneg, 1, 0, 0, 0, .null, mm0), (70, .goto 5, 3, 0, 75, 0, .null, mm0)]
def S_X5_takeBox_73 : List mmMI := [(73, .lload 4, 2, 0, 0, 0, .null, mm0)]
def S_X5_takeBox_75 : List mmMI := [(75, .invokevirtual 87, 3, 865, 2, 0, .null, M_X0_make), (78, .iload_n 3, 1, 0, 0, 0, .null, mm0), (79, .ifCond .le 7, 3, 0, 86, 0, .null, mm0)]
def S_X5_takeBox_82 : List mmMI := [(82, .iconst 1, 1, 0, 0, 0, .int (1 : Int32), mm0), (83, .goto 4, 3, 0, 87, 0, .null, mm0)]
def S_X5_takeBox_86 : List mmMI := [(86, .iconst 0, 1, 0, 0, 0, .int (0 : Int32), mm0)]
def S_X5_takeBox_87 : List mmMI := [(87, .ireturn, 1, 0, 0, 0, .null, mm0)]
def BL_X5_takeBox : mmBl := [(0, S_X5_takeBox_0, 12), (18, S_X5_takeBox_18, 25), (25, S_X5_takeBox_25, 58), (58, S_X5_takeBox_58, 67), (67, S_X5_takeBox_67, 73), (73, S_X5_takeBox_73, 75), (75, S_X5_takeBox_75, 82), (82, S_X5_takeBox_82, 86), (86, S_X5_takeBox_86, 87), (87, S_X5_takeBox_87, 88)]
theorem OB_X5_takeBox : mmOkB M_X5_takeBox BL_X5_takeBox = true := by decide +kernel
theorem OH_X5_takeBox_0 : mmOkB M_X5_takeBox [(0, S_X5_takeBox_0, 12)] = true := by decide +kernel
theorem s0_X5_takeBox_0 {d : Nat} {P : Option Value → mmMem → Prop} {μ : mmMem} {x1 : Int32} (h : (mmKD 141 = 5) ∧ (mmCI d M_X5_skip false 1 [.ref 141, .int (45 : Int32)] μ fun y1 ν1 => mmEnds d M_X5_takeBox 12 [.ref 141, .int x1, .int y1, .int (0 : Int32), .long (0 : Int64), .retAddr 7] [] ν1 P)) : mmEnds d M_X5_takeBox 0 [.ref 141, .int x1, .retAddr 7, .retAddr 7, .retAddr 7, .retAddr 7] [] μ P := mm_tree 11 OB_X5_takeBox OH_X5_takeBox_0 h
theorem s_X5_takeBox_0 {d : Nat} {P : Option Value → mmMem → Prop} {μ : mmMem} {x1 : Int32} (hd : 0 ≤ d)  (h : mmCI d M_X5_skip false 1 [.ref 141, .int (45 : Int32)] μ fun y2 ν1 => mmEnds d M_X5_takeBox 12 [.ref 141, .int x1, .int y2, .int (0 : Int32), .long (0 : Int64), .retAddr 7] [] ν1 P) : mmEnds d M_X5_takeBox 0 [.ref 141, .int x1, .retAddr 7, .retAddr 7, .retAddr 7, .retAddr 7] [] μ P := s0_X5_takeBox_0 (⟨kd_141, (mmCI.mono (h) (fun y2 ν1 h3 => h3))⟩)
theorem OH_X5_takeBox_12 : mmOkB M_X5_takeBox [(12, S_X5_takeBox_12, 18)] = true := by decide +kernel
set_option maxRecDepth 10000 in
theorem s0_X5_takeBox_12 {d : Nat} {P : Option Value → mmMem → Prop} {μ : mmMem} {x1 : Int32} {x2 : Int32} {x3 : Int32} {x4 : Int64} (h : ((6 : Int32) ≤ x3 → (mmKD 141 = 5) ∧ ((x2 = (0 : Int32) → (mmKD 143 = 0) ∧ (mmC0 d M_X0_make false 2 [.ref 143, .int x1, .long x4] μ fun ν1 => (x3 ≤ (0 : Int32) → P (some (.int (0 : Int32))) ν1) ∧ (¬ x3 ≤ (0 : Int32) → P (some (.int (1 : Int32))) ν1))) ∧ (¬ x2 = (0 : Int32) → (mmKD 143 = 0) ∧ (mmC0 d M_X0_make false 2 [.ref 143, .int x1, .long (-x4)] μ fun ν2 => (x3 ≤ (0 : Int32) → P (some (.int (0 : Int32))) ν2) ∧ (¬ x3 ≤ (0 : Int32) → P (some (.int (1 : Int32))) ν2))))) ∧ (¬ (6 : Int32) ≤ x3 → (mmKD 141 = 5) ∧ (mmCI d M_X5_isDigit false 0 [.ref 141] μ fun y3 ν3 => (y3 = (0 : Int32) → (mmKD 141 = 5) ∧ ((x2 = (0 : Int32) → (mmKD 143 = 0) ∧ (mmC0 d M_X0_make false 2 [.ref 143, .int x1, .long x4] ν3 fun ν4 => (x3 ≤ (0 : Int32) → P (some (.int (0 : Int32))) ν4) ∧ (¬ x3 ≤ (0 : Int32) → P (some (.int (1 : Int32))) ν4))) ∧ (¬ x2 = (0 : Int32) → (mmKD 143 = 0) ∧ (mmC0 d M_X0_make false 2 [.ref 143, .int x1, .long (-x4)] ν3 fun ν5 => (x3 ≤ (0 : Int32) → P (some (.int (0 : Int32))) ν5) ∧ (¬ x3 ≤ (0 : Int32) → P (some (.int (1 : Int32))) ν5))))) ∧ (¬ y3 = (0 : Int32) → (mmKD 141 = 5) ∧ (mmCI d M_X5_sign false 0 [.ref 141] ν3 fun y6 ν6 => (mmKD 141 = 5) ∧ ((mmKD 141 = 5) ∧ (mmEnds d M_X5_takeBox 12 [.ref 141, .int x1, .int x2, .int (x3 + (1 : Int32)), .long ((x4 * (10 : Int64)) + ((y6 - (48 : Int32)).toInt64)), .retAddr 7] [] (sI ν6 141 1 ((ν6.1 141 1) + (1 : Int32))) P))))))) : mmEnds d M_X5_takeBox 12 [.ref 141, .int x1, .int x2, .int x3, .long x4, .retAddr 7] [] μ P := mm_tree 11 OB_X5_takeBox OH_X5_takeBox_12 h
set_option maxRecDepth 10000 in
theorem s_X5_takeBox_12 {d : Nat} {P : Option Value → mmMem → Prop} {μ : mmMem} {x1 : Int32} {x2 : Int32} {x3 : Int32} {x4 : Int64} (hd : 0 ≤ d)  (h : ((6 : Int32) ≤ x3 → (x2 = (0 : Int32) → mmC0 d M_X0_make false 2 [.ref 143, .int x1, .long x4] μ fun ν9 => P (some (.int (1 : Int32))) ν9) ∧ (¬ x2 = (0 : Int32) → mmC0 d M_X0_make false 2 [.ref 143, .int x1, .long (-x4)] μ fun ν12 => P (some (.int (1 : Int32))) ν12)) ∧ (¬ (6 : Int32) ≤ x3 → mmCI d M_X5_isDigit false 0 [.ref 141] μ fun y16 ν15 => (y16 = (0 : Int32) → (x2 = (0 : Int32) → mmC0 d M_X0_make false 2 [.ref 143, .int x1, .long x4] ν15 fun ν25 => (x3 ≤ (0 : Int32) → P (some (.int (0 : Int32))) ν25) ∧ (¬ x3 ≤ (0 : Int32) → P (some (.int (1 : Int32))) ν25)) ∧ (¬ x2 = (0 : Int32) → mmC0 d M_X0_make false 2 [.ref 143, .int x1, .long (-x4)] ν15 fun ν31 => (x3 ≤ (0 : Int32) → P (some (.int (0 : Int32))) ν31) ∧ (¬ x3 ≤ (0 : Int32) → P (some (.int (1 : Int32))) ν31))) ∧ (¬ y16 = (0 : Int32) → mmCI d M_X5_sign false 0 [.ref 141] ν15 fun y38 ν37 => mmEnds d M_X5_takeBox 12 [.ref 141, .int x1, .int x2, .int (x3 + (1 : Int32)), .long ((x4 * (10 : Int64)) + ((y38 - (48 : Int32)).toInt64)), .retAddr 7] [] (sI ν37 141 1 ((ν37.1 141 1) + (1 : Int32))) P))) : mmEnds d M_X5_takeBox 12 [.ref 141, .int x1, .int x2, .int x3, .long x4, .retAddr 7] [] μ P := s0_X5_takeBox_12 (⟨fun q1 => (have h3 := (h).1 q1; ⟨kd_141, ⟨fun q5 => (have h7 := (h3).1 q5; ⟨kd_143, (mmC0.mono (h7) (fun ν9 h11 => ⟨fun q10 => absurd q10 (by have := q1; simp only [Int32.lt_iff_toInt_lt, Int32.le_iff_toInt_le] at this ⊢; simp at this ⊢; omega), fun _ => h11⟩))⟩), fun q6 => (have h8 := (h3).2 q6; ⟨kd_143, (mmC0.mono (h8) (fun ν12 h14 => ⟨fun q13 => absurd q13 (by have := q1; simp only [Int32.lt_iff_toInt_lt, Int32.le_iff_toInt_le] at this ⊢; simp at this ⊢; omega), fun _ => h14⟩))⟩)⟩⟩), fun q2 => (have h4 := (h).2 q2; ⟨kd_141, (mmCI.mono (h4) (fun y16 ν15 h40 => ⟨fun q17 => (have h19 := (h40).1 q17; ⟨kd_141, ⟨fun q21 => (have h23 := (h19).1 q21; ⟨kd_143, (mmC0.mono (h23) (fun ν25 h30 => ⟨fun q26 => (have h28 := (h30).1 q26; h28), fun q27 => (have h29 := (h30).2 q27; h29)⟩))⟩), fun q22 => (have h24 := (h19).2 q22; ⟨kd_143, (mmC0.mono (h24) (fun ν31 h36 => ⟨fun q32 => (have h34 := (h36).1 q32; h34), fun q33 => (have h35 := (h36).2 q33; h35)⟩))⟩)⟩⟩), fun q18 => (have h20 := (h40).2 q18; ⟨kd_141, (mmCI.mono (h20) (fun y38 ν37 h39 => ⟨kd_141, ⟨kd_141, h39⟩⟩))⟩)⟩))⟩)⟩)
theorem u_X5_takeBox {d : Nat} {K : Int32 → mmMem → Prop} {μ : mmMem} {x1 : Int32} (hd : 1 ≤ d)  (h : mmCI (d - 1) M_X5_skip false 1 [.ref 141, .int (45 : Int32)] μ fun y2 ν1 => mmEnds (d - 1) M_X5_takeBox 12 [.ref 141, .int x1, .int y2, .int (0 : Int32), .long (0 : Int64), .retAddr 7] [] ν1 (mmPI K)) : mmCI d M_X5_takeBox false 1 [.ref 141, .int x1] μ K :=
  mmCU.of (d' := d - 1) g_X5_takeBox (by decide +kernel) rfl rfl (by omega) (s_X5_takeBox_0 (d := d - 1) (by omega)  h)
theorem g_X5_takeKind : mmGd M_X5_takeKind false 1 := ⟨mm_in 818 (by decide +kernel) rfl, mm_in 16 (by decide +kernel) rfl, by decide +kernel, by decide, ⟨mm_in 816 (by decide +kernel) rfl, mm_in 817 (by decide +kernel) rfl⟩⟩
def S_X5_takeKind_0 : List mmMI := [(0, .iconst 0, 1, 0, 0, 0, .int (0 : Int32), mm0), (1, .istore_n 2, 1, 0, 0, 0, .null, mm0)]
def S_X5_takeKind_2 : List mmMI := [(2, .iload_n 2, 1, 0, 0, 0, .null, mm0), (3, .iload_n 1, 1, 0, 0, 0, .null, mm0), (4, .if_icmp .gt 24, 3, 0, 28, 0, .null, mm0)]
def S_X5_takeKind_7 : List mmMI := [(7, .aload_n 0, 1, 0, 0, 0, .null, mm0), (8, .ldc 51, 2, 0, 0, 0, .retAddr 0, mm0), (10, .iload_n 2, 1, 0, 0, 0, .null, mm0), (11, .invokevirtual 53, 3, 820, 1, 98, .null, M_J0_charAt_5068e), (14, .invokevirtual 37, 3, 821, 1, 5, .null, M_X5_skip), (17, .ifCond .eq 5, 3, 0, 22, 0, .null, mm0)]
def S_X5_takeKind_20 : List mmMI := [(20, .iload_n 2, 1, 0, 0, 0, .null, mm0), (21, .ireturn, 1, 0, 0, 0, .null, mm0)]
def S_X5_takeKind_22 : List mmMI := [(22, .iinc 2 1, 3, 0, 0, 0, .int (1 : Int32), mm0), (25, .goto (-23), 3, 0, 2, 0, .null, mm0)]
def S_X5_takeKind_28 : List mmMI := [(28, .iconst (-1), 1, 0, 0, 0, .int (-1 : Int32), mm0), (29, .ireturn, 1, 0, 0, 0, .null, mm0)]
def BL_X5_takeKind : mmBl := [(0, S_X5_takeKind_0, 2), (7, S_X5_takeKind_7, 20), (20, S_X5_takeKind_20, 22), (22, S_X5_takeKind_22, 28), (28, S_X5_takeKind_28, 30)]
theorem OB_X5_takeKind : mmOkB M_X5_takeKind BL_X5_takeKind = true := by decide +kernel
theorem OH_X5_takeKind_0 : mmOkB M_X5_takeKind [(0, S_X5_takeKind_0, 2)] = true := by decide +kernel
theorem s0_X5_takeKind_0 {d : Nat} {P : Option Value → mmMem → Prop} {μ : mmMem} {x1 : Int32} (h : mmEnds d M_X5_takeKind 2 [.ref 141, .int x1, .int (0 : Int32)] [] μ P) : mmEnds d M_X5_takeKind 0 [.ref 141, .int x1, .retAddr 7] [] μ P := mm_tree 6 OB_X5_takeKind OH_X5_takeKind_0 h
theorem s_X5_takeKind_0 {d : Nat} {P : Option Value → mmMem → Prop} {μ : mmMem} {x1 : Int32} (hd : 0 ≤ d)  (h : mmEnds d M_X5_takeKind 2 [.ref 141, .int x1, .int (0 : Int32)] [] μ P) : mmEnds d M_X5_takeKind 0 [.ref 141, .int x1, .retAddr 7] [] μ P := s0_X5_takeKind_0 h
theorem OH_X5_takeKind_2 : mmOkB M_X5_takeKind [(2, S_X5_takeKind_2, 7)] = true := by decide +kernel
theorem s0_X5_takeKind_2 {d : Nat} {P : Option Value → mmMem → Prop} {μ : mmMem} {x1 : Int32} {x2 : Int32} (h : (x1 < x2 → P (some (.int (-1 : Int32))) μ) ∧ (¬ x1 < x2 → mmCI d M_J0_charAt_5068e false 1 [.retAddr 0, .int x2] μ fun y1 ν1 => (mmKD 141 = 5) ∧ (mmCI d M_X5_skip false 1 [.ref 141, .int y1] ν1 fun y2 ν2 => (y2 = (0 : Int32) → mmEnds d M_X5_takeKind 2 [.ref 141, .int x1, .int (x2 + (1 : Int32))] [] ν2 P) ∧ (¬ y2 = (0 : Int32) → P (some (.int x2)) ν2)))) : mmEnds d M_X5_takeKind 2 [.ref 141, .int x1, .int x2] [] μ P := mm_tree 6 OB_X5_takeKind OH_X5_takeKind_2 h
theorem s_X5_takeKind_2 {d : Nat} {P : Option Value → mmMem → Prop} {μ : mmMem} {x1 : Int32} {x2 : Int32} (hd : 0 ≤ d)  (h : (x1 < x2 → P (some (.int (-1 : Int32))) μ) ∧ (¬ x1 < x2 → mmCI d M_J0_charAt_5068e false 1 [.retAddr 0, .int x2] μ fun y6 ν5 => mmCI d M_X5_skip false 1 [.ref 141, .int y6] ν5 fun y8 ν7 => (y8 = (0 : Int32) → mmEnds d M_X5_takeKind 2 [.ref 141, .int x1, .int (x2 + (1 : Int32))] [] ν7 P) ∧ (¬ y8 = (0 : Int32) → P (some (.int x2)) ν7))) : mmEnds d M_X5_takeKind 2 [.ref 141, .int x1, .int x2] [] μ P := s0_X5_takeKind_2 (⟨fun q1 => (have h3 := (h).1 q1; h3), fun q2 => (have h4 := (h).2 q2; (mmCI.mono (h4) (fun y6 ν5 h14 => ⟨kd_141, (mmCI.mono (h14) (fun y8 ν7 h13 => ⟨fun q9 => (have h11 := (h13).1 q9; h11), fun q10 => (have h12 := (h13).2 q10; h12)⟩))⟩)))⟩)
theorem u_X5_takeKind {d : Nat} {K : Int32 → mmMem → Prop} {μ : mmMem} {x1 : Int32} (hd : 1 ≤ d)  (h : mmEnds (d - 1) M_X5_takeKind 2 [.ref 141, .int x1, .int (0 : Int32)] [] μ (mmPI K)) : mmCI d M_X5_takeKind false 1 [.ref 141, .int x1] μ K :=
  mmCU.of (d' := d - 1) g_X5_takeKind (by decide +kernel) rfl rfl (by omega) (s_X5_takeKind_0 (d := d - 1) (by omega)  h)
theorem g_X5_isLetter : mmGd M_X5_isLetter false 0 := ⟨mm_in 849 (by decide +kernel) rfl, mm_in 16 (by decide +kernel) rfl, by decide +kernel, by decide, ⟨mm_in 847 (by decide +kernel) rfl, mm_in 848 (by decide +kernel) rfl⟩⟩
def S_X5_isLetter_0 : List mmMI := [(0, .aload_n 0, 1, 0, 0, 0, .null, mm0), (1, .invokevirtual 29, 3, 825, 0, 5, .null, M_X5_sign), (4, .bipush 97, 2, 0, 0, 0, .int (97 : Int32), mm0), (6, .if_icmp .lt 16, 3, 0, 22, 0, .null, mm0)]
def S_X5_isLetter_9 : List mmMI := [(9, .aload_n 0, 1, 0, 0, 0, .null, mm0), (10, .invokevirtual 29, 3, 825, 0, 5, .null, M_X5_sign), (13, .bipush 122, 2, 0, 0, 0, .int (122 : Int32), mm0), (15, .if_icmp .gt 7, 3, 0, 22, 0, .null, mm0)]
def S_X5_isLetter_18 : List mmMI := [(18, .iconst 1, 1, 0, 0, 0, .int (1 : Int32), mm0), (19, .goto 4, 3, 0, 23, 0, .null, mm0)]
def S_X5_isLetter_22 : List mmMI := [(22, .iconst 0, 1, 0, 0, 0, .int (0 : Int32), mm0)]
def S_X5_isLetter_23 : List mmMI := [(23, .ireturn, 1, 0, 0, 0, .null, mm0)]
def BL_X5_isLetter : mmBl := [(0, S_X5_isLetter_0, 9), (9, S_X5_isLetter_9, 18), (18, S_X5_isLetter_18, 22), (22, S_X5_isLetter_22, 23), (23, S_X5_isLetter_23, 24)]
theorem OB_X5_isLetter : mmOkB M_X5_isLetter BL_X5_isLetter = true := by decide +kernel
theorem OH_X5_isLetter_0 : mmOkB M_X5_isLetter [(0, S_X5_isLetter_0, 9)] = true := by decide +kernel
theorem s0_X5_isLetter_0 {d : Nat} {P : Option Value → mmMem → Prop} {μ : mmMem}  (h : (mmKD 141 = 5) ∧ (mmCI d M_X5_sign false 0 [.ref 141] μ fun y1 ν1 => (y1 < (97 : Int32) → P (some (.int (0 : Int32))) ν1) ∧ (¬ y1 < (97 : Int32) → (mmKD 141 = 5) ∧ (mmCI d M_X5_sign false 0 [.ref 141] ν1 fun y2 ν2 => ((122 : Int32) < y2 → P (some (.int (0 : Int32))) ν2) ∧ (¬ (122 : Int32) < y2 → P (some (.int (1 : Int32))) ν2))))) : mmEnds d M_X5_isLetter 0 [.ref 141] [] μ P := mm_tree 6 OB_X5_isLetter OH_X5_isLetter_0 h
theorem s_X5_isLetter_0 {d : Nat} {P : Option Value → mmMem → Prop} {μ : mmMem}  (hd : 0 ≤ d)  (h : mmCI d M_X5_sign false 0 [.ref 141] μ fun y2 ν1 => (y2 < (97 : Int32) → P (some (.int (0 : Int32))) ν1) ∧ (¬ y2 < (97 : Int32) → mmCI d M_X5_sign false 0 [.ref 141] ν1 fun y8 ν7 => ((122 : Int32) < y8 → P (some (.int (0 : Int32))) ν7) ∧ (¬ (122 : Int32) < y8 → P (some (.int (1 : Int32))) ν7))) : mmEnds d M_X5_isLetter 0 [.ref 141] [] μ P := s0_X5_isLetter_0 (⟨kd_141, (mmCI.mono (h) (fun y2 ν1 h14 => ⟨fun q3 => (have h5 := (h14).1 q3; h5), fun q4 => (have h6 := (h14).2 q4; ⟨kd_141, (mmCI.mono (h6) (fun y8 ν7 h13 => ⟨fun q9 => (have h11 := (h13).1 q9; h11), fun q10 => (have h12 := (h13).2 q10; h12)⟩))⟩)⟩))⟩)
theorem u_X5_isLetter {d : Nat} {K : Int32 → mmMem → Prop} {μ : mmMem}  (hd : 1 ≤ d)  (h : mmCI (d - 1) M_X5_sign false 0 [.ref 141] μ fun y2 ν1 => (y2 < (97 : Int32) → K (0 : Int32) ν1) ∧ (¬ y2 < (97 : Int32) → mmCI (d - 1) M_X5_sign false 0 [.ref 141] ν1 fun y8 ν7 => ((122 : Int32) < y8 → K (0 : Int32) ν7) ∧ (¬ (122 : Int32) < y8 → K (1 : Int32) ν7))) : mmCI d M_X5_isLetter false 0 [.ref 141] μ K :=
  mmCU.of (d' := d - 1) g_X5_isLetter (by decide +kernel) rfl rfl (by omega) (s_X5_isLetter_0 (d := d - 1) (by omega)  h)
theorem g_X5_takeWord : mmGd M_X5_takeWord false 0 := ⟨mm_in 845 (by decide +kernel) rfl, mm_in 16 (by decide +kernel) rfl, by decide +kernel, by decide, ⟨mm_in 843 (by decide +kernel) rfl, mm_in 844 (by decide +kernel) rfl⟩⟩
def S_X5_takeWord_0 : List mmMI := [(0, .aload_n 0, 1, 0, 0, 0, .null, mm0), (1, .invokevirtual 91, 3, 846, 0, 5, .null, M_X5_isLetter), (4, .ifCond .ne 5, 3, 0, 9, 0, .null, mm0)]
def S_X5_takeWord_7 : List mmMI := [(7, .iconst 0, 1, 0, 0, 0, .int (0 : Int32), mm0), (8, .ireturn, 1, 0, 0, 0, .null, mm0)]
def S_X5_takeWord_9 : List mmMI := [(9, .aload_n 0, 1, 0, 0, 0, .null, mm0), (10, .invokevirtual 29, 3, 825, 0, 5, .null, M_X5_sign), (13, .bipush 97, 2, 0, 0, 0, .int (97 : Int32), mm0), (15, .isub, 1, 0, 0, 0, .null, mm0), (16, .iconst 1, 1, 0, 0, 0, .int (1 : Int32), mm0), (17, .iadd, 1, 0, 0, 0, .null, mm0), (18, .i2l, 1, 0, 0, 0, .null, mm0), (19, .lstore_n 1, 1, 0, 0, 0, .null, mm0), (20, .aload_n 0, 1, 0, 0, 0, .null, mm0), (21, .dup, 1, 0, 0, 0, .null, mm0), (22, .getfield 26, 3, 173, 5, 1, .null, mm0), (25, .iconst 1, 1, 0, 0, 0, .int (1 : Int32), mm0), (26, .iadd, 1, 0, 0, 0, .null, mm0), (27, .putfield 26, 3, 173, 5, 1, .null, mm0), (30, .aload_n 0, 1, 0, 0, 0, .null, mm0), (31, .invokevirtual 91, 3, 846, 0, 5, .null, M_X5_isLetter), (34, .ifCond .eq 30, 3, 0, 64, 0, .null, mm0)]
def S_X5_takeWord_37 : List mmMI := [(37, .lload_n 1, 1, 0, 0, 0, .null, mm0), (38, .ldc2_w 94, 3, 850, 0, 0, .long (26 : Int64), mm0), (41, .lmul, 1, 0, 0, 0, .null, mm0), (42, .aload_n 0, 1, 0, 0, 0, .null, mm0), (43, .invokevirtual 29, 3, 825, 0, 5, .null, M_X5_sign), (46, .bipush 97, 2, 0, 0, 0, .int (97 : Int32), mm0), (48, .isub, 1, 0, 0, 0, .null, mm0), (49, .iconst 1, 1, 0, 0, 0, .int (1 : Int32), mm0), (50, .iadd, 1, 0, 0, 0, .null, mm0), (51, .i2l, 1, 0, 0, 0, .null, mm0), (52, .ladd, 1, 0, 0, 0, .null, mm0), (53, .lstore_n 1, 1, 0, 0, 0, .null, mm0), (54, .aload_n 0, 1, 0, 0, 0, .null, mm0), (55, .dup, 1, 0, 0, 0, .null, mm0), (56, .getfield 26, 3, 173, 5, 1, .null, mm0), (59, .iconst 1, 1, 0, 0, 0, .int (1 : Int32), mm0), (60, .iadd, 1, 0, 0, 0, .null, mm0), (61, .putfield 26, 3, 173, 5, 1, .null, mm0)]
def S_X5_takeWord_64 : List mmMI := [(64, .aload_n 0, 1, 0, 0, 0, .null, mm0), (65, .getfield 18, 3, 176, 5, 3, .null, mm0), (68, .lload_n 1, 1, 0, 0, 0, .null, mm0), (69, .invokevirtual 96, 3, 851, 1, 0, .null, M_X0_setWord), (72, .iconst 1, 1, 0, 0, 0, .int (1 : Int32), mm0), (73, .ireturn, 1, 0, 0, 0, .null, mm0)]
def BL_X5_takeWord : mmBl := [(0, S_X5_takeWord_0, 7), (7, S_X5_takeWord_7, 9), (9, S_X5_takeWord_9, 37), (37, S_X5_takeWord_37, 64), (64, S_X5_takeWord_64, 74)]
theorem OB_X5_takeWord : mmOkB M_X5_takeWord BL_X5_takeWord = true := by decide +kernel
theorem OH_X5_takeWord_0 : mmOkB M_X5_takeWord [(0, S_X5_takeWord_0, 7)] = true := by decide +kernel
set_option maxRecDepth 10000 in
theorem s0_X5_takeWord_0 {d : Nat} {P : Option Value → mmMem → Prop} {μ : mmMem}  (h : (mmKD 141 = 5) ∧ (mmCI d M_X5_isLetter false 0 [.ref 141] μ fun y1 ν1 => (¬ y1 = (0 : Int32) → (mmKD 141 = 5) ∧ (mmCI d M_X5_sign false 0 [.ref 141] ν1 fun y2 ν2 => (mmKD 141 = 5) ∧ ((mmKD 141 = 5) ∧ ((mmKD 141 = 5) ∧ (mmCI d M_X5_isLetter false 0 [.ref 141] (sI ν2 141 1 ((ν2.1 141 1) + (1 : Int32))) fun y3 ν3 => (y3 = (0 : Int32) → (mmKD 141 = 5) ∧ ((mmKD 143 = 0) ∧ (mmC0 d M_X0_setWord false 1 [.ref 143, .long (((y2 - (97 : Int32)) + (1 : Int32)).toInt64)] ν3 fun ν4 => P (some (.int (1 : Int32))) ν4))) ∧ (¬ y3 = (0 : Int32) → (mmKD 141 = 5) ∧ (mmCI d M_X5_sign false 0 [.ref 141] ν3 fun y5 ν5 => (mmKD 141 = 5) ∧ ((mmKD 141 = 5) ∧ ((mmKD 141 = 5) ∧ ((mmKD 143 = 0) ∧ (mmC0 d M_X0_setWord false 1 [.ref 143, .long (((((y2 - (97 : Int32)) + (1 : Int32)).toInt64) * (26 : Int64)) + (((y5 - (97 : Int32)) + (1 : Int32)).toInt64))] (sI ν5 141 1 ((ν5.1 141 1) + (1 : Int32))) fun ν6 => P (some (.int (1 : Int32))) ν6))))))))))) ∧ (y1 = (0 : Int32) → P (some (.int (0 : Int32))) ν1))) : mmEnds d M_X5_takeWord 0 [.ref 141, .retAddr 7, .retAddr 7] [] μ P := mm_tree 6 OB_X5_takeWord OH_X5_takeWord_0 h
set_option maxRecDepth 10000 in
theorem s_X5_takeWord_0 {d : Nat} {P : Option Value → mmMem → Prop} {μ : mmMem}  (hd : 1 ≤ d)  (h : mmCI d M_X5_isLetter false 0 [.ref 141] μ fun y2 ν1 => (¬ y2 = (0 : Int32) → mmCI d M_X5_sign false 0 [.ref 141] ν1 fun y8 ν7 => mmCI d M_X5_isLetter false 0 [.ref 141] (sI ν7 141 1 ((ν7.1 141 1) + (1 : Int32))) fun y10 ν9 => (y10 = (0 : Int32) → P (some (.int (1 : Int32))) (sD (sJ (sI ν9 143 0 (10 : Int32)) 143 1 (((y8 - (97 : Int32)) + (1 : Int32)).toInt64)) 143 2 FP.dconst0)) ∧ (¬ y10 = (0 : Int32) → mmCI d M_X5_sign false 0 [.ref 141] ν9 fun y16 ν15 => P (some (.int (1 : Int32))) (sD (sJ (sI (sI ν15 141 1 ((ν15.1 141 1) + (1 : Int32))) 143 0 (10 : Int32)) 143 1 (((((y8 - (97 : Int32)) + (1 : Int32)).toInt64) * (26 : Int64)) + (((y16 - (97 : Int32)) + (1 : Int32)).toInt64))) 143 2 FP.dconst0))) ∧ (y2 = (0 : Int32) → P (some (.int (0 : Int32))) ν1)) : mmEnds d M_X5_takeWord 0 [.ref 141, .retAddr 7, .retAddr 7] [] μ P := s0_X5_takeWord_0 (⟨kd_141, (mmCI.mono (h) (fun y2 ν1 h20 => ⟨fun q3 => (have h5 := (h20).1 q3; ⟨kd_141, (mmCI.mono (h5) (fun y8 ν7 h19 => ⟨kd_141, ⟨kd_141, ⟨kd_141, (mmCI.mono (h19) (fun y10 ν9 h18 => ⟨fun q11 => (have h13 := (h18).1 q11; ⟨kd_141, ⟨kd_143, (u_X0_setWord (by omega) kd_143 h13)⟩⟩), fun q12 => (have h14 := (h18).2 q12; ⟨kd_141, (mmCI.mono (h14) (fun y16 ν15 h17 => ⟨kd_141, ⟨kd_141, ⟨kd_141, ⟨kd_143, (u_X0_setWord (by omega) kd_143 h17)⟩⟩⟩⟩))⟩)⟩))⟩⟩⟩))⟩), fun q4 => (have h6 := (h20).2 q4; h6)⟩))⟩)
set_option maxRecDepth 10000 in
theorem u_X5_takeWord {d : Nat} {K : Int32 → mmMem → Prop} {μ : mmMem}  (hd : 2 ≤ d)  (h : mmCI (d - 1) M_X5_isLetter false 0 [.ref 141] μ fun y2 ν1 => (¬ y2 = (0 : Int32) → mmCI (d - 1) M_X5_sign false 0 [.ref 141] ν1 fun y8 ν7 => mmCI (d - 1) M_X5_isLetter false 0 [.ref 141] (sI ν7 141 1 ((ν7.1 141 1) + (1 : Int32))) fun y10 ν9 => (y10 = (0 : Int32) → K (1 : Int32) (sD (sJ (sI ν9 143 0 (10 : Int32)) 143 1 (((y8 - (97 : Int32)) + (1 : Int32)).toInt64)) 143 2 FP.dconst0)) ∧ (¬ y10 = (0 : Int32) → mmCI (d - 1) M_X5_sign false 0 [.ref 141] ν9 fun y16 ν15 => K (1 : Int32) (sD (sJ (sI (sI ν15 141 1 ((ν15.1 141 1) + (1 : Int32))) 143 0 (10 : Int32)) 143 1 (((((y8 - (97 : Int32)) + (1 : Int32)).toInt64) * (26 : Int64)) + (((y16 - (97 : Int32)) + (1 : Int32)).toInt64))) 143 2 FP.dconst0))) ∧ (y2 = (0 : Int32) → K (0 : Int32) ν1)) : mmCI d M_X5_takeWord false 0 [.ref 141] μ K :=
  mmCU.of (d' := d - 1) g_X5_takeWord (by decide +kernel) rfl rfl (by omega) (s_X5_takeWord_0 (d := d - 1) (by omega)  h)
theorem g_X5_takeItem : mmGd M_X5_takeItem false 1 := ⟨mm_in 837 (by decide +kernel) rfl, mm_in 16 (by decide +kernel) rfl, by decide +kernel, by decide, ⟨mm_in 835 (by decide +kernel) rfl, mm_in 836 (by decide +kernel) rfl⟩⟩
def S_X5_takeItem_0 : List mmMI := [(0, .iload_n 1, 1, 0, 0, 0, .null, mm0), (1, .bipush 7, 2, 0, 0, 0, .int (7 : Int32), mm0), (3, .if_icmp .le 21, 3, 0, 24, 0, .null, mm0)]
def S_X5_takeItem_6 : List mmMI := [(6, .aload_n 0, 1, 0, 0, 0, .null, mm0), (7, .bipush 95, 2, 0, 0, 0, .int (95 : Int32), mm0), (9, .invokevirtual 37, 3, 821, 1, 5, .null, M_X5_skip), (12, .ifCond .eq 12, 3, 0, 24, 0, .null, mm0)]
def S_X5_takeItem_15 : List mmMI := [(15, .aload_n 0, 1, 0, 0, 0, .null, mm0), (16, .getfield 18, 3, 176, 5, 3, .null, mm0), (19, .invokevirtual 69, 3, 838, 0, 0, .null, M_X0_setEmpty), (22, .iconst 1, 1, 0, 0, 0, .int (1 : Int32), mm0), (23, .ireturn, 1, 0, 0, 0, .null, mm0)]
def S_X5_takeItem_24 : List mmMI := [(24, .iload_n 1, 1, 0, 0, 0, .null, mm0), (25, .bipush 10, 2, 0, 0, 0, .int (10 : Int32), mm0), (27, .if_icmp .eq 18, 3, 0, 45, 0, .null, mm0)]
def S_X5_takeItem_30 : List mmMI := [(30, .iload_n 1, 1, 0, 0, 0, .null, mm0), (31, .bipush 9, 2, 0, 0, 0, .int (9 : Int32), mm0), (33, .if_icmp .ne 17, 3, 0, 50, 0, .null, mm0)]
def S_X5_takeItem_36 : List mmMI := [(36, .aload_n 0, 1, 0, 0, 0, .null, mm0), (37, .bipush 39, 2, 0, 0, 0, .int (39 : Int32), mm0), (39, .invokevirtual 37, 3, 821, 1, 5, .null, M_X5_skip), (42, .ifCond .eq 8, 3, 0, 50, 0, .null, mm0)]
def S_X5_takeItem_45 : List mmMI := [(45, .aload_n 0, 1, 0, 0, 0, .null, mm0), (46, .invokevirtual 72, 3, 842, 0, 5, .null, M_X5_takeWord), (49, .ireturn, 1, 0, 0, 0, .null, mm0)]
def S_X5_takeItem_50 : List mmMI := [(50, .iload_n 1, 1, 0, 0, 0, .null, mm0), (51, .bipush 9, 2, 0, 0, 0, .int (9 : Int32), mm0), (53, .if_icmp .ne 12, 3, 0, 65, 0, .null, mm0)]
def S_X5_takeItem_56 : List mmMI := [(56, .aload_n 0, 1, 0, 0, 0, .null, mm0), (57, .bipush 7, 2, 0, 0, 0, .int (7 : Int32), mm0), (59, .invokevirtual 33, 3, 815, 1, 5, .null, M_X5_takeKind), (62, .goto 7, 3, 0, 69, 0, .null, mm0)]
def S_X5_takeItem_65 : List mmMI := [(65, .iload_n 1, 1, 0, 0, 0, .null, mm0), (66, .invokestatic 76, 3, 0, 1, 1, .null, M_X7_boxKindIn)]
def S_X5_takeItem_69 : List mmMI := [(69, .istore_n 2, 1, 0, 0, 0, .null, mm0), (70, .iload_n 2, 1, 0, 0, 0, .null, mm0), (71, .ifCond .lt 15, 3, 0, 86, 0, .null, mm0)]
def S_X5_takeItem_74 : List mmMI := [(74, .aload_n 0, 1, 0, 0, 0, .null, mm0), (75, .iload_n 2, 1, 0, 0, 0, .null, mm0), (76, .invokevirtual 79, 3, 856, 1, 5, .null, M_X5_takeBox), (79, .ifCond .eq 7, 3, 0, 86, 0, .null, mm0)]
def S_X5_takeItem_82 : List mmMI := [(82, .iconst 1, 1, 0, 0, 0, .int (1 : Int32), mm0), (83, .goto 4, 3, 0, 87, 0, .null, mm0)]
def S_X5_takeItem_86 : List mmMI := [(86, .iconst 0, 1, 0, 0, 0, .int (0 : Int32), mm0)]
def S_X5_takeItem_87 : List mmMI := [(87, .ireturn, 1, 0, 0, 0, .null, mm0)]
def BL_X5_takeItem : mmBl := [(0, S_X5_takeItem_0, 6), (6, S_X5_takeItem_6, 15), (15, S_X5_takeItem_15, 24), (24, S_X5_takeItem_24, 30), (30, S_X5_takeItem_30, 36), (36, S_X5_takeItem_36, 45), (45, S_X5_takeItem_45, 50), (50, S_X5_takeItem_50, 56), (56, S_X5_takeItem_56, 65), (65, S_X5_takeItem_65, 69), (69, S_X5_takeItem_69, 74), (74, S_X5_takeItem_74, 82), (82, S_X5_takeItem_82, 86), (86, S_X5_takeItem_86, 87), (87, S_X5_takeItem_87, 88)]
theorem OB_X5_takeItem : mmOkB M_X5_takeItem BL_X5_takeItem = true := by decide +kernel
theorem OH_X5_takeItem_0 : mmOkB M_X5_takeItem [(0, S_X5_takeItem_0, 6)] = true := by decide +kernel
set_option maxRecDepth 10000 in
theorem s0_X5_takeItem_0 {d : Nat} {P : Option Value → mmMem → Prop} {μ : mmMem} {x1 : Int32} (h : (x1 ≤ (7 : Int32) → (x1 = (10 : Int32) → (mmKD 141 = 5) ∧ (mmCI d M_X5_takeWord false 0 [.ref 141] μ fun y1 ν1 => mbl y1 (P (some (.int y1)) ν1))) ∧ (¬ x1 = (10 : Int32) → (¬ x1 = (9 : Int32) → (¬ x1 = (9 : Int32) → mmCI d M_X7_boxKindIn true 1 [.int x1] μ fun y2 ν2 => (y2 < (0 : Int32) → P (some (.int (0 : Int32))) ν2) ∧ (¬ y2 < (0 : Int32) → (mmKD 141 = 5) ∧ (mmCI d M_X5_takeBox false 1 [.ref 141, .int y2] ν2 fun y3 ν3 => (y3 = (0 : Int32) → P (some (.int (0 : Int32))) ν3) ∧ (¬ y3 = (0 : Int32) → P (some (.int (1 : Int32))) ν3)))) ∧ (x1 = (9 : Int32) → (mmKD 141 = 5) ∧ (mmCI d M_X5_takeKind false 1 [.ref 141, .int (7 : Int32)] μ fun y4 ν4 => (y4 < (0 : Int32) → P (some (.int (0 : Int32))) ν4) ∧ (¬ y4 < (0 : Int32) → (mmKD 141 = 5) ∧ (mmCI d M_X5_takeBox false 1 [.ref 141, .int y4] ν4 fun y5 ν5 => (y5 = (0 : Int32) → P (some (.int (0 : Int32))) ν5) ∧ (¬ y5 = (0 : Int32) → P (some (.int (1 : Int32))) ν5)))))) ∧ (x1 = (9 : Int32) → (mmKD 141 = 5) ∧ (mmCI d M_X5_skip false 1 [.ref 141, .int (39 : Int32)] μ fun y6 ν6 => (y6 = (0 : Int32) → (¬ x1 = (9 : Int32) → mmCI d M_X7_boxKindIn true 1 [.int x1] ν6 fun y7 ν7 => (y7 < (0 : Int32) → P (some (.int (0 : Int32))) ν7) ∧ (¬ y7 < (0 : Int32) → (mmKD 141 = 5) ∧ (mmCI d M_X5_takeBox false 1 [.ref 141, .int y7] ν7 fun y8 ν8 => (y8 = (0 : Int32) → P (some (.int (0 : Int32))) ν8) ∧ (¬ y8 = (0 : Int32) → P (some (.int (1 : Int32))) ν8)))) ∧ (x1 = (9 : Int32) → (mmKD 141 = 5) ∧ (mmCI d M_X5_takeKind false 1 [.ref 141, .int (7 : Int32)] ν6 fun y9 ν9 => (y9 < (0 : Int32) → P (some (.int (0 : Int32))) ν9) ∧ (¬ y9 < (0 : Int32) → (mmKD 141 = 5) ∧ (mmCI d M_X5_takeBox false 1 [.ref 141, .int y9] ν9 fun y10 ν10 => (y10 = (0 : Int32) → P (some (.int (0 : Int32))) ν10) ∧ (¬ y10 = (0 : Int32) → P (some (.int (1 : Int32))) ν10)))))) ∧ (¬ y6 = (0 : Int32) → (mmKD 141 = 5) ∧ (mmCI d M_X5_takeWord false 0 [.ref 141] ν6 fun y11 ν11 => mbl y11 (P (some (.int y11)) ν11))))))) ∧ (¬ x1 ≤ (7 : Int32) → (mmKD 141 = 5) ∧ (mmCI d M_X5_skip false 1 [.ref 141, .int (95 : Int32)] μ fun y12 ν12 => (y12 = (0 : Int32) → (x1 = (10 : Int32) → (mmKD 141 = 5) ∧ (mmCI d M_X5_takeWord false 0 [.ref 141] ν12 fun y13 ν13 => mbl y13 (P (some (.int y13)) ν13))) ∧ (¬ x1 = (10 : Int32) → (¬ x1 = (9 : Int32) → (¬ x1 = (9 : Int32) → mmCI d M_X7_boxKindIn true 1 [.int x1] ν12 fun y14 ν14 => (y14 < (0 : Int32) → P (some (.int (0 : Int32))) ν14) ∧ (¬ y14 < (0 : Int32) → (mmKD 141 = 5) ∧ (mmCI d M_X5_takeBox false 1 [.ref 141, .int y14] ν14 fun y15 ν15 => (y15 = (0 : Int32) → P (some (.int (0 : Int32))) ν15) ∧ (¬ y15 = (0 : Int32) → P (some (.int (1 : Int32))) ν15)))) ∧ (x1 = (9 : Int32) → (mmKD 141 = 5) ∧ (mmCI d M_X5_takeKind false 1 [.ref 141, .int (7 : Int32)] ν12 fun y16 ν16 => (y16 < (0 : Int32) → P (some (.int (0 : Int32))) ν16) ∧ (¬ y16 < (0 : Int32) → (mmKD 141 = 5) ∧ (mmCI d M_X5_takeBox false 1 [.ref 141, .int y16] ν16 fun y17 ν17 => (y17 = (0 : Int32) → P (some (.int (0 : Int32))) ν17) ∧ (¬ y17 = (0 : Int32) → P (some (.int (1 : Int32))) ν17)))))) ∧ (x1 = (9 : Int32) → (mmKD 141 = 5) ∧ (mmCI d M_X5_skip false 1 [.ref 141, .int (39 : Int32)] ν12 fun y18 ν18 => (y18 = (0 : Int32) → (¬ x1 = (9 : Int32) → mmCI d M_X7_boxKindIn true 1 [.int x1] ν18 fun y19 ν19 => (y19 < (0 : Int32) → P (some (.int (0 : Int32))) ν19) ∧ (¬ y19 < (0 : Int32) → (mmKD 141 = 5) ∧ (mmCI d M_X5_takeBox false 1 [.ref 141, .int y19] ν19 fun y20 ν20 => (y20 = (0 : Int32) → P (some (.int (0 : Int32))) ν20) ∧ (¬ y20 = (0 : Int32) → P (some (.int (1 : Int32))) ν20)))) ∧ (x1 = (9 : Int32) → (mmKD 141 = 5) ∧ (mmCI d M_X5_takeKind false 1 [.ref 141, .int (7 : Int32)] ν18 fun y21 ν21 => (y21 < (0 : Int32) → P (some (.int (0 : Int32))) ν21) ∧ (¬ y21 < (0 : Int32) → (mmKD 141 = 5) ∧ (mmCI d M_X5_takeBox false 1 [.ref 141, .int y21] ν21 fun y22 ν22 => (y22 = (0 : Int32) → P (some (.int (0 : Int32))) ν22) ∧ (¬ y22 = (0 : Int32) → P (some (.int (1 : Int32))) ν22)))))) ∧ (¬ y18 = (0 : Int32) → (mmKD 141 = 5) ∧ (mmCI d M_X5_takeWord false 0 [.ref 141] ν18 fun y23 ν23 => mbl y23 (P (some (.int y23)) ν23))))))) ∧ (¬ y12 = (0 : Int32) → (mmKD 141 = 5) ∧ ((mmKD 143 = 0) ∧ (mmC0 d M_X0_setEmpty false 0 [.ref 143] ν12 fun ν24 => P (some (.int (1 : Int32))) ν24)))))) : mmEnds d M_X5_takeItem 0 [.ref 141, .int x1, .retAddr 7] [] μ P := mm_tree 16 OB_X5_takeItem OH_X5_takeItem_0 h
set_option maxRecDepth 10000 in
theorem s_X5_takeItem_0 {d : Nat} {P : Option Value → mmMem → Prop} {μ : mmMem} {x1 : Int32} (hd : 1 ≤ d)  (h : (x1 ≤ (7 : Int32) → (x1 = (10 : Int32) → mmCI d M_X5_takeWord false 0 [.ref 141] μ fun y10 ν9 => (y10 = 0 ∨ y10 = 1) ∧ (P (some (.int y10)) ν9)) ∧ (¬ x1 = (10 : Int32) → (¬ x1 = (9 : Int32) → (¬ x1 = (8 : Int32) → (x1 < (0 : Int32) → P (some (.int (0 : Int32))) μ) ∧ (¬ x1 < (0 : Int32) → mmCI d M_X5_takeBox false 1 [.ref 141, .int x1] μ fun y27 ν26 => (y27 = (0 : Int32) → P (some (.int (0 : Int32))) ν26) ∧ (¬ y27 = (0 : Int32) → P (some (.int (1 : Int32))) ν26))) ∧ (x1 = (8 : Int32) → mmCI d M_X5_takeBox false 1 [.ref 141, .int (4 : Int32)] μ fun y34 ν33 => (y34 = (0 : Int32) → P (some (.int (0 : Int32))) ν33) ∧ (¬ y34 = (0 : Int32) → P (some (.int (1 : Int32))) ν33))) ∧ (x1 = (9 : Int32) → mmCI d M_X5_skip false 1 [.ref 141, .int (39 : Int32)] μ fun y43 ν42 => (y43 = (0 : Int32) → mmCI d M_X5_takeKind false 1 [.ref 141, .int (7 : Int32)] ν42 fun y49 ν48 => (y49 < (0 : Int32) → P (some (.int (0 : Int32))) ν48) ∧ (¬ y49 < (0 : Int32) → mmCI d M_X5_takeBox false 1 [.ref 141, .int y49] ν48 fun y55 ν54 => (y55 = (0 : Int32) → P (some (.int (0 : Int32))) ν54) ∧ (¬ y55 = (0 : Int32) → P (some (.int (1 : Int32))) ν54))) ∧ (¬ y43 = (0 : Int32) → mmCI d M_X5_takeWord false 0 [.ref 141] ν42 fun y64 ν63 => (y64 = 0 ∨ y64 = 1) ∧ (P (some (.int y64)) ν63))))) ∧ (¬ x1 ≤ (7 : Int32) → mmCI d M_X5_skip false 1 [.ref 141, .int (95 : Int32)] μ fun y70 ν69 => (y70 = (0 : Int32) → (x1 = (10 : Int32) → mmCI d M_X5_takeWord false 0 [.ref 141] ν69 fun y80 ν79 => (y80 = 0 ∨ y80 = 1) ∧ (P (some (.int y80)) ν79)) ∧ (¬ x1 = (10 : Int32) → (¬ x1 = (9 : Int32) → (¬ x1 = (8 : Int32) → mmCI d M_X5_takeBox false 1 [.ref 141, .int x1] ν69 fun y93 ν92 => (y93 = (0 : Int32) → P (some (.int (0 : Int32))) ν92) ∧ (¬ y93 = (0 : Int32) → P (some (.int (1 : Int32))) ν92)) ∧ (x1 = (8 : Int32) → mmCI d M_X5_takeBox false 1 [.ref 141, .int (4 : Int32)] ν69 fun y101 ν100 => (y101 = (0 : Int32) → P (some (.int (0 : Int32))) ν100) ∧ (¬ y101 = (0 : Int32) → P (some (.int (1 : Int32))) ν100))) ∧ (x1 = (9 : Int32) → mmCI d M_X5_skip false 1 [.ref 141, .int (39 : Int32)] ν69 fun y110 ν109 => (y110 = (0 : Int32) → mmCI d M_X5_takeKind false 1 [.ref 141, .int (7 : Int32)] ν109 fun y116 ν115 => (y116 < (0 : Int32) → P (some (.int (0 : Int32))) ν115) ∧ (¬ y116 < (0 : Int32) → mmCI d M_X5_takeBox false 1 [.ref 141, .int y116] ν115 fun y122 ν121 => (y122 = (0 : Int32) → P (some (.int (0 : Int32))) ν121) ∧ (¬ y122 = (0 : Int32) → P (some (.int (1 : Int32))) ν121))) ∧ (¬ y110 = (0 : Int32) → mmCI d M_X5_takeWord false 0 [.ref 141] ν109 fun y131 ν130 => (y131 = 0 ∨ y131 = 1) ∧ (P (some (.int y131)) ν130))))) ∧ (¬ y70 = (0 : Int32) → P (some (.int (1 : Int32))) (sD (sJ (sI ν69 143 0 (-1 : Int32)) 143 1 (0 : Int64)) 143 2 FP.dconst0)))) : mmEnds d M_X5_takeItem 0 [.ref 141, .int x1, .retAddr 7] [] μ P := s0_X5_takeItem_0 (⟨fun q1 => (have h3 := (h).1 q1; ⟨fun q5 => (have h7 := (h3).1 q5; ⟨kd_141, (mmCI.mono (h7) (fun y10 ν9 h13 => (have o11 := (h13).1; have h12 := (h13).2; mbl_i o11 h12)))⟩), fun q6 => (have h8 := (h3).2 q6; ⟨fun q14 => (have h16 := (h8).1 q14; ⟨fun _ => (u_X7_boxKindIn (by omega)  (⟨fun q18 => (have h20 := (h16).1 q18; ⟨fun q22 => (have h24 := (h20).1 q22; h24), fun q23 => (have h25 := (h20).2 q23; ⟨kd_141, (mmCI.mono (h25) (fun y27 ν26 h32 => ⟨fun q28 => (have h30 := (h32).1 q28; h30), fun q29 => (have h31 := (h32).2 q29; h31)⟩))⟩)⟩), fun q19 => (have h21 := (h16).2 q19; ⟨fun q40 => absurd q40 (by decide : ¬ (4 : Int32) < (0 : Int32)), fun _ => ⟨kd_141, (mmCI.mono (h21) (fun y34 ν33 h39 => ⟨fun q35 => (have h37 := (h39).1 q35; h37), fun q36 => (have h38 := (h39).2 q36; h38)⟩))⟩⟩)⟩)), fun q41 => absurd q41 q14⟩), fun q15 => (have h17 := (h8).2 q15; ⟨kd_141, (mmCI.mono (h17) (fun y43 ν42 h68 => ⟨fun q44 => (have h46 := (h68).1 q44; ⟨fun q62 => absurd q15 q62, fun _ => ⟨kd_141, (mmCI.mono (h46) (fun y49 ν48 h61 => ⟨fun q50 => (have h52 := (h61).1 q50; h52), fun q51 => (have h53 := (h61).2 q51; ⟨kd_141, (mmCI.mono (h53) (fun y55 ν54 h60 => ⟨fun q56 => (have h58 := (h60).1 q56; h58), fun q57 => (have h59 := (h60).2 q57; h59)⟩))⟩)⟩))⟩⟩), fun q45 => (have h47 := (h68).2 q45; ⟨kd_141, (mmCI.mono (h47) (fun y64 ν63 h67 => (have o65 := (h67).1; have h66 := (h67).2; mbl_i o65 h66)))⟩)⟩))⟩)⟩)⟩), fun q2 => (have h4 := (h).2 q2; ⟨kd_141, (mmCI.mono (h4) (fun y70 ν69 h136 => ⟨fun q71 => (have h73 := (h136).1 q71; ⟨fun q75 => (have h77 := (h73).1 q75; ⟨kd_141, (mmCI.mono (h77) (fun y80 ν79 h83 => (have o81 := (h83).1; have h82 := (h83).2; mbl_i o81 h82)))⟩), fun q76 => (have h78 := (h73).2 q76; ⟨fun q84 => (have h86 := (h78).1 q84; ⟨fun _ => (u_X7_boxKindIn (by omega)  (⟨fun q88 => (have h90 := (h86).1 q88; ⟨fun q99 => absurd q99 (by have := q2; simp only [Int32.lt_iff_toInt_lt, Int32.le_iff_toInt_le] at this ⊢; simp at this ⊢; omega), fun _ => ⟨kd_141, (mmCI.mono (h90) (fun y93 ν92 h98 => ⟨fun q94 => (have h96 := (h98).1 q94; h96), fun q95 => (have h97 := (h98).2 q95; h97)⟩))⟩⟩), fun q89 => (have h91 := (h86).2 q89; ⟨fun q107 => absurd q107 (by decide : ¬ (4 : Int32) < (0 : Int32)), fun _ => ⟨kd_141, (mmCI.mono (h91) (fun y101 ν100 h106 => ⟨fun q102 => (have h104 := (h106).1 q102; h104), fun q103 => (have h105 := (h106).2 q103; h105)⟩))⟩⟩)⟩)), fun q108 => absurd q108 q84⟩), fun q85 => (have h87 := (h78).2 q85; ⟨kd_141, (mmCI.mono (h87) (fun y110 ν109 h135 => ⟨fun q111 => (have h113 := (h135).1 q111; ⟨fun q129 => absurd q85 q129, fun _ => ⟨kd_141, (mmCI.mono (h113) (fun y116 ν115 h128 => ⟨fun q117 => (have h119 := (h128).1 q117; h119), fun q118 => (have h120 := (h128).2 q118; ⟨kd_141, (mmCI.mono (h120) (fun y122 ν121 h127 => ⟨fun q123 => (have h125 := (h127).1 q123; h125), fun q124 => (have h126 := (h127).2 q124; h126)⟩))⟩)⟩))⟩⟩), fun q112 => (have h114 := (h135).2 q112; ⟨kd_141, (mmCI.mono (h114) (fun y131 ν130 h134 => (have o132 := (h134).1; have h133 := (h134).2; mbl_i o132 h133)))⟩)⟩))⟩)⟩)⟩), fun q72 => (have h74 := (h136).2 q72; ⟨kd_141, ⟨kd_143, (u_X0_setEmpty (by omega) kd_143 h74)⟩⟩)⟩))⟩)⟩)
set_option maxRecDepth 10000 in
theorem u_X5_takeItem {d : Nat} {K : Int32 → mmMem → Prop} {μ : mmMem} {x1 : Int32} (hd : 2 ≤ d)  (h : (x1 ≤ (7 : Int32) → (x1 = (10 : Int32) → mmCI (d - 1) M_X5_takeWord false 0 [.ref 141] μ fun y10 ν9 => (y10 = 0 ∨ y10 = 1) ∧ (K y10 ν9)) ∧ (¬ x1 = (10 : Int32) → (¬ x1 = (9 : Int32) → (¬ x1 = (8 : Int32) → (x1 < (0 : Int32) → K (0 : Int32) μ) ∧ (¬ x1 < (0 : Int32) → mmCI (d - 1) M_X5_takeBox false 1 [.ref 141, .int x1] μ fun y27 ν26 => (y27 = (0 : Int32) → K (0 : Int32) ν26) ∧ (¬ y27 = (0 : Int32) → K (1 : Int32) ν26))) ∧ (x1 = (8 : Int32) → mmCI (d - 1) M_X5_takeBox false 1 [.ref 141, .int (4 : Int32)] μ fun y34 ν33 => (y34 = (0 : Int32) → K (0 : Int32) ν33) ∧ (¬ y34 = (0 : Int32) → K (1 : Int32) ν33))) ∧ (x1 = (9 : Int32) → mmCI (d - 1) M_X5_skip false 1 [.ref 141, .int (39 : Int32)] μ fun y43 ν42 => (y43 = (0 : Int32) → mmCI (d - 1) M_X5_takeKind false 1 [.ref 141, .int (7 : Int32)] ν42 fun y49 ν48 => (y49 < (0 : Int32) → K (0 : Int32) ν48) ∧ (¬ y49 < (0 : Int32) → mmCI (d - 1) M_X5_takeBox false 1 [.ref 141, .int y49] ν48 fun y55 ν54 => (y55 = (0 : Int32) → K (0 : Int32) ν54) ∧ (¬ y55 = (0 : Int32) → K (1 : Int32) ν54))) ∧ (¬ y43 = (0 : Int32) → mmCI (d - 1) M_X5_takeWord false 0 [.ref 141] ν42 fun y64 ν63 => (y64 = 0 ∨ y64 = 1) ∧ (K y64 ν63))))) ∧ (¬ x1 ≤ (7 : Int32) → mmCI (d - 1) M_X5_skip false 1 [.ref 141, .int (95 : Int32)] μ fun y70 ν69 => (y70 = (0 : Int32) → (x1 = (10 : Int32) → mmCI (d - 1) M_X5_takeWord false 0 [.ref 141] ν69 fun y80 ν79 => (y80 = 0 ∨ y80 = 1) ∧ (K y80 ν79)) ∧ (¬ x1 = (10 : Int32) → (¬ x1 = (9 : Int32) → (¬ x1 = (8 : Int32) → mmCI (d - 1) M_X5_takeBox false 1 [.ref 141, .int x1] ν69 fun y93 ν92 => (y93 = (0 : Int32) → K (0 : Int32) ν92) ∧ (¬ y93 = (0 : Int32) → K (1 : Int32) ν92)) ∧ (x1 = (8 : Int32) → mmCI (d - 1) M_X5_takeBox false 1 [.ref 141, .int (4 : Int32)] ν69 fun y101 ν100 => (y101 = (0 : Int32) → K (0 : Int32) ν100) ∧ (¬ y101 = (0 : Int32) → K (1 : Int32) ν100))) ∧ (x1 = (9 : Int32) → mmCI (d - 1) M_X5_skip false 1 [.ref 141, .int (39 : Int32)] ν69 fun y110 ν109 => (y110 = (0 : Int32) → mmCI (d - 1) M_X5_takeKind false 1 [.ref 141, .int (7 : Int32)] ν109 fun y116 ν115 => (y116 < (0 : Int32) → K (0 : Int32) ν115) ∧ (¬ y116 < (0 : Int32) → mmCI (d - 1) M_X5_takeBox false 1 [.ref 141, .int y116] ν115 fun y122 ν121 => (y122 = (0 : Int32) → K (0 : Int32) ν121) ∧ (¬ y122 = (0 : Int32) → K (1 : Int32) ν121))) ∧ (¬ y110 = (0 : Int32) → mmCI (d - 1) M_X5_takeWord false 0 [.ref 141] ν109 fun y131 ν130 => (y131 = 0 ∨ y131 = 1) ∧ (K y131 ν130))))) ∧ (¬ y70 = (0 : Int32) → K (1 : Int32) (sD (sJ (sI ν69 143 0 (-1 : Int32)) 143 1 (0 : Int64)) 143 2 FP.dconst0)))) : mmCI d M_X5_takeItem false 1 [.ref 141, .int x1] μ K :=
  mmCU.of (d' := d - 1) g_X5_takeItem (by decide +kernel) rfl rfl (by omega) (s_X5_takeItem_0 (d := d - 1) (by omega)  h)
theorem g_X5_takeItems : mmGd M_X5_takeItems false 2 := ⟨mm_in 833 (by decide +kernel) rfl, mm_in 16 (by decide +kernel) rfl, by decide +kernel, by decide, ⟨mm_in 831 (by decide +kernel) rfl, mm_in 832 (by decide +kernel) rfl⟩⟩
def S_X5_takeItems_0 : List mmMI := [(0, .aload_n 0, 1, 0, 0, 0, .null, mm0), (1, .invokevirtual 29, 3, 825, 0, 5, .null, M_X5_sign), (4, .bipush 41, 2, 0, 0, 0, .int (41 : Int32), mm0), (6, .if_icmp .ne 5, 3, 0, 11, 0, .null, mm0)]
def S_X5_takeItems_9 : List mmMI := [(9, .iconst 1, 1, 0, 0, 0, .int (1 : Int32), mm0), (10, .ireturn, 1, 0, 0, 0, .null, mm0)]
def S_X5_takeItems_11 : List mmMI := [(11, .iconst 0, 1, 0, 0, 0, .int (0 : Int32), mm0), (12, .istore_n 3, 1, 0, 0, 0, .null, mm0)]
def S_X5_takeItems_13 : List mmMI := [(13, .iload_n 3, 1, 0, 0, 0, .null, mm0), (14, .iload_n 2, 1, 0, 0, 0, .null, mm0), (15, .if_icmp .ge 49, 3, 0, 64, 0, .null, mm0)]
def S_X5_takeItems_18 : List mmMI := [(18, .aload_n 0, 1, 0, 0, 0, .null, mm0), (19, .aload_n 1, 1, 0, 0, 0, .null, mm0), (20, .getfield 59, 3, 57, 1, 0, .null, mm0), (23, .invokevirtual 62, 3, 834, 1, 5, .null, M_X5_takeItem), (26, .ifCond .ne 5, 3, 0, 31, 0, .null, mm0)]
def S_X5_takeItems_29 : List mmMI := [(29, .iconst 0, 1, 0, 0, 0, .int (0 : Int32), mm0), (30, .ireturn, 1, 0, 0, 0, .null, mm0)]
def S_X5_takeItems_31 : List mmMI := [(31, .aload_n 1, 1, 0, 0, 0, .null, mm0), (32, .iload_n 3, 1, 0, 0, 0, .null, mm0), (33, .aload_n 0, 1, 0, 0, 0, .null, mm0), (34, .getfield 18, 3, 176, 5, 3, .null, mm0), (37, .invokevirtual 65, 3, 871, 2, 1, .null, M_X1_store), (40, .iload_n 3, 1, 0, 0, 0, .null, mm0), (41, .iconst 1, 1, 0, 0, 0, .int (1 : Int32), mm0), (42, .iadd, 1, 0, 0, 0, .null, mm0), (43, .iload_n 2, 1, 0, 0, 0, .null, mm0), (44, .if_icmp .eq 12, 3, 0, 56, 0, .null, mm0)]
def S_X5_takeItems_47 : List mmMI := [(47, .aload_n 0, 1, 0, 0, 0, .null, mm0), (48, .bipush 44, 2, 0, 0, 0, .int (44 : Int32), mm0), (50, .invokevirtual 37, 3, 821, 1, 5, .null, M_X5_skip), (53, .ifCond .ne 5, 3, 0, 58, 0, .null, mm0)]
def S_X5_takeItems_56 : List mmMI := [(56, .iconst 1, 1, 0, 0, 0, .int (1 : Int32), mm0), (57, .ireturn, 1, 0, 0, 0, .null, mm0)]
def S_X5_takeItems_58 : List mmMI := [(58, .iinc 3 1, 3, 0, 0, 0, .int (1 : Int32), mm0), (61, .goto (-48), 3, 0, 13, 0, .null, mm0)]
def S_X5_takeItems_64 : List mmMI := [(64, .iconst 0, 1, 0, 0, 0, .int (0 : Int32), mm0), (65, .ireturn, 1, 0, 0, 0, .null, mm0)]
def BL_X5_takeItems : mmBl := [(0, S_X5_takeItems_0, 9), (9, S_X5_takeItems_9, 11), (11, S_X5_takeItems_11, 13), (18, S_X5_takeItems_18, 29), (29, S_X5_takeItems_29, 31), (31, S_X5_takeItems_31, 47), (47, S_X5_takeItems_47, 56), (56, S_X5_takeItems_56, 58), (58, S_X5_takeItems_58, 64), (64, S_X5_takeItems_64, 66)]
theorem OB_X5_takeItems : mmOkB M_X5_takeItems BL_X5_takeItems = true := by decide +kernel
theorem OH_X5_takeItems_0 : mmOkB M_X5_takeItems [(0, S_X5_takeItems_0, 9)] = true := by decide +kernel
theorem s0_X5_takeItems_0 {d : Nat} {P : Option Value → mmMem → Prop} {μ : mmMem} {a1 : Nat} {x2 : Int32} (h : (mmKD 141 = 5) ∧ (mmCI d M_X5_sign false 0 [.ref 141] μ fun y1 ν1 => (¬ y1 = (41 : Int32) → mmEnds d M_X5_takeItems 13 [.ref 141, .ref a1, .int x2, .int (0 : Int32)] [] ν1 P) ∧ (y1 = (41 : Int32) → P (some (.int (1 : Int32))) ν1))) : mmEnds d M_X5_takeItems 0 [.ref 141, .ref a1, .int x2, .retAddr 7] [] μ P := mm_tree 11 OB_X5_takeItems OH_X5_takeItems_0 h
theorem s_X5_takeItems_0 {d : Nat} {P : Option Value → mmMem → Prop} {μ : mmMem} {a1 : Nat} {x2 : Int32} (hd : 0 ≤ d) (k1 : mmKD a1 = 1) (h : mmCI d M_X5_sign false 0 [.ref 141] μ fun y2 ν1 => (¬ y2 = (41 : Int32) → mmEnds d M_X5_takeItems 13 [.ref 141, .ref a1, .int x2, .int (0 : Int32)] [] ν1 P) ∧ (y2 = (41 : Int32) → P (some (.int (1 : Int32))) ν1)) : mmEnds d M_X5_takeItems 0 [.ref 141, .ref a1, .int x2, .retAddr 7] [] μ P := s0_X5_takeItems_0 (⟨kd_141, (mmCI.mono (h) (fun y2 ν1 h7 => ⟨fun q3 => (have h5 := (h7).1 q3; h5), fun q4 => (have h6 := (h7).2 q4; h6)⟩))⟩)
theorem OH_X5_takeItems_13 : mmOkB M_X5_takeItems [(13, S_X5_takeItems_13, 18)] = true := by decide +kernel
theorem s0_X5_takeItems_13 {d : Nat} {P : Option Value → mmMem → Prop} {μ : mmMem} {a1 : Nat} {x2 : Int32} {x3 : Int32} (h : (x2 ≤ x3 → P (some (.int (0 : Int32))) μ) ∧ (¬ x2 ≤ x3 → (mmKD a1 = 1) ∧ ((mmKD 141 = 5) ∧ (mmCI d M_X5_takeItem false 1 [.ref 141, .int (μ.1 a1 0)] μ fun y1 ν1 => (¬ y1 = (0 : Int32) → (mmKD 141 = 5) ∧ ((mmKD a1 = 1) ∧ (mmC0 d M_X1_store false 2 [.ref a1, .int x3, .ref 143] ν1 fun ν2 => ((x3 + (1 : Int32)) = x2 → P (some (.int (1 : Int32))) ν2) ∧ (¬ (x3 + (1 : Int32)) = x2 → (mmKD 141 = 5) ∧ (mmCI d M_X5_skip false 1 [.ref 141, .int (44 : Int32)] ν2 fun y3 ν3 => (¬ y3 = (0 : Int32) → mmEnds d M_X5_takeItems 13 [.ref 141, .ref a1, .int x2, .int (x3 + (1 : Int32))] [] ν3 P) ∧ (y3 = (0 : Int32) → P (some (.int (1 : Int32))) ν3)))))) ∧ (y1 = (0 : Int32) → P (some (.int (0 : Int32))) ν1))))) : mmEnds d M_X5_takeItems 13 [.ref 141, .ref a1, .int x2, .int x3] [] μ P := mm_tree 11 OB_X5_takeItems OH_X5_takeItems_13 h
theorem s_X5_takeItems_13 {d : Nat} {P : Option Value → mmMem → Prop} {μ : mmMem} {a1 : Nat} {x2 : Int32} {x3 : Int32} (hd : 0 ≤ d) (k1 : mmKD a1 = 1) (h : (x2 ≤ x3 → P (some (.int (0 : Int32))) μ) ∧ (¬ x2 ≤ x3 → mmCI d M_X5_takeItem false 1 [.ref 141, .int (μ.1 a1 0)] μ fun y6 ν5 => (¬ y6 = (0 : Int32) → mmC0 d M_X1_store false 2 [.ref a1, .int x3, .ref 143] ν5 fun ν11 => ((x3 + (1 : Int32)) = x2 → P (some (.int (1 : Int32))) ν11) ∧ (¬ (x3 + (1 : Int32)) = x2 → mmCI d M_X5_skip false 1 [.ref 141, .int (44 : Int32)] ν11 fun y17 ν16 => (¬ y17 = (0 : Int32) → mmEnds d M_X5_takeItems 13 [.ref 141, .ref a1, .int x2, .int (x3 + (1 : Int32))] [] ν16 P) ∧ (y17 = (0 : Int32) → P (some (.int (1 : Int32))) ν16))) ∧ (y6 = (0 : Int32) → P (some (.int (0 : Int32))) ν5))) : mmEnds d M_X5_takeItems 13 [.ref 141, .ref a1, .int x2, .int x3] [] μ P := s0_X5_takeItems_13 (⟨fun q1 => (have h3 := (h).1 q1; h3), fun q2 => (have h4 := (h).2 q2; ⟨k1, ⟨kd_141, (mmCI.mono (h4) (fun y6 ν5 h24 => ⟨fun q7 => (have h9 := (h24).1 q7; ⟨kd_141, ⟨k1, (mmC0.mono (h9) (fun ν11 h23 => ⟨fun q12 => (have h14 := (h23).1 q12; h14), fun q13 => (have h15 := (h23).2 q13; ⟨kd_141, (mmCI.mono (h15) (fun y17 ν16 h22 => ⟨fun q18 => (have h20 := (h22).1 q18; h20), fun q19 => (have h21 := (h22).2 q19; h21)⟩))⟩)⟩))⟩⟩), fun q8 => (have h10 := (h24).2 q8; h10)⟩))⟩⟩)⟩)
theorem u_X5_takeItems {d : Nat} {K : Int32 → mmMem → Prop} {μ : mmMem} {a1 : Nat} {x2 : Int32} (hd : 1 ≤ d) (k1 : mmKD a1 = 1) (h : mmCI (d - 1) M_X5_sign false 0 [.ref 141] μ fun y2 ν1 => (¬ y2 = (41 : Int32) → mmEnds (d - 1) M_X5_takeItems 13 [.ref 141, .ref a1, .int x2, .int (0 : Int32)] [] ν1 (mmPI K)) ∧ (y2 = (41 : Int32) → K (1 : Int32) ν1)) : mmCI d M_X5_takeItems false 2 [.ref 141, .ref a1, .int x2] μ K :=
  mmCU.of (d' := d - 1) g_X5_takeItems (by decide +kernel) rfl rfl (by omega) (s_X5_takeItems_0 (d := d - 1) (by omega) k1 h)
theorem g_X5_parse : mmGd M_X5_parse false 2 := ⟨mm_in 814 (by decide +kernel) rfl, mm_in 16 (by decide +kernel) rfl, by decide +kernel, by decide, ⟨mm_in 812 (by decide +kernel) rfl, mm_in 813 (by decide +kernel) rfl⟩⟩
def S_X5_parse_0 : List mmMI := [(0, .aload_n 0, 1, 0, 0, 0, .null, mm0), (1, .iconst 0, 1, 0, 0, 0, .int (0 : Int32), mm0), (2, .putfield 26, 3, 173, 5, 1, .null, mm0), (5, .aload_n 0, 1, 0, 0, 0, .null, mm0), (6, .bipush 10, 2, 0, 0, 0, .int (10 : Int32), mm0), (8, .invokevirtual 33, 3, 815, 1, 5, .null, M_X5_takeKind), (11, .istore_n 3, 1, 0, 0, 0, .null, mm0), (12, .iload_n 3, 1, 0, 0, 0, .null, mm0), (13, .ifCond .lt 12, 3, 0, 25, 0, .null, mm0)]
def S_X5_parse_16 : List mmMI := [(16, .aload_n 0, 1, 0, 0, 0, .null, mm0), (17, .bipush 40, 2, 0, 0, 0, .int (40 : Int32), mm0), (19, .invokevirtual 37, 3, 821, 1, 5, .null, M_X5_skip), (22, .ifCond .ne 5, 3, 0, 27, 0, .null, mm0)]
def S_X5_parse_25 : List mmMI := [(25, .iconst 0, 1, 0, 0, 0, .int (0 : Int32), mm0), (26, .ireturn, 1, 0, 0, 0, .null, mm0)]
def S_X5_parse_27 : List mmMI := [(27, .aload_n 1, 1, 0, 0, 0, .null, mm0), (28, .iload_n 3, 1, 0, 0, 0, .null, mm0), (29, .iload_n 2, 1, 0, 0, 0, .null, mm0), (30, .invokevirtual 41, 3, 829, 2, 1, .null, M_X1_begin), (33, .aload_n 0, 1, 0, 0, 0, .null, mm0), (34, .aload_n 1, 1, 0, 0, 0, .null, mm0), (35, .iload_n 2, 1, 0, 0, 0, .null, mm0), (36, .invokevirtual 47, 3, 830, 2, 5, .null, M_X5_takeItems), (39, .ifCond .eq 27, 3, 0, 66, 0, .null, mm0)]
def S_X5_parse_42 : List mmMI := [(42, .aload_n 0, 1, 0, 0, 0, .null, mm0), (43, .bipush 41, 2, 0, 0, 0, .int (41 : Int32), mm0), (45, .invokevirtual 37, 3, 821, 1, 5, .null, M_X5_skip), (48, .ifCond .eq 18, 3, 0, 66, 0, .null, mm0)]
def S_X5_parse_51 : List mmMI := [(51, .aload_n 0, 1, 0, 0, 0, .null, mm0), (52, .getfield 26, 3, 173, 5, 1, .null, mm0), (55, .aload_n 0, 1, 0, 0, 0, .null, mm0), (56, .getfield 22, 3, 171, 5, 0, .null, mm0), (59, .if_icmp .ne 7, 3, 0, 66, 0, .null, mm0)]
def S_X5_parse_62 : List mmMI := [(62, .iconst 1, 1, 0, 0, 0, .int (1 : Int32), mm0), (63, .goto 4, 3, 0, 67, 0, .null, mm0)]
def S_X5_parse_66 : List mmMI := [(66, .iconst 0, 1, 0, 0, 0, .int (0 : Int32), mm0)]
def S_X5_parse_67 : List mmMI := [(67, .ireturn, 1, 0, 0, 0, .null, mm0)]
def BL_X5_parse : mmBl := [(0, S_X5_parse_0, 16), (16, S_X5_parse_16, 25), (25, S_X5_parse_25, 27), (27, S_X5_parse_27, 42), (42, S_X5_parse_42, 51), (51, S_X5_parse_51, 62), (62, S_X5_parse_62, 66), (66, S_X5_parse_66, 67), (67, S_X5_parse_67, 68)]
theorem OB_X5_parse : mmOkB M_X5_parse BL_X5_parse = true := by decide +kernel
theorem OH_X5_parse_0 : mmOkB M_X5_parse [(0, S_X5_parse_0, 16)] = true := by decide +kernel
set_option maxRecDepth 10000 in
theorem s0_X5_parse_0 {d : Nat} {P : Option Value → mmMem → Prop} {μ : mmMem} {a1 : Nat} {x2 : Int32} (h : (mmKD 141 = 5) ∧ ((mmKD 141 = 5) ∧ (mmCI d M_X5_takeKind false 1 [.ref 141, .int (10 : Int32)] (sI μ 141 1 (0 : Int32)) fun y1 ν1 => (y1 < (0 : Int32) → P (some (.int (0 : Int32))) ν1) ∧ (¬ y1 < (0 : Int32) → (mmKD 141 = 5) ∧ (mmCI d M_X5_skip false 1 [.ref 141, .int (40 : Int32)] ν1 fun y2 ν2 => (¬ y2 = (0 : Int32) → (mmKD a1 = 1) ∧ (mmC0 d M_X1_begin false 2 [.ref a1, .int y1, .int x2] ν2 fun ν3 => (mmKD 141 = 5) ∧ (mmCI d M_X5_takeItems false 2 [.ref 141, .ref a1, .int x2] ν3 fun y4 ν4 => (y4 = (0 : Int32) → P (some (.int (0 : Int32))) ν4) ∧ (¬ y4 = (0 : Int32) → (mmKD 141 = 5) ∧ (mmCI d M_X5_skip false 1 [.ref 141, .int (41 : Int32)] ν4 fun y5 ν5 => (y5 = (0 : Int32) → P (some (.int (0 : Int32))) ν5) ∧ (¬ y5 = (0 : Int32) → (mmKD 141 = 5) ∧ ((mmKD 141 = 5) ∧ ((¬ (ν5.1 141 1) = (ν5.1 141 0) → P (some (.int (0 : Int32))) ν5) ∧ ((ν5.1 141 1) = (ν5.1 141 0) → P (some (.int (1 : Int32))) ν5))))))))) ∧ (y2 = (0 : Int32) → P (some (.int (0 : Int32))) ν2)))))) : mmEnds d M_X5_parse 0 [.ref 141, .ref a1, .int x2, .retAddr 7] [] μ P := mm_tree 10 OB_X5_parse OH_X5_parse_0 h
set_option maxRecDepth 10000 in
theorem s_X5_parse_0 {d : Nat} {P : Option Value → mmMem → Prop} {μ : mmMem} {a1 : Nat} {x2 : Int32} (hd : 0 ≤ d) (k1 : mmKD a1 = 1) (h : mmCI d M_X5_takeKind false 1 [.ref 141, .int (10 : Int32)] (sI μ 141 1 (0 : Int32)) fun y2 ν1 => (y2 < (0 : Int32) → P (some (.int (0 : Int32))) ν1) ∧ (¬ y2 < (0 : Int32) → mmCI d M_X5_skip false 1 [.ref 141, .int (40 : Int32)] ν1 fun y8 ν7 => (¬ y8 = (0 : Int32) → mmC0 d M_X1_begin false 2 [.ref a1, .int y2, .int x2] ν7 fun ν13 => mmCI d M_X5_takeItems false 2 [.ref 141, .ref a1, .int x2] ν13 fun y15 ν14 => (y15 = (0 : Int32) → P (some (.int (0 : Int32))) ν14) ∧ (¬ y15 = (0 : Int32) → mmCI d M_X5_skip false 1 [.ref 141, .int (41 : Int32)] ν14 fun y21 ν20 => (y21 = (0 : Int32) → P (some (.int (0 : Int32))) ν20) ∧ (¬ y21 = (0 : Int32) → (¬ (ν20.1 141 1) = (ν20.1 141 0) → P (some (.int (0 : Int32))) ν20) ∧ ((ν20.1 141 1) = (ν20.1 141 0) → P (some (.int (1 : Int32))) ν20)))) ∧ (y8 = (0 : Int32) → P (some (.int (0 : Int32))) ν7))) : mmEnds d M_X5_parse 0 [.ref 141, .ref a1, .int x2, .retAddr 7] [] μ P := s0_X5_parse_0 (⟨kd_141, ⟨kd_141, (mmCI.mono (h) (fun y2 ν1 h34 => ⟨fun q3 => (have h5 := (h34).1 q3; h5), fun q4 => (have h6 := (h34).2 q4; ⟨kd_141, (mmCI.mono (h6) (fun y8 ν7 h33 => ⟨fun q9 => (have h11 := (h33).1 q9; ⟨k1, (mmC0.mono (h11) (fun ν13 h32 => ⟨kd_141, (mmCI.mono (h32) (fun y15 ν14 h31 => ⟨fun q16 => (have h18 := (h31).1 q16; h18), fun q17 => (have h19 := (h31).2 q17; ⟨kd_141, (mmCI.mono (h19) (fun y21 ν20 h30 => ⟨fun q22 => (have h24 := (h30).1 q22; h24), fun q23 => (have h25 := (h30).2 q23; ⟨kd_141, ⟨kd_141, ⟨fun q26 => (have h28 := (h25).1 q26; h28), fun q27 => (have h29 := (h25).2 q27; h29)⟩⟩⟩)⟩))⟩)⟩))⟩))⟩), fun q10 => (have h12 := (h33).2 q10; h12)⟩))⟩)⟩))⟩⟩)
set_option maxRecDepth 10000 in
theorem u_X5_parse {d : Nat} {K : Int32 → mmMem → Prop} {μ : mmMem} {a1 : Nat} {x2 : Int32} (hd : 1 ≤ d) (k1 : mmKD a1 = 1) (h : mmCI (d - 1) M_X5_takeKind false 1 [.ref 141, .int (10 : Int32)] (sI μ 141 1 (0 : Int32)) fun y2 ν1 => (y2 < (0 : Int32) → K (0 : Int32) ν1) ∧ (¬ y2 < (0 : Int32) → mmCI (d - 1) M_X5_skip false 1 [.ref 141, .int (40 : Int32)] ν1 fun y8 ν7 => (¬ y8 = (0 : Int32) → mmC0 (d - 1) M_X1_begin false 2 [.ref a1, .int y2, .int x2] ν7 fun ν13 => mmCI (d - 1) M_X5_takeItems false 2 [.ref 141, .ref a1, .int x2] ν13 fun y15 ν14 => (y15 = (0 : Int32) → K (0 : Int32) ν14) ∧ (¬ y15 = (0 : Int32) → mmCI (d - 1) M_X5_skip false 1 [.ref 141, .int (41 : Int32)] ν14 fun y21 ν20 => (y21 = (0 : Int32) → K (0 : Int32) ν20) ∧ (¬ y21 = (0 : Int32) → (¬ (ν20.1 141 1) = (ν20.1 141 0) → K (0 : Int32) ν20) ∧ ((ν20.1 141 1) = (ν20.1 141 0) → K (1 : Int32) ν20)))) ∧ (y8 = (0 : Int32) → K (0 : Int32) ν7))) : mmCI d M_X5_parse false 2 [.ref 141, .ref a1, .int x2] μ K :=
  mmCU.of (d' := d - 1) g_X5_parse (by decide +kernel) rfl rfl (by omega) (s_X5_parse_0 (d := d - 1) (by omega) k1 h)
end
section
theorem g_X7_size : mmGd M_X7_size false 1 := ⟨mm_in 265 (by decide +kernel) rfl, mm_in 10 (by decide +kernel) rfl, by decide +kernel, by decide, ⟨mm_in 263 (by decide +kernel) rfl, mm_in 264 (by decide +kernel) rfl⟩⟩
def S_X7_size_0 : List mmMI := [(0, .iload_n 1, 1, 0, 0, 0, .null, mm0), (1, .ifCond .lt 9, 3, 0, 10, 0, .null, mm0)]
def S_X7_size_4 : List mmMI := [(4, .iload_n 1, 1, 0, 0, 0, .null, mm0), (5, .bipush 40, 2, 0, 0, 0, .int (40 : Int32), mm0), (7, .if_icmp .le 6, 3, 0, 13, 0, .null, mm0)]
def S_X7_size_10 : List mmMI := [(10, .bipush (-2), 2, 0, 0, 0, .int (-2 : Int32), mm0), (12, .ireturn, 1, 0, 0, 0, .null, mm0)]
def S_X7_size_13 : List mmMI := [(13, .aload_n 0, 1, 0, 0, 0, .null, mm0), (14, .getfield 10, 3, 204, 7, 0, .null, mm0), (17, .getfield 77, 3, 127, 4, 0, .null, mm0), (20, .istore_n 2, 1, 0, 0, 0, .null, mm0), (21, .aload_n 0, 1, 0, 0, 0, .null, mm0), (22, .getfield 10, 3, 204, 7, 0, .null, mm0), (25, .iload_n 1, 1, 0, 0, 0, .null, mm0), (26, .invokevirtual 81, 3, 266, 1, 4, .null, M_X4_resize), (29, .iload_n 2, 1, 0, 0, 0, .null, mm0), (30, .ireturn, 1, 0, 0, 0, .null, mm0)]
def BL_X7_size : mmBl := [(0, S_X7_size_0, 4), (4, S_X7_size_4, 10), (10, S_X7_size_10, 13), (13, S_X7_size_13, 31)]
theorem OB_X7_size : mmOkB M_X7_size BL_X7_size = true := by decide +kernel
theorem OH_X7_size_0 : mmOkB M_X7_size [(0, S_X7_size_0, 4)] = true := by decide +kernel
theorem s0_X7_size_0 {d : Nat} {P : Option Value → mmMem → Prop} {μ : mmMem} {x1 : Int32} (h : (x1 < (0 : Int32) → P (some (.int (-2 : Int32))) μ) ∧ (¬ x1 < (0 : Int32) → (x1 ≤ (40 : Int32) → (mmKD 0 = 7) ∧ ((mmKD 1 = 4) ∧ ((mmKD 0 = 7) ∧ ((mmKD 1 = 4) ∧ (mmC0 d M_X4_resize false 1 [.ref 1, .int x1] μ fun ν1 => P (some (.int (μ.1 1 0))) ν1))))) ∧ (¬ x1 ≤ (40 : Int32) → P (some (.int (-2 : Int32))) μ))) : mmEnds d M_X7_size 0 [.ref 0, .int x1, .retAddr 7] [] μ P := mm_tree 5 OB_X7_size OH_X7_size_0 h
theorem s_X7_size_0 {d : Nat} {P : Option Value → mmMem → Prop} {μ : mmMem} {x1 : Int32} (hd : 0 ≤ d)  (h : (x1 < (0 : Int32) → P (some (.int (-2 : Int32))) μ) ∧ (¬ x1 < (0 : Int32) → (x1 ≤ (40 : Int32) → mmC0 d M_X4_resize false 1 [.ref 1, .int x1] μ fun ν9 => P (some (.int (μ.1 1 0))) ν9) ∧ (¬ x1 ≤ (40 : Int32) → P (some (.int (-2 : Int32))) μ))) : mmEnds d M_X7_size 0 [.ref 0, .int x1, .retAddr 7] [] μ P := s0_X7_size_0 (⟨fun q1 => (have h3 := (h).1 q1; h3), fun q2 => (have h4 := (h).2 q2; ⟨fun q5 => (have h7 := (h4).1 q5; ⟨kd_0, ⟨kd_1, ⟨kd_0, ⟨kd_1, (mmC0.mono (h7) (fun ν9 h10 => h10))⟩⟩⟩⟩), fun q6 => (have h8 := (h4).2 q6; h8)⟩)⟩)
theorem u_X7_size {d : Nat} {K : Int32 → mmMem → Prop} {μ : mmMem} {x1 : Int32} (hd : 1 ≤ d)  (h : (x1 < (0 : Int32) → K (-2 : Int32) μ) ∧ (¬ x1 < (0 : Int32) → (x1 ≤ (40 : Int32) → mmC0 (d - 1) M_X4_resize false 1 [.ref 1, .int x1] μ fun ν9 => K (μ.1 1 0) ν9) ∧ (¬ x1 ≤ (40 : Int32) → K (-2 : Int32) μ))) : mmCI d M_X7_size false 1 [.ref 0, .int x1] μ K :=
  mmCU.of (d' := d - 1) g_X7_size (by decide +kernel) rfl rfl (by omega) (s_X7_size_0 (d := d - 1) (by omega)  h)
theorem g_X7_isKind : mmGd M_X7_isKind true 1 := ⟨mm_in 288 (by decide +kernel) rfl, mm_in 10 (by decide +kernel) rfl, by decide +kernel, by decide, (show _ from mm_in 287 (by decide +kernel) rfl)⟩
def S_X7_isKind_0 : List mmMI := [(0, .iload_n 0, 1, 0, 0, 0, .null, mm0), (1, .ifCond .lt 13, 3, 0, 14, 0, .null, mm0)]
def S_X7_isKind_4 : List mmMI := [(4, .iload_n 0, 1, 0, 0, 0, .null, mm0), (5, .bipush 10, 2, 0, 0, 0, .int (10 : Int32), mm0), (7, .if_icmp .gt 7, 3, 0, 14, 0, .null, mm0)]
def S_X7_isKind_10 : List mmMI := [(10, .iconst 1, 1, 0, 0, 0, .int (1 : Int32), mm0), (11, .goto 4, 3, 0, 15, 0, .null, mm0)]
def S_X7_isKind_14 : List mmMI := [(14, .iconst 0, 1, 0, 0, 0, .int (0 : Int32), mm0)]
def S_X7_isKind_15 : List mmMI := [(15, .ireturn, 1, 0, 0, 0, .null, mm0)]
def BL_X7_isKind : mmBl := [(0, S_X7_isKind_0, 4), (4, S_X7_isKind_4, 10), (10, S_X7_isKind_10, 14), (14, S_X7_isKind_14, 15), (15, S_X7_isKind_15, 16)]
theorem OB_X7_isKind : mmOkB M_X7_isKind BL_X7_isKind = true := by decide +kernel
theorem OH_X7_isKind_0 : mmOkB M_X7_isKind [(0, S_X7_isKind_0, 4)] = true := by decide +kernel
theorem s0_X7_isKind_0 {d : Nat} {P : Option Value → mmMem → Prop} {μ : mmMem} {x0 : Int32} (h : (x0 < (0 : Int32) → P (some (.int (0 : Int32))) μ) ∧ (¬ x0 < (0 : Int32) → ((10 : Int32) < x0 → P (some (.int (0 : Int32))) μ) ∧ (¬ (10 : Int32) < x0 → P (some (.int (1 : Int32))) μ))) : mmEnds d M_X7_isKind 0 [.int x0] [] μ P := mm_tree 6 OB_X7_isKind OH_X7_isKind_0 h
theorem s_X7_isKind_0 {d : Nat} {P : Option Value → mmMem → Prop} {μ : mmMem} {x0 : Int32} (hd : 0 ≤ d)  (h : (x0 < (0 : Int32) → P (some (.int (0 : Int32))) μ) ∧ (¬ x0 < (0 : Int32) → ((10 : Int32) < x0 → P (some (.int (0 : Int32))) μ) ∧ (¬ (10 : Int32) < x0 → P (some (.int (1 : Int32))) μ))) : mmEnds d M_X7_isKind 0 [.int x0] [] μ P := s0_X7_isKind_0 (⟨fun q1 => (have h3 := (h).1 q1; h3), fun q2 => (have h4 := (h).2 q2; ⟨fun q5 => (have h7 := (h4).1 q5; h7), fun q6 => (have h8 := (h4).2 q6; h8)⟩)⟩)
theorem u_X7_isKind {d : Nat} {K : Int32 → mmMem → Prop} {μ : mmMem} {x0 : Int32} (hd : 1 ≤ d)  (h : (x0 < (0 : Int32) → K (0 : Int32) μ) ∧ (¬ x0 < (0 : Int32) → ((10 : Int32) < x0 → K (0 : Int32) μ) ∧ (¬ (10 : Int32) < x0 → K (1 : Int32) μ))) : mmCI d M_X7_isKind true 1 [.int x0] μ K :=
  mmCU.of (d' := d - 1) g_X7_isKind (by decide +kernel) rfl rfl (by omega) (s_X7_isKind_0 (d := d - 1) (by omega)  h)
theorem g_X7_column : mmGd M_X7_column false 1 := ⟨mm_in 285 (by decide +kernel) rfl, mm_in 10 (by decide +kernel) rfl, by decide +kernel, by decide, ⟨mm_in 283 (by decide +kernel) rfl, mm_in 284 (by decide +kernel) rfl⟩⟩
def S_X7_column_0 : List mmMI := [(0, .iload_n 1, 1, 0, 0, 0, .null, mm0), (1, .invokestatic 85, 3, 286, 1, 0, .null, M_X7_isKind), (4, .ifCond .ne 6, 3, 0, 10, 0, .null, mm0)]
def S_X7_column_7 : List mmMI := [(7, .bipush (-2), 2, 0, 0, 0, .int (-2 : Int32), mm0), (9, .ireturn, 1, 0, 0, 0, .null, mm0)]
def S_X7_column_10 : List mmMI := [(10, .aload_n 0, 1, 0, 0, 0, .null, mm0), (11, .getfield 10, 3, 204, 7, 0, .null, mm0), (14, .getfield 89, 3, 130, 4, 1, .null, mm0), (17, .bipush 12, 2, 0, 0, 0, .int (12 : Int32), mm0), (19, .if_icmp .lt 6, 3, 0, 25, 0, .null, mm0)]
def S_X7_column_22 : List mmMI := [(22, .bipush (-4), 2, 0, 0, 0, .int (-4 : Int32), mm0), (24, .ireturn, 1, 0, 0, 0, .null, mm0)]
def S_X7_column_25 : List mmMI := [(25, .aload_n 0, 1, 0, 0, 0, .null, mm0), (26, .getfield 10, 3, 204, 7, 0, .null, mm0), (29, .invokevirtual 92, 3, 289, 0, 4, .null, M_X4_nextColumn), (32, .astore_n 2, 1, 0, 0, 0, .null, mm0), (33, .aload_n 2, 1, 0, 0, 0, .null, mm0), (34, .iload_n 1, 1, 0, 0, 0, .null, mm0), (35, .aload_n 0, 1, 0, 0, 0, .null, mm0), (36, .getfield 10, 3, 204, 7, 0, .null, mm0), (39, .getfield 77, 3, 127, 4, 0, .null, mm0), (42, .invokevirtual 96, 3, 293, 2, 1, .null, M_X1_begin), (45, .aload_n 0, 1, 0, 0, 0, .null, mm0), (46, .getfield 10, 3, 204, 7, 0, .null, mm0), (49, .getfield 89, 3, 130, 4, 1, .null, mm0), (52, .iconst 1, 1, 0, 0, 0, .int (1 : Int32), mm0), (53, .isub, 1, 0, 0, 0, .null, mm0), (54, .ireturn, 1, 0, 0, 0, .null, mm0)]
def BL_X7_column : mmBl := [(0, S_X7_column_0, 7), (7, S_X7_column_7, 10), (10, S_X7_column_10, 22), (22, S_X7_column_22, 25), (25, S_X7_column_25, 55)]
theorem OB_X7_column : mmOkB M_X7_column BL_X7_column = true := by decide +kernel
theorem OH_X7_column_0 : mmOkB M_X7_column [(0, S_X7_column_0, 7)] = true := by decide +kernel
theorem s0_X7_column_0 {d : Nat} {P : Option Value → mmMem → Prop} {μ : mmMem} {x1 : Int32} (h : mmCI d M_X7_isKind true 1 [.int x1] μ fun y1 ν1 => (¬ y1 = (0 : Int32) → (mmKD 0 = 7) ∧ ((mmKD 1 = 4) ∧ (((ν1.1 1 1) < (12 : Int32) → (mmKD 0 = 7) ∧ ((mmKD 1 = 4) ∧ (mmCA d M_X4_nextColumn false 0 [.ref 1] ν1 fun y2 ν2 => (mmKD 0 = 7) ∧ ((mmKD 1 = 4) ∧ ((mmKD y2 = 1) ∧ (mmC0 d M_X1_begin false 2 [.ref y2, .int x1, .int (ν2.1 1 0)] ν2 fun ν3 => (mmKD 0 = 7) ∧ ((mmKD 1 = 4) ∧ (P (some (.int ((ν3.1 1 1) - (1 : Int32)))) ν3)))))))) ∧ (¬ (ν1.1 1 1) < (12 : Int32) → P (some (.int (-4 : Int32))) ν1)))) ∧ (y1 = (0 : Int32) → P (some (.int (-2 : Int32))) ν1)) : mmEnds d M_X7_column 0 [.ref 0, .int x1, .retAddr 7] [] μ P := mm_tree 6 OB_X7_column OH_X7_column_0 h
theorem s_X7_column_0 {d : Nat} {P : Option Value → mmMem → Prop} {μ : mmMem} {x1 : Int32} (hd : 1 ≤ d)  (h : (x1 < (0 : Int32) → P (some (.int (-2 : Int32))) μ) ∧ (¬ x1 < (0 : Int32) → ((10 : Int32) < x1 → P (some (.int (-2 : Int32))) μ) ∧ (¬ (10 : Int32) < x1 → ((μ.1 1 1) < (12 : Int32) → (vp_in (((μ.1 1 1) + (1 : Int32)) - (1 : Int32)) 12) ∧ (mmC0 d M_X1_begin false 2 [.ref (7 + 4 * (((μ.1 1 1) + (1 : Int32)) - (1 : Int32)).toNatClampNeg), .int x1, .int (μ.1 1 0)] (sI μ 1 1 ((μ.1 1 1) + (1 : Int32))) fun ν17 => P (some (.int ((ν17.1 1 1) - (1 : Int32)))) ν17)) ∧ (¬ (μ.1 1 1) < (12 : Int32) → P (some (.int (-4 : Int32))) μ)))) : mmEnds d M_X7_column 0 [.ref 0, .int x1, .retAddr 7] [] μ P := s0_X7_column_0 (u_X7_isKind (by omega)  (⟨fun q1 => (have h3 := (h).1 q1; ⟨fun q5 => absurd (by decide : (0 : Int32) = (0 : Int32)) q5, fun _ => h3⟩), fun q2 => (have h4 := (h).2 q2; ⟨fun q6 => (have h8 := (h4).1 q6; ⟨fun q10 => absurd (by decide : (0 : Int32) = (0 : Int32)) q10, fun _ => h8⟩), fun q7 => (have h9 := (h4).2 q7; ⟨fun _ => ⟨kd_0, ⟨kd_1, ⟨fun q11 => (have h13 := (h9).1 q11; ⟨kd_0, ⟨kd_1, (u_X4_nextColumn (by omega) kd_1 (have o15 := (h13).1; have h16 := (h13).2; ⟨o15, ⟨kd_0, ⟨kd_1, ⟨(ke_14 kd_2 (vp_l ln_2 o15)), (mmC0.mono (h16) (fun ν17 h18 => ⟨kd_0, ⟨kd_1, h18⟩⟩))⟩⟩⟩⟩))⟩⟩), fun q12 => (have h14 := (h9).2 q12; h14)⟩⟩⟩, fun q19 => absurd q19 (by decide : ¬ (1 : Int32) = (0 : Int32))⟩)⟩)⟩))
theorem u_X7_column {d : Nat} {K : Int32 → mmMem → Prop} {μ : mmMem} {x1 : Int32} (hd : 2 ≤ d)  (h : (x1 < (0 : Int32) → K (-2 : Int32) μ) ∧ (¬ x1 < (0 : Int32) → ((10 : Int32) < x1 → K (-2 : Int32) μ) ∧ (¬ (10 : Int32) < x1 → ((μ.1 1 1) < (12 : Int32) → (vp_in (((μ.1 1 1) + (1 : Int32)) - (1 : Int32)) 12) ∧ (mmC0 (d - 1) M_X1_begin false 2 [.ref (7 + 4 * (((μ.1 1 1) + (1 : Int32)) - (1 : Int32)).toNatClampNeg), .int x1, .int (μ.1 1 0)] (sI μ 1 1 ((μ.1 1 1) + (1 : Int32))) fun ν17 => K ((ν17.1 1 1) - (1 : Int32)) ν17)) ∧ (¬ (μ.1 1 1) < (12 : Int32) → K (-4 : Int32) μ)))) : mmCI d M_X7_column false 1 [.ref 0, .int x1] μ K :=
  mmCU.of (d' := d - 1) g_X7_column (by decide +kernel) rfl rfl (by omega) (s_X7_column_0 (d := d - 1) (by omega)  h)
theorem g_X7_refused : mmGd M_X7_refused false 1 := ⟨mm_in 309 (by decide +kernel) rfl, mm_in 10 (by decide +kernel) rfl, by decide +kernel, by decide, ⟨mm_in 308 (by decide +kernel) rfl, mm_in 1 (by decide +kernel) rfl⟩⟩
def S_X7_refused_0 : List mmMI := [(0, .iload_n 1, 1, 0, 0, 0, .null, mm0), (1, .bipush (-21), 2, 0, 0, 0, .int (-21 : Int32), mm0), (3, .if_icmp .ne 16, 3, 0, 19, 0, .null, mm0)]
def S_X7_refused_6 : List mmMI := [(6, .aload_n 0, 1, 0, 0, 0, .null, mm0), (7, .dup, 1, 0, 0, 0, .null, mm0), (8, .getfield 324, 3, 220, 7, 16, .null, mm0), (11, .iconst 1, 1, 0, 0, 0, .int (1 : Int32), mm0), (12, .iadd, 1, 0, 0, 0, .null, mm0), (13, .putfield 324, 3, 220, 7, 16, .null, mm0), (16, .goto 38, 3, 0, 54, 0, .null, mm0)]
def S_X7_refused_19 : List mmMI := [(19, .iload_n 1, 1, 0, 0, 0, .null, mm0), (20, .bipush (-22), 2, 0, 0, 0, .int (-22 : Int32), mm0), (22, .if_icmp .ne 16, 3, 0, 38, 0, .null, mm0)]
def S_X7_refused_25 : List mmMI := [(25, .aload_n 0, 1, 0, 0, 0, .null, mm0), (26, .dup, 1, 0, 0, 0, .null, mm0), (27, .getfield 327, 3, 221, 7, 17, .null, mm0), (30, .iconst 1, 1, 0, 0, 0, .int (1 : Int32), mm0), (31, .iadd, 1, 0, 0, 0, .null, mm0), (32, .putfield 327, 3, 221, 7, 17, .null, mm0), (35, .goto 19, 3, 0, 54, 0, .null, mm0)]
def S_X7_refused_38 : List mmMI := [(38, .iload_n 1, 1, 0, 0, 0, .null, mm0), (39, .bipush (-23), 2, 0, 0, 0, .int (-23 : Int32), mm0), (41, .if_icmp .ne 13, 3, 0, 54, 0, .null, mm0)]
def S_X7_refused_44 : List mmMI := [(44, .aload_n 0, 1, 0, 0, 0, .null, mm0), (45, .dup, 1, 0, 0, 0, .null, mm0), (46, .getfield 330, 3, 222, 7, 18, .null, mm0), (49, .iconst 1, 1, 0, 0, 0, .int (1 : Int32), mm0), (50, .iadd, 1, 0, 0, 0, .null, mm0), (51, .putfield 330, 3, 222, 7, 18, .null, mm0)]
def S_X7_refused_54 : List mmMI := [(54, .iload_n 1, 1, 0, 0, 0, .null, mm0), (55, .ireturn, 1, 0, 0, 0, .null, mm0)]
def BL_X7_refused : mmBl := [(0, S_X7_refused_0, 6), (6, S_X7_refused_6, 19), (19, S_X7_refused_19, 25), (25, S_X7_refused_25, 38), (38, S_X7_refused_38, 44), (44, S_X7_refused_44, 54), (54, S_X7_refused_54, 56)]
theorem OB_X7_refused : mmOkB M_X7_refused BL_X7_refused = true := by decide +kernel
theorem OH_X7_refused_0 : mmOkB M_X7_refused [(0, S_X7_refused_0, 6)] = true := by decide +kernel
theorem s0_X7_refused_0 {d : Nat} {P : Option Value → mmMem → Prop} {μ : mmMem} {x1 : Int32} (h : (¬ x1 = (-21 : Int32) → (¬ x1 = (-22 : Int32) → (¬ x1 = (-23 : Int32) → P (some (.int x1)) μ) ∧ (x1 = (-23 : Int32) → (mmKD 0 = 7) ∧ ((mmKD 0 = 7) ∧ (P (some (.int x1)) (sI μ 0 18 ((μ.1 0 18) + (1 : Int32))))))) ∧ (x1 = (-22 : Int32) → (mmKD 0 = 7) ∧ ((mmKD 0 = 7) ∧ (P (some (.int x1)) (sI μ 0 17 ((μ.1 0 17) + (1 : Int32))))))) ∧ (x1 = (-21 : Int32) → (mmKD 0 = 7) ∧ ((mmKD 0 = 7) ∧ (P (some (.int x1)) (sI μ 0 16 ((μ.1 0 16) + (1 : Int32))))))) : mmEnds d M_X7_refused 0 [.ref 0, .int x1] [] μ P := mm_tree 8 OB_X7_refused OH_X7_refused_0 h
theorem s_X7_refused_0 {d : Nat} {P : Option Value → mmMem → Prop} {μ : mmMem} {x1 : Int32} (hd : 0 ≤ d)  (h : (¬ x1 = (-21 : Int32) → (¬ x1 = (-22 : Int32) → (¬ x1 = (-23 : Int32) → P (some (.int x1)) μ) ∧ (x1 = (-23 : Int32) → P (some (.int x1)) (sI μ 0 18 ((μ.1 0 18) + (1 : Int32))))) ∧ (x1 = (-22 : Int32) → P (some (.int x1)) (sI μ 0 17 ((μ.1 0 17) + (1 : Int32))))) ∧ (x1 = (-21 : Int32) → P (some (.int x1)) (sI μ 0 16 ((μ.1 0 16) + (1 : Int32))))) : mmEnds d M_X7_refused 0 [.ref 0, .int x1] [] μ P := s0_X7_refused_0 (⟨fun q1 => (have h3 := (h).1 q1; ⟨fun q5 => (have h7 := (h3).1 q5; ⟨fun q9 => (have h11 := (h7).1 q9; h11), fun q10 => (have h12 := (h7).2 q10; ⟨kd_0, ⟨kd_0, h12⟩⟩)⟩), fun q6 => (have h8 := (h3).2 q6; ⟨kd_0, ⟨kd_0, h8⟩⟩)⟩), fun q2 => (have h4 := (h).2 q2; ⟨kd_0, ⟨kd_0, h4⟩⟩)⟩)
theorem u_X7_refused {d : Nat} {K : Int32 → mmMem → Prop} {μ : mmMem} {x1 : Int32} (hd : 1 ≤ d)  (h : (¬ x1 = (-21 : Int32) → (¬ x1 = (-22 : Int32) → (¬ x1 = (-23 : Int32) → K x1 μ) ∧ (x1 = (-23 : Int32) → K x1 (sI μ 0 18 ((μ.1 0 18) + (1 : Int32))))) ∧ (x1 = (-22 : Int32) → K x1 (sI μ 0 17 ((μ.1 0 17) + (1 : Int32))))) ∧ (x1 = (-21 : Int32) → K x1 (sI μ 0 16 ((μ.1 0 16) + (1 : Int32))))) : mmCI d M_X7_refused false 1 [.ref 0, .int x1] μ K :=
  mmCU.of (d' := d - 1) g_X7_refused (by decide +kernel) rfl rfl (by omega) (s_X7_refused_0 (d := d - 1) (by omega)  h)
theorem g_X7_columnRefusal : mmGd M_X7_columnRefusal false 1 := ⟨mm_in 305 (by decide +kernel) rfl, mm_in 10 (by decide +kernel) rfl, by decide +kernel, by decide, ⟨mm_in 304 (by decide +kernel) rfl, mm_in 0 (by decide +kernel) rfl⟩⟩
def S_X7_columnRefusal_0 : List mmMI := [(0, .iload_n 1, 1, 0, 0, 0, .null, mm0), (1, .ifCond .lt 9, 3, 0, 10, 0, .null, mm0)]
def S_X7_columnRefusal_4 : List mmMI := [(4, .iload_n 1, 1, 0, 0, 0, .null, mm0), (5, .bipush 12, 2, 0, 0, 0, .int (12 : Int32), mm0), (7, .if_icmp .lt 5, 3, 0, 12, 0, .null, mm0)]
def S_X7_columnRefusal_10 : List mmMI := [(10, .iconst (-1), 1, 0, 0, 0, .int (-1 : Int32), mm0), (11, .ireturn, 1, 0, 0, 0, .null, mm0)]
def S_X7_columnRefusal_12 : List mmMI := [(12, .iload_n 1, 1, 0, 0, 0, .null, mm0), (13, .aload_n 0, 1, 0, 0, 0, .null, mm0), (14, .getfield 10, 3, 204, 7, 0, .null, mm0), (17, .getfield 89, 3, 130, 4, 1, .null, mm0), (20, .if_icmp .lt 10, 3, 0, 30, 0, .null, mm0)]
def S_X7_columnRefusal_23 : List mmMI := [(23, .aload_n 0, 1, 0, 0, 0, .null, mm0), (24, .bipush (-23), 2, 0, 0, 0, .int (-23 : Int32), mm0), (26, .invokevirtual 119, 3, 306, 1, 7, .null, M_X7_refused), (29, .ireturn, 1, 0, 0, 0, .null, mm0)]
def S_X7_columnRefusal_30 : List mmMI := [(30, .aload_n 0, 1, 0, 0, 0, .null, mm0), (31, .getfield 10, 3, 204, 7, 0, .null, mm0), (34, .getfield 104, 3, 136, 4, 4, .null, mm0), (37, .iload_n 1, 1, 0, 0, 0, .null, mm0), (38, .aaload, 1, 0, 14, 0, .null, mm0), (39, .getfield 108, 3, 59, 1, 1, .null, mm0), (42, .ifCond .eq 12, 3, 0, 54, 0, .null, mm0)]
def S_X7_columnRefusal_45 : List mmMI := [(45, .aload_n 0, 1, 0, 0, 0, .null, mm0), (46, .bipush (-22), 2, 0, 0, 0, .int (-22 : Int32), mm0), (48, .invokevirtual 119, 3, 306, 1, 7, .null, M_X7_refused), (51, .goto 4, 3, 0, 55, 0, .null, mm0)]
def S_X7_columnRefusal_54 : List mmMI := [(54, .iconst 0, 1, 0, 0, 0, .int (0 : Int32), mm0)]
def S_X7_columnRefusal_55 : List mmMI := [(55, .ireturn, 1, 0, 0, 0, .null, mm0)]
def BL_X7_columnRefusal : mmBl := [(0, S_X7_columnRefusal_0, 4), (4, S_X7_columnRefusal_4, 10), (10, S_X7_columnRefusal_10, 12), (12, S_X7_columnRefusal_12, 23), (23, S_X7_columnRefusal_23, 30), (30, S_X7_columnRefusal_30, 45), (45, S_X7_columnRefusal_45, 54), (54, S_X7_columnRefusal_54, 55), (55, S_X7_columnRefusal_55, 56)]
theorem OB_X7_columnRefusal : mmOkB M_X7_columnRefusal BL_X7_columnRefusal = true := by decide +kernel
theorem OH_X7_columnRefusal_0 : mmOkB M_X7_columnRefusal [(0, S_X7_columnRefusal_0, 4)] = true := by decide +kernel
set_option maxRecDepth 10000 in
theorem s0_X7_columnRefusal_0 {d : Nat} {P : Option Value → mmMem → Prop} {μ : mmMem} {x1 : Int32} (h : (x1 < (0 : Int32) → P (some (.int (-1 : Int32))) μ) ∧ (¬ x1 < (0 : Int32) → (x1 < (12 : Int32) → (mmKD 0 = 7) ∧ ((mmKD 1 = 4) ∧ ((x1 < (μ.1 1 1) → (mmKD 0 = 7) ∧ ((mmKD 1 = 4) ∧ ((mmKD 2 = 14) ∧ ((vp_in x1 (mmLEN 2)) ∧ ((mmKD (7 + 4 * x1.toNatClampNeg) = 1) ∧ (((μ.1 (7 + 4 * x1.toNatClampNeg) 1) = (0 : Int32) → P (some (.int (0 : Int32))) μ) ∧ (¬ (μ.1 (7 + 4 * x1.toNatClampNeg) 1) = (0 : Int32) → (mmKD 0 = 7) ∧ (mmCI d M_X7_refused false 1 [.ref 0, .int (-22 : Int32)] μ fun y1 ν1 => P (some (.int y1)) ν1)))))))) ∧ (¬ x1 < (μ.1 1 1) → (mmKD 0 = 7) ∧ (mmCI d M_X7_refused false 1 [.ref 0, .int (-23 : Int32)] μ fun y2 ν2 => P (some (.int y2)) ν2))))) ∧ (¬ x1 < (12 : Int32) → P (some (.int (-1 : Int32))) μ))) : mmEnds d M_X7_columnRefusal 0 [.ref 0, .int x1] [] μ P := mm_tree 10 OB_X7_columnRefusal OH_X7_columnRefusal_0 h
theorem s_X7_columnRefusal_0 {d : Nat} {P : Option Value → mmMem → Prop} {μ : mmMem} {x1 : Int32} (hd : 0 ≤ d)  (h : (x1 < (0 : Int32) → P (some (.int (-1 : Int32))) μ) ∧ (¬ x1 < (0 : Int32) → (x1 < (12 : Int32) → (x1 < (μ.1 1 1) → ((μ.1 (7 + 4 * x1.toNatClampNeg) 1) = (0 : Int32) → P (some (.int (0 : Int32))) μ) ∧ (¬ (μ.1 (7 + 4 * x1.toNatClampNeg) 1) = (0 : Int32) → mmCI d M_X7_refused false 1 [.ref 0, .int (-22 : Int32)] μ fun y18 ν17 => P (some (.int y18)) ν17)) ∧ (¬ x1 < (μ.1 1 1) → mmCI d M_X7_refused false 1 [.ref 0, .int (-23 : Int32)] μ fun y21 ν20 => P (some (.int y21)) ν20)) ∧ (¬ x1 < (12 : Int32) → P (some (.int (-1 : Int32))) μ))) : mmEnds d M_X7_columnRefusal 0 [.ref 0, .int x1] [] μ P := s0_X7_columnRefusal_0 (⟨fun q1 => (have h3 := (h).1 q1; h3), fun q2 => (have h4 := (h).2 q2; ⟨fun q5 => (have h7 := (h4).1 q5; ⟨kd_0, ⟨kd_1, ⟨fun q9 => (have h11 := (h7).1 q9; ⟨kd_0, ⟨kd_1, ⟨kd_2, ⟨(vp_l ln_2 (vp_mk q2 (Int32.not_le.mpr q5) (by decide))), ⟨(ke_14 kd_2 (vp_l ln_2 (vp_mk q2 (Int32.not_le.mpr q5) (by decide)))), ⟨fun q13 => (have h15 := (h11).1 q13; h15), fun q14 => (have h16 := (h11).2 q14; ⟨kd_0, (mmCI.mono (h16) (fun y18 ν17 h19 => h19))⟩)⟩⟩⟩⟩⟩⟩), fun q10 => (have h12 := (h7).2 q10; ⟨kd_0, (mmCI.mono (h12) (fun y21 ν20 h22 => h22))⟩)⟩⟩⟩), fun q6 => (have h8 := (h4).2 q6; h8)⟩)⟩)
theorem u_X7_columnRefusal {d : Nat} {K : Int32 → mmMem → Prop} {μ : mmMem} {x1 : Int32} (hd : 1 ≤ d)  (h : (x1 < (0 : Int32) → K (-1 : Int32) μ) ∧ (¬ x1 < (0 : Int32) → (x1 < (12 : Int32) → (x1 < (μ.1 1 1) → ((μ.1 (7 + 4 * x1.toNatClampNeg) 1) = (0 : Int32) → K (0 : Int32) μ) ∧ (¬ (μ.1 (7 + 4 * x1.toNatClampNeg) 1) = (0 : Int32) → mmCI (d - 1) M_X7_refused false 1 [.ref 0, .int (-22 : Int32)] μ fun y18 ν17 => K y18 ν17)) ∧ (¬ x1 < (μ.1 1 1) → mmCI (d - 1) M_X7_refused false 1 [.ref 0, .int (-23 : Int32)] μ fun y21 ν20 => K y21 ν20)) ∧ (¬ x1 < (12 : Int32) → K (-1 : Int32) μ))) : mmCI d M_X7_columnRefusal false 1 [.ref 0, .int x1] μ K :=
  mmCU.of (d' := d - 1) g_X7_columnRefusal (by decide +kernel) rfl rfl (by omega) (s_X7_columnRefusal_0 (d := d - 1) (by omega)  h)
theorem g_X7_drop : mmGd M_X7_drop false 1 := ⟨mm_in 301 (by decide +kernel) rfl, mm_in 10 (by decide +kernel) rfl, by decide +kernel, by decide, ⟨mm_in 299 (by decide +kernel) rfl, mm_in 300 (by decide +kernel) rfl⟩⟩
def S_X7_drop_0 : List mmMI := [(0, .aload_n 0, 1, 0, 0, 0, .null, mm0), (1, .iload_n 1, 1, 0, 0, 0, .null, mm0), (2, .invokevirtual 100, 3, 302, 1, 7, .null, M_X7_columnRefusal), (5, .istore_n 2, 1, 0, 0, 0, .null, mm0), (6, .iload_n 2, 1, 0, 0, 0, .null, mm0), (7, .ifCond .eq 5, 3, 0, 12, 0, .null, mm0)]
def S_X7_drop_10 : List mmMI := [(10, .iload_n 2, 1, 0, 0, 0, .null, mm0), (11, .ireturn, 1, 0, 0, 0, .null, mm0)]
def S_X7_drop_12 : List mmMI := [(12, .aload_n 0, 1, 0, 0, 0, .null, mm0), (13, .getfield 10, 3, 204, 7, 0, .null, mm0), (16, .getfield 104, 3, 136, 4, 4, .null, mm0), (19, .iload_n 1, 1, 0, 0, 0, .null, mm0), (20, .aaload, 1, 0, 14, 0, .null, mm0), (21, .astore_n 3, 1, 0, 0, 0, .null, mm0), (22, .aload_n 3, 1, 0, 0, 0, .null, mm0), (23, .iconst 1, 1, 0, 0, 0, .int (1 : Int32), mm0), (24, .putfield 108, 3, 59, 1, 1, .null, mm0), (27, .aload_n 3, 1, 0, 0, 0, .null, mm0), (28, .getfield 112, 3, 56, 1, 0, .null, mm0), (31, .ireturn, 1, 0, 0, 0, .null, mm0)]
def BL_X7_drop : mmBl := [(0, S_X7_drop_0, 10), (10, S_X7_drop_10, 12), (12, S_X7_drop_12, 32)]
theorem OB_X7_drop : mmOkB M_X7_drop BL_X7_drop = true := by decide +kernel
theorem OH_X7_drop_0 : mmOkB M_X7_drop [(0, S_X7_drop_0, 10)] = true := by decide +kernel
theorem s0_X7_drop_0 {d : Nat} {P : Option Value → mmMem → Prop} {μ : mmMem} {x1 : Int32} (h : (mmKD 0 = 7) ∧ (mmCI d M_X7_columnRefusal false 1 [.ref 0, .int x1] μ fun y1 ν1 => (y1 = (0 : Int32) → (mmKD 0 = 7) ∧ ((mmKD 1 = 4) ∧ ((mmKD 2 = 14) ∧ ((vp_in x1 (mmLEN 2)) ∧ ((mmKD (7 + 4 * x1.toNatClampNeg) = 1) ∧ ((mmKD (7 + 4 * x1.toNatClampNeg) = 1) ∧ (P (some (.int ((sI ν1 (7 + 4 * x1.toNatClampNeg) 1 (1 : Int32)).1 (7 + 4 * x1.toNatClampNeg) 0))) (sI ν1 (7 + 4 * x1.toNatClampNeg) 1 (1 : Int32))))))))) ∧ (¬ y1 = (0 : Int32) → P (some (.int y1)) ν1))) : mmEnds d M_X7_drop 0 [.ref 0, .int x1, .retAddr 7, .retAddr 7] [] μ P := mm_tree 4 OB_X7_drop OH_X7_drop_0 h
theorem s_X7_drop_0 {d : Nat} {P : Option Value → mmMem → Prop} {μ : mmMem} {x1 : Int32} (hd : 0 ≤ d)  (h : mmCI d M_X7_columnRefusal false 1 [.ref 0, .int x1] μ fun y2 ν1 => (y2 = (0 : Int32) → (vp_in x1 12) ∧ (P (some (.int ((sI ν1 (7 + 4 * x1.toNatClampNeg) 1 (1 : Int32)).1 (7 + 4 * x1.toNatClampNeg) 0))) (sI ν1 (7 + 4 * x1.toNatClampNeg) 1 (1 : Int32)))) ∧ (¬ y2 = (0 : Int32) → P (some (.int y2)) ν1)) : mmEnds d M_X7_drop 0 [.ref 0, .int x1, .retAddr 7, .retAddr 7] [] μ P := s0_X7_drop_0 (⟨kd_0, (mmCI.mono (h) (fun y2 ν1 h9 => ⟨fun q3 => (have h5 := (h9).1 q3; ⟨kd_0, ⟨kd_1, ⟨kd_2, (have o7 := (h5).1; have h8 := (h5).2; ⟨vp_l ln_2 o7, ⟨(ke_14 kd_2 (vp_l ln_2 o7)), ⟨(ke_14 kd_2 (vp_l ln_2 o7)), h8⟩⟩⟩)⟩⟩⟩), fun q4 => (have h6 := (h9).2 q4; h6)⟩))⟩)
theorem u_X7_drop {d : Nat} {K : Int32 → mmMem → Prop} {μ : mmMem} {x1 : Int32} (hd : 1 ≤ d)  (h : mmCI (d - 1) M_X7_columnRefusal false 1 [.ref 0, .int x1] μ fun y2 ν1 => (y2 = (0 : Int32) → (vp_in x1 12) ∧ (K ((sI ν1 (7 + 4 * x1.toNatClampNeg) 1 (1 : Int32)).1 (7 + 4 * x1.toNatClampNeg) 0) (sI ν1 (7 + 4 * x1.toNatClampNeg) 1 (1 : Int32)))) ∧ (¬ y2 = (0 : Int32) → K y2 ν1)) : mmCI d M_X7_drop false 1 [.ref 0, .int x1] μ K :=
  mmCU.of (d' := d - 1) g_X7_drop (by decide +kernel) rfl rfl (by omega) (s_X7_drop_0 (d := d - 1) (by omega)  h)
theorem g_X7_kindOf : mmGd M_X7_kindOf false 1 := ⟨mm_in 313 (by decide +kernel) rfl, mm_in 10 (by decide +kernel) rfl, by decide +kernel, by decide, ⟨mm_in 311 (by decide +kernel) rfl, mm_in 312 (by decide +kernel) rfl⟩⟩
def S_X7_kindOf_0 : List mmMI := [(0, .aload_n 0, 1, 0, 0, 0, .null, mm0), (1, .iload_n 1, 1, 0, 0, 0, .null, mm0), (2, .invokevirtual 100, 3, 302, 1, 7, .null, M_X7_columnRefusal), (5, .istore_n 2, 1, 0, 0, 0, .null, mm0), (6, .iload_n 2, 1, 0, 0, 0, .null, mm0), (7, .ifCond .eq 7, 3, 0, 14, 0, .null, mm0)]
def S_X7_kindOf_10 : List mmMI := [(10, .iload_n 2, 1, 0, 0, 0, .null, mm0), (11, .goto 15, 3, 0, 26, 0, .null, mm0)]
def S_X7_kindOf_14 : List mmMI := [(14, .aload_n 0, 1, 0, 0, 0, .null, mm0), (15, .getfield 10, 3, 204, 7, 0, .null, mm0), (18, .getfield 104, 3, 136, 4, 4, .null, mm0), (21, .iload_n 1, 1, 0, 0, 0, .null, mm0), (22, .aaload, 1, 0, 14, 0, .null, mm0), (23, .getfield 112, 3, 56, 1, 0, .null, mm0)]
def S_X7_kindOf_26 : List mmMI := [(26, .ireturn, 1, 0, 0, 0, .null, mm0)]
def BL_X7_kindOf : mmBl := [(0, S_X7_kindOf_0, 10), (10, S_X7_kindOf_10, 14), (14, S_X7_kindOf_14, 26), (26, S_X7_kindOf_26, 27)]
theorem OB_X7_kindOf : mmOkB M_X7_kindOf BL_X7_kindOf = true := by decide +kernel
theorem OH_X7_kindOf_0 : mmOkB M_X7_kindOf [(0, S_X7_kindOf_0, 10)] = true := by decide +kernel
theorem s0_X7_kindOf_0 {d : Nat} {P : Option Value → mmMem → Prop} {μ : mmMem} {x1 : Int32} (h : (mmKD 0 = 7) ∧ (mmCI d M_X7_columnRefusal false 1 [.ref 0, .int x1] μ fun y1 ν1 => (y1 = (0 : Int32) → (mmKD 0 = 7) ∧ ((mmKD 1 = 4) ∧ ((mmKD 2 = 14) ∧ ((vp_in x1 (mmLEN 2)) ∧ ((mmKD (7 + 4 * x1.toNatClampNeg) = 1) ∧ (P (some (.int (ν1.1 (7 + 4 * x1.toNatClampNeg) 0))) ν1)))))) ∧ (¬ y1 = (0 : Int32) → P (some (.int y1)) ν1))) : mmEnds d M_X7_kindOf 0 [.ref 0, .int x1, .retAddr 7] [] μ P := mm_tree 5 OB_X7_kindOf OH_X7_kindOf_0 h
theorem s_X7_kindOf_0 {d : Nat} {P : Option Value → mmMem → Prop} {μ : mmMem} {x1 : Int32} (hd : 0 ≤ d)  (h : mmCI d M_X7_columnRefusal false 1 [.ref 0, .int x1] μ fun y2 ν1 => (y2 = (0 : Int32) → (vp_in x1 12) ∧ (P (some (.int (ν1.1 (7 + 4 * x1.toNatClampNeg) 0))) ν1)) ∧ (¬ y2 = (0 : Int32) → P (some (.int y2)) ν1)) : mmEnds d M_X7_kindOf 0 [.ref 0, .int x1, .retAddr 7] [] μ P := s0_X7_kindOf_0 (⟨kd_0, (mmCI.mono (h) (fun y2 ν1 h9 => ⟨fun q3 => (have h5 := (h9).1 q3; ⟨kd_0, ⟨kd_1, ⟨kd_2, (have o7 := (h5).1; have h8 := (h5).2; ⟨vp_l ln_2 o7, ⟨(ke_14 kd_2 (vp_l ln_2 o7)), h8⟩⟩)⟩⟩⟩), fun q4 => (have h6 := (h9).2 q4; h6)⟩))⟩)
theorem u_X7_kindOf {d : Nat} {K : Int32 → mmMem → Prop} {μ : mmMem} {x1 : Int32} (hd : 1 ≤ d)  (h : mmCI (d - 1) M_X7_columnRefusal false 1 [.ref 0, .int x1] μ fun y2 ν1 => (y2 = (0 : Int32) → (vp_in x1 12) ∧ (K (ν1.1 (7 + 4 * x1.toNatClampNeg) 0) ν1)) ∧ (¬ y2 = (0 : Int32) → K y2 ν1)) : mmCI d M_X7_kindOf false 1 [.ref 0, .int x1] μ K :=
  mmCU.of (d' := d - 1) g_X7_kindOf (by decide +kernel) rfl rfl (by omega) (s_X7_kindOf_0 (d := d - 1) (by omega)  h)
theorem g_X7_isRow : mmGd M_X7_isRow false 1 := ⟨mm_in 321 (by decide +kernel) rfl, mm_in 10 (by decide +kernel) rfl, by decide +kernel, by decide, ⟨mm_in 320 (by decide +kernel) rfl, mm_in 2 (by decide +kernel) rfl⟩⟩
def S_X7_isRow_0 : List mmMI := [(0, .iload_n 1, 1, 0, 0, 0, .null, mm0), (1, .ifCond .lt 18, 3, 0, 19, 0, .null, mm0)]
def S_X7_isRow_4 : List mmMI := [(4, .iload_n 1, 1, 0, 0, 0, .null, mm0), (5, .aload_n 0, 1, 0, 0, 0, .null, mm0), (6, .getfield 10, 3, 204, 7, 0, .null, mm0), (9, .getfield 77, 3, 127, 4, 0, .null, mm0), (12, .if_icmp .ge 7, 3, 0, 19, 0, .null, mm0)]
def S_X7_isRow_15 : List mmMI := [(15, .iconst 1, 1, 0, 0, 0, .int (1 : Int32), mm0), (16, .goto 4, 3, 0, 20, 0, .null, mm0)]
def S_X7_isRow_19 : List mmMI := [(19, .iconst 0, 1, 0, 0, 0, .int (0 : Int32), mm0)]
def S_X7_isRow_20 : List mmMI := [(20, .ireturn, 1, 0, 0, 0, .null, mm0)]
def BL_X7_isRow : mmBl := [(0, S_X7_isRow_0, 4), (4, S_X7_isRow_4, 15), (15, S_X7_isRow_15, 19), (19, S_X7_isRow_19, 20), (20, S_X7_isRow_20, 21)]
theorem OB_X7_isRow : mmOkB M_X7_isRow BL_X7_isRow = true := by decide +kernel
theorem OH_X7_isRow_0 : mmOkB M_X7_isRow [(0, S_X7_isRow_0, 4)] = true := by decide +kernel
theorem s0_X7_isRow_0 {d : Nat} {P : Option Value → mmMem → Prop} {μ : mmMem} {x1 : Int32} (h : (x1 < (0 : Int32) → P (some (.int (0 : Int32))) μ) ∧ (¬ x1 < (0 : Int32) → (mmKD 0 = 7) ∧ ((mmKD 1 = 4) ∧ (((μ.1 1 0) ≤ x1 → P (some (.int (0 : Int32))) μ) ∧ (¬ (μ.1 1 0) ≤ x1 → P (some (.int (1 : Int32))) μ))))) : mmEnds d M_X7_isRow 0 [.ref 0, .int x1] [] μ P := mm_tree 6 OB_X7_isRow OH_X7_isRow_0 h
theorem s_X7_isRow_0 {d : Nat} {P : Option Value → mmMem → Prop} {μ : mmMem} {x1 : Int32} (hd : 0 ≤ d)  (h : (x1 < (0 : Int32) → P (some (.int (0 : Int32))) μ) ∧ (¬ x1 < (0 : Int32) → ((μ.1 1 0) ≤ x1 → P (some (.int (0 : Int32))) μ) ∧ (¬ (μ.1 1 0) ≤ x1 → P (some (.int (1 : Int32))) μ))) : mmEnds d M_X7_isRow 0 [.ref 0, .int x1] [] μ P := s0_X7_isRow_0 (⟨fun q1 => (have h3 := (h).1 q1; h3), fun q2 => (have h4 := (h).2 q2; ⟨kd_0, ⟨kd_1, ⟨fun q5 => (have h7 := (h4).1 q5; h7), fun q6 => (have h8 := (h4).2 q6; h8)⟩⟩⟩)⟩)
theorem u_X7_isRow {d : Nat} {K : Int32 → mmMem → Prop} {μ : mmMem} {x1 : Int32} (hd : 1 ≤ d)  (h : (x1 < (0 : Int32) → K (0 : Int32) μ) ∧ (¬ x1 < (0 : Int32) → ((μ.1 1 0) ≤ x1 → K (0 : Int32) μ) ∧ (¬ (μ.1 1 0) ≤ x1 → K (1 : Int32) μ))) : mmCI d M_X7_isRow false 1 [.ref 0, .int x1] μ K :=
  mmCU.of (d' := d - 1) g_X7_isRow (by decide +kernel) rfl rfl (by omega) (s_X7_isRow_0 (d := d - 1) (by omega)  h)
theorem g_X7_swap : mmGd M_X7_swap false 2 := ⟨mm_in 317 (by decide +kernel) rfl, mm_in 10 (by decide +kernel) rfl, by decide +kernel, by decide, ⟨mm_in 315 (by decide +kernel) rfl, mm_in 316 (by decide +kernel) rfl⟩⟩
def S_X7_swap_0 : List mmMI := [(0, .aload_n 0, 1, 0, 0, 0, .null, mm0), (1, .iload_n 1, 1, 0, 0, 0, .null, mm0), (2, .invokevirtual 167, 3, 318, 1, 7, .null, M_X7_isRow), (5, .ifCond .eq 11, 3, 0, 16, 0, .null, mm0)]
def S_X7_swap_8 : List mmMI := [(8, .aload_n 0, 1, 0, 0, 0, .null, mm0), (9, .iload_n 2, 1, 0, 0, 0, .null, mm0), (10, .invokevirtual 167, 3, 318, 1, 7, .null, M_X7_isRow), (13, .ifCond .ne 10, 3, 0, 23, 0, .null, mm0)]
def S_X7_swap_16 : List mmMI := [(16, .aload_n 0, 1, 0, 0, 0, .null, mm0), (17, .bipush (-21), 2, 0, 0, 0, .int (-21 : Int32), mm0), (19, .invokevirtual 119, 3, 306, 1, 7, .null, M_X7_refused), (22, .ireturn, 1, 0, 0, 0, .null, mm0)]
def S_X7_swap_23 : List mmMI := [(23, .iconst 0, 1, 0, 0, 0, .int (0 : Int32), mm0), (24, .istore_n 3, 1, 0, 0, 0, .null, mm0), (25, .iconst 0, 1, 0, 0, 0, .int (0 : Int32), mm0), (26, .istore 4, 2, 0, 0, 0, .null, mm0)]
def S_X7_swap_28 : List mmMI := [(28, .iload 4, 2, 0, 0, 0, .null, mm0), (30, .aload_n 0, 1, 0, 0, 0, .null, mm0), (31, .getfield 10, 3, 204, 7, 0, .null, mm0), (34, .getfield 89, 3, 130, 4, 1, .null, mm0), (37, .if_icmp .ge 72, 3, 0, 109, 0, .null, mm0)]
def S_X7_swap_40 : List mmMI := [(40, .aload_n 0, 1, 0, 0, 0, .null, mm0), (41, .getfield 10, 3, 204, 7, 0, .null, mm0), (44, .getfield 104, 3, 136, 4, 4, .null, mm0), (47, .iload 4, 2, 0, 0, 0, .null, mm0), (49, .aaload, 1, 0, 14, 0, .null, mm0), (50, .astore 5, 2, 0, 0, 0, .null, mm0), (52, .aload 5, 2, 0, 0, 0, .null, mm0), (54, .getfield 108, 3, 59, 1, 1, .null, mm0), (57, .ifCond .ne 46, 3, 0, 103, 0, .null, mm0)]
def S_X7_swap_60 : List mmMI := [(60, .aload 5, 2, 0, 0, 0, .null, mm0), (62, .iload_n 1, 1, 0, 0, 0, .null, mm0), (63, .aload_n 0, 1, 0, 0, 0, .null, mm0), (64, .getfield 50, 3, 211, 7, 7, .null, mm0), (67, .invokevirtual 122, 3, 322, 2, 1, .null, M_X1_load), (70, .aload 5, 2, 0, 0, 0, .null, mm0), (72, .iload_n 2, 1, 0, 0, 0, .null, mm0), (73, .aload_n 0, 1, 0, 0, 0, .null, mm0), (74, .getfield 54, 3, 212, 7, 8, .null, mm0), (77, .invokevirtual 122, 3, 322, 2, 1, .null, M_X1_load), (80, .aload 5, 2, 0, 0, 0, .null, mm0), (82, .iload_n 1, 1, 0, 0, 0, .null, mm0), (83, .aload_n 0, 1, 0, 0, 0, .null, mm0), (84, .getfield 54, 3, 212, 7, 8, .null, mm0), (87, .invokevirtual 152, 3, 326, 2, 1, .null, M_X1_store), (90, .aload 5, 2, 0, 0, 0, .null, mm0), (92, .iload_n 2, 1, 0, 0, 0, .null, mm0), (93, .aload_n 0, 1, 0, 0, 0, .null, mm0), (94, .getfield 50, 3, 211, 7, 7, .null, mm0), (97, .invokevirtual 152, 3, 326, 2, 1, .null, M_X1_store), (100, .iinc 3 1, 3, 0, 0, 0, .int (1 : Int32), mm0)]
def S_X7_swap_103 : List mmMI := [(103, .iinc 4 1, 3, 0, 0, 0, .int (1 : Int32), mm0), (106, .goto (-78), 3, 0, 28, 0, .null, mm0)]
def S_X7_swap_109 : List mmMI := [(109, .iload_n 3, 1, 0, 0, 0, .null, mm0), (110, .ireturn, 1, 0, 0, 0, .null, mm0)]
def BL_X7_swap : mmBl := [(0, S_X7_swap_0, 8), (8, S_X7_swap_8, 16), (16, S_X7_swap_16, 23), (23, S_X7_swap_23, 28), (40, S_X7_swap_40, 60), (60, S_X7_swap_60, 103), (103, S_X7_swap_103, 109), (109, S_X7_swap_109, 111)]
theorem OB_X7_swap : mmOkB M_X7_swap BL_X7_swap = true := by decide +kernel
theorem OH_X7_swap_0 : mmOkB M_X7_swap [(0, S_X7_swap_0, 8)] = true := by decide +kernel
theorem s0_X7_swap_0 {d : Nat} {P : Option Value → mmMem → Prop} {μ : mmMem} {x1 : Int32} {x2 : Int32} (h : (mmKD 0 = 7) ∧ (mmCI d M_X7_isRow false 1 [.ref 0, .int x1] μ fun y1 ν1 => (y1 = (0 : Int32) → (mmKD 0 = 7) ∧ (mmCI d M_X7_refused false 1 [.ref 0, .int (-21 : Int32)] ν1 fun y2 ν2 => P (some (.int y2)) ν2)) ∧ (¬ y1 = (0 : Int32) → (mmKD 0 = 7) ∧ (mmCI d M_X7_isRow false 1 [.ref 0, .int x2] ν1 fun y3 ν3 => (¬ y3 = (0 : Int32) → mmEnds d M_X7_swap 28 [.ref 0, .int x1, .int x2, .int (0 : Int32), .int (0 : Int32), .retAddr 7] [] ν3 P) ∧ (y3 = (0 : Int32) → (mmKD 0 = 7) ∧ (mmCI d M_X7_refused false 1 [.ref 0, .int (-21 : Int32)] ν3 fun y4 ν4 => P (some (.int y4)) ν4)))))) : mmEnds d M_X7_swap 0 [.ref 0, .int x1, .int x2, .retAddr 7, .retAddr 7, .retAddr 7] [] μ P := mm_tree 9 OB_X7_swap OH_X7_swap_0 h
theorem s_X7_swap_0 {d : Nat} {P : Option Value → mmMem → Prop} {μ : mmMem} {x1 : Int32} {x2 : Int32} (hd : 1 ≤ d)  (h : (x1 < (0 : Int32) → mmCI d M_X7_refused false 1 [.ref 0, .int (-21 : Int32)] μ fun y6 ν5 => P (some (.int y6)) ν5) ∧ (¬ x1 < (0 : Int32) → ((μ.1 1 0) ≤ x1 → mmCI d M_X7_refused false 1 [.ref 0, .int (-21 : Int32)] μ fun y14 ν13 => P (some (.int y14)) ν13) ∧ (¬ (μ.1 1 0) ≤ x1 → (x2 < (0 : Int32) → mmCI d M_X7_refused false 1 [.ref 0, .int (-21 : Int32)] μ fun y22 ν21 => P (some (.int y22)) ν21) ∧ (¬ x2 < (0 : Int32) → ((μ.1 1 0) ≤ x2 → mmCI d M_X7_refused false 1 [.ref 0, .int (-21 : Int32)] μ fun y30 ν29 => P (some (.int y30)) ν29) ∧ (¬ (μ.1 1 0) ≤ x2 → mmEnds d M_X7_swap 28 [.ref 0, .int x1, .int x2, .int (0 : Int32), .int (0 : Int32), .retAddr 7] [] μ P))))) : mmEnds d M_X7_swap 0 [.ref 0, .int x1, .int x2, .retAddr 7, .retAddr 7, .retAddr 7] [] μ P := s0_X7_swap_0 (⟨kd_0, (u_X7_isRow (by omega)  (⟨fun q1 => (have h3 := (h).1 q1; ⟨fun _ => ⟨kd_0, (mmCI.mono (h3) (fun y6 ν5 h7 => h7))⟩, fun q8 => absurd (by decide : (0 : Int32) = (0 : Int32)) q8⟩), fun q2 => (have h4 := (h).2 q2; ⟨fun q9 => (have h11 := (h4).1 q9; ⟨fun _ => ⟨kd_0, (mmCI.mono (h11) (fun y14 ν13 h15 => h15))⟩, fun q16 => absurd (by decide : (0 : Int32) = (0 : Int32)) q16⟩), fun q10 => (have h12 := (h4).2 q10; ⟨fun q34 => absurd q34 (by decide : ¬ (1 : Int32) = (0 : Int32)), fun _ => ⟨kd_0, (u_X7_isRow (by omega)  (⟨fun q17 => (have h19 := (h12).1 q17; ⟨fun q24 => absurd (by decide : (0 : Int32) = (0 : Int32)) q24, fun _ => ⟨kd_0, (mmCI.mono (h19) (fun y22 ν21 h23 => h23))⟩⟩), fun q18 => (have h20 := (h12).2 q18; ⟨fun q25 => (have h27 := (h20).1 q25; ⟨fun q32 => absurd (by decide : (0 : Int32) = (0 : Int32)) q32, fun _ => ⟨kd_0, (mmCI.mono (h27) (fun y30 ν29 h31 => h31))⟩⟩), fun q26 => (have h28 := (h20).2 q26; ⟨fun _ => h28, fun q33 => absurd q33 (by decide : ¬ (1 : Int32) = (0 : Int32))⟩)⟩)⟩))⟩⟩)⟩)⟩))⟩)
theorem OH_X7_swap_28 : mmOkB M_X7_swap [(28, S_X7_swap_28, 40)] = true := by decide +kernel
set_option maxRecDepth 10000 in
theorem s0_X7_swap_28 {d : Nat} {P : Option Value → mmMem → Prop} {μ : mmMem} {x1 : Int32} {x2 : Int32} {x3 : Int32} {x4 : Int32} {v5 : Value} (h : (mmKD 0 = 7) ∧ ((mmKD 1 = 4) ∧ (((μ.1 1 1) ≤ x4 → P (some (.int x3)) μ) ∧ (¬ (μ.1 1 1) ≤ x4 → (mmKD 0 = 7) ∧ ((mmKD 1 = 4) ∧ ((mmKD 2 = 14) ∧ ((vp_in x4 (mmLEN 2)) ∧ ((mmKD (7 + 4 * x4.toNatClampNeg) = 1) ∧ ((¬ (μ.1 (7 + 4 * x4.toNatClampNeg) 1) = (0 : Int32) → mmEnds d M_X7_swap 28 [.ref 0, .int x1, .int x2, .int x3, .int (x4 + (1 : Int32)), .ref (7 + 4 * x4.toNatClampNeg)] [] μ P) ∧ ((μ.1 (7 + 4 * x4.toNatClampNeg) 1) = (0 : Int32) → (mmKD 0 = 7) ∧ ((mmKD (7 + 4 * x4.toNatClampNeg) = 1) ∧ (mmC0 d M_X1_load false 2 [.ref (7 + 4 * x4.toNatClampNeg), .int x1, .ref 152] μ fun ν1 => (mmKD 0 = 7) ∧ ((mmKD (7 + 4 * x4.toNatClampNeg) = 1) ∧ (mmC0 d M_X1_load false 2 [.ref (7 + 4 * x4.toNatClampNeg), .int x2, .ref 153] ν1 fun ν2 => (mmKD 0 = 7) ∧ ((mmKD (7 + 4 * x4.toNatClampNeg) = 1) ∧ (mmC0 d M_X1_store false 2 [.ref (7 + 4 * x4.toNatClampNeg), .int x1, .ref 153] ν2 fun ν3 => (mmKD 0 = 7) ∧ ((mmKD (7 + 4 * x4.toNatClampNeg) = 1) ∧ (mmC0 d M_X1_store false 2 [.ref (7 + 4 * x4.toNatClampNeg), .int x2, .ref 152] ν3 fun ν4 => mmEnds d M_X7_swap 28 [.ref 0, .int x1, .int x2, .int (x3 + (1 : Int32)), .int (x4 + (1 : Int32)), .ref (7 + 4 * x4.toNatClampNeg)] [] ν4 P)))))))))))))))))) : mmEnds d M_X7_swap 28 [.ref 0, .int x1, .int x2, .int x3, .int x4, v5] [] μ P := mm_tree 9 OB_X7_swap OH_X7_swap_28 h
set_option maxRecDepth 10000 in
theorem s_X7_swap_28 {d : Nat} {P : Option Value → mmMem → Prop} {μ : mmMem} {x1 : Int32} {x2 : Int32} {x3 : Int32} {x4 : Int32} {v5 : Value} (hd : 0 ≤ d)  (h : ((μ.1 1 1) ≤ x4 → P (some (.int x3)) μ) ∧ (¬ (μ.1 1 1) ≤ x4 → (vp_in x4 12) ∧ ((¬ (μ.1 (7 + 4 * x4.toNatClampNeg) 1) = (0 : Int32) → mmEnds d M_X7_swap 28 [.ref 0, .int x1, .int x2, .int x3, .int (x4 + (1 : Int32)), .ref (7 + 4 * x4.toNatClampNeg)] [] μ P) ∧ ((μ.1 (7 + 4 * x4.toNatClampNeg) 1) = (0 : Int32) → mmC0 d M_X1_load false 2 [.ref (7 + 4 * x4.toNatClampNeg), .int x1, .ref 152] μ fun ν11 => mmC0 d M_X1_load false 2 [.ref (7 + 4 * x4.toNatClampNeg), .int x2, .ref 153] ν11 fun ν12 => mmC0 d M_X1_store false 2 [.ref (7 + 4 * x4.toNatClampNeg), .int x1, .ref 153] ν12 fun ν13 => mmC0 d M_X1_store false 2 [.ref (7 + 4 * x4.toNatClampNeg), .int x2, .ref 152] ν13 fun ν14 => mmEnds d M_X7_swap 28 [.ref 0, .int x1, .int x2, .int (x3 + (1 : Int32)), .int (x4 + (1 : Int32)), .ref (7 + 4 * x4.toNatClampNeg)] [] ν14 P)))) : mmEnds d M_X7_swap 28 [.ref 0, .int x1, .int x2, .int x3, .int x4, v5] [] μ P := s0_X7_swap_28 (⟨kd_0, ⟨kd_1, ⟨fun q1 => (have h3 := (h).1 q1; h3), fun q2 => (have h4 := (h).2 q2; ⟨kd_0, ⟨kd_1, ⟨kd_2, (have o5 := (h4).1; have h6 := (h4).2; ⟨vp_l ln_2 o5, ⟨(ke_14 kd_2 (vp_l ln_2 o5)), ⟨fun q7 => (have h9 := (h6).1 q7; h9), fun q8 => (have h10 := (h6).2 q8; ⟨kd_0, ⟨(ke_14 kd_2 (vp_l ln_2 o5)), (mmC0.mono (h10) (fun ν11 h18 => ⟨kd_0, ⟨(ke_14 kd_2 (vp_l ln_2 o5)), (mmC0.mono (h18) (fun ν12 h17 => ⟨kd_0, ⟨(ke_14 kd_2 (vp_l ln_2 o5)), (mmC0.mono (h17) (fun ν13 h16 => ⟨kd_0, ⟨(ke_14 kd_2 (vp_l ln_2 o5)), (mmC0.mono (h16) (fun ν14 h15 => h15))⟩⟩))⟩⟩))⟩⟩))⟩⟩)⟩⟩⟩)⟩⟩⟩)⟩⟩⟩)
theorem u_X7_swap {d : Nat} {K : Int32 → mmMem → Prop} {μ : mmMem} {x1 : Int32} {x2 : Int32} (hd : 2 ≤ d)  (h : (x1 < (0 : Int32) → mmCI (d - 1) M_X7_refused false 1 [.ref 0, .int (-21 : Int32)] μ fun y6 ν5 => K y6 ν5) ∧ (¬ x1 < (0 : Int32) → ((μ.1 1 0) ≤ x1 → mmCI (d - 1) M_X7_refused false 1 [.ref 0, .int (-21 : Int32)] μ fun y14 ν13 => K y14 ν13) ∧ (¬ (μ.1 1 0) ≤ x1 → (x2 < (0 : Int32) → mmCI (d - 1) M_X7_refused false 1 [.ref 0, .int (-21 : Int32)] μ fun y22 ν21 => K y22 ν21) ∧ (¬ x2 < (0 : Int32) → ((μ.1 1 0) ≤ x2 → mmCI (d - 1) M_X7_refused false 1 [.ref 0, .int (-21 : Int32)] μ fun y30 ν29 => K y30 ν29) ∧ (¬ (μ.1 1 0) ≤ x2 → mmEnds (d - 1) M_X7_swap 28 [.ref 0, .int x1, .int x2, .int (0 : Int32), .int (0 : Int32), .retAddr 7] [] μ (mmPI K)))))) : mmCI d M_X7_swap false 2 [.ref 0, .int x1, .int x2] μ K :=
  mmCU.of (d' := d - 1) g_X7_swap (by decide +kernel) rfl rfl (by omega) (s_X7_swap_0 (d := d - 1) (by omega)  h)
theorem g_X7_isSame : mmGd M_X7_isSame false 3 := ⟨mm_in 337 (by decide +kernel) rfl, mm_in 10 (by decide +kernel) rfl, by decide +kernel, by decide, ⟨mm_in 336 (by decide +kernel) rfl, mm_in 3 (by decide +kernel) rfl⟩⟩
def S_X7_isSame_0 : List mmMI := [(0, .aload_n 1, 1, 0, 0, 0, .null, mm0), (1, .iload_n 2, 1, 0, 0, 0, .null, mm0), (2, .aload_n 0, 1, 0, 0, 0, .null, mm0), (3, .getfield 50, 3, 211, 7, 7, .null, mm0), (6, .invokevirtual 122, 3, 322, 2, 1, .null, M_X1_load), (9, .aload_n 1, 1, 0, 0, 0, .null, mm0), (10, .iload_n 3, 1, 0, 0, 0, .null, mm0), (11, .aload_n 0, 1, 0, 0, 0, .null, mm0), (12, .getfield 54, 3, 212, 7, 8, .null, mm0), (15, .invokevirtual 122, 3, 322, 2, 1, .null, M_X1_load), (18, .aload_n 0, 1, 0, 0, 0, .null, mm0), (19, .getfield 50, 3, 211, 7, 7, .null, mm0), (22, .aload_n 0, 1, 0, 0, 0, .null, mm0), (23, .getfield 54, 3, 212, 7, 8, .null, mm0), (26, .invokevirtual 352, 3, 338, 1, 0, .null, M_X0_isSame), (29, .ireturn, 1, 0, 0, 0, .null, mm0)]
def BL_X7_isSame : mmBl := [(0, S_X7_isSame_0, 30)]
theorem OB_X7_isSame : mmOkB M_X7_isSame BL_X7_isSame = true := by decide +kernel
theorem OH_X7_isSame_0 : mmOkB M_X7_isSame [(0, S_X7_isSame_0, 30)] = true := by decide +kernel
theorem s0_X7_isSame_0 {d : Nat} {P : Option Value → mmMem → Prop} {μ : mmMem} {a1 : Nat} {x2 : Int32} {x3 : Int32} (h : (mmKD 0 = 7) ∧ ((mmKD a1 = 1) ∧ (mmC0 d M_X1_load false 2 [.ref a1, .int x2, .ref 152] μ fun ν1 => (mmKD 0 = 7) ∧ ((mmKD a1 = 1) ∧ (mmC0 d M_X1_load false 2 [.ref a1, .int x3, .ref 153] ν1 fun ν2 => (mmKD 0 = 7) ∧ ((mmKD 0 = 7) ∧ ((mmKD 152 = 0) ∧ (mmCI d M_X0_isSame false 1 [.ref 152, .ref 153] ν2 fun y3 ν3 => mbl y3 (P (some (.int y3)) ν3))))))))) : mmEnds d M_X7_isSame 0 [.ref 0, .ref a1, .int x2, .int x3] [] μ P := mm_tree 2 OB_X7_isSame OH_X7_isSame_0 h
theorem s_X7_isSame_0 {d : Nat} {P : Option Value → mmMem → Prop} {μ : mmMem} {a1 : Nat} {x2 : Int32} {x3 : Int32} (hd : 0 ≤ d) (k1 : mmKD a1 = 1) (h : mmC0 d M_X1_load false 2 [.ref a1, .int x2, .ref 152] μ fun ν1 => mmC0 d M_X1_load false 2 [.ref a1, .int x3, .ref 153] ν1 fun ν2 => mmCI d M_X0_isSame false 1 [.ref 152, .ref 153] ν2 fun y4 ν3 => (y4 = 0 ∨ y4 = 1) ∧ (P (some (.int y4)) ν3)) : mmEnds d M_X7_isSame 0 [.ref 0, .ref a1, .int x2, .int x3] [] μ P := s0_X7_isSame_0 (⟨kd_0, ⟨k1, (mmC0.mono (h) (fun ν1 h9 => ⟨kd_0, ⟨k1, (mmC0.mono (h9) (fun ν2 h8 => ⟨kd_0, ⟨kd_0, ⟨kd_152, (mmCI.mono (h8) (fun y4 ν3 h7 => (have o5 := (h7).1; have h6 := (h7).2; mbl_i o5 h6)))⟩⟩⟩))⟩⟩))⟩⟩)
theorem u_X7_isSame {d : Nat} {K : Int32 → mmMem → Prop} {μ : mmMem} {a1 : Nat} {x2 : Int32} {x3 : Int32} (hd : 1 ≤ d) (k1 : mmKD a1 = 1) (h : mmC0 (d - 1) M_X1_load false 2 [.ref a1, .int x2, .ref 152] μ fun ν1 => mmC0 (d - 1) M_X1_load false 2 [.ref a1, .int x3, .ref 153] ν1 fun ν2 => mmCI (d - 1) M_X0_isSame false 1 [.ref 152, .ref 153] ν2 fun y4 ν3 => (y4 = 0 ∨ y4 = 1) ∧ (K y4 ν3)) : mmCI d M_X7_isSame false 3 [.ref 0, .ref a1, .int x2, .int x3] μ K :=
  mmCU.of (d' := d - 1) g_X7_isSame (by decide +kernel) rfl rfl (by omega) (s_X7_isSame_0 (d := d - 1) (by omega) k1 h)
theorem g_X7_differs : mmGd M_X7_differs false 2 := ⟨mm_in 333 (by decide +kernel) rfl, mm_in 10 (by decide +kernel) rfl, by decide +kernel, by decide, ⟨mm_in 331 (by decide +kernel) rfl, mm_in 332 (by decide +kernel) rfl⟩⟩
def S_X7_differs_0 : List mmMI := [(0, .aload_n 0, 1, 0, 0, 0, .null, mm0), (1, .iload_n 1, 1, 0, 0, 0, .null, mm0), (2, .invokevirtual 167, 3, 318, 1, 7, .null, M_X7_isRow), (5, .ifCond .eq 11, 3, 0, 16, 0, .null, mm0)]
def S_X7_differs_8 : List mmMI := [(8, .aload_n 0, 1, 0, 0, 0, .null, mm0), (9, .iload_n 2, 1, 0, 0, 0, .null, mm0), (10, .invokevirtual 167, 3, 318, 1, 7, .null, M_X7_isRow), (13, .ifCond .ne 10, 3, 0, 23, 0, .null, mm0)]
def S_X7_differs_16 : List mmMI := [(16, .aload_n 0, 1, 0, 0, 0, .null, mm0), (17, .bipush (-21), 2, 0, 0, 0, .int (-21 : Int32), mm0), (19, .invokevirtual 119, 3, 306, 1, 7, .null, M_X7_refused), (22, .ireturn, 1, 0, 0, 0, .null, mm0)]
def S_X7_differs_23 : List mmMI := [(23, .iconst 0, 1, 0, 0, 0, .int (0 : Int32), mm0), (24, .istore_n 3, 1, 0, 0, 0, .null, mm0)]
def S_X7_differs_25 : List mmMI := [(25, .iload_n 3, 1, 0, 0, 0, .null, mm0), (26, .aload_n 0, 1, 0, 0, 0, .null, mm0), (27, .getfield 10, 3, 204, 7, 0, .null, mm0), (30, .getfield 89, 3, 130, 4, 1, .null, mm0), (33, .if_icmp .ge 44, 3, 0, 77, 0, .null, mm0)]
def S_X7_differs_36 : List mmMI := [(36, .aload_n 0, 1, 0, 0, 0, .null, mm0), (37, .getfield 10, 3, 204, 7, 0, .null, mm0), (40, .getfield 104, 3, 136, 4, 4, .null, mm0), (43, .iload_n 3, 1, 0, 0, 0, .null, mm0), (44, .aaload, 1, 0, 14, 0, .null, mm0), (45, .getfield 108, 3, 59, 1, 1, .null, mm0), (48, .ifCond .ne 23, 3, 0, 71, 0, .null, mm0)]
def S_X7_differs_51 : List mmMI := [(51, .aload_n 0, 1, 0, 0, 0, .null, mm0), (52, .aload_n 0, 1, 0, 0, 0, .null, mm0), (53, .getfield 10, 3, 204, 7, 0, .null, mm0), (56, .getfield 104, 3, 136, 4, 4, .null, mm0), (59, .iload_n 3, 1, 0, 0, 0, .null, mm0), (60, .aaload, 1, 0, 14, 0, .null, mm0), (61, .iload_n 1, 1, 0, 0, 0, .null, mm0), (62, .iload_n 2, 1, 0, 0, 0, .null, mm0), (63, .invokevirtual 170, 3, 334, 3, 7, .null, M_X7_isSame), (66, .ifCond .ne 5, 3, 0, 71, 0, .null, mm0)]
def S_X7_differs_69 : List mmMI := [(69, .iload_n 3, 1, 0, 0, 0, .null, mm0), (70, .ireturn, 1, 0, 0, 0, .null, mm0)]
def S_X7_differs_71 : List mmMI := [(71, .iinc 3 1, 3, 0, 0, 0, .int (1 : Int32), mm0), (74, .goto (-49), 3, 0, 25, 0, .null, mm0)]
def S_X7_differs_77 : List mmMI := [(77, .bipush (-5), 2, 0, 0, 0, .int (-5 : Int32), mm0), (79, .ireturn, 1, 0, 0, 0, .null, mm0)]
def BL_X7_differs : mmBl := [(0, S_X7_differs_0, 8), (8, S_X7_differs_8, 16), (16, S_X7_differs_16, 23), (23, S_X7_differs_23, 25), (36, S_X7_differs_36, 51), (51, S_X7_differs_51, 69), (69, S_X7_differs_69, 71), (71, S_X7_differs_71, 77), (77, S_X7_differs_77, 80)]
theorem OB_X7_differs : mmOkB M_X7_differs BL_X7_differs = true := by decide +kernel
theorem OH_X7_differs_0 : mmOkB M_X7_differs [(0, S_X7_differs_0, 8)] = true := by decide +kernel
theorem s0_X7_differs_0 {d : Nat} {P : Option Value → mmMem → Prop} {μ : mmMem} {x1 : Int32} {x2 : Int32} (h : (mmKD 0 = 7) ∧ (mmCI d M_X7_isRow false 1 [.ref 0, .int x1] μ fun y1 ν1 => (y1 = (0 : Int32) → (mmKD 0 = 7) ∧ (mmCI d M_X7_refused false 1 [.ref 0, .int (-21 : Int32)] ν1 fun y2 ν2 => P (some (.int y2)) ν2)) ∧ (¬ y1 = (0 : Int32) → (mmKD 0 = 7) ∧ (mmCI d M_X7_isRow false 1 [.ref 0, .int x2] ν1 fun y3 ν3 => (¬ y3 = (0 : Int32) → mmEnds d M_X7_differs 25 [.ref 0, .int x1, .int x2, .int (0 : Int32)] [] ν3 P) ∧ (y3 = (0 : Int32) → (mmKD 0 = 7) ∧ (mmCI d M_X7_refused false 1 [.ref 0, .int (-21 : Int32)] ν3 fun y4 ν4 => P (some (.int y4)) ν4)))))) : mmEnds d M_X7_differs 0 [.ref 0, .int x1, .int x2, .retAddr 7] [] μ P := mm_tree 10 OB_X7_differs OH_X7_differs_0 h
theorem s_X7_differs_0 {d : Nat} {P : Option Value → mmMem → Prop} {μ : mmMem} {x1 : Int32} {x2 : Int32} (hd : 1 ≤ d)  (h : (x1 < (0 : Int32) → mmCI d M_X7_refused false 1 [.ref 0, .int (-21 : Int32)] μ fun y6 ν5 => P (some (.int y6)) ν5) ∧ (¬ x1 < (0 : Int32) → ((μ.1 1 0) ≤ x1 → mmCI d M_X7_refused false 1 [.ref 0, .int (-21 : Int32)] μ fun y14 ν13 => P (some (.int y14)) ν13) ∧ (¬ (μ.1 1 0) ≤ x1 → (x2 < (0 : Int32) → mmCI d M_X7_refused false 1 [.ref 0, .int (-21 : Int32)] μ fun y22 ν21 => P (some (.int y22)) ν21) ∧ (¬ x2 < (0 : Int32) → ((μ.1 1 0) ≤ x2 → mmCI d M_X7_refused false 1 [.ref 0, .int (-21 : Int32)] μ fun y30 ν29 => P (some (.int y30)) ν29) ∧ (¬ (μ.1 1 0) ≤ x2 → mmEnds d M_X7_differs 25 [.ref 0, .int x1, .int x2, .int (0 : Int32)] [] μ P))))) : mmEnds d M_X7_differs 0 [.ref 0, .int x1, .int x2, .retAddr 7] [] μ P := s0_X7_differs_0 (⟨kd_0, (u_X7_isRow (by omega)  (⟨fun q1 => (have h3 := (h).1 q1; ⟨fun _ => ⟨kd_0, (mmCI.mono (h3) (fun y6 ν5 h7 => h7))⟩, fun q8 => absurd (by decide : (0 : Int32) = (0 : Int32)) q8⟩), fun q2 => (have h4 := (h).2 q2; ⟨fun q9 => (have h11 := (h4).1 q9; ⟨fun _ => ⟨kd_0, (mmCI.mono (h11) (fun y14 ν13 h15 => h15))⟩, fun q16 => absurd (by decide : (0 : Int32) = (0 : Int32)) q16⟩), fun q10 => (have h12 := (h4).2 q10; ⟨fun q34 => absurd q34 (by decide : ¬ (1 : Int32) = (0 : Int32)), fun _ => ⟨kd_0, (u_X7_isRow (by omega)  (⟨fun q17 => (have h19 := (h12).1 q17; ⟨fun q24 => absurd (by decide : (0 : Int32) = (0 : Int32)) q24, fun _ => ⟨kd_0, (mmCI.mono (h19) (fun y22 ν21 h23 => h23))⟩⟩), fun q18 => (have h20 := (h12).2 q18; ⟨fun q25 => (have h27 := (h20).1 q25; ⟨fun q32 => absurd (by decide : (0 : Int32) = (0 : Int32)) q32, fun _ => ⟨kd_0, (mmCI.mono (h27) (fun y30 ν29 h31 => h31))⟩⟩), fun q26 => (have h28 := (h20).2 q26; ⟨fun _ => h28, fun q33 => absurd q33 (by decide : ¬ (1 : Int32) = (0 : Int32))⟩)⟩)⟩))⟩⟩)⟩)⟩))⟩)
theorem OH_X7_differs_25 : mmOkB M_X7_differs [(25, S_X7_differs_25, 36)] = true := by decide +kernel
set_option maxRecDepth 10000 in
theorem s0_X7_differs_25 {d : Nat} {P : Option Value → mmMem → Prop} {μ : mmMem} {x1 : Int32} {x2 : Int32} {x3 : Int32} (h : (mmKD 0 = 7) ∧ ((mmKD 1 = 4) ∧ (((μ.1 1 1) ≤ x3 → P (some (.int (-5 : Int32))) μ) ∧ (¬ (μ.1 1 1) ≤ x3 → (mmKD 0 = 7) ∧ ((mmKD 1 = 4) ∧ ((mmKD 2 = 14) ∧ ((vp_in x3 (mmLEN 2)) ∧ ((mmKD (7 + 4 * x3.toNatClampNeg) = 1) ∧ ((¬ (μ.1 (7 + 4 * x3.toNatClampNeg) 1) = (0 : Int32) → mmEnds d M_X7_differs 25 [.ref 0, .int x1, .int x2, .int (x3 + (1 : Int32))] [] μ P) ∧ ((μ.1 (7 + 4 * x3.toNatClampNeg) 1) = (0 : Int32) → (mmKD 0 = 7) ∧ ((mmKD 1 = 4) ∧ ((mmKD 2 = 14) ∧ ((vp_in x3 (mmLEN 2)) ∧ ((mmKD 0 = 7) ∧ (mmCI d M_X7_isSame false 3 [.ref 0, .ref (7 + 4 * x3.toNatClampNeg), .int x1, .int x2] μ fun y1 ν1 => (¬ y1 = (0 : Int32) → mmEnds d M_X7_differs 25 [.ref 0, .int x1, .int x2, .int (x3 + (1 : Int32))] [] ν1 P) ∧ (y1 = (0 : Int32) → P (some (.int x3)) ν1)))))))))))))))) : mmEnds d M_X7_differs 25 [.ref 0, .int x1, .int x2, .int x3] [] μ P := mm_tree 10 OB_X7_differs OH_X7_differs_25 h
theorem s_X7_differs_25 {d : Nat} {P : Option Value → mmMem → Prop} {μ : mmMem} {x1 : Int32} {x2 : Int32} {x3 : Int32} (hd : 0 ≤ d)  (h : ((μ.1 1 1) ≤ x3 → P (some (.int (-5 : Int32))) μ) ∧ (¬ (μ.1 1 1) ≤ x3 → (vp_in x3 12) ∧ ((¬ (μ.1 (7 + 4 * x3.toNatClampNeg) 1) = (0 : Int32) → mmEnds d M_X7_differs 25 [.ref 0, .int x1, .int x2, .int (x3 + (1 : Int32))] [] μ P) ∧ ((μ.1 (7 + 4 * x3.toNatClampNeg) 1) = (0 : Int32) → mmCI d M_X7_isSame false 3 [.ref 0, .ref (7 + 4 * x3.toNatClampNeg), .int x1, .int x2] μ fun y12 ν11 => (¬ y12 = (0 : Int32) → mmEnds d M_X7_differs 25 [.ref 0, .int x1, .int x2, .int (x3 + (1 : Int32))] [] ν11 P) ∧ (y12 = (0 : Int32) → P (some (.int x3)) ν11))))) : mmEnds d M_X7_differs 25 [.ref 0, .int x1, .int x2, .int x3] [] μ P := s0_X7_differs_25 (⟨kd_0, ⟨kd_1, ⟨fun q1 => (have h3 := (h).1 q1; h3), fun q2 => (have h4 := (h).2 q2; ⟨kd_0, ⟨kd_1, ⟨kd_2, (have o5 := (h4).1; have h6 := (h4).2; ⟨vp_l ln_2 o5, ⟨(ke_14 kd_2 (vp_l ln_2 o5)), ⟨fun q7 => (have h9 := (h6).1 q7; h9), fun q8 => (have h10 := (h6).2 q8; ⟨kd_0, ⟨kd_1, ⟨kd_2, ⟨(vp_l ln_2 o5), ⟨kd_0, (mmCI.mono (h10) (fun y12 ν11 h17 => ⟨fun q13 => (have h15 := (h17).1 q13; h15), fun q14 => (have h16 := (h17).2 q14; h16)⟩))⟩⟩⟩⟩⟩)⟩⟩⟩)⟩⟩⟩)⟩⟩⟩)
theorem u_X7_differs {d : Nat} {K : Int32 → mmMem → Prop} {μ : mmMem} {x1 : Int32} {x2 : Int32} (hd : 2 ≤ d)  (h : (x1 < (0 : Int32) → mmCI (d - 1) M_X7_refused false 1 [.ref 0, .int (-21 : Int32)] μ fun y6 ν5 => K y6 ν5) ∧ (¬ x1 < (0 : Int32) → ((μ.1 1 0) ≤ x1 → mmCI (d - 1) M_X7_refused false 1 [.ref 0, .int (-21 : Int32)] μ fun y14 ν13 => K y14 ν13) ∧ (¬ (μ.1 1 0) ≤ x1 → (x2 < (0 : Int32) → mmCI (d - 1) M_X7_refused false 1 [.ref 0, .int (-21 : Int32)] μ fun y22 ν21 => K y22 ν21) ∧ (¬ x2 < (0 : Int32) → ((μ.1 1 0) ≤ x2 → mmCI (d - 1) M_X7_refused false 1 [.ref 0, .int (-21 : Int32)] μ fun y30 ν29 => K y30 ν29) ∧ (¬ (μ.1 1 0) ≤ x2 → mmEnds (d - 1) M_X7_differs 25 [.ref 0, .int x1, .int x2, .int (0 : Int32)] [] μ (mmPI K)))))) : mmCI d M_X7_differs false 2 [.ref 0, .int x1, .int x2] μ K :=
  mmCU.of (d' := d - 1) g_X7_differs (by decide +kernel) rfl rfl (by omega) (s_X7_differs_0 (d := d - 1) (by omega)  h)
theorem g_X7_isView : mmGd M_X7_isView true 1 := ⟨mm_in 348 (by decide +kernel) rfl, mm_in 10 (by decide +kernel) rfl, by decide +kernel, by decide, (show _ from mm_in 347 (by decide +kernel) rfl)⟩
def S_X7_isView_0 : List mmMI := [(0, .iload_n 0, 1, 0, 0, 0, .null, mm0), (1, .ifCond .lt 12, 3, 0, 13, 0, .null, mm0)]
def S_X7_isView_4 : List mmMI := [(4, .iload_n 0, 1, 0, 0, 0, .null, mm0), (5, .iconst 2, 1, 0, 0, 0, .int (2 : Int32), mm0), (6, .if_icmp .ge 7, 3, 0, 13, 0, .null, mm0)]
def S_X7_isView_9 : List mmMI := [(9, .iconst 1, 1, 0, 0, 0, .int (1 : Int32), mm0), (10, .goto 4, 3, 0, 14, 0, .null, mm0)]
def S_X7_isView_13 : List mmMI := [(13, .iconst 0, 1, 0, 0, 0, .int (0 : Int32), mm0)]
def S_X7_isView_14 : List mmMI := [(14, .ireturn, 1, 0, 0, 0, .null, mm0)]
def BL_X7_isView : mmBl := [(0, S_X7_isView_0, 4), (4, S_X7_isView_4, 9), (9, S_X7_isView_9, 13), (13, S_X7_isView_13, 14), (14, S_X7_isView_14, 15)]
theorem OB_X7_isView : mmOkB M_X7_isView BL_X7_isView = true := by decide +kernel
theorem OH_X7_isView_0 : mmOkB M_X7_isView [(0, S_X7_isView_0, 4)] = true := by decide +kernel
theorem s0_X7_isView_0 {d : Nat} {P : Option Value → mmMem → Prop} {μ : mmMem} {x0 : Int32} (h : (x0 < (0 : Int32) → P (some (.int (0 : Int32))) μ) ∧ (¬ x0 < (0 : Int32) → ((2 : Int32) ≤ x0 → P (some (.int (0 : Int32))) μ) ∧ (¬ (2 : Int32) ≤ x0 → P (some (.int (1 : Int32))) μ))) : mmEnds d M_X7_isView 0 [.int x0] [] μ P := mm_tree 6 OB_X7_isView OH_X7_isView_0 h
theorem s_X7_isView_0 {d : Nat} {P : Option Value → mmMem → Prop} {μ : mmMem} {x0 : Int32} (hd : 0 ≤ d)  (h : (x0 < (0 : Int32) → P (some (.int (0 : Int32))) μ) ∧ (¬ x0 < (0 : Int32) → ((2 : Int32) ≤ x0 → P (some (.int (0 : Int32))) μ) ∧ (¬ (2 : Int32) ≤ x0 → P (some (.int (1 : Int32))) μ))) : mmEnds d M_X7_isView 0 [.int x0] [] μ P := s0_X7_isView_0 (⟨fun q1 => (have h3 := (h).1 q1; h3), fun q2 => (have h4 := (h).2 q2; ⟨fun q5 => (have h7 := (h4).1 q5; h7), fun q6 => (have h8 := (h4).2 q6; h8)⟩)⟩)
theorem u_X7_isView {d : Nat} {K : Int32 → mmMem → Prop} {μ : mmMem} {x0 : Int32} (hd : 1 ≤ d)  (h : (x0 < (0 : Int32) → K (0 : Int32) μ) ∧ (¬ x0 < (0 : Int32) → ((2 : Int32) ≤ x0 → K (0 : Int32) μ) ∧ (¬ (2 : Int32) ≤ x0 → K (1 : Int32) μ))) : mmCI d M_X7_isView true 1 [.int x0] μ K :=
  mmCU.of (d' := d - 1) g_X7_isView (by decide +kernel) rfl rfl (by omega) (s_X7_isView_0 (d := d - 1) (by omega)  h)
theorem g_X7_view : mmGd M_X7_view false 1 := ⟨mm_in 345 (by decide +kernel) rfl, mm_in 10 (by decide +kernel) rfl, by decide +kernel, by decide, ⟨mm_in 343 (by decide +kernel) rfl, mm_in 344 (by decide +kernel) rfl⟩⟩
def S_X7_view_0 : List mmMI := [(0, .iload_n 1, 1, 0, 0, 0, .null, mm0), (1, .invokestatic 184, 3, 346, 1, 0, .null, M_X7_isView), (4, .ifCond .ne 5, 3, 0, 9, 0, .null, mm0)]
def S_X7_view_7 : List mmMI := [(7, .iconst (-1), 1, 0, 0, 0, .int (-1 : Int32), mm0), (8, .ireturn, 1, 0, 0, 0, .null, mm0)]
def S_X7_view_9 : List mmMI := [(9, .aload_n 0, 1, 0, 0, 0, .null, mm0), (10, .getfield 10, 3, 204, 7, 0, .null, mm0), (13, .getfield 187, 3, 138, 4, 5, .null, mm0), (16, .iload_n 1, 1, 0, 0, 0, .null, mm0), (17, .aaload, 1, 0, 15, 0, .null, mm0), (18, .aload_n 0, 1, 0, 0, 0, .null, mm0), (19, .getfield 10, 3, 204, 7, 0, .null, mm0), (22, .getfield 77, 3, 127, 4, 0, .null, mm0), (25, .invokevirtual 191, 3, 349, 1, 6, .null, M_X6_showAll), (28, .aload_n 0, 1, 0, 0, 0, .null, mm0), (29, .getfield 10, 3, 204, 7, 0, .null, mm0), (32, .getfield 77, 3, 127, 4, 0, .null, mm0), (35, .ireturn, 1, 0, 0, 0, .null, mm0)]
def BL_X7_view : mmBl := [(0, S_X7_view_0, 7), (7, S_X7_view_7, 9), (9, S_X7_view_9, 36)]
theorem OB_X7_view : mmOkB M_X7_view BL_X7_view = true := by decide +kernel
theorem OH_X7_view_0 : mmOkB M_X7_view [(0, S_X7_view_0, 7)] = true := by decide +kernel
theorem s0_X7_view_0 {d : Nat} {P : Option Value → mmMem → Prop} {μ : mmMem} {x1 : Int32} (h : mmCI d M_X7_isView true 1 [.int x1] μ fun y1 ν1 => (¬ y1 = (0 : Int32) → (mmKD 0 = 7) ∧ ((mmKD 1 = 4) ∧ ((mmKD 3 = 15) ∧ ((vp_in x1 (mmLEN 3)) ∧ ((mmKD 0 = 7) ∧ ((mmKD 1 = 4) ∧ ((mmKD (55 + 2 * x1.toNatClampNeg) = 6) ∧ (mmC0 d M_X6_showAll false 1 [.ref (55 + 2 * x1.toNatClampNeg), .int (ν1.1 1 0)] ν1 fun ν2 => (mmKD 0 = 7) ∧ ((mmKD 1 = 4) ∧ (P (some (.int (ν2.1 1 0))) ν2)))))))))) ∧ (y1 = (0 : Int32) → P (some (.int (-1 : Int32))) ν1)) : mmEnds d M_X7_view 0 [.ref 0, .int x1] [] μ P := mm_tree 4 OB_X7_view OH_X7_view_0 h
theorem s_X7_view_0 {d : Nat} {P : Option Value → mmMem → Prop} {μ : mmMem} {x1 : Int32} (hd : 1 ≤ d)  (h : (x1 < (0 : Int32) → P (some (.int (-1 : Int32))) μ) ∧ (¬ x1 < (0 : Int32) → ((2 : Int32) ≤ x1 → P (some (.int (-1 : Int32))) μ) ∧ (¬ (2 : Int32) ≤ x1 → mmC0 d M_X6_showAll false 1 [.ref (55 + 2 * x1.toNatClampNeg), .int (μ.1 1 0)] μ fun ν11 => P (some (.int (ν11.1 1 0))) ν11))) : mmEnds d M_X7_view 0 [.ref 0, .int x1] [] μ P := s0_X7_view_0 (u_X7_isView (by omega)  (⟨fun q1 => (have h3 := (h).1 q1; ⟨fun q5 => absurd (by decide : (0 : Int32) = (0 : Int32)) q5, fun _ => h3⟩), fun q2 => (have h4 := (h).2 q2; ⟨fun q6 => (have h8 := (h4).1 q6; ⟨fun q10 => absurd (by decide : (0 : Int32) = (0 : Int32)) q10, fun _ => h8⟩), fun q7 => (have h9 := (h4).2 q7; ⟨fun _ => ⟨kd_0, ⟨kd_1, ⟨kd_3, ⟨(vp_l ln_3 (vp_mk q2 q7 (by decide))), ⟨kd_0, ⟨kd_1, ⟨(ke_15 kd_3 (vp_l ln_3 (vp_mk q2 q7 (by decide)))), (mmC0.mono (h9) (fun ν11 h12 => ⟨kd_0, ⟨kd_1, h12⟩⟩))⟩⟩⟩⟩⟩⟩⟩, fun q13 => absurd q13 (by decide : ¬ (1 : Int32) = (0 : Int32))⟩)⟩)⟩))
theorem u_X7_view {d : Nat} {K : Int32 → mmMem → Prop} {μ : mmMem} {x1 : Int32} (hd : 2 ≤ d)  (h : (x1 < (0 : Int32) → K (-1 : Int32) μ) ∧ (¬ x1 < (0 : Int32) → ((2 : Int32) ≤ x1 → K (-1 : Int32) μ) ∧ (¬ (2 : Int32) ≤ x1 → mmC0 (d - 1) M_X6_showAll false 1 [.ref (55 + 2 * x1.toNatClampNeg), .int (μ.1 1 0)] μ fun ν11 => K (ν11.1 1 0) ν11))) : mmCI d M_X7_view false 1 [.ref 0, .int x1] μ K :=
  mmCU.of (d' := d - 1) g_X7_view (by decide +kernel) rfl rfl (by omega) (s_X7_view_0 (d := d - 1) (by omega)  h)
theorem g_X7_viewed : mmGd M_X7_viewed false 2 := ⟨mm_in 356 (by decide +kernel) rfl, mm_in 10 (by decide +kernel) rfl, by decide +kernel, by decide, ⟨mm_in 354 (by decide +kernel) rfl, mm_in 355 (by decide +kernel) rfl⟩⟩
def S_X7_viewed_0 : List mmMI := [(0, .iload_n 1, 1, 0, 0, 0, .null, mm0), (1, .invokestatic 184, 3, 346, 1, 0, .null, M_X7_isView), (4, .ifCond .ne 5, 3, 0, 9, 0, .null, mm0)]
def S_X7_viewed_7 : List mmMI := [(7, .iconst (-1), 1, 0, 0, 0, .int (-1 : Int32), mm0), (8, .ireturn, 1, 0, 0, 0, .null, mm0)]
def S_X7_viewed_9 : List mmMI := [(9, .aload_n 0, 1, 0, 0, 0, .null, mm0), (10, .getfield 10, 3, 204, 7, 0, .null, mm0), (13, .getfield 187, 3, 138, 4, 5, .null, mm0), (16, .iload_n 1, 1, 0, 0, 0, .null, mm0), (17, .aaload, 1, 0, 15, 0, .null, mm0), (18, .astore_n 3, 1, 0, 0, 0, .null, mm0), (19, .iload_n 2, 1, 0, 0, 0, .null, mm0), (20, .iconst (-1), 1, 0, 0, 0, .int (-1 : Int32), mm0), (21, .if_icmp .ne 8, 3, 0, 29, 0, .null, mm0)]
def S_X7_viewed_24 : List mmMI := [(24, .aload_n 3, 1, 0, 0, 0, .null, mm0), (25, .getfield 196, 3, 84, 6, 0, .null, mm0), (28, .ireturn, 1, 0, 0, 0, .null, mm0)]
def S_X7_viewed_29 : List mmMI := [(29, .iload_n 2, 1, 0, 0, 0, .null, mm0), (30, .ifCond .lt 11, 3, 0, 41, 0, .null, mm0)]
def S_X7_viewed_33 : List mmMI := [(33, .iload_n 2, 1, 0, 0, 0, .null, mm0), (34, .aload_n 3, 1, 0, 0, 0, .null, mm0), (35, .getfield 196, 3, 84, 6, 0, .null, mm0), (38, .if_icmp .lt 7, 3, 0, 45, 0, .null, mm0)]
def S_X7_viewed_41 : List mmMI := [(41, .iconst (-1), 1, 0, 0, 0, .int (-1 : Int32), mm0), (42, .goto 9, 3, 0, 51, 0, .null, mm0)]
def S_X7_viewed_45 : List mmMI := [(45, .aload_n 3, 1, 0, 0, 0, .null, mm0), (46, .getfield 199, 3, 86, 6, 1, .null, mm0), (49, .iload_n 2, 1, 0, 0, 0, .null, mm0), (50, .iaload, 1, 0, 0, 0, .null, mm0)]
def S_X7_viewed_51 : List mmMI := [(51, .ireturn, 1, 0, 0, 0, .null, mm0)]
def BL_X7_viewed : mmBl := [(0, S_X7_viewed_0, 7), (7, S_X7_viewed_7, 9), (9, S_X7_viewed_9, 24), (24, S_X7_viewed_24, 29), (29, S_X7_viewed_29, 33), (33, S_X7_viewed_33, 41), (41, S_X7_viewed_41, 45), (45, S_X7_viewed_45, 51), (51, S_X7_viewed_51, 52)]
theorem OB_X7_viewed : mmOkB M_X7_viewed BL_X7_viewed = true := by decide +kernel
theorem OH_X7_viewed_0 : mmOkB M_X7_viewed [(0, S_X7_viewed_0, 7)] = true := by decide +kernel
set_option maxRecDepth 10000 in
theorem s0_X7_viewed_0 {d : Nat} {P : Option Value → mmMem → Prop} {μ : mmMem} {x1 : Int32} {x2 : Int32} (h : mmCI d M_X7_isView true 1 [.int x1] μ fun y1 ν1 => (¬ y1 = (0 : Int32) → (mmKD 0 = 7) ∧ ((mmKD 1 = 4) ∧ ((mmKD 3 = 15) ∧ ((vp_in x1 (mmLEN 3)) ∧ ((¬ x2 = (-1 : Int32) → (x2 < (0 : Int32) → P (some (.int (-1 : Int32))) ν1) ∧ (¬ x2 < (0 : Int32) → (mmKD (55 + 2 * x1.toNatClampNeg) = 6) ∧ ((x2 < (ν1.1 (55 + 2 * x1.toNatClampNeg) 0) → (mmKD (55 + 2 * x1.toNatClampNeg) = 6) ∧ ((mmKD ((55 + 2 * x1.toNatClampNeg) + 1) = 10) ∧ ((vp_in x2 (mmLEN ((55 + 2 * x1.toNatClampNeg) + 1))) ∧ (P (some (.int (ν1.1 ((55 + 2 * x1.toNatClampNeg) + 1) x2.toNatClampNeg))) ν1)))) ∧ (¬ x2 < (ν1.1 (55 + 2 * x1.toNatClampNeg) 0) → P (some (.int (-1 : Int32))) ν1)))) ∧ (x2 = (-1 : Int32) → (mmKD (55 + 2 * x1.toNatClampNeg) = 6) ∧ (P (some (.int (ν1.1 (55 + 2 * x1.toNatClampNeg) 0))) ν1))))))) ∧ (y1 = (0 : Int32) → P (some (.int (-1 : Int32))) ν1)) : mmEnds d M_X7_viewed 0 [.ref 0, .int x1, .int x2, .retAddr 7] [] μ P := mm_tree 10 OB_X7_viewed OH_X7_viewed_0 h
theorem s_X7_viewed_0 {d : Nat} {P : Option Value → mmMem → Prop} {μ : mmMem} {x1 : Int32} {x2 : Int32} (hd : 1 ≤ d)  (h : (x1 < (0 : Int32) → P (some (.int (-1 : Int32))) μ) ∧ (¬ x1 < (0 : Int32) → ((2 : Int32) ≤ x1 → P (some (.int (-1 : Int32))) μ) ∧ (¬ (2 : Int32) ≤ x1 → (¬ x2 = (-1 : Int32) → (x2 < (0 : Int32) → P (some (.int (-1 : Int32))) μ) ∧ (¬ x2 < (0 : Int32) → (x2 < (μ.1 (55 + 2 * x1.toNatClampNeg) 0) → (vp_in x2 40) ∧ (P (some (.int (μ.1 ((55 + 2 * x1.toNatClampNeg) + 1) x2.toNatClampNeg))) μ)) ∧ (¬ x2 < (μ.1 (55 + 2 * x1.toNatClampNeg) 0) → P (some (.int (-1 : Int32))) μ))) ∧ (x2 = (-1 : Int32) → P (some (.int (μ.1 (55 + 2 * x1.toNatClampNeg) 0))) μ)))) : mmEnds d M_X7_viewed 0 [.ref 0, .int x1, .int x2, .retAddr 7] [] μ P := s0_X7_viewed_0 (u_X7_isView (by omega)  (⟨fun q1 => (have h3 := (h).1 q1; ⟨fun q5 => absurd (by decide : (0 : Int32) = (0 : Int32)) q5, fun _ => h3⟩), fun q2 => (have h4 := (h).2 q2; ⟨fun q6 => (have h8 := (h4).1 q6; ⟨fun q10 => absurd (by decide : (0 : Int32) = (0 : Int32)) q10, fun _ => h8⟩), fun q7 => (have h9 := (h4).2 q7; ⟨fun _ => ⟨kd_0, ⟨kd_1, ⟨kd_3, ⟨(vp_l ln_3 (vp_mk q2 q7 (by decide))), ⟨fun q11 => (have h13 := (h9).1 q11; ⟨fun q15 => (have h17 := (h13).1 q15; h17), fun q16 => (have h18 := (h13).2 q16; ⟨(ke_15 kd_3 (vp_l ln_3 (vp_mk q2 q7 (by decide)))), ⟨fun q19 => (have h21 := (h18).1 q19; ⟨(ke_15 kd_3 (vp_l ln_3 (vp_mk q2 q7 (by decide)))), ⟨(kf_6_1 (ke_15 kd_3 (vp_l ln_3 (vp_mk q2 q7 (by decide))))), (have o23 := (h21).1; have h24 := (h21).2; ⟨vp_l (lf_6_1 (ke_15 kd_3 (vp_l ln_3 (vp_mk q2 q7 (by decide))))) o23, h24⟩)⟩⟩), fun q20 => (have h22 := (h18).2 q20; h22)⟩⟩)⟩), fun q12 => (have h14 := (h9).2 q12; ⟨(ke_15 kd_3 (vp_l ln_3 (vp_mk q2 q7 (by decide)))), h14⟩)⟩⟩⟩⟩⟩, fun q25 => absurd q25 (by decide : ¬ (1 : Int32) = (0 : Int32))⟩)⟩)⟩))
theorem u_X7_viewed {d : Nat} {K : Int32 → mmMem → Prop} {μ : mmMem} {x1 : Int32} {x2 : Int32} (hd : 2 ≤ d)  (h : (x1 < (0 : Int32) → K (-1 : Int32) μ) ∧ (¬ x1 < (0 : Int32) → ((2 : Int32) ≤ x1 → K (-1 : Int32) μ) ∧ (¬ (2 : Int32) ≤ x1 → (¬ x2 = (-1 : Int32) → (x2 < (0 : Int32) → K (-1 : Int32) μ) ∧ (¬ x2 < (0 : Int32) → (x2 < (μ.1 (55 + 2 * x1.toNatClampNeg) 0) → (vp_in x2 40) ∧ (K (μ.1 ((55 + 2 * x1.toNatClampNeg) + 1) x2.toNatClampNeg) μ)) ∧ (¬ x2 < (μ.1 (55 + 2 * x1.toNatClampNeg) 0) → K (-1 : Int32) μ))) ∧ (x2 = (-1 : Int32) → K (μ.1 (55 + 2 * x1.toNatClampNeg) 0) μ)))) : mmCI d M_X7_viewed false 2 [.ref 0, .int x1, .int x2] μ K :=
  mmCU.of (d' := d - 1) g_X7_viewed (by decide +kernel) rfl rfl (by omega) (s_X7_viewed_0 (d := d - 1) (by omega)  h)
theorem g_X7_key : mmGd M_X7_key false 2 := ⟨mm_in 360 (by decide +kernel) rfl, mm_in 10 (by decide +kernel) rfl, by decide +kernel, by decide, ⟨mm_in 358 (by decide +kernel) rfl, mm_in 359 (by decide +kernel) rfl⟩⟩
def S_X7_key_0 : List mmMI := [(0, .iload_n 1, 1, 0, 0, 0, .null, mm0), (1, .iconst (-1), 1, 0, 0, 0, .int (-1 : Int32), mm0), (2, .if_icmp .ne 13, 3, 0, 15, 0, .null, mm0)]
def S_X7_key_5 : List mmMI := [(5, .aload_n 0, 1, 0, 0, 0, .null, mm0), (6, .getfield 10, 3, 204, 7, 0, .null, mm0), (9, .iconst 0, 1, 0, 0, 0, .int (0 : Int32), mm0), (10, .putfield 217, 3, 132, 4, 2, .null, mm0), (13, .iconst 0, 1, 0, 0, 0, .int (0 : Int32), mm0), (14, .ireturn, 1, 0, 0, 0, .null, mm0)]
def S_X7_key_15 : List mmMI := [(15, .aload_n 0, 1, 0, 0, 0, .null, mm0), (16, .iload_n 1, 1, 0, 0, 0, .null, mm0), (17, .invokevirtual 100, 3, 302, 1, 7, .null, M_X7_columnRefusal), (20, .istore_n 3, 1, 0, 0, 0, .null, mm0), (21, .iload_n 3, 1, 0, 0, 0, .null, mm0), (22, .ifCond .eq 5, 3, 0, 27, 0, .null, mm0)]
def S_X7_key_25 : List mmMI := [(25, .iload_n 3, 1, 0, 0, 0, .null, mm0), (26, .ireturn, 1, 0, 0, 0, .null, mm0)]
def S_X7_key_27 : List mmMI := [(27, .aload_n 0, 1, 0, 0, 0, .null, mm0), (28, .getfield 10, 3, 204, 7, 0, .null, mm0), (31, .getfield 217, 3, 132, 4, 2, .null, mm0), (34, .iconst 4, 1, 0, 0, 0, .int (4 : Int32), mm0), (35, .if_icmp .lt 6, 3, 0, 41, 0, .null, mm0)]
def S_X7_key_38 : List mmMI := [(38, .bipush (-4), 2, 0, 0, 0, .int (-4 : Int32), mm0), (40, .ireturn, 1, 0, 0, 0, .null, mm0)]
def S_X7_key_41 : List mmMI := [(41, .aload_n 0, 1, 0, 0, 0, .null, mm0), (42, .getfield 10, 3, 204, 7, 0, .null, mm0), (45, .iload_n 1, 1, 0, 0, 0, .null, mm0), (46, .iload_n 2, 1, 0, 0, 0, .null, mm0), (47, .invokevirtual 220, 3, 361, 2, 4, .null, M_X4_addKey), (50, .aload_n 0, 1, 0, 0, 0, .null, mm0), (51, .getfield 10, 3, 204, 7, 0, .null, mm0), (54, .getfield 217, 3, 132, 4, 2, .null, mm0), (57, .ireturn, 1, 0, 0, 0, .null, mm0)]
def BL_X7_key : mmBl := [(0, S_X7_key_0, 5), (5, S_X7_key_5, 15), (15, S_X7_key_15, 25), (25, S_X7_key_25, 27), (27, S_X7_key_27, 38), (38, S_X7_key_38, 41), (41, S_X7_key_41, 58)]
theorem OB_X7_key : mmOkB M_X7_key BL_X7_key = true := by decide +kernel
theorem OH_X7_key_0 : mmOkB M_X7_key [(0, S_X7_key_0, 5)] = true := by decide +kernel
theorem s0_X7_key_0 {d : Nat} {P : Option Value → mmMem → Prop} {μ : mmMem} {x1 : Int32} {x2 : Int32} (h : (¬ x1 = (-1 : Int32) → (mmKD 0 = 7) ∧ (mmCI d M_X7_columnRefusal false 1 [.ref 0, .int x1] μ fun y1 ν1 => (y1 = (0 : Int32) → (mmKD 0 = 7) ∧ ((mmKD 1 = 4) ∧ (((ν1.1 1 2) < (4 : Int32) → (mmKD 0 = 7) ∧ ((mmKD 1 = 4) ∧ (mmC0 d M_X4_addKey false 2 [.ref 1, .int x1, .int x2] ν1 fun ν2 => (mmKD 0 = 7) ∧ ((mmKD 1 = 4) ∧ (P (some (.int (ν2.1 1 2))) ν2))))) ∧ (¬ (ν1.1 1 2) < (4 : Int32) → P (some (.int (-4 : Int32))) ν1)))) ∧ (¬ y1 = (0 : Int32) → P (some (.int y1)) ν1))) ∧ (x1 = (-1 : Int32) → (mmKD 0 = 7) ∧ ((mmKD 1 = 4) ∧ (P (some (.int (0 : Int32))) (sI μ 1 2 (0 : Int32)))))) : mmEnds d M_X7_key 0 [.ref 0, .int x1, .int x2, .retAddr 7] [] μ P := mm_tree 8 OB_X7_key OH_X7_key_0 h
theorem s_X7_key_0 {d : Nat} {P : Option Value → mmMem → Prop} {μ : mmMem} {x1 : Int32} {x2 : Int32} (hd : 0 ≤ d)  (h : (¬ x1 = (-1 : Int32) → mmCI d M_X7_columnRefusal false 1 [.ref 0, .int x1] μ fun y6 ν5 => (y6 = (0 : Int32) → ((ν5.1 1 2) < (4 : Int32) → mmC0 d M_X4_addKey false 2 [.ref 1, .int x1, .int x2] ν5 fun ν15 => P (some (.int (ν15.1 1 2))) ν15) ∧ (¬ (ν5.1 1 2) < (4 : Int32) → P (some (.int (-4 : Int32))) ν5)) ∧ (¬ y6 = (0 : Int32) → P (some (.int y6)) ν5)) ∧ (x1 = (-1 : Int32) → P (some (.int (0 : Int32))) (sI μ 1 2 (0 : Int32)))) : mmEnds d M_X7_key 0 [.ref 0, .int x1, .int x2, .retAddr 7] [] μ P := s0_X7_key_0 (⟨fun q1 => (have h3 := (h).1 q1; ⟨kd_0, (mmCI.mono (h3) (fun y6 ν5 h17 => ⟨fun q7 => (have h9 := (h17).1 q7; ⟨kd_0, ⟨kd_1, ⟨fun q11 => (have h13 := (h9).1 q11; ⟨kd_0, ⟨kd_1, (mmC0.mono (h13) (fun ν15 h16 => ⟨kd_0, ⟨kd_1, h16⟩⟩))⟩⟩), fun q12 => (have h14 := (h9).2 q12; h14)⟩⟩⟩), fun q8 => (have h10 := (h17).2 q8; h10)⟩))⟩), fun q2 => (have h4 := (h).2 q2; ⟨kd_0, ⟨kd_1, h4⟩⟩)⟩)
theorem u_X7_key {d : Nat} {K : Int32 → mmMem → Prop} {μ : mmMem} {x1 : Int32} {x2 : Int32} (hd : 1 ≤ d)  (h : (¬ x1 = (-1 : Int32) → mmCI (d - 1) M_X7_columnRefusal false 1 [.ref 0, .int x1] μ fun y6 ν5 => (y6 = (0 : Int32) → ((ν5.1 1 2) < (4 : Int32) → mmC0 (d - 1) M_X4_addKey false 2 [.ref 1, .int x1, .int x2] ν5 fun ν15 => K (ν15.1 1 2) ν15) ∧ (¬ (ν5.1 1 2) < (4 : Int32) → K (-4 : Int32) ν5)) ∧ (¬ y6 = (0 : Int32) → K y6 ν5)) ∧ (x1 = (-1 : Int32) → K (0 : Int32) (sI μ 1 2 (0 : Int32)))) : mmCI d M_X7_key false 2 [.ref 0, .int x1, .int x2] μ K :=
  mmCU.of (d' := d - 1) g_X7_key (by decide +kernel) rfl rfl (by omega) (s_X7_key_0 (d := d - 1) (by omega)  h)
theorem g_X7_isAhead : mmGd M_X7_isAhead false 2 := ⟨mm_in 379 (by decide +kernel) rfl, mm_in 10 (by decide +kernel) rfl, by decide +kernel, by decide, ⟨mm_in 378 (by decide +kernel) rfl, mm_in 5 (by decide +kernel) rfl⟩⟩
def S_X7_isAhead_0 : List mmMI := [(0, .iconst 0, 1, 0, 0, 0, .int (0 : Int32), mm0), (1, .istore_n 3, 1, 0, 0, 0, .null, mm0)]
def S_X7_isAhead_2 : List mmMI := [(2, .iload_n 3, 1, 0, 0, 0, .null, mm0), (3, .aload_n 0, 1, 0, 0, 0, .null, mm0), (4, .getfield 10, 3, 204, 7, 0, .null, mm0), (7, .getfield 217, 3, 132, 4, 2, .null, mm0), (10, .if_icmp .ge 110, 3, 0, 120, 0, .null, mm0)]
def S_X7_isAhead_13 : List mmMI := [(13, .aload_n 0, 1, 0, 0, 0, .null, mm0), (14, .getfield 10, 3, 204, 7, 0, .null, mm0), (17, .getfield 104, 3, 136, 4, 4, .null, mm0), (20, .aload_n 0, 1, 0, 0, 0, .null, mm0), (21, .getfield 10, 3, 204, 7, 0, .null, mm0), (24, .getfield 361, 3, 140, 4, 6, .null, mm0), (27, .iload_n 3, 1, 0, 0, 0, .null, mm0), (28, .iaload, 1, 0, 0, 0, .null, mm0), (29, .aaload, 1, 0, 14, 0, .null, mm0), (30, .astore 4, 2, 0, 0, 0, .null, mm0), (32, .aload 4, 2, 0, 0, 0, .null, mm0), (34, .getfield 108, 3, 59, 1, 1, .null, mm0), (37, .ifCond .ne 77, 3, 0, 114, 0, .null, mm0)]
def S_X7_isAhead_40 : List mmMI := [(40, .aload 4, 2, 0, 0, 0, .null, mm0), (42, .iload_n 1, 1, 0, 0, 0, .null, mm0), (43, .aload_n 0, 1, 0, 0, 0, .null, mm0), (44, .getfield 50, 3, 211, 7, 7, .null, mm0), (47, .invokevirtual 122, 3, 322, 2, 1, .null, M_X1_load), (50, .aload 4, 2, 0, 0, 0, .null, mm0), (52, .iload_n 2, 1, 0, 0, 0, .null, mm0), (53, .aload_n 0, 1, 0, 0, 0, .null, mm0), (54, .getfield 54, 3, 212, 7, 8, .null, mm0), (57, .invokevirtual 122, 3, 322, 2, 1, .null, M_X1_load), (60, .aload_n 0, 1, 0, 0, 0, .null, mm0), (61, .getfield 50, 3, 211, 7, 7, .null, mm0), (64, .aload_n 0, 1, 0, 0, 0, .null, mm0), (65, .getfield 54, 3, 212, 7, 8, .null, mm0), (68, .invokevirtual 354, 3, 380, 1, 0, .null, M_X0_rankAgainst), (71, .istore 5, 2, 0, 0, 0, .null, mm0), (73, .iload 5, 2, 0, 0, 0, .null, mm0), (75, .ifCond .eq 39, 3, 0, 114, 0, .null, mm0)]
def S_X7_isAhead_78 : List mmMI := [(78, .aload_n 0, 1, 0, 0, 0, .null, mm0), (79, .getfield 10, 3, 204, 7, 0, .null, mm0), (82, .getfield 364, 3, 142, 4, 7, .null, mm0), (85, .iload_n 3, 1, 0, 0, 0, .null, mm0), (86, .baload, 1, 0, 0, 0, .null, mm0), (87, .ifCond .eq 16, 3, 0, 103, 0, .null, mm0)]
def S_X7_isAhead_90 : List mmMI := [(90, .iload 5, 2, 0, 0, 0, .null, mm0), (92, .ifCond .le 7, 3, 0, 99, 0, .null, mm0)]
def S_X7_isAhead_95 : List mmMI := [(95, .iconst 1, 1, 0, 0, 0, .int (1 : Int32), mm0), (96, .goto 17, 3, 0, 113, 0, .null, mm0)]
def S_X7_isAhead_99 : List mmMI := [(99, .iconst 0, 1, 0, 0, 0, .int (0 : Int32), mm0), (100, .goto 13, 3, 0, 113, 0, .null, mm0)]
def S_X7_isAhead_103 : List mmMI := [(103, .iload 5, 2, 0, 0, 0, .null, mm0), (105, .ifCond .ge 7, 3, 0, 112, 0, .null, mm0)]
def S_X7_isAhead_108 : List mmMI := [(108, .iconst 1, 1, 0, 0, 0, .int (1 : Int32), mm0), (109, .goto 4, 3, 0, 113, 0, .null, mm0)]
def S_X7_isAhead_112 : List mmMI := [(112, .iconst 0, 1, 0, 0, 0, .int (0 : Int32), mm0)]
def S_X7_isAhead_113 : List mmMI := [(113, .ireturn, 1, 0, 0, 0, .null, mm0)]
def S_X7_isAhead_114 : List mmMI := [(114, .iinc 3 1, 3, 0, 0, 0, .int (1 : Int32), mm0), (117, .goto (-115), 3, 0, 2, 0, .null, mm0)]
def S_X7_isAhead_120 : List mmMI := [(120, .iconst 0, 1, 0, 0, 0, .int (0 : Int32), mm0), (121, .ireturn, 1, 0, 0, 0, .null, mm0)]
def BL_X7_isAhead : mmBl := [(0, S_X7_isAhead_0, 2), (13, S_X7_isAhead_13, 40), (40, S_X7_isAhead_40, 78), (78, S_X7_isAhead_78, 90), (90, S_X7_isAhead_90, 95), (95, S_X7_isAhead_95, 99), (99, S_X7_isAhead_99, 103), (103, S_X7_isAhead_103, 108), (108, S_X7_isAhead_108, 112), (112, S_X7_isAhead_112, 113), (113, S_X7_isAhead_113, 114), (114, S_X7_isAhead_114, 120), (120, S_X7_isAhead_120, 122)]
theorem OB_X7_isAhead : mmOkB M_X7_isAhead BL_X7_isAhead = true := by decide +kernel
theorem OH_X7_isAhead_0 : mmOkB M_X7_isAhead [(0, S_X7_isAhead_0, 2)] = true := by decide +kernel
theorem s0_X7_isAhead_0 {d : Nat} {P : Option Value → mmMem → Prop} {μ : mmMem} {x1 : Int32} {x2 : Int32} (h : mmEnds d M_X7_isAhead 2 [.ref 0, .int x1, .int x2, .int (0 : Int32), .retAddr 7, .retAddr 7] [] μ P) : mmEnds d M_X7_isAhead 0 [.ref 0, .int x1, .int x2, .retAddr 7, .retAddr 7, .retAddr 7] [] μ P := mm_tree 14 OB_X7_isAhead OH_X7_isAhead_0 h
theorem s_X7_isAhead_0 {d : Nat} {P : Option Value → mmMem → Prop} {μ : mmMem} {x1 : Int32} {x2 : Int32} (hd : 0 ≤ d)  (h : mmEnds d M_X7_isAhead 2 [.ref 0, .int x1, .int x2, .int (0 : Int32), .retAddr 7, .retAddr 7] [] μ P) : mmEnds d M_X7_isAhead 0 [.ref 0, .int x1, .int x2, .retAddr 7, .retAddr 7, .retAddr 7] [] μ P := s0_X7_isAhead_0 h
theorem OH_X7_isAhead_2 : mmOkB M_X7_isAhead [(2, S_X7_isAhead_2, 13)] = true := by decide +kernel
set_option maxRecDepth 10000 in
theorem s0_X7_isAhead_2 {d : Nat} {P : Option Value → mmMem → Prop} {μ : mmMem} {x1 : Int32} {x2 : Int32} {x3 : Int32} {v4 : Value} {v5 : Value} (h : (mmKD 0 = 7) ∧ ((mmKD 1 = 4) ∧ (((μ.1 1 2) ≤ x3 → P (some (.int (0 : Int32))) μ) ∧ (¬ (μ.1 1 2) ≤ x3 → (mmKD 0 = 7) ∧ ((mmKD 1 = 4) ∧ ((mmKD 0 = 7) ∧ ((mmKD 1 = 4) ∧ ((mmKD 4 = 10) ∧ ((vp_in x3 (mmLEN 4)) ∧ ((mmKD 2 = 14) ∧ ((vp_in (μ.1 4 x3.toNatClampNeg) (mmLEN 2)) ∧ ((mmKD (7 + 4 * (μ.1 4 x3.toNatClampNeg).toNatClampNeg) = 1) ∧ ((¬ (μ.1 (7 + 4 * (μ.1 4 x3.toNatClampNeg).toNatClampNeg) 1) = (0 : Int32) → mmEnds d M_X7_isAhead 2 [.ref 0, .int x1, .int x2, .int (x3 + (1 : Int32)), .ref (7 + 4 * (μ.1 4 x3.toNatClampNeg).toNatClampNeg), v5] [] μ P) ∧ ((μ.1 (7 + 4 * (μ.1 4 x3.toNatClampNeg).toNatClampNeg) 1) = (0 : Int32) → (mmKD 0 = 7) ∧ ((mmKD (7 + 4 * (μ.1 4 x3.toNatClampNeg).toNatClampNeg) = 1) ∧ (mmC0 d M_X1_load false 2 [.ref (7 + 4 * (μ.1 4 x3.toNatClampNeg).toNatClampNeg), .int x1, .ref 152] μ fun ν1 => (mmKD 0 = 7) ∧ ((mmKD (7 + 4 * (μ.1 4 x3.toNatClampNeg).toNatClampNeg) = 1) ∧ (mmC0 d M_X1_load false 2 [.ref (7 + 4 * (μ.1 4 x3.toNatClampNeg).toNatClampNeg), .int x2, .ref 153] ν1 fun ν2 => (mmKD 0 = 7) ∧ ((mmKD 0 = 7) ∧ ((mmKD 152 = 0) ∧ (mmCI d M_X0_rankAgainst false 1 [.ref 152, .ref 153] ν2 fun y3 ν3 => (y3 = (0 : Int32) → mmEnds d M_X7_isAhead 2 [.ref 0, .int x1, .int x2, .int (x3 + (1 : Int32)), .ref (7 + 4 * (μ.1 4 x3.toNatClampNeg).toNatClampNeg), .int y3] [] ν3 P) ∧ (¬ y3 = (0 : Int32) → (mmKD 0 = 7) ∧ ((mmKD 1 = 4) ∧ ((mmKD 5 = 13) ∧ ((vp_in x3 (mmLEN 5)) ∧ (((ν3.1 5 x3.toNatClampNeg) = (0 : Int32) → ((0 : Int32) ≤ y3 → P (some (.int (0 : Int32))) ν3) ∧ (¬ (0 : Int32) ≤ y3 → P (some (.int (1 : Int32))) ν3)) ∧ (¬ (ν3.1 5 x3.toNatClampNeg) = (0 : Int32) → (y3 ≤ (0 : Int32) → P (some (.int (0 : Int32))) ν3) ∧ (¬ y3 ≤ (0 : Int32) → P (some (.int (1 : Int32))) ν3)))))))))))))))))))))))))))) : mmEnds d M_X7_isAhead 2 [.ref 0, .int x1, .int x2, .int x3, v4, v5] [] μ P := mm_tree 14 OB_X7_isAhead OH_X7_isAhead_2 h
set_option maxRecDepth 10000 in
theorem s_X7_isAhead_2 {d : Nat} {P : Option Value → mmMem → Prop} {μ : mmMem} {x1 : Int32} {x2 : Int32} {x3 : Int32} {v4 : Value} {v5 : Value} (hd : 0 ≤ d)  (h : ((μ.1 1 2) ≤ x3 → P (some (.int (0 : Int32))) μ) ∧ (¬ (μ.1 1 2) ≤ x3 → (vp_in x3 4) ∧ ((vp_in (μ.1 4 x3.toNatClampNeg) 12) ∧ ((¬ (μ.1 (7 + 4 * (μ.1 4 x3.toNatClampNeg).toNatClampNeg) 1) = (0 : Int32) → mmEnds d M_X7_isAhead 2 [.ref 0, .int x1, .int x2, .int (x3 + (1 : Int32)), .ref (7 + 4 * (μ.1 4 x3.toNatClampNeg).toNatClampNeg), v5] [] μ P) ∧ ((μ.1 (7 + 4 * (μ.1 4 x3.toNatClampNeg).toNatClampNeg) 1) = (0 : Int32) → mmC0 d M_X1_load false 2 [.ref (7 + 4 * (μ.1 4 x3.toNatClampNeg).toNatClampNeg), .int x1, .ref 152] μ fun ν13 => mmC0 d M_X1_load false 2 [.ref (7 + 4 * (μ.1 4 x3.toNatClampNeg).toNatClampNeg), .int x2, .ref 153] ν13 fun ν14 => mmCI d M_X0_rankAgainst false 1 [.ref 152, .ref 153] ν14 fun y16 ν15 => (y16 = (0 : Int32) → mmEnds d M_X7_isAhead 2 [.ref 0, .int x1, .int x2, .int (x3 + (1 : Int32)), .ref (7 + 4 * (μ.1 4 x3.toNatClampNeg).toNatClampNeg), .int y16] [] ν15 P) ∧ (¬ y16 = (0 : Int32) → ((ν15.1 5 x3.toNatClampNeg) = (0 : Int32) → ((0 : Int32) ≤ y16 → P (some (.int (0 : Int32))) ν15) ∧ (¬ (0 : Int32) ≤ y16 → P (some (.int (1 : Int32))) ν15)) ∧ (¬ (ν15.1 5 x3.toNatClampNeg) = (0 : Int32) → (y16 ≤ (0 : Int32) → P (some (.int (0 : Int32))) ν15) ∧ (¬ y16 ≤ (0 : Int32) → P (some (.int (1 : Int32))) ν15)))))))) : mmEnds d M_X7_isAhead 2 [.ref 0, .int x1, .int x2, .int x3, v4, v5] [] μ P := s0_X7_isAhead_2 (⟨kd_0, ⟨kd_1, ⟨fun q1 => (have h3 := (h).1 q1; h3), fun q2 => (have h4 := (h).2 q2; ⟨kd_0, ⟨kd_1, ⟨kd_0, ⟨kd_1, ⟨kd_4, (have o5 := (h4).1; have h6 := (h4).2; ⟨vp_l ln_4 o5, ⟨kd_2, (have o7 := (h6).1; have h8 := (h6).2; ⟨vp_l ln_2 o7, ⟨(ke_14 kd_2 (vp_l ln_2 o7)), ⟨fun q9 => (have h11 := (h8).1 q9; h11), fun q10 => (have h12 := (h8).2 q10; ⟨kd_0, ⟨(ke_14 kd_2 (vp_l ln_2 o7)), (mmC0.mono (h12) (fun ν13 h35 => ⟨kd_0, ⟨(ke_14 kd_2 (vp_l ln_2 o7)), (mmC0.mono (h35) (fun ν14 h34 => ⟨kd_0, ⟨kd_0, ⟨kd_152, (mmCI.mono (h34) (fun y16 ν15 h33 => ⟨fun q17 => (have h19 := (h33).1 q17; h19), fun q18 => (have h20 := (h33).2 q18; ⟨kd_0, ⟨kd_1, ⟨kd_5, ⟨(vp_l ln_5 o5), ⟨fun q21 => (have h23 := (h20).1 q21; ⟨fun q25 => (have h27 := (h23).1 q25; h27), fun q26 => (have h28 := (h23).2 q26; h28)⟩), fun q22 => (have h24 := (h20).2 q22; ⟨fun q29 => (have h31 := (h24).1 q29; h31), fun q30 => (have h32 := (h24).2 q30; h32)⟩)⟩⟩⟩⟩⟩)⟩))⟩⟩⟩))⟩⟩))⟩⟩)⟩⟩⟩)⟩⟩)⟩⟩⟩⟩⟩)⟩⟩⟩)
theorem u_X7_isAhead {d : Nat} {K : Int32 → mmMem → Prop} {μ : mmMem} {x1 : Int32} {x2 : Int32} (hd : 1 ≤ d)  (h : mmEnds (d - 1) M_X7_isAhead 2 [.ref 0, .int x1, .int x2, .int (0 : Int32), .retAddr 7, .retAddr 7] [] μ (mmPI K)) : mmCI d M_X7_isAhead false 2 [.ref 0, .int x1, .int x2] μ K :=
  mmCU.of (d' := d - 1) g_X7_isAhead (by decide +kernel) rfl rfl (by omega) (s_X7_isAhead_0 (d := d - 1) (by omega)  h)
theorem g_X7_insertInOrder : mmGd M_X7_insertInOrder false 1 := ⟨mm_in 375 (by decide +kernel) rfl, mm_in 10 (by decide +kernel) rfl, by decide +kernel, by decide, ⟨mm_in 374 (by decide +kernel) rfl, mm_in 4 (by decide +kernel) rfl⟩⟩
def S_X7_insertInOrder_0 : List mmMI := [(0, .iconst 1, 1, 0, 0, 0, .int (1 : Int32), mm0), (1, .istore_n 2, 1, 0, 0, 0, .null, mm0)]
def S_X7_insertInOrder_2 : List mmMI := [(2, .iload_n 2, 1, 0, 0, 0, .null, mm0), (3, .aload_n 1, 1, 0, 0, 0, .null, mm0), (4, .getfield 196, 3, 84, 6, 0, .null, mm0), (7, .if_icmp .ge 71, 3, 0, 78, 0, .null, mm0)]
def S_X7_insertInOrder_10 : List mmMI := [(10, .aload_n 1, 1, 0, 0, 0, .null, mm0), (11, .getfield 199, 3, 86, 6, 1, .null, mm0), (14, .iload_n 2, 1, 0, 0, 0, .null, mm0), (15, .iaload, 1, 0, 0, 0, .null, mm0), (16, .istore_n 3, 1, 0, 0, 0, .null, mm0), (17, .iload_n 2, 1, 0, 0, 0, .null, mm0), (18, .istore 4, 2, 0, 0, 0, .null, mm0)]
def S_X7_insertInOrder_20 : List mmMI := [(20, .iload 4, 2, 0, 0, 0, .null, mm0), (22, .ifCond .le 42, 3, 0, 64, 0, .null, mm0)]
def S_X7_insertInOrder_25 : List mmMI := [(25, .aload_n 0, 1, 0, 0, 0, .null, mm0), (26, .iload_n 3, 1, 0, 0, 0, .null, mm0), (27, .aload_n 1, 1, 0, 0, 0, .null, mm0), (28, .getfield 199, 3, 86, 6, 1, .null, mm0), (31, .iload 4, 2, 0, 0, 0, .null, mm0), (33, .iconst 1, 1, 0, 0, 0, .int (1 : Int32), mm0), (34, .isub, 1, 0, 0, 0, .null, mm0), (35, .iaload, 1, 0, 0, 0, .null, mm0), (36, .invokevirtual 358, 3, 376, 2, 7, .null, M_X7_isAhead), (39, .ifCond .eq 25, 3, 0, 64, 0, .null, mm0)]
def S_X7_insertInOrder_42 : List mmMI := [(42, .aload_n 1, 1, 0, 0, 0, .null, mm0), (43, .getfield 199, 3, 86, 6, 1, .null, mm0), (46, .iload 4, 2, 0, 0, 0, .null, mm0), (48, .aload_n 1, 1, 0, 0, 0, .null, mm0), (49, .getfield 199, 3, 86, 6, 1, .null, mm0), (52, .iload 4, 2, 0, 0, 0, .null, mm0), (54, .iconst 1, 1, 0, 0, 0, .int (1 : Int32), mm0), (55, .isub, 1, 0, 0, 0, .null, mm0), (56, .iaload, 1, 0, 0, 0, .null, mm0), (57, .iastore, 1, 0, 0, 0, .null, mm0), (58, .iinc 4 (-1), 3, 0, 0, 0, .int (-1 : Int32), mm0), (61, .goto (-41), 3, 0, 20, 0, .null, mm0)]
def S_X7_insertInOrder_64 : List mmMI := [(64, .aload_n 1, 1, 0, 0, 0, .null, mm0), (65, .getfield 199, 3, 86, 6, 1, .null, mm0), (68, .iload 4, 2, 0, 0, 0, .null, mm0), (70, .iload_n 3, 1, 0, 0, 0, .null, mm0), (71, .iastore, 1, 0, 0, 0, .null, mm0), (72, .iinc 2 1, 3, 0, 0, 0, .int (1 : Int32), mm0), (75, .goto (-73), 3, 0, 2, 0, .null, mm0)]
def S_X7_insertInOrder_78 : List mmMI := [(78, .return_, 1, 0, 0, 0, .null, mm0)]
def BL_X7_insertInOrder : mmBl := [(0, S_X7_insertInOrder_0, 2), (10, S_X7_insertInOrder_10, 20), (25, S_X7_insertInOrder_25, 42), (42, S_X7_insertInOrder_42, 64), (64, S_X7_insertInOrder_64, 78), (78, S_X7_insertInOrder_78, 79)]
theorem OB_X7_insertInOrder : mmOkB M_X7_insertInOrder BL_X7_insertInOrder = true := by decide +kernel
theorem OH_X7_insertInOrder_0 : mmOkB M_X7_insertInOrder [(0, S_X7_insertInOrder_0, 2)] = true := by decide +kernel
theorem s0_X7_insertInOrder_0 {d : Nat} {P : Option Value → mmMem → Prop} {μ : mmMem} {a1 : Nat} (h : mmEnds d M_X7_insertInOrder 2 [.ref 0, .ref a1, .int (1 : Int32), .retAddr 7, .retAddr 7] [] μ P) : mmEnds d M_X7_insertInOrder 0 [.ref 0, .ref a1, .retAddr 7, .retAddr 7, .retAddr 7] [] μ P := mm_tree 7 OB_X7_insertInOrder OH_X7_insertInOrder_0 h
theorem s_X7_insertInOrder_0 {d : Nat} {P : Option Value → mmMem → Prop} {μ : mmMem} {a1 : Nat} (hd : 0 ≤ d) (k1 : mmKD a1 = 6) (h : mmEnds d M_X7_insertInOrder 2 [.ref 0, .ref a1, .int (1 : Int32), .retAddr 7, .retAddr 7] [] μ P) : mmEnds d M_X7_insertInOrder 0 [.ref 0, .ref a1, .retAddr 7, .retAddr 7, .retAddr 7] [] μ P := s0_X7_insertInOrder_0 h
theorem OH_X7_insertInOrder_2 : mmOkB M_X7_insertInOrder [(2, S_X7_insertInOrder_2, 10)] = true := by decide +kernel
theorem s0_X7_insertInOrder_2 {d : Nat} {P : Option Value → mmMem → Prop} {μ : mmMem} {a1 : Nat} {x2 : Int32} {v3 : Value} {v4 : Value} (h : (mmKD a1 = 6) ∧ (((μ.1 a1 0) ≤ x2 → P none μ) ∧ (¬ (μ.1 a1 0) ≤ x2 → (mmKD a1 = 6) ∧ ((mmKD (a1 + 1) = 10) ∧ ((vp_in x2 (mmLEN (a1 + 1))) ∧ (mmEnds d M_X7_insertInOrder 20 [.ref 0, .ref a1, .int x2, .int (μ.1 (a1 + 1) x2.toNatClampNeg), .int x2] [] μ P)))))) : mmEnds d M_X7_insertInOrder 2 [.ref 0, .ref a1, .int x2, v3, v4] [] μ P := mm_tree 7 OB_X7_insertInOrder OH_X7_insertInOrder_2 h
theorem s_X7_insertInOrder_2 {d : Nat} {P : Option Value → mmMem → Prop} {μ : mmMem} {a1 : Nat} {x2 : Int32} {v3 : Value} {v4 : Value} (hd : 0 ≤ d) (k1 : mmKD a1 = 6) (h : ((μ.1 a1 0) ≤ x2 → P none μ) ∧ (¬ (μ.1 a1 0) ≤ x2 → (vp_in x2 40) ∧ (mmEnds d M_X7_insertInOrder 20 [.ref 0, .ref a1, .int x2, .int (μ.1 (a1 + 1) x2.toNatClampNeg), .int x2] [] μ P))) : mmEnds d M_X7_insertInOrder 2 [.ref 0, .ref a1, .int x2, v3, v4] [] μ P := s0_X7_insertInOrder_2 (⟨k1, ⟨fun q1 => (have h3 := (h).1 q1; h3), fun q2 => (have h4 := (h).2 q2; ⟨k1, ⟨(kf_6_1 k1), (have o5 := (h4).1; have h6 := (h4).2; ⟨vp_l (lf_6_1 k1) o5, h6⟩)⟩⟩)⟩⟩)
theorem OH_X7_insertInOrder_20 : mmOkB M_X7_insertInOrder [(20, S_X7_insertInOrder_20, 25)] = true := by decide +kernel
set_option maxRecDepth 10000 in
theorem s0_X7_insertInOrder_20 {d : Nat} {P : Option Value → mmMem → Prop} {μ : mmMem} {a1 : Nat} {x2 : Int32} {x3 : Int32} {x4 : Int32} (h : (x4 ≤ (0 : Int32) → (mmKD a1 = 6) ∧ ((mmKD (a1 + 1) = 10) ∧ ((vp_in x4 (mmLEN (a1 + 1))) ∧ (mmEnds d M_X7_insertInOrder 2 [.ref 0, .ref a1, .int (x2 + (1 : Int32)), .int x3, .int x4] [] (sI μ (a1 + 1) x4.toNatClampNeg x3) P)))) ∧ (¬ x4 ≤ (0 : Int32) → (mmKD a1 = 6) ∧ ((mmKD (a1 + 1) = 10) ∧ ((vp_in (x4 - (1 : Int32)) (mmLEN (a1 + 1))) ∧ ((mmKD 0 = 7) ∧ (mmCI d M_X7_isAhead false 2 [.ref 0, .int x3, .int (μ.1 (a1 + 1) (x4 - (1 : Int32)).toNatClampNeg)] μ fun y1 ν1 => (y1 = (0 : Int32) → (mmKD a1 = 6) ∧ ((mmKD (a1 + 1) = 10) ∧ ((vp_in x4 (mmLEN (a1 + 1))) ∧ (mmEnds d M_X7_insertInOrder 2 [.ref 0, .ref a1, .int (x2 + (1 : Int32)), .int x3, .int x4] [] (sI ν1 (a1 + 1) x4.toNatClampNeg x3) P)))) ∧ (¬ y1 = (0 : Int32) → (mmKD a1 = 6) ∧ ((mmKD a1 = 6) ∧ ((mmKD (a1 + 1) = 10) ∧ ((vp_in (x4 - (1 : Int32)) (mmLEN (a1 + 1))) ∧ ((mmKD (a1 + 1) = 10) ∧ ((vp_in x4 (mmLEN (a1 + 1))) ∧ (mmEnds d M_X7_insertInOrder 20 [.ref 0, .ref a1, .int x2, .int x3, .int (x4 + (-1 : Int32))] [] (sI ν1 (a1 + 1) x4.toNatClampNeg (ν1.1 (a1 + 1) (x4 - (1 : Int32)).toNatClampNeg)) P))))))))))))) : mmEnds d M_X7_insertInOrder 20 [.ref 0, .ref a1, .int x2, .int x3, .int x4] [] μ P := mm_tree 7 OB_X7_insertInOrder OH_X7_insertInOrder_20 h
set_option maxRecDepth 10000 in
theorem s_X7_insertInOrder_20 {d : Nat} {P : Option Value → mmMem → Prop} {μ : mmMem} {a1 : Nat} {x2 : Int32} {x3 : Int32} {x4 : Int32} (hd : 0 ≤ d) (k1 : mmKD a1 = 6) (h : (x4 ≤ (0 : Int32) → (vp_in x4 40) ∧ (mmEnds d M_X7_insertInOrder 2 [.ref 0, .ref a1, .int (x2 + (1 : Int32)), .int x3, .int x4] [] (sI μ (a1 + 1) x4.toNatClampNeg x3) P)) ∧ (¬ x4 ≤ (0 : Int32) → (vp_in (x4 - (1 : Int32)) 40) ∧ (mmCI d M_X7_isAhead false 2 [.ref 0, .int x3, .int (μ.1 (a1 + 1) (x4 - (1 : Int32)).toNatClampNeg)] μ fun y10 ν9 => (y10 = (0 : Int32) → (vp_in x4 40) ∧ (mmEnds d M_X7_insertInOrder 2 [.ref 0, .ref a1, .int (x2 + (1 : Int32)), .int x3, .int x4] [] (sI ν9 (a1 + 1) x4.toNatClampNeg x3) P)) ∧ (¬ y10 = (0 : Int32) → (vp_in x4 40) ∧ (mmEnds d M_X7_insertInOrder 20 [.ref 0, .ref a1, .int x2, .int x3, .int (x4 + (-1 : Int32))] [] (sI ν9 (a1 + 1) x4.toNatClampNeg (ν9.1 (a1 + 1) (x4 - (1 : Int32)).toNatClampNeg)) P))))) : mmEnds d M_X7_insertInOrder 20 [.ref 0, .ref a1, .int x2, .int x3, .int x4] [] μ P := s0_X7_insertInOrder_20 (⟨fun q1 => (have h3 := (h).1 q1; ⟨k1, ⟨(kf_6_1 k1), (have o5 := (h3).1; have h6 := (h3).2; ⟨vp_l (lf_6_1 k1) o5, h6⟩)⟩⟩), fun q2 => (have h4 := (h).2 q2; ⟨k1, ⟨(kf_6_1 k1), (have o7 := (h4).1; have h8 := (h4).2; ⟨vp_l (lf_6_1 k1) o7, ⟨kd_0, (mmCI.mono (h8) (fun y10 ν9 h19 => ⟨fun q11 => (have h13 := (h19).1 q11; ⟨k1, ⟨(kf_6_1 k1), (have o15 := (h13).1; have h16 := (h13).2; ⟨vp_l (lf_6_1 k1) o15, h16⟩)⟩⟩), fun q12 => (have h14 := (h19).2 q12; ⟨k1, ⟨k1, ⟨(kf_6_1 k1), ⟨(vp_l (lf_6_1 k1) o7), ⟨(kf_6_1 k1), (have o17 := (h14).1; have h18 := (h14).2; ⟨vp_l (lf_6_1 k1) o17, h18⟩)⟩⟩⟩⟩⟩)⟩))⟩⟩)⟩⟩)⟩)
theorem u_X7_insertInOrder {d : Nat} {K : mmMem → Prop} {μ : mmMem} {a1 : Nat} (hd : 1 ≤ d) (k1 : mmKD a1 = 6) (h : mmEnds (d - 1) M_X7_insertInOrder 2 [.ref 0, .ref a1, .int (1 : Int32), .retAddr 7, .retAddr 7] [] μ (mmP0 K)) : mmC0 d M_X7_insertInOrder false 1 [.ref 0, .ref a1] μ K :=
  mmCU.of (d' := d - 1) g_X7_insertInOrder (by decide +kernel) rfl rfl (by omega) (s_X7_insertInOrder_0 (d := d - 1) (by omega) k1 h)
theorem g_X7_sort : mmGd M_X7_sort false 1 := ⟨mm_in 368 (by decide +kernel) rfl, mm_in 10 (by decide +kernel) rfl, by decide +kernel, by decide, ⟨mm_in 366 (by decide +kernel) rfl, mm_in 367 (by decide +kernel) rfl⟩⟩
def S_X7_sort_0 : List mmMI := [(0, .iload_n 1, 1, 0, 0, 0, .null, mm0), (1, .invokestatic 184, 3, 346, 1, 0, .null, M_X7_isView), (4, .ifCond .ne 5, 3, 0, 9, 0, .null, mm0)]
def S_X7_sort_7 : List mmMI := [(7, .iconst (-1), 1, 0, 0, 0, .int (-1 : Int32), mm0), (8, .ireturn, 1, 0, 0, 0, .null, mm0)]
def S_X7_sort_9 : List mmMI := [(9, .aload_n 0, 1, 0, 0, 0, .null, mm0), (10, .getfield 10, 3, 204, 7, 0, .null, mm0), (13, .getfield 217, 3, 132, 4, 2, .null, mm0), (16, .ifCond .ne 6, 3, 0, 22, 0, .null, mm0)]
def S_X7_sort_19 : List mmMI := [(19, .bipush (-3), 2, 0, 0, 0, .int (-3 : Int32), mm0), (21, .ireturn, 1, 0, 0, 0, .null, mm0)]
def S_X7_sort_22 : List mmMI := [(22, .aload_n 0, 1, 0, 0, 0, .null, mm0), (23, .getfield 10, 3, 204, 7, 0, .null, mm0), (26, .getfield 187, 3, 138, 4, 5, .null, mm0), (29, .iload_n 1, 1, 0, 0, 0, .null, mm0), (30, .aaload, 1, 0, 15, 0, .null, mm0), (31, .astore_n 2, 1, 0, 0, 0, .null, mm0), (32, .aload_n 2, 1, 0, 0, 0, .null, mm0), (33, .getfield 199, 3, 86, 6, 1, .null, mm0), (36, .iconst 0, 1, 0, 0, 0, .int (0 : Int32), mm0), (37, .aload_n 0, 1, 0, 0, 0, .null, mm0), (38, .getfield 60, 3, 214, 7, 10, .null, mm0), (41, .iconst 0, 1, 0, 0, 0, .int (0 : Int32), mm0), (42, .aload_n 2, 1, 0, 0, 0, .null, mm0), (43, .getfield 196, 3, 84, 6, 0, .null, mm0), (46, .invokestatic 224, 3, 369, 0, 10, .null, mm0), (49, .aload_n 0, 1, 0, 0, 0, .null, mm0), (50, .aload_n 2, 1, 0, 0, 0, .null, mm0), (51, .invokevirtual 230, 3, 372, 1, 7, .null, M_X7_insertInOrder), (54, .iconst 0, 1, 0, 0, 0, .int (0 : Int32), mm0), (55, .istore_n 3, 1, 0, 0, 0, .null, mm0), (56, .iconst 0, 1, 0, 0, 0, .int (0 : Int32), mm0), (57, .istore 4, 2, 0, 0, 0, .null, mm0)]
def S_X7_sort_59 : List mmMI := [(59, .iload 4, 2, 0, 0, 0, .null, mm0), (61, .aload_n 2, 1, 0, 0, 0, .null, mm0), (62, .getfield 196, 3, 84, 6, 0, .null, mm0), (65, .if_icmp .ge 29, 3, 0, 94, 0, .null, mm0)]
def S_X7_sort_68 : List mmMI := [(68, .aload_n 2, 1, 0, 0, 0, .null, mm0), (69, .getfield 199, 3, 86, 6, 1, .null, mm0), (72, .iload 4, 2, 0, 0, 0, .null, mm0), (74, .iaload, 1, 0, 0, 0, .null, mm0), (75, .aload_n 0, 1, 0, 0, 0, .null, mm0), (76, .getfield 60, 3, 214, 7, 10, .null, mm0), (79, .iload 4, 2, 0, 0, 0, .null, mm0), (81, .iaload, 1, 0, 0, 0, .null, mm0), (82, .if_icmp .eq 6, 3, 0, 88, 0, .null, mm0)]
def S_X7_sort_85 : List mmMI := [(85, .iinc 3 1, 3, 0, 0, 0, .int (1 : Int32), mm0)]
def S_X7_sort_88 : List mmMI := [(88, .iinc 4 1, 3, 0, 0, 0, .int (1 : Int32), mm0), (91, .goto (-32), 3, 0, 59, 0, .null, mm0)]
def S_X7_sort_94 : List mmMI := [(94, .iload_n 3, 1, 0, 0, 0, .null, mm0), (95, .ireturn, 1, 0, 0, 0, .null, mm0)]
def BL_X7_sort : mmBl := [(0, S_X7_sort_0, 7), (7, S_X7_sort_7, 9), (9, S_X7_sort_9, 19), (19, S_X7_sort_19, 22), (22, S_X7_sort_22, 59), (68, S_X7_sort_68, 85), (85, S_X7_sort_85, 88), (88, S_X7_sort_88, 94), (94, S_X7_sort_94, 96)]
theorem OB_X7_sort : mmOkB M_X7_sort BL_X7_sort = true := by decide +kernel
theorem OH_X7_sort_0 : mmOkB M_X7_sort [(0, S_X7_sort_0, 7)] = true := by decide +kernel
set_option maxRecDepth 10000 in
theorem s0_X7_sort_0 {d : Nat} {P : Option Value → mmMem → Prop} {μ : mmMem} {x1 : Int32} (h : mmCI d M_X7_isView true 1 [.int x1] μ fun y1 ν1 => (¬ y1 = (0 : Int32) → (mmKD 0 = 7) ∧ ((mmKD 1 = 4) ∧ ((¬ (ν1.1 1 2) = (0 : Int32) → (mmKD 0 = 7) ∧ ((mmKD 1 = 4) ∧ ((mmKD 3 = 15) ∧ ((vp_in x1 (mmLEN 3)) ∧ ((mmKD (55 + 2 * x1.toNatClampNeg) = 6) ∧ ((mmKD 0 = 7) ∧ ((mmKD (55 + 2 * x1.toNatClampNeg) = 6) ∧ ((1 ≤ d) ∧ ((mmKD ((55 + 2 * x1.toNatClampNeg) + 1) = 10) ∧ ((mmKD 155 = 10) ∧ ((¬ (0 : Int32) < (0 : Int32)) ∧ ((¬ (0 : Int32) < (0 : Int32)) ∧ ((¬ (ν1.1 (55 + 2 * x1.toNatClampNeg) 0) < (0 : Int32)) ∧ (((0 : Int32).toNatClampNeg + (ν1.1 (55 + 2 * x1.toNatClampNeg) 0).toNatClampNeg ≤ mmLEN ((55 + 2 * x1.toNatClampNeg) + 1)) ∧ (((0 : Int32).toNatClampNeg + (ν1.1 (55 + 2 * x1.toNatClampNeg) 0).toNatClampNeg ≤ mmLEN 155) ∧ ((mmKD 0 = 7) ∧ (mmC0 d M_X7_insertInOrder false 1 [.ref 0, .ref (55 + 2 * x1.toNatClampNeg)] (cI ν1 ((55 + 2 * x1.toNatClampNeg) + 1) 155 (0 : Int32).toNatClampNeg (0 : Int32).toNatClampNeg (ν1.1 (55 + 2 * x1.toNatClampNeg) 0).toNatClampNeg) fun ν2 => mmEnds d M_X7_sort 59 [.ref 0, .int x1, .ref (55 + 2 * x1.toNatClampNeg), .int (0 : Int32), .int (0 : Int32)] [] ν2 P))))))))))))))))) ∧ ((ν1.1 1 2) = (0 : Int32) → P (some (.int (-3 : Int32))) ν1)))) ∧ (y1 = (0 : Int32) → P (some (.int (-1 : Int32))) ν1)) : mmEnds d M_X7_sort 0 [.ref 0, .int x1, .retAddr 7, .retAddr 7, .retAddr 7] [] μ P := mm_tree 10 OB_X7_sort OH_X7_sort_0 h
set_option maxRecDepth 10000 in
theorem s_X7_sort_0 {d : Nat} {P : Option Value → mmMem → Prop} {μ : mmMem} {x1 : Int32} (hd : 1 ≤ d)  (h : (x1 < (0 : Int32) → P (some (.int (-1 : Int32))) μ) ∧ (¬ x1 < (0 : Int32) → ((2 : Int32) ≤ x1 → P (some (.int (-1 : Int32))) μ) ∧ (¬ (2 : Int32) ≤ x1 → (¬ (μ.1 1 2) = (0 : Int32) → (¬ (μ.1 (55 + 2 * x1.toNatClampNeg) 0) < (0 : Int32)) ∧ (((0 : Int32).toNatClampNeg + (μ.1 (55 + 2 * x1.toNatClampNeg) 0).toNatClampNeg ≤ 40) ∧ (mmC0 d M_X7_insertInOrder false 1 [.ref 0, .ref (55 + 2 * x1.toNatClampNeg)] (cI μ ((55 + 2 * x1.toNatClampNeg) + 1) 155 (0 : Int32).toNatClampNeg (0 : Int32).toNatClampNeg (μ.1 (55 + 2 * x1.toNatClampNeg) 0).toNatClampNeg) fun ν19 => mmEnds d M_X7_sort 59 [.ref 0, .int x1, .ref (55 + 2 * x1.toNatClampNeg), .int (0 : Int32), .int (0 : Int32)] [] ν19 P))) ∧ ((μ.1 1 2) = (0 : Int32) → P (some (.int (-3 : Int32))) μ)))) : mmEnds d M_X7_sort 0 [.ref 0, .int x1, .retAddr 7, .retAddr 7, .retAddr 7] [] μ P := s0_X7_sort_0 (u_X7_isView (by omega)  (⟨fun q1 => (have h3 := (h).1 q1; ⟨fun q5 => absurd (by decide : (0 : Int32) = (0 : Int32)) q5, fun _ => h3⟩), fun q2 => (have h4 := (h).2 q2; ⟨fun q6 => (have h8 := (h4).1 q6; ⟨fun q10 => absurd (by decide : (0 : Int32) = (0 : Int32)) q10, fun _ => h8⟩), fun q7 => (have h9 := (h4).2 q7; ⟨fun _ => ⟨kd_0, ⟨kd_1, ⟨fun q11 => (have h13 := (h9).1 q11; ⟨kd_0, ⟨kd_1, ⟨kd_3, ⟨(vp_l ln_3 (vp_mk q2 q7 (by decide))), ⟨(ke_15 kd_3 (vp_l ln_3 (vp_mk q2 q7 (by decide)))), ⟨kd_0, ⟨(ke_15 kd_3 (vp_l ln_3 (vp_mk q2 q7 (by decide)))), ⟨(by omega), ⟨(kf_6_1 (ke_15 kd_3 (vp_l ln_3 (vp_mk q2 q7 (by decide))))), ⟨kd_155, ⟨(by decide), ⟨(by decide), (have o15 := (h13).1; have h16 := (h13).2; ⟨o15, (have o17 := (h16).1; have h18 := (h16).2; ⟨cpl_l (lf_6_1 (ke_15 kd_3 (vp_l ln_3 (vp_mk q2 q7 (by decide))))) o17, ⟨cpl_l ln_155 o17, ⟨kd_0, (mmC0.mono (h18) (fun ν19 h20 => h20))⟩⟩⟩)⟩)⟩⟩⟩⟩⟩⟩⟩⟩⟩⟩⟩⟩), fun q12 => (have h14 := (h9).2 q12; h14)⟩⟩⟩, fun q21 => absurd q21 (by decide : ¬ (1 : Int32) = (0 : Int32))⟩)⟩)⟩))
theorem OH_X7_sort_59 : mmOkB M_X7_sort [(59, S_X7_sort_59, 68)] = true := by decide +kernel
theorem s0_X7_sort_59 {d : Nat} {P : Option Value → mmMem → Prop} {μ : mmMem} {x1 : Int32} {a2 : Nat} {x3 : Int32} {x4 : Int32} (h : (mmKD a2 = 6) ∧ (((μ.1 a2 0) ≤ x4 → P (some (.int x3)) μ) ∧ (¬ (μ.1 a2 0) ≤ x4 → (mmKD a2 = 6) ∧ ((mmKD (a2 + 1) = 10) ∧ ((vp_in x4 (mmLEN (a2 + 1))) ∧ ((mmKD 0 = 7) ∧ ((mmKD 155 = 10) ∧ ((vp_in x4 (mmLEN 155)) ∧ (((μ.1 (a2 + 1) x4.toNatClampNeg) = (μ.1 155 x4.toNatClampNeg) → mmEnds d M_X7_sort 59 [.ref 0, .int x1, .ref a2, .int x3, .int (x4 + (1 : Int32))] [] μ P) ∧ (¬ (μ.1 (a2 + 1) x4.toNatClampNeg) = (μ.1 155 x4.toNatClampNeg) → mmEnds d M_X7_sort 59 [.ref 0, .int x1, .ref a2, .int (x3 + (1 : Int32)), .int (x4 + (1 : Int32))] [] μ P)))))))))) : mmEnds d M_X7_sort 59 [.ref 0, .int x1, .ref a2, .int x3, .int x4] [] μ P := mm_tree 10 OB_X7_sort OH_X7_sort_59 h
theorem s_X7_sort_59 {d : Nat} {P : Option Value → mmMem → Prop} {μ : mmMem} {x1 : Int32} {a2 : Nat} {x3 : Int32} {x4 : Int32} (hd : 0 ≤ d) (k2 : mmKD a2 = 6) (h : ((μ.1 a2 0) ≤ x4 → P (some (.int x3)) μ) ∧ (¬ (μ.1 a2 0) ≤ x4 → (vp_in x4 40) ∧ (((μ.1 (a2 + 1) x4.toNatClampNeg) = (μ.1 155 x4.toNatClampNeg) → mmEnds d M_X7_sort 59 [.ref 0, .int x1, .ref a2, .int x3, .int (x4 + (1 : Int32))] [] μ P) ∧ (¬ (μ.1 (a2 + 1) x4.toNatClampNeg) = (μ.1 155 x4.toNatClampNeg) → mmEnds d M_X7_sort 59 [.ref 0, .int x1, .ref a2, .int (x3 + (1 : Int32)), .int (x4 + (1 : Int32))] [] μ P)))) : mmEnds d M_X7_sort 59 [.ref 0, .int x1, .ref a2, .int x3, .int x4] [] μ P := s0_X7_sort_59 (⟨k2, ⟨fun q1 => (have h3 := (h).1 q1; h3), fun q2 => (have h4 := (h).2 q2; ⟨k2, ⟨(kf_6_1 k2), (have o5 := (h4).1; have h6 := (h4).2; ⟨vp_l (lf_6_1 k2) o5, ⟨kd_0, ⟨kd_155, ⟨(vp_l ln_155 o5), ⟨fun q7 => (have h9 := (h6).1 q7; h9), fun q8 => (have h10 := (h6).2 q8; h10)⟩⟩⟩⟩⟩)⟩⟩)⟩⟩)
set_option maxRecDepth 10000 in
theorem u_X7_sort {d : Nat} {K : Int32 → mmMem → Prop} {μ : mmMem} {x1 : Int32} (hd : 2 ≤ d)  (h : (x1 < (0 : Int32) → K (-1 : Int32) μ) ∧ (¬ x1 < (0 : Int32) → ((2 : Int32) ≤ x1 → K (-1 : Int32) μ) ∧ (¬ (2 : Int32) ≤ x1 → (¬ (μ.1 1 2) = (0 : Int32) → (¬ (μ.1 (55 + 2 * x1.toNatClampNeg) 0) < (0 : Int32)) ∧ (((0 : Int32).toNatClampNeg + (μ.1 (55 + 2 * x1.toNatClampNeg) 0).toNatClampNeg ≤ 40) ∧ (mmC0 (d - 1) M_X7_insertInOrder false 1 [.ref 0, .ref (55 + 2 * x1.toNatClampNeg)] (cI μ ((55 + 2 * x1.toNatClampNeg) + 1) 155 (0 : Int32).toNatClampNeg (0 : Int32).toNatClampNeg (μ.1 (55 + 2 * x1.toNatClampNeg) 0).toNatClampNeg) fun ν19 => mmEnds (d - 1) M_X7_sort 59 [.ref 0, .int x1, .ref (55 + 2 * x1.toNatClampNeg), .int (0 : Int32), .int (0 : Int32)] [] ν19 (mmPI K)))) ∧ ((μ.1 1 2) = (0 : Int32) → K (-3 : Int32) μ)))) : mmCI d M_X7_sort false 1 [.ref 0, .int x1] μ K :=
  mmCU.of (d' := d - 1) g_X7_sort (by decide +kernel) rfl rfl (by omega) (s_X7_sort_0 (d := d - 1) (by omega)  h)
theorem g_X7_comesBack : mmGd M_X7_comesBack false 2 := ⟨mm_in 415 (by decide +kernel) rfl, mm_in 10 (by decide +kernel) rfl, by decide +kernel, by decide, ⟨mm_in 414 (by decide +kernel) rfl, mm_in 7 (by decide +kernel) rfl⟩⟩
def S_X7_comesBack_0 : List mmMI := [(0, .aload_n 1, 1, 0, 0, 0, .null, mm0), (1, .getfield 134, 3, 105, 0, 0, .null, mm0), (4, .iconst (-1), 1, 0, 0, 0, .int (-1 : Int32), mm0), (5, .if_icmp .ne 15, 3, 0, 20, 0, .null, mm0)]
def S_X7_comesBack_8 : List mmMI := [(8, .iload_n 2, 1, 0, 0, 0, .null, mm0), (9, .bipush 8, 2, 0, 0, 0, .int (8 : Int32), mm0), (11, .if_icmp .lt 7, 3, 0, 18, 0, .null, mm0)]
def S_X7_comesBack_14 : List mmMI := [(14, .iconst 1, 1, 0, 0, 0, .int (1 : Int32), mm0), (15, .goto 4, 3, 0, 19, 0, .null, mm0)]
def S_X7_comesBack_18 : List mmMI := [(18, .iconst 0, 1, 0, 0, 0, .int (0 : Int32), mm0)]
def S_X7_comesBack_19 : List mmMI := [(19, .ireturn, 1, 0, 0, 0, .null, mm0)]
def S_X7_comesBack_20 : List mmMI := [(20, .aload_n 1, 1, 0, 0, 0, .null, mm0), (21, .getfield 134, 3, 105, 0, 0, .null, mm0), (24, .bipush 10, 2, 0, 0, 0, .int (10 : Int32), mm0), (26, .if_icmp .ne 15, 3, 0, 41, 0, .null, mm0)]
def S_X7_comesBack_29 : List mmMI := [(29, .iload_n 2, 1, 0, 0, 0, .null, mm0), (30, .bipush 9, 2, 0, 0, 0, .int (9 : Int32), mm0), (32, .if_icmp .lt 7, 3, 0, 39, 0, .null, mm0)]
def S_X7_comesBack_35 : List mmMI := [(35, .iconst 1, 1, 0, 0, 0, .int (1 : Int32), mm0), (36, .goto 4, 3, 0, 40, 0, .null, mm0)]
def S_X7_comesBack_39 : List mmMI := [(39, .iconst 0, 1, 0, 0, 0, .int (0 : Int32), mm0)]
def S_X7_comesBack_40 : List mmMI := [(40, .ireturn, 1, 0, 0, 0, .null, mm0)]
def S_X7_comesBack_41 : List mmMI := [(41, .iload_n 2, 1, 0, 0, 0, .null, mm0), (42, .bipush 9, 2, 0, 0, 0, .int (9 : Int32), mm0), (44, .if_icmp .lt 15, 3, 0, 59, 0, .null, mm0)]
def S_X7_comesBack_47 : List mmMI := [(47, .iload_n 2, 1, 0, 0, 0, .null, mm0), (48, .bipush 9, 2, 0, 0, 0, .int (9 : Int32), mm0), (50, .if_icmp .ne 7, 3, 0, 57, 0, .null, mm0)]
def S_X7_comesBack_53 : List mmMI := [(53, .iconst 1, 1, 0, 0, 0, .int (1 : Int32), mm0), (54, .goto 4, 3, 0, 58, 0, .null, mm0)]
def S_X7_comesBack_57 : List mmMI := [(57, .iconst 0, 1, 0, 0, 0, .int (0 : Int32), mm0)]
def S_X7_comesBack_58 : List mmMI := [(58, .ireturn, 1, 0, 0, 0, .null, mm0)]
def S_X7_comesBack_59 : List mmMI := [(59, .aload_n 0, 1, 0, 0, 0, .null, mm0), (60, .getfield 57, 3, 213, 7, 9, .null, mm0), (63, .aload_n 1, 1, 0, 0, 0, .null, mm0), (64, .invokevirtual 415, 3, 416, 1, 0, .null, M_X0_copyFrom), (67, .aload_n 0, 1, 0, 0, 0, .null, mm0), (68, .getfield 57, 3, 213, 7, 9, .null, mm0), (71, .iload_n 2, 1, 0, 0, 0, .null, mm0), (72, .invokestatic 287, 3, 420, 1, 0, .null, M_X7_boxKindIn), (75, .invokevirtual 135, 3, 423, 1, 0, .null, M_X0_turnInto), (78, .aload_n 0, 1, 0, 0, 0, .null, mm0), (79, .getfield 57, 3, 213, 7, 9, .null, mm0), (82, .aload_n 1, 1, 0, 0, 0, .null, mm0), (83, .getfield 134, 3, 105, 0, 0, .null, mm0), (86, .invokevirtual 135, 3, 423, 1, 0, .null, M_X0_turnInto), (89, .aload_n 0, 1, 0, 0, 0, .null, mm0), (90, .getfield 57, 3, 213, 7, 9, .null, mm0), (93, .aload_n 1, 1, 0, 0, 0, .null, mm0), (94, .invokevirtual 352, 3, 338, 1, 0, .null, M_X0_isSame), (97, .ireturn, 1, 0, 0, 0, .null, mm0)]
def BL_X7_comesBack : mmBl := [(0, S_X7_comesBack_0, 8), (8, S_X7_comesBack_8, 14), (14, S_X7_comesBack_14, 18), (18, S_X7_comesBack_18, 19), (19, S_X7_comesBack_19, 20), (20, S_X7_comesBack_20, 29), (29, S_X7_comesBack_29, 35), (35, S_X7_comesBack_35, 39), (39, S_X7_comesBack_39, 40), (40, S_X7_comesBack_40, 41), (41, S_X7_comesBack_41, 47), (47, S_X7_comesBack_47, 53), (53, S_X7_comesBack_53, 57), (57, S_X7_comesBack_57, 58), (58, S_X7_comesBack_58, 59), (59, S_X7_comesBack_59, 98)]
theorem OB_X7_comesBack : mmOkB M_X7_comesBack BL_X7_comesBack = true := by decide +kernel
theorem OH_X7_comesBack_0 : mmOkB M_X7_comesBack [(0, S_X7_comesBack_0, 8)] = true := by decide +kernel
set_option maxRecDepth 10000 in
theorem s0_X7_comesBack_0 {d : Nat} {P : Option Value → mmMem → Prop} {μ : mmMem} {a1 : Nat} {x2 : Int32} (h : (mmKD a1 = 0) ∧ ((¬ (μ.1 a1 0) = (-1 : Int32) → (mmKD a1 = 0) ∧ ((¬ (μ.1 a1 0) = (10 : Int32) → (x2 < (9 : Int32) → (mmKD 0 = 7) ∧ ((mmKD 154 = 0) ∧ (mmC0 d M_X0_copyFrom false 1 [.ref 154, .ref a1] μ fun ν1 => (mmKD 0 = 7) ∧ (mmCI d M_X7_boxKindIn true 1 [.int x2] ν1 fun y2 ν2 => (mmKD 154 = 0) ∧ (mmC0 d M_X0_turnInto false 1 [.ref 154, .int y2] ν2 fun ν3 => (mmKD 0 = 7) ∧ ((mmKD a1 = 0) ∧ ((mmKD 154 = 0) ∧ (mmC0 d M_X0_turnInto false 1 [.ref 154, .int (ν3.1 a1 0)] ν3 fun ν4 => (mmKD 0 = 7) ∧ ((mmKD 154 = 0) ∧ (mmCI d M_X0_isSame false 1 [.ref 154, .ref a1] ν4 fun y5 ν5 => mbl y5 (P (some (.int y5)) ν5))))))))))) ∧ (¬ x2 < (9 : Int32) → (¬ x2 = (9 : Int32) → P (some (.int (0 : Int32))) μ) ∧ (x2 = (9 : Int32) → P (some (.int (1 : Int32))) μ))) ∧ ((μ.1 a1 0) = (10 : Int32) → (x2 < (9 : Int32) → P (some (.int (0 : Int32))) μ) ∧ (¬ x2 < (9 : Int32) → P (some (.int (1 : Int32))) μ)))) ∧ ((μ.1 a1 0) = (-1 : Int32) → (x2 < (8 : Int32) → P (some (.int (0 : Int32))) μ) ∧ (¬ x2 < (8 : Int32) → P (some (.int (1 : Int32))) μ)))) : mmEnds d M_X7_comesBack 0 [.ref 0, .ref a1, .int x2] [] μ P := mm_tree 17 OB_X7_comesBack OH_X7_comesBack_0 h
set_option maxRecDepth 10000 in
theorem s_X7_comesBack_0 {d : Nat} {P : Option Value → mmMem → Prop} {μ : mmMem} {a1 : Nat} {x2 : Int32} (hd : 1 ≤ d) (k1 : mmKD a1 = 0) (h : (¬ (μ.1 a1 0) = (-1 : Int32) → (¬ (μ.1 a1 0) = (10 : Int32) → (x2 < (9 : Int32) → mmC0 d M_X0_copyFrom false 1 [.ref 154, .ref a1] μ fun ν13 => (¬ x2 = (8 : Int32) → mmC0 d M_X0_turnInto false 1 [.ref 154, .int x2] ν13 fun ν18 => mmC0 d M_X0_turnInto false 1 [.ref 154, .int (ν18.1 a1 0)] ν18 fun ν19 => mmCI d M_X0_isSame false 1 [.ref 154, .ref a1] ν19 fun y21 ν20 => (y21 = 0 ∨ y21 = 1) ∧ (P (some (.int y21)) ν20)) ∧ (x2 = (8 : Int32) → mmC0 d M_X0_turnInto false 1 [.ref 154, .int (4 : Int32)] ν13 fun ν27 => mmC0 d M_X0_turnInto false 1 [.ref 154, .int (ν27.1 a1 0)] ν27 fun ν28 => mmCI d M_X0_isSame false 1 [.ref 154, .ref a1] ν28 fun y30 ν29 => (y30 = 0 ∨ y30 = 1) ∧ (P (some (.int y30)) ν29))) ∧ (¬ x2 < (9 : Int32) → (¬ x2 = (9 : Int32) → P (some (.int (0 : Int32))) μ) ∧ (x2 = (9 : Int32) → P (some (.int (1 : Int32))) μ))) ∧ ((μ.1 a1 0) = (10 : Int32) → (x2 < (9 : Int32) → P (some (.int (0 : Int32))) μ) ∧ (¬ x2 < (9 : Int32) → P (some (.int (1 : Int32))) μ))) ∧ ((μ.1 a1 0) = (-1 : Int32) → (x2 < (8 : Int32) → P (some (.int (0 : Int32))) μ) ∧ (¬ x2 < (8 : Int32) → P (some (.int (1 : Int32))) μ))) : mmEnds d M_X7_comesBack 0 [.ref 0, .ref a1, .int x2] [] μ P := s0_X7_comesBack_0 (⟨k1, ⟨fun q1 => (have h3 := (h).1 q1; ⟨k1, ⟨fun q5 => (have h7 := (h3).1 q5; ⟨fun q9 => (have h11 := (h7).1 q9; ⟨kd_0, ⟨kd_154, (mmC0.mono (h11) (fun ν13 h36 => ⟨kd_0, (u_X7_boxKindIn (by omega)  (⟨fun q14 => (have h16 := (h36).1 q14; ⟨kd_154, (mmC0.mono (h16) (fun ν18 h26 => ⟨kd_0, ⟨k1, ⟨kd_154, (mmC0.mono (h26) (fun ν19 h25 => ⟨kd_0, ⟨kd_154, (mmCI.mono (h25) (fun y21 ν20 h24 => (have o22 := (h24).1; have h23 := (h24).2; mbl_i o22 h23)))⟩⟩))⟩⟩⟩))⟩), fun q15 => (have h17 := (h36).2 q15; ⟨kd_154, (mmC0.mono (h17) (fun ν27 h35 => ⟨kd_0, ⟨k1, ⟨kd_154, (mmC0.mono (h35) (fun ν28 h34 => ⟨kd_0, ⟨kd_154, (mmCI.mono (h34) (fun y30 ν29 h33 => (have o31 := (h33).1; have h32 := (h33).2; mbl_i o31 h32)))⟩⟩))⟩⟩⟩))⟩)⟩))⟩))⟩⟩), fun q10 => (have h12 := (h7).2 q10; ⟨fun q37 => (have h39 := (h12).1 q37; h39), fun q38 => (have h40 := (h12).2 q38; h40)⟩)⟩), fun q6 => (have h8 := (h3).2 q6; ⟨fun q41 => (have h43 := (h8).1 q41; h43), fun q42 => (have h44 := (h8).2 q42; h44)⟩)⟩⟩), fun q2 => (have h4 := (h).2 q2; ⟨fun q45 => (have h47 := (h4).1 q45; h47), fun q46 => (have h48 := (h4).2 q46; h48)⟩)⟩⟩)
set_option maxRecDepth 10000 in
theorem u_X7_comesBack {d : Nat} {K : Int32 → mmMem → Prop} {μ : mmMem} {a1 : Nat} {x2 : Int32} (hd : 2 ≤ d) (k1 : mmKD a1 = 0) (h : (¬ (μ.1 a1 0) = (-1 : Int32) → (¬ (μ.1 a1 0) = (10 : Int32) → (x2 < (9 : Int32) → mmC0 (d - 1) M_X0_copyFrom false 1 [.ref 154, .ref a1] μ fun ν13 => (¬ x2 = (8 : Int32) → mmC0 (d - 1) M_X0_turnInto false 1 [.ref 154, .int x2] ν13 fun ν18 => mmC0 (d - 1) M_X0_turnInto false 1 [.ref 154, .int (ν18.1 a1 0)] ν18 fun ν19 => mmCI (d - 1) M_X0_isSame false 1 [.ref 154, .ref a1] ν19 fun y21 ν20 => (y21 = 0 ∨ y21 = 1) ∧ (K y21 ν20)) ∧ (x2 = (8 : Int32) → mmC0 (d - 1) M_X0_turnInto false 1 [.ref 154, .int (4 : Int32)] ν13 fun ν27 => mmC0 (d - 1) M_X0_turnInto false 1 [.ref 154, .int (ν27.1 a1 0)] ν27 fun ν28 => mmCI (d - 1) M_X0_isSame false 1 [.ref 154, .ref a1] ν28 fun y30 ν29 => (y30 = 0 ∨ y30 = 1) ∧ (K y30 ν29))) ∧ (¬ x2 < (9 : Int32) → (¬ x2 = (9 : Int32) → K (0 : Int32) μ) ∧ (x2 = (9 : Int32) → K (1 : Int32) μ))) ∧ ((μ.1 a1 0) = (10 : Int32) → (x2 < (9 : Int32) → K (0 : Int32) μ) ∧ (¬ x2 < (9 : Int32) → K (1 : Int32) μ))) ∧ ((μ.1 a1 0) = (-1 : Int32) → (x2 < (8 : Int32) → K (0 : Int32) μ) ∧ (¬ x2 < (8 : Int32) → K (1 : Int32) μ))) : mmCI d M_X7_comesBack false 2 [.ref 0, .ref a1, .int x2] μ K :=
  mmCU.of (d' := d - 1) g_X7_comesBack (by decide +kernel) rfl rfl (by omega) (s_X7_comesBack_0 (d := d - 1) (by omega) k1 h)
theorem g_X7_firstLost : mmGd M_X7_firstLost false 2 := ⟨mm_in 411 (by decide +kernel) rfl, mm_in 10 (by decide +kernel) rfl, by decide +kernel, by decide, ⟨mm_in 410 (by decide +kernel) rfl, mm_in 6 (by decide +kernel) rfl⟩⟩
def S_X7_firstLost_0 : List mmMI := [(0, .iconst 0, 1, 0, 0, 0, .int (0 : Int32), mm0), (1, .istore_n 3, 1, 0, 0, 0, .null, mm0)]
def S_X7_firstLost_2 : List mmMI := [(2, .iload_n 3, 1, 0, 0, 0, .null, mm0), (3, .aload_n 0, 1, 0, 0, 0, .null, mm0), (4, .getfield 10, 3, 204, 7, 0, .null, mm0), (7, .getfield 77, 3, 127, 4, 0, .null, mm0), (10, .if_icmp .ge 32, 3, 0, 42, 0, .null, mm0)]
def S_X7_firstLost_13 : List mmMI := [(13, .aload_n 1, 1, 0, 0, 0, .null, mm0), (14, .iload_n 3, 1, 0, 0, 0, .null, mm0), (15, .aload_n 0, 1, 0, 0, 0, .null, mm0), (16, .getfield 50, 3, 211, 7, 7, .null, mm0), (19, .invokevirtual 122, 3, 322, 2, 1, .null, M_X1_load), (22, .aload_n 0, 1, 0, 0, 0, .null, mm0), (23, .aload_n 0, 1, 0, 0, 0, .null, mm0), (24, .getfield 50, 3, 211, 7, 7, .null, mm0), (27, .iload_n 2, 1, 0, 0, 0, .null, mm0), (28, .invokevirtual 411, 3, 412, 2, 7, .null, M_X7_comesBack), (31, .ifCond .ne 5, 3, 0, 36, 0, .null, mm0)]
def S_X7_firstLost_34 : List mmMI := [(34, .iload_n 3, 1, 0, 0, 0, .null, mm0), (35, .ireturn, 1, 0, 0, 0, .null, mm0)]
def S_X7_firstLost_36 : List mmMI := [(36, .iinc 3 1, 3, 0, 0, 0, .int (1 : Int32), mm0), (39, .goto (-37), 3, 0, 2, 0, .null, mm0)]
def S_X7_firstLost_42 : List mmMI := [(42, .bipush (-5), 2, 0, 0, 0, .int (-5 : Int32), mm0), (44, .ireturn, 1, 0, 0, 0, .null, mm0)]
def BL_X7_firstLost : mmBl := [(0, S_X7_firstLost_0, 2), (13, S_X7_firstLost_13, 34), (34, S_X7_firstLost_34, 36), (36, S_X7_firstLost_36, 42), (42, S_X7_firstLost_42, 45)]
theorem OB_X7_firstLost : mmOkB M_X7_firstLost BL_X7_firstLost = true := by decide +kernel
theorem OH_X7_firstLost_0 : mmOkB M_X7_firstLost [(0, S_X7_firstLost_0, 2)] = true := by decide +kernel
theorem s0_X7_firstLost_0 {d : Nat} {P : Option Value → mmMem → Prop} {μ : mmMem} {a1 : Nat} {x2 : Int32} (h : mmEnds d M_X7_firstLost 2 [.ref 0, .ref a1, .int x2, .int (0 : Int32)] [] μ P) : mmEnds d M_X7_firstLost 0 [.ref 0, .ref a1, .int x2, .retAddr 7] [] μ P := mm_tree 6 OB_X7_firstLost OH_X7_firstLost_0 h
theorem s_X7_firstLost_0 {d : Nat} {P : Option Value → mmMem → Prop} {μ : mmMem} {a1 : Nat} {x2 : Int32} (hd : 0 ≤ d) (k1 : mmKD a1 = 1) (h : mmEnds d M_X7_firstLost 2 [.ref 0, .ref a1, .int x2, .int (0 : Int32)] [] μ P) : mmEnds d M_X7_firstLost 0 [.ref 0, .ref a1, .int x2, .retAddr 7] [] μ P := s0_X7_firstLost_0 h
theorem OH_X7_firstLost_2 : mmOkB M_X7_firstLost [(2, S_X7_firstLost_2, 13)] = true := by decide +kernel
theorem s0_X7_firstLost_2 {d : Nat} {P : Option Value → mmMem → Prop} {μ : mmMem} {a1 : Nat} {x2 : Int32} {x3 : Int32} (h : (mmKD 0 = 7) ∧ ((mmKD 1 = 4) ∧ (((μ.1 1 0) ≤ x3 → P (some (.int (-5 : Int32))) μ) ∧ (¬ (μ.1 1 0) ≤ x3 → (mmKD 0 = 7) ∧ ((mmKD a1 = 1) ∧ (mmC0 d M_X1_load false 2 [.ref a1, .int x3, .ref 152] μ fun ν1 => (mmKD 0 = 7) ∧ ((mmKD 0 = 7) ∧ (mmCI d M_X7_comesBack false 2 [.ref 0, .ref 152, .int x2] ν1 fun y2 ν2 => (¬ y2 = (0 : Int32) → mmEnds d M_X7_firstLost 2 [.ref 0, .ref a1, .int x2, .int (x3 + (1 : Int32))] [] ν2 P) ∧ (y2 = (0 : Int32) → P (some (.int x3)) ν2))))))))) : mmEnds d M_X7_firstLost 2 [.ref 0, .ref a1, .int x2, .int x3] [] μ P := mm_tree 6 OB_X7_firstLost OH_X7_firstLost_2 h
theorem s_X7_firstLost_2 {d : Nat} {P : Option Value → mmMem → Prop} {μ : mmMem} {a1 : Nat} {x2 : Int32} {x3 : Int32} (hd : 0 ≤ d) (k1 : mmKD a1 = 1) (h : ((μ.1 1 0) ≤ x3 → P (some (.int (-5 : Int32))) μ) ∧ (¬ (μ.1 1 0) ≤ x3 → mmC0 d M_X1_load false 2 [.ref a1, .int x3, .ref 152] μ fun ν5 => mmCI d M_X7_comesBack false 2 [.ref 0, .ref 152, .int x2] ν5 fun y7 ν6 => (¬ y7 = (0 : Int32) → mmEnds d M_X7_firstLost 2 [.ref 0, .ref a1, .int x2, .int (x3 + (1 : Int32))] [] ν6 P) ∧ (y7 = (0 : Int32) → P (some (.int x3)) ν6))) : mmEnds d M_X7_firstLost 2 [.ref 0, .ref a1, .int x2, .int x3] [] μ P := s0_X7_firstLost_2 (⟨kd_0, ⟨kd_1, ⟨fun q1 => (have h3 := (h).1 q1; h3), fun q2 => (have h4 := (h).2 q2; ⟨kd_0, ⟨k1, (mmC0.mono (h4) (fun ν5 h13 => ⟨kd_0, ⟨kd_0, (mmCI.mono (h13) (fun y7 ν6 h12 => ⟨fun q8 => (have h10 := (h12).1 q8; h10), fun q9 => (have h11 := (h12).2 q9; h11)⟩))⟩⟩))⟩⟩)⟩⟩⟩)
theorem u_X7_firstLost {d : Nat} {K : Int32 → mmMem → Prop} {μ : mmMem} {a1 : Nat} {x2 : Int32} (hd : 1 ≤ d) (k1 : mmKD a1 = 1) (h : mmEnds (d - 1) M_X7_firstLost 2 [.ref 0, .ref a1, .int x2, .int (0 : Int32)] [] μ (mmPI K)) : mmCI d M_X7_firstLost false 2 [.ref 0, .ref a1, .int x2] μ K :=
  mmCU.of (d' := d - 1) g_X7_firstLost (by decide +kernel) rfl rfl (by omega) (s_X7_firstLost_0 (d := d - 1) (by omega) k1 h)
theorem g_X7_loses : mmGd M_X7_loses false 2 := ⟨mm_in 407 (by decide +kernel) rfl, mm_in 10 (by decide +kernel) rfl, by decide +kernel, by decide, ⟨mm_in 405 (by decide +kernel) rfl, mm_in 406 (by decide +kernel) rfl⟩⟩
def S_X7_loses_0 : List mmMI := [(0, .aload_n 0, 1, 0, 0, 0, .null, mm0), (1, .iload_n 1, 1, 0, 0, 0, .null, mm0), (2, .invokevirtual 100, 3, 302, 1, 7, .null, M_X7_columnRefusal), (5, .istore_n 3, 1, 0, 0, 0, .null, mm0), (6, .iload_n 3, 1, 0, 0, 0, .null, mm0), (7, .ifCond .eq 5, 3, 0, 12, 0, .null, mm0)]
def S_X7_loses_10 : List mmMI := [(10, .iload_n 3, 1, 0, 0, 0, .null, mm0), (11, .ireturn, 1, 0, 0, 0, .null, mm0)]
def S_X7_loses_12 : List mmMI := [(12, .iload_n 2, 1, 0, 0, 0, .null, mm0), (13, .invokestatic 85, 3, 286, 1, 0, .null, M_X7_isKind), (16, .ifCond .eq 20, 3, 0, 36, 0, .null, mm0)]
def S_X7_loses_19 : List mmMI := [(19, .aload_n 0, 1, 0, 0, 0, .null, mm0), (20, .aload_n 0, 1, 0, 0, 0, .null, mm0), (21, .getfield 10, 3, 204, 7, 0, .null, mm0), (24, .getfield 104, 3, 136, 4, 4, .null, mm0), (27, .iload_n 1, 1, 0, 0, 0, .null, mm0), (28, .aaload, 1, 0, 14, 0, .null, mm0), (29, .iload_n 2, 1, 0, 0, 0, .null, mm0), (30, .invokevirtual 279, 3, 408, 2, 7, .null, M_X7_firstLost), (33, .goto 5, 3, 0, 38, 0, .null, mm0)]
def S_X7_loses_36 : List mmMI := [(36, .bipush (-2), 2, 0, 0, 0, .int (-2 : Int32), mm0)]
def S_X7_loses_38 : List mmMI := [(38, .ireturn, 1, 0, 0, 0, .null, mm0)]
def BL_X7_loses : mmBl := [(0, S_X7_loses_0, 10), (10, S_X7_loses_10, 12), (12, S_X7_loses_12, 19), (19, S_X7_loses_19, 36), (36, S_X7_loses_36, 38), (38, S_X7_loses_38, 39)]
theorem OB_X7_loses : mmOkB M_X7_loses BL_X7_loses = true := by decide +kernel
theorem OH_X7_loses_0 : mmOkB M_X7_loses [(0, S_X7_loses_0, 10)] = true := by decide +kernel
theorem s0_X7_loses_0 {d : Nat} {P : Option Value → mmMem → Prop} {μ : mmMem} {x1 : Int32} {x2 : Int32} (h : (mmKD 0 = 7) ∧ (mmCI d M_X7_columnRefusal false 1 [.ref 0, .int x1] μ fun y1 ν1 => (y1 = (0 : Int32) → mmCI d M_X7_isKind true 1 [.int x2] ν1 fun y2 ν2 => (y2 = (0 : Int32) → P (some (.int (-2 : Int32))) ν2) ∧ (¬ y2 = (0 : Int32) → (mmKD 0 = 7) ∧ ((mmKD 1 = 4) ∧ ((mmKD 2 = 14) ∧ ((vp_in x1 (mmLEN 2)) ∧ ((mmKD 0 = 7) ∧ (mmCI d M_X7_firstLost false 2 [.ref 0, .ref (7 + 4 * x1.toNatClampNeg), .int x2] ν2 fun y3 ν3 => P (some (.int y3)) ν3))))))) ∧ (¬ y1 = (0 : Int32) → P (some (.int y1)) ν1))) : mmEnds d M_X7_loses 0 [.ref 0, .int x1, .int x2, .retAddr 7] [] μ P := mm_tree 7 OB_X7_loses OH_X7_loses_0 h
theorem s_X7_loses_0 {d : Nat} {P : Option Value → mmMem → Prop} {μ : mmMem} {x1 : Int32} {x2 : Int32} (hd : 1 ≤ d)  (h : mmCI d M_X7_columnRefusal false 1 [.ref 0, .int x1] μ fun y2 ν1 => (y2 = (0 : Int32) → (x2 < (0 : Int32) → P (some (.int (-2 : Int32))) ν1) ∧ (¬ x2 < (0 : Int32) → ((10 : Int32) < x2 → P (some (.int (-2 : Int32))) ν1) ∧ (¬ (10 : Int32) < x2 → (vp_in x1 12) ∧ (mmCI d M_X7_firstLost false 2 [.ref 0, .ref (7 + 4 * x1.toNatClampNeg), .int x2] ν1 fun y20 ν19 => P (some (.int y20)) ν19)))) ∧ (¬ y2 = (0 : Int32) → P (some (.int y2)) ν1)) : mmEnds d M_X7_loses 0 [.ref 0, .int x1, .int x2, .retAddr 7] [] μ P := s0_X7_loses_0 (⟨kd_0, (mmCI.mono (h) (fun y2 ν1 h23 => ⟨fun q3 => (have h5 := (h23).1 q3; (u_X7_isKind (by omega)  (⟨fun q7 => (have h9 := (h5).1 q7; ⟨fun _ => h9, fun q11 => absurd (by decide : (0 : Int32) = (0 : Int32)) q11⟩), fun q8 => (have h10 := (h5).2 q8; ⟨fun q12 => (have h14 := (h10).1 q12; ⟨fun _ => h14, fun q16 => absurd (by decide : (0 : Int32) = (0 : Int32)) q16⟩), fun q13 => (have h15 := (h10).2 q13; ⟨fun q22 => absurd q22 (by decide : ¬ (1 : Int32) = (0 : Int32)), fun _ => ⟨kd_0, ⟨kd_1, ⟨kd_2, (have o17 := (h15).1; have h18 := (h15).2; ⟨vp_l ln_2 o17, ⟨kd_0, (mmCI.mono (h18) (fun y20 ν19 h21 => h21))⟩⟩)⟩⟩⟩⟩)⟩)⟩))), fun q4 => (have h6 := (h23).2 q4; h6)⟩))⟩)
theorem u_X7_loses {d : Nat} {K : Int32 → mmMem → Prop} {μ : mmMem} {x1 : Int32} {x2 : Int32} (hd : 2 ≤ d)  (h : mmCI (d - 1) M_X7_columnRefusal false 1 [.ref 0, .int x1] μ fun y2 ν1 => (y2 = (0 : Int32) → (x2 < (0 : Int32) → K (-2 : Int32) ν1) ∧ (¬ x2 < (0 : Int32) → ((10 : Int32) < x2 → K (-2 : Int32) ν1) ∧ (¬ (10 : Int32) < x2 → (vp_in x1 12) ∧ (mmCI (d - 1) M_X7_firstLost false 2 [.ref 0, .ref (7 + 4 * x1.toNatClampNeg), .int x2] ν1 fun y20 ν19 => K y20 ν19)))) ∧ (¬ y2 = (0 : Int32) → K y2 ν1)) : mmCI d M_X7_loses false 2 [.ref 0, .int x1, .int x2] μ K :=
  mmCU.of (d' := d - 1) g_X7_loses (by decide +kernel) rfl rfl (by omega) (s_X7_loses_0 (d := d - 1) (by omega)  h)
theorem g_X7_casts : mmGd M_X7_casts false 1 := ⟨mm_in 449 (by decide +kernel) rfl, mm_in 10 (by decide +kernel) rfl, by decide +kernel, by decide, ⟨mm_in 447 (by decide +kernel) rfl, mm_in 448 (by decide +kernel) rfl⟩⟩
def S_X7_casts_0 : List mmMI := [(0, .aload_n 0, 1, 0, 0, 0, .null, mm0), (1, .iload_n 1, 1, 0, 0, 0, .null, mm0), (2, .invokevirtual 100, 3, 302, 1, 7, .null, M_X7_columnRefusal), (5, .istore_n 2, 1, 0, 0, 0, .null, mm0), (6, .iload_n 2, 1, 0, 0, 0, .null, mm0), (7, .ifCond .eq 5, 3, 0, 12, 0, .null, mm0)]
def S_X7_casts_10 : List mmMI := [(10, .iload_n 2, 1, 0, 0, 0, .null, mm0), (11, .ireturn, 1, 0, 0, 0, .null, mm0)]
def S_X7_casts_12 : List mmMI := [(12, .iconst 0, 1, 0, 0, 0, .int (0 : Int32), mm0), (13, .istore_n 3, 1, 0, 0, 0, .null, mm0), (14, .iconst 0, 1, 0, 0, 0, .int (0 : Int32), mm0), (15, .istore 4, 2, 0, 0, 0, .null, mm0)]
def S_X7_casts_17 : List mmMI := [(17, .iload 4, 2, 0, 0, 0, .null, mm0), (19, .bipush 10, 2, 0, 0, 0, .int (10 : Int32), mm0), (21, .if_icmp .gt 36, 3, 0, 57, 0, .null, mm0)]
def S_X7_casts_24 : List mmMI := [(24, .aload_n 0, 1, 0, 0, 0, .null, mm0), (25, .aload_n 0, 1, 0, 0, 0, .null, mm0), (26, .getfield 10, 3, 204, 7, 0, .null, mm0), (29, .getfield 104, 3, 136, 4, 4, .null, mm0), (32, .iload_n 1, 1, 0, 0, 0, .null, mm0), (33, .aaload, 1, 0, 14, 0, .null, mm0), (34, .iload 4, 2, 0, 0, 0, .null, mm0), (36, .invokevirtual 279, 3, 408, 2, 7, .null, M_X7_firstLost), (39, .bipush (-5), 2, 0, 0, 0, .int (-5 : Int32), mm0), (41, .if_icmp .ne 10, 3, 0, 51, 0, .null, mm0)]
def S_X7_casts_44 : List mmMI := [(44, .iload_n 3, 1, 0, 0, 0, .null, mm0), (45, .iconst 1, 1, 0, 0, 0, .int (1 : Int32), mm0), (46, .iload 4, 2, 0, 0, 0, .null, mm0), (48, .ishl, 1, 0, 0, 0, .null, mm0), (49, .ior, 1, 0, 0, 0, .null, mm0), (50, .istore_n 3, 1, 0, 0, 0, .null, mm0)]
def S_X7_casts_51 : List mmMI := [(51, .iinc 4 1, 3, 0, 0, 0, .int (1 : Int32), mm0), (54, .goto (-37), 3, 0, 17, 0, .null, mm0)]
def S_X7_casts_57 : List mmMI := [(57, .iload_n 3, 1, 0, 0, 0, .null, mm0), (58, .ireturn, 1, 0, 0, 0, .null, mm0)]
def BL_X7_casts : mmBl := [(0, S_X7_casts_0, 10), (10, S_X7_casts_10, 12), (12, S_X7_casts_12, 17), (24, S_X7_casts_24, 44), (44, S_X7_casts_44, 51), (51, S_X7_casts_51, 57), (57, S_X7_casts_57, 59)]
theorem OB_X7_casts : mmOkB M_X7_casts BL_X7_casts = true := by decide +kernel
theorem OH_X7_casts_0 : mmOkB M_X7_casts [(0, S_X7_casts_0, 10)] = true := by decide +kernel
theorem s0_X7_casts_0 {d : Nat} {P : Option Value → mmMem → Prop} {μ : mmMem} {x1 : Int32} (h : (mmKD 0 = 7) ∧ (mmCI d M_X7_columnRefusal false 1 [.ref 0, .int x1] μ fun y1 ν1 => (y1 = (0 : Int32) → mmEnds d M_X7_casts 17 [.ref 0, .int x1, .int y1, .int (0 : Int32), .int (0 : Int32)] [] ν1 P) ∧ (¬ y1 = (0 : Int32) → P (some (.int y1)) ν1))) : mmEnds d M_X7_casts 0 [.ref 0, .int x1, .retAddr 7, .retAddr 7, .retAddr 7] [] μ P := mm_tree 8 OB_X7_casts OH_X7_casts_0 h
theorem s_X7_casts_0 {d : Nat} {P : Option Value → mmMem → Prop} {μ : mmMem} {x1 : Int32} (hd : 0 ≤ d)  (h : mmCI d M_X7_columnRefusal false 1 [.ref 0, .int x1] μ fun y2 ν1 => (y2 = (0 : Int32) → mmEnds d M_X7_casts 17 [.ref 0, .int x1, .int y2, .int (0 : Int32), .int (0 : Int32)] [] ν1 P) ∧ (¬ y2 = (0 : Int32) → P (some (.int y2)) ν1)) : mmEnds d M_X7_casts 0 [.ref 0, .int x1, .retAddr 7, .retAddr 7, .retAddr 7] [] μ P := s0_X7_casts_0 (⟨kd_0, (mmCI.mono (h) (fun y2 ν1 h7 => ⟨fun q3 => (have h5 := (h7).1 q3; h5), fun q4 => (have h6 := (h7).2 q4; h6)⟩))⟩)
theorem OH_X7_casts_17 : mmOkB M_X7_casts [(17, S_X7_casts_17, 24)] = true := by decide +kernel
theorem s0_X7_casts_17 {d : Nat} {P : Option Value → mmMem → Prop} {μ : mmMem} {x1 : Int32} {x2 : Int32} {x3 : Int32} {x4 : Int32} (h : ((10 : Int32) < x4 → P (some (.int x3)) μ) ∧ (¬ (10 : Int32) < x4 → (mmKD 0 = 7) ∧ ((mmKD 1 = 4) ∧ ((mmKD 2 = 14) ∧ ((vp_in x1 (mmLEN 2)) ∧ ((mmKD 0 = 7) ∧ (mmCI d M_X7_firstLost false 2 [.ref 0, .ref (7 + 4 * x1.toNatClampNeg), .int x4] μ fun y1 ν1 => (¬ y1 = (-5 : Int32) → mmEnds d M_X7_casts 17 [.ref 0, .int x1, .int x2, .int x3, .int (x4 + (1 : Int32))] [] ν1 P) ∧ (y1 = (-5 : Int32) → mmEnds d M_X7_casts 17 [.ref 0, .int x1, .int x2, .int (x3 ||| ((1 : Int32) <<< (x4 &&& 31))), .int (x4 + (1 : Int32))] [] ν1 P)))))))) : mmEnds d M_X7_casts 17 [.ref 0, .int x1, .int x2, .int x3, .int x4] [] μ P := mm_tree 8 OB_X7_casts OH_X7_casts_17 h
theorem s_X7_casts_17 {d : Nat} {P : Option Value → mmMem → Prop} {μ : mmMem} {x1 : Int32} {x2 : Int32} {x3 : Int32} {x4 : Int32} (hd : 0 ≤ d)  (h : ((10 : Int32) < x4 → P (some (.int x3)) μ) ∧ (¬ (10 : Int32) < x4 → (vp_in x1 12) ∧ (mmCI d M_X7_firstLost false 2 [.ref 0, .ref (7 + 4 * x1.toNatClampNeg), .int x4] μ fun y8 ν7 => (¬ y8 = (-5 : Int32) → mmEnds d M_X7_casts 17 [.ref 0, .int x1, .int x2, .int x3, .int (x4 + (1 : Int32))] [] ν7 P) ∧ (y8 = (-5 : Int32) → mmEnds d M_X7_casts 17 [.ref 0, .int x1, .int x2, .int (x3 ||| ((1 : Int32) <<< (x4 &&& 31))), .int (x4 + (1 : Int32))] [] ν7 P)))) : mmEnds d M_X7_casts 17 [.ref 0, .int x1, .int x2, .int x3, .int x4] [] μ P := s0_X7_casts_17 (⟨fun q1 => (have h3 := (h).1 q1; h3), fun q2 => (have h4 := (h).2 q2; ⟨kd_0, ⟨kd_1, ⟨kd_2, (have o5 := (h4).1; have h6 := (h4).2; ⟨vp_l ln_2 o5, ⟨kd_0, (mmCI.mono (h6) (fun y8 ν7 h13 => ⟨fun q9 => (have h11 := (h13).1 q9; h11), fun q10 => (have h12 := (h13).2 q10; h12)⟩))⟩⟩)⟩⟩⟩)⟩)
theorem u_X7_casts {d : Nat} {K : Int32 → mmMem → Prop} {μ : mmMem} {x1 : Int32} (hd : 1 ≤ d)  (h : mmCI (d - 1) M_X7_columnRefusal false 1 [.ref 0, .int x1] μ fun y2 ν1 => (y2 = (0 : Int32) → mmEnds (d - 1) M_X7_casts 17 [.ref 0, .int x1, .int y2, .int (0 : Int32), .int (0 : Int32)] [] ν1 (mmPI K)) ∧ (¬ y2 = (0 : Int32) → K y2 ν1)) : mmCI d M_X7_casts false 1 [.ref 0, .int x1] μ K :=
  mmCU.of (d' := d - 1) g_X7_casts (by decide +kernel) rfl rfl (by omega) (s_X7_casts_0 (d := d - 1) (by omega)  h)
theorem g_X7_cast : mmGd M_X7_cast false 2 := ⟨mm_in 453 (by decide +kernel) rfl, mm_in 10 (by decide +kernel) rfl, by decide +kernel, by decide, ⟨mm_in 451 (by decide +kernel) rfl, mm_in 452 (by decide +kernel) rfl⟩⟩
def S_X7_cast_0 : List mmMI := [(0, .aload_n 0, 1, 0, 0, 0, .null, mm0), (1, .iload_n 1, 1, 0, 0, 0, .null, mm0), (2, .invokevirtual 100, 3, 302, 1, 7, .null, M_X7_columnRefusal), (5, .istore_n 3, 1, 0, 0, 0, .null, mm0), (6, .iload_n 3, 1, 0, 0, 0, .null, mm0), (7, .ifCond .eq 5, 3, 0, 12, 0, .null, mm0)]
def S_X7_cast_10 : List mmMI := [(10, .iload_n 3, 1, 0, 0, 0, .null, mm0), (11, .ireturn, 1, 0, 0, 0, .null, mm0)]
def S_X7_cast_12 : List mmMI := [(12, .iload_n 2, 1, 0, 0, 0, .null, mm0), (13, .invokestatic 85, 3, 286, 1, 0, .null, M_X7_isKind), (16, .ifCond .ne 6, 3, 0, 22, 0, .null, mm0)]
def S_X7_cast_19 : List mmMI := [(19, .bipush (-2), 2, 0, 0, 0, .int (-2 : Int32), mm0), (21, .ireturn, 1, 0, 0, 0, .null, mm0)]
def S_X7_cast_22 : List mmMI := [(22, .aload_n 0, 1, 0, 0, 0, .null, mm0), (23, .getfield 10, 3, 204, 7, 0, .null, mm0), (26, .getfield 104, 3, 136, 4, 4, .null, mm0), (29, .iload_n 1, 1, 0, 0, 0, .null, mm0), (30, .aaload, 1, 0, 14, 0, .null, mm0), (31, .astore 4, 2, 0, 0, 0, .null, mm0), (33, .aload_n 0, 1, 0, 0, 0, .null, mm0), (34, .aload 4, 2, 0, 0, 0, .null, mm0), (36, .iload_n 2, 1, 0, 0, 0, .null, mm0), (37, .invokevirtual 279, 3, 408, 2, 7, .null, M_X7_firstLost), (40, .istore 5, 2, 0, 0, 0, .null, mm0), (42, .iload 5, 2, 0, 0, 0, .null, mm0), (44, .bipush (-5), 2, 0, 0, 0, .int (-5 : Int32), mm0), (46, .if_icmp .eq 10, 3, 0, 56, 0, .null, mm0)]
def S_X7_cast_49 : List mmMI := [(49, .sipush (-1000), 3, 0, 0, 0, .int (-1000 : Int32), mm0), (52, .iload 5, 2, 0, 0, 0, .null, mm0), (54, .isub, 1, 0, 0, 0, .null, mm0), (55, .ireturn, 1, 0, 0, 0, .null, mm0)]
def S_X7_cast_56 : List mmMI := [(56, .aload 4, 2, 0, 0, 0, .null, mm0), (58, .getfield 112, 3, 56, 1, 0, .null, mm0), (61, .istore 6, 2, 0, 0, 0, .null, mm0), (63, .aload 4, 2, 0, 0, 0, .null, mm0), (65, .iload_n 2, 1, 0, 0, 0, .null, mm0), (66, .putfield 112, 3, 56, 1, 0, .null, mm0), (69, .iconst 0, 1, 0, 0, 0, .int (0 : Int32), mm0), (70, .istore 7, 2, 0, 0, 0, .null, mm0)]
def S_X7_cast_72 : List mmMI := [(72, .iload 7, 2, 0, 0, 0, .null, mm0), (74, .aload_n 0, 1, 0, 0, 0, .null, mm0), (75, .getfield 10, 3, 204, 7, 0, .null, mm0), (78, .getfield 77, 3, 127, 4, 0, .null, mm0), (81, .if_icmp .ge 58, 3, 0, 139, 0, .null, mm0)]
def S_X7_cast_84 : List mmMI := [(84, .aload 4, 2, 0, 0, 0, .null, mm0), (86, .iload 7, 2, 0, 0, 0, .null, mm0), (88, .aload_n 0, 1, 0, 0, 0, .null, mm0), (89, .getfield 50, 3, 211, 7, 7, .null, mm0), (92, .invokevirtual 122, 3, 322, 2, 1, .null, M_X1_load), (95, .aload_n 0, 1, 0, 0, 0, .null, mm0), (96, .getfield 50, 3, 211, 7, 7, .null, mm0), (99, .invokevirtual 283, 3, 454, 0, 0, .null, M_X0_isBox), (102, .ifCond .eq 31, 3, 0, 133, 0, .null, mm0)]
def S_X7_cast_105 : List mmMI := [(105, .iload_n 2, 1, 0, 0, 0, .null, mm0), (106, .bipush 9, 2, 0, 0, 0, .int (9 : Int32), mm0), (108, .if_icmp .eq 25, 3, 0, 133, 0, .null, mm0)]
def S_X7_cast_111 : List mmMI := [(111, .aload_n 0, 1, 0, 0, 0, .null, mm0), (112, .getfield 50, 3, 211, 7, 7, .null, mm0), (115, .iload_n 2, 1, 0, 0, 0, .null, mm0), (116, .invokestatic 287, 3, 420, 1, 0, .null, M_X7_boxKindIn), (119, .invokevirtual 135, 3, 423, 1, 0, .null, M_X0_turnInto), (122, .aload 4, 2, 0, 0, 0, .null, mm0), (124, .iload 7, 2, 0, 0, 0, .null, mm0), (126, .aload_n 0, 1, 0, 0, 0, .null, mm0), (127, .getfield 50, 3, 211, 7, 7, .null, mm0), (130, .invokevirtual 152, 3, 326, 2, 1, .null, M_X1_store)]
def S_X7_cast_133 : List mmMI := [(133, .iinc 7 1, 3, 0, 0, 0, .int (1 : Int32), mm0), (136, .goto (-64), 3, 0, 72, 0, .null, mm0)]
def S_X7_cast_139 : List mmMI := [(139, .iload 6, 2, 0, 0, 0, .null, mm0), (141, .ireturn, 1, 0, 0, 0, .null, mm0)]
def BL_X7_cast : mmBl := [(0, S_X7_cast_0, 10), (10, S_X7_cast_10, 12), (12, S_X7_cast_12, 19), (19, S_X7_cast_19, 22), (22, S_X7_cast_22, 49), (49, S_X7_cast_49, 56), (56, S_X7_cast_56, 72), (84, S_X7_cast_84, 105), (105, S_X7_cast_105, 111), (111, S_X7_cast_111, 133), (133, S_X7_cast_133, 139), (139, S_X7_cast_139, 142)]
theorem OB_X7_cast : mmOkB M_X7_cast BL_X7_cast = true := by decide +kernel
theorem OH_X7_cast_0 : mmOkB M_X7_cast [(0, S_X7_cast_0, 10)] = true := by decide +kernel
set_option maxRecDepth 10000 in
theorem s0_X7_cast_0 {d : Nat} {P : Option Value → mmMem → Prop} {μ : mmMem} {x1 : Int32} {x2 : Int32} (h : (mmKD 0 = 7) ∧ (mmCI d M_X7_columnRefusal false 1 [.ref 0, .int x1] μ fun y1 ν1 => (y1 = (0 : Int32) → mmCI d M_X7_isKind true 1 [.int x2] ν1 fun y2 ν2 => (¬ y2 = (0 : Int32) → (mmKD 0 = 7) ∧ ((mmKD 1 = 4) ∧ ((mmKD 2 = 14) ∧ ((vp_in x1 (mmLEN 2)) ∧ ((mmKD 0 = 7) ∧ (mmCI d M_X7_firstLost false 2 [.ref 0, .ref (7 + 4 * x1.toNatClampNeg), .int x2] ν2 fun y3 ν3 => (y3 = (-5 : Int32) → (mmKD (7 + 4 * x1.toNatClampNeg) = 1) ∧ ((mmKD (7 + 4 * x1.toNatClampNeg) = 1) ∧ (mmEnds d M_X7_cast 72 [.ref 0, .int x1, .int x2, .int y1, .ref (7 + 4 * x1.toNatClampNeg), .int y3, .int (ν3.1 (7 + 4 * x1.toNatClampNeg) 0), .int (0 : Int32)] [] (sI ν3 (7 + 4 * x1.toNatClampNeg) 0 x2) P))) ∧ (¬ y3 = (-5 : Int32) → P (some (.int ((-1000 : Int32) - y3))) ν3))))))) ∧ (y2 = (0 : Int32) → P (some (.int (-2 : Int32))) ν2)) ∧ (¬ y1 = (0 : Int32) → P (some (.int y1)) ν1))) : mmEnds d M_X7_cast 0 [.ref 0, .int x1, .int x2, .retAddr 7, .retAddr 7, .retAddr 7, .retAddr 7, .retAddr 7] [] μ P := mm_tree 13 OB_X7_cast OH_X7_cast_0 h
set_option maxRecDepth 10000 in
theorem s_X7_cast_0 {d : Nat} {P : Option Value → mmMem → Prop} {μ : mmMem} {x1 : Int32} {x2 : Int32} (hd : 1 ≤ d)  (h : mmCI d M_X7_columnRefusal false 1 [.ref 0, .int x1] μ fun y2 ν1 => (y2 = (0 : Int32) → (x2 < (0 : Int32) → P (some (.int (-2 : Int32))) ν1) ∧ (¬ x2 < (0 : Int32) → ((10 : Int32) < x2 → P (some (.int (-2 : Int32))) ν1) ∧ (¬ (10 : Int32) < x2 → (vp_in x1 12) ∧ (mmCI d M_X7_firstLost false 2 [.ref 0, .ref (7 + 4 * x1.toNatClampNeg), .int x2] ν1 fun y20 ν19 => (y20 = (-5 : Int32) → mmEnds d M_X7_cast 72 [.ref 0, .int x1, .int x2, .int y2, .ref (7 + 4 * x1.toNatClampNeg), .int y20, .int (ν19.1 (7 + 4 * x1.toNatClampNeg) 0), .int (0 : Int32)] [] (sI ν19 (7 + 4 * x1.toNatClampNeg) 0 x2) P) ∧ (¬ y20 = (-5 : Int32) → P (some (.int ((-1000 : Int32) - y20))) ν19))))) ∧ (¬ y2 = (0 : Int32) → P (some (.int y2)) ν1)) : mmEnds d M_X7_cast 0 [.ref 0, .int x1, .int x2, .retAddr 7, .retAddr 7, .retAddr 7, .retAddr 7, .retAddr 7] [] μ P := s0_X7_cast_0 (⟨kd_0, (mmCI.mono (h) (fun y2 ν1 h27 => ⟨fun q3 => (have h5 := (h27).1 q3; (u_X7_isKind (by omega)  (⟨fun q7 => (have h9 := (h5).1 q7; ⟨fun q11 => absurd (by decide : (0 : Int32) = (0 : Int32)) q11, fun _ => h9⟩), fun q8 => (have h10 := (h5).2 q8; ⟨fun q12 => (have h14 := (h10).1 q12; ⟨fun q16 => absurd (by decide : (0 : Int32) = (0 : Int32)) q16, fun _ => h14⟩), fun q13 => (have h15 := (h10).2 q13; ⟨fun _ => ⟨kd_0, ⟨kd_1, ⟨kd_2, (have o17 := (h15).1; have h18 := (h15).2; ⟨vp_l ln_2 o17, ⟨kd_0, (mmCI.mono (h18) (fun y20 ν19 h25 => ⟨fun q21 => (have h23 := (h25).1 q21; ⟨(ke_14 kd_2 (vp_l ln_2 o17)), ⟨(ke_14 kd_2 (vp_l ln_2 o17)), h23⟩⟩), fun q22 => (have h24 := (h25).2 q22; h24)⟩))⟩⟩)⟩⟩⟩, fun q26 => absurd q26 (by decide : ¬ (1 : Int32) = (0 : Int32))⟩)⟩)⟩))), fun q4 => (have h6 := (h27).2 q4; h6)⟩))⟩)
theorem OH_X7_cast_72 : mmOkB M_X7_cast [(72, S_X7_cast_72, 84)] = true := by decide +kernel
set_option maxRecDepth 10000 in
theorem s0_X7_cast_72 {d : Nat} {P : Option Value → mmMem → Prop} {μ : mmMem} {x1 : Int32} {x2 : Int32} {x3 : Int32} {a4 : Nat} {x5 : Int32} {x6 : Int32} {x7 : Int32} (h : (mmKD 0 = 7) ∧ ((mmKD 1 = 4) ∧ (((μ.1 1 0) ≤ x7 → P (some (.int x6)) μ) ∧ (¬ (μ.1 1 0) ≤ x7 → (mmKD 0 = 7) ∧ ((mmKD a4 = 1) ∧ (mmC0 d M_X1_load false 2 [.ref a4, .int x7, .ref 152] μ fun ν1 => (mmKD 0 = 7) ∧ ((mmKD 152 = 0) ∧ (mmCI d M_X0_isBox false 0 [.ref 152] ν1 fun y2 ν2 => (y2 = (0 : Int32) → mmEnds d M_X7_cast 72 [.ref 0, .int x1, .int x2, .int x3, .ref a4, .int x5, .int x6, .int (x7 + (1 : Int32))] [] ν2 P) ∧ (¬ y2 = (0 : Int32) → (x2 = (9 : Int32) → mmEnds d M_X7_cast 72 [.ref 0, .int x1, .int x2, .int x3, .ref a4, .int x5, .int x6, .int (x7 + (1 : Int32))] [] ν2 P) ∧ (¬ x2 = (9 : Int32) → (mmKD 0 = 7) ∧ (mmCI d M_X7_boxKindIn true 1 [.int x2] ν2 fun y3 ν3 => (mmKD 152 = 0) ∧ (mmC0 d M_X0_turnInto false 1 [.ref 152, .int y3] ν3 fun ν4 => (mmKD 0 = 7) ∧ ((mmKD a4 = 1) ∧ (mmC0 d M_X1_store false 2 [.ref a4, .int x7, .ref 152] ν4 fun ν5 => mmEnds d M_X7_cast 72 [.ref 0, .int x1, .int x2, .int x3, .ref a4, .int x5, .int x6, .int (x7 + (1 : Int32))] [] ν5 P)))))))))))))) : mmEnds d M_X7_cast 72 [.ref 0, .int x1, .int x2, .int x3, .ref a4, .int x5, .int x6, .int x7] [] μ P := mm_tree 13 OB_X7_cast OH_X7_cast_72 h
set_option maxRecDepth 10000 in
theorem s_X7_cast_72 {d : Nat} {P : Option Value → mmMem → Prop} {μ : mmMem} {x1 : Int32} {x2 : Int32} {x3 : Int32} {a4 : Nat} {x5 : Int32} {x6 : Int32} {x7 : Int32} (hd : 1 ≤ d) (k4 : mmKD a4 = 1) (h : ((μ.1 1 0) ≤ x7 → P (some (.int x6)) μ) ∧ (¬ (μ.1 1 0) ≤ x7 → mmC0 d M_X1_load false 2 [.ref a4, .int x7, .ref 152] μ fun ν5 => mmCI d M_X0_isBox false 0 [.ref 152] ν5 fun y7 ν6 => (y7 = (0 : Int32) → mmEnds d M_X7_cast 72 [.ref 0, .int x1, .int x2, .int x3, .ref a4, .int x5, .int x6, .int (x7 + (1 : Int32))] [] ν6 P) ∧ (¬ y7 = (0 : Int32) → (x2 = (9 : Int32) → mmEnds d M_X7_cast 72 [.ref 0, .int x1, .int x2, .int x3, .ref a4, .int x5, .int x6, .int (x7 + (1 : Int32))] [] ν6 P) ∧ (¬ x2 = (9 : Int32) → (¬ x2 = (8 : Int32) → mmC0 d M_X0_turnInto false 1 [.ref 152, .int x2] ν6 fun ν20 => mmC0 d M_X1_store false 2 [.ref a4, .int x7, .ref 152] ν20 fun ν21 => mmEnds d M_X7_cast 72 [.ref 0, .int x1, .int x2, .int x3, .ref a4, .int x5, .int x6, .int (x7 + (1 : Int32))] [] ν21 P) ∧ (x2 = (8 : Int32) → mmC0 d M_X0_turnInto false 1 [.ref 152, .int (4 : Int32)] ν6 fun ν24 => mmC0 d M_X1_store false 2 [.ref a4, .int x7, .ref 152] ν24 fun ν25 => mmEnds d M_X7_cast 72 [.ref 0, .int x1, .int x2, .int x3, .ref a4, .int x5, .int x6, .int (x7 + (1 : Int32))] [] ν25 P))))) : mmEnds d M_X7_cast 72 [.ref 0, .int x1, .int x2, .int x3, .ref a4, .int x5, .int x6, .int x7] [] μ P := s0_X7_cast_72 (⟨kd_0, ⟨kd_1, ⟨fun q1 => (have h3 := (h).1 q1; h3), fun q2 => (have h4 := (h).2 q2; ⟨kd_0, ⟨k4, (mmC0.mono (h4) (fun ν5 h29 => ⟨kd_0, ⟨kd_152, (mmCI.mono (h29) (fun y7 ν6 h28 => ⟨fun q8 => (have h10 := (h28).1 q8; h10), fun q9 => (have h11 := (h28).2 q9; ⟨fun q12 => (have h14 := (h11).1 q12; h14), fun q13 => (have h15 := (h11).2 q13; ⟨kd_0, (u_X7_boxKindIn (by omega)  (⟨fun q16 => (have h18 := (h15).1 q16; ⟨kd_152, (mmC0.mono (h18) (fun ν20 h23 => ⟨kd_0, ⟨k4, (mmC0.mono (h23) (fun ν21 h22 => h22))⟩⟩))⟩), fun q17 => (have h19 := (h15).2 q17; ⟨kd_152, (mmC0.mono (h19) (fun ν24 h27 => ⟨kd_0, ⟨k4, (mmC0.mono (h27) (fun ν25 h26 => h26))⟩⟩))⟩)⟩))⟩)⟩)⟩))⟩⟩))⟩⟩)⟩⟩⟩)
theorem u_X7_cast {d : Nat} {K : Int32 → mmMem → Prop} {μ : mmMem} {x1 : Int32} {x2 : Int32} (hd : 2 ≤ d)  (h : mmCI (d - 1) M_X7_columnRefusal false 1 [.ref 0, .int x1] μ fun y2 ν1 => (y2 = (0 : Int32) → (x2 < (0 : Int32) → K (-2 : Int32) ν1) ∧ (¬ x2 < (0 : Int32) → ((10 : Int32) < x2 → K (-2 : Int32) ν1) ∧ (¬ (10 : Int32) < x2 → (vp_in x1 12) ∧ (mmCI (d - 1) M_X7_firstLost false 2 [.ref 0, .ref (7 + 4 * x1.toNatClampNeg), .int x2] ν1 fun y20 ν19 => (y20 = (-5 : Int32) → mmEnds (d - 1) M_X7_cast 72 [.ref 0, .int x1, .int x2, .int y2, .ref (7 + 4 * x1.toNatClampNeg), .int y20, .int (ν19.1 (7 + 4 * x1.toNatClampNeg) 0), .int (0 : Int32)] [] (sI ν19 (7 + 4 * x1.toNatClampNeg) 0 x2) (mmPI K)) ∧ (¬ y20 = (-5 : Int32) → K ((-1000 : Int32) - y20) ν19))))) ∧ (¬ y2 = (0 : Int32) → K y2 ν1)) : mmCI d M_X7_cast false 2 [.ref 0, .int x1, .int x2] μ K :=
  mmCU.of (d' := d - 1) g_X7_cast (by decide +kernel) rfl rfl (by omega) (s_X7_cast_0 (d := d - 1) (by omega)  h)
theorem g_X7_image : mmGd M_X7_image false 0 := ⟨mm_in 461 (by decide +kernel) rfl, mm_in 10 (by decide +kernel) rfl, by decide +kernel, by decide, ⟨mm_in 459 (by decide +kernel) rfl, mm_in 460 (by decide +kernel) rfl⟩⟩
def S_X7_image_0 : List mmMI := [(0, .aload_n 0, 1, 0, 0, 0, .null, mm0), (1, .getfield 16, 3, 205, 7, 1, .null, mm0), (4, .aload_n 0, 1, 0, 0, 0, .null, mm0), (5, .getfield 10, 3, 204, 7, 0, .null, mm0), (8, .invokevirtual 318, 3, 462, 1, 4, .null, M_X4_copyFrom), (11, .aload_n 0, 1, 0, 0, 0, .null, mm0), (12, .iconst 1, 1, 0, 0, 0, .int (1 : Int32), mm0), (13, .putfield 321, 3, 206, 7, 2, .null, mm0), (16, .aload_n 0, 1, 0, 0, 0, .null, mm0), (17, .getfield 10, 3, 204, 7, 0, .null, mm0), (20, .getfield 77, 3, 127, 4, 0, .null, mm0), (23, .ireturn, 1, 0, 0, 0, .null, mm0)]
def BL_X7_image : mmBl := [(0, S_X7_image_0, 24)]
theorem OB_X7_image : mmOkB M_X7_image BL_X7_image = true := by decide +kernel
theorem OH_X7_image_0 : mmOkB M_X7_image [(0, S_X7_image_0, 24)] = true := by decide +kernel
theorem s0_X7_image_0 {d : Nat} {P : Option Value → mmMem → Prop} {μ : mmMem}  (h : (mmKD 0 = 7) ∧ ((mmKD 0 = 7) ∧ ((mmKD 71 = 4) ∧ (mmC0 d M_X4_copyFrom false 1 [.ref 71, .ref 1] μ fun ν1 => (mmKD 0 = 7) ∧ ((mmKD 0 = 7) ∧ ((mmKD 1 = 4) ∧ (P (some (.int (ν1.1 1 0))) (sI ν1 0 2 (1 : Int32))))))))) : mmEnds d M_X7_image 0 [.ref 0] [] μ P := mm_tree 2 OB_X7_image OH_X7_image_0 h
theorem s_X7_image_0 {d : Nat} {P : Option Value → mmMem → Prop} {μ : mmMem}  (hd : 0 ≤ d)  (h : mmC0 d M_X4_copyFrom false 1 [.ref 71, .ref 1] μ fun ν1 => P (some (.int (ν1.1 1 0))) (sI ν1 0 2 (1 : Int32))) : mmEnds d M_X7_image 0 [.ref 0] [] μ P := s0_X7_image_0 (⟨kd_0, ⟨kd_0, ⟨kd_71, (mmC0.mono (h) (fun ν1 h2 => ⟨kd_0, ⟨kd_0, ⟨kd_1, h2⟩⟩⟩))⟩⟩⟩)
theorem u_X7_image {d : Nat} {K : Int32 → mmMem → Prop} {μ : mmMem}  (hd : 1 ≤ d)  (h : mmC0 (d - 1) M_X4_copyFrom false 1 [.ref 71, .ref 1] μ fun ν1 => K (ν1.1 1 0) (sI ν1 0 2 (1 : Int32))) : mmCI d M_X7_image false 0 [.ref 0] μ K :=
  mmCU.of (d' := d - 1) g_X7_image (by decide +kernel) rfl rfl (by omega) (s_X7_image_0 (d := d - 1) (by omega)  h)
theorem g_X7_undo : mmGd M_X7_undo false 0 := ⟨mm_in 488 (by decide +kernel) rfl, mm_in 10 (by decide +kernel) rfl, by decide +kernel, by decide, ⟨mm_in 486 (by decide +kernel) rfl, mm_in 487 (by decide +kernel) rfl⟩⟩
def S_X7_undo_0 : List mmMI := [(0, .aload_n 0, 1, 0, 0, 0, .null, mm0), (1, .getfield 321, 3, 206, 7, 2, .null, mm0), (4, .ifCond .ne 6, 3, 0, 10, 0, .null, mm0)]
def S_X7_undo_7 : List mmMI := [(7, .bipush (-3), 2, 0, 0, 0, .int (-3 : Int32), mm0), (9, .ireturn, 1, 0, 0, 0, .null, mm0)]
def S_X7_undo_10 : List mmMI := [(10, .aload_n 0, 1, 0, 0, 0, .null, mm0), (11, .getfield 10, 3, 204, 7, 0, .null, mm0), (14, .aload_n 0, 1, 0, 0, 0, .null, mm0), (15, .getfield 16, 3, 205, 7, 1, .null, mm0), (18, .invokevirtual 318, 3, 462, 1, 4, .null, M_X4_copyFrom), (21, .aload_n 0, 1, 0, 0, 0, .null, mm0), (22, .getfield 10, 3, 204, 7, 0, .null, mm0), (25, .getfield 77, 3, 127, 4, 0, .null, mm0), (28, .ireturn, 1, 0, 0, 0, .null, mm0)]
def BL_X7_undo : mmBl := [(0, S_X7_undo_0, 7), (7, S_X7_undo_7, 10), (10, S_X7_undo_10, 29)]
theorem OB_X7_undo : mmOkB M_X7_undo BL_X7_undo = true := by decide +kernel
theorem OH_X7_undo_0 : mmOkB M_X7_undo [(0, S_X7_undo_0, 7)] = true := by decide +kernel
theorem s0_X7_undo_0 {d : Nat} {P : Option Value → mmMem → Prop} {μ : mmMem}  (h : (mmKD 0 = 7) ∧ ((¬ (μ.1 0 2) = (0 : Int32) → (mmKD 0 = 7) ∧ ((mmKD 0 = 7) ∧ ((mmKD 1 = 4) ∧ (mmC0 d M_X4_copyFrom false 1 [.ref 1, .ref 71] μ fun ν1 => (mmKD 0 = 7) ∧ ((mmKD 1 = 4) ∧ (P (some (.int (ν1.1 1 0))) ν1)))))) ∧ ((μ.1 0 2) = (0 : Int32) → P (some (.int (-3 : Int32))) μ))) : mmEnds d M_X7_undo 0 [.ref 0] [] μ P := mm_tree 4 OB_X7_undo OH_X7_undo_0 h
theorem s_X7_undo_0 {d : Nat} {P : Option Value → mmMem → Prop} {μ : mmMem}  (hd : 0 ≤ d)  (h : (¬ (μ.1 0 2) = (0 : Int32) → mmC0 d M_X4_copyFrom false 1 [.ref 1, .ref 71] μ fun ν5 => P (some (.int (ν5.1 1 0))) ν5) ∧ ((μ.1 0 2) = (0 : Int32) → P (some (.int (-3 : Int32))) μ)) : mmEnds d M_X7_undo 0 [.ref 0] [] μ P := s0_X7_undo_0 (⟨kd_0, ⟨fun q1 => (have h3 := (h).1 q1; ⟨kd_0, ⟨kd_0, ⟨kd_1, (mmC0.mono (h3) (fun ν5 h6 => ⟨kd_0, ⟨kd_1, h6⟩⟩))⟩⟩⟩), fun q2 => (have h4 := (h).2 q2; h4)⟩⟩)
theorem u_X7_undo {d : Nat} {K : Int32 → mmMem → Prop} {μ : mmMem}  (hd : 1 ≤ d)  (h : (¬ (μ.1 0 2) = (0 : Int32) → mmC0 (d - 1) M_X4_copyFrom false 1 [.ref 1, .ref 71] μ fun ν5 => K (ν5.1 1 0) ν5) ∧ ((μ.1 0 2) = (0 : Int32) → K (-3 : Int32) μ)) : mmCI d M_X7_undo false 0 [.ref 0] μ K :=
  mmCU.of (d' := d - 1) g_X7_undo (by decide +kernel) rfl rfl (by omega) (s_X7_undo_0 (d := d - 1) (by omega)  h)
theorem g_X7_count : mmGd M_X7_count false 1 := ⟨mm_in 492 (by decide +kernel) rfl, mm_in 10 (by decide +kernel) rfl, by decide +kernel, by decide, ⟨mm_in 490 (by decide +kernel) rfl, mm_in 491 (by decide +kernel) rfl⟩⟩
def S_X7_count_0 : List mmMI := [(0, .iload_n 1, 1, 0, 0, 0, .null, mm0), (1, .tableswitch 102 0 7 #[47, 55, 63, 71, 79, 84, 89, 94], 47, 0, 0, 0, .null, mm0)]
def S_X7_count_48 : List mmMI := [(48, .aload_n 0, 1, 0, 0, 0, .null, mm0), (49, .getfield 10, 3, 204, 7, 0, .null, mm0), (52, .getfield 77, 3, 127, 4, 0, .null, mm0), (55, .ireturn, 1, 0, 0, 0, .null, mm0)]
def S_X7_count_56 : List mmMI := [(56, .aload_n 0, 1, 0, 0, 0, .null, mm0), (57, .getfield 10, 3, 204, 7, 0, .null, mm0), (60, .getfield 89, 3, 130, 4, 1, .null, mm0), (63, .ireturn, 1, 0, 0, 0, .null, mm0)]
def S_X7_count_64 : List mmMI := [(64, .aload_n 0, 1, 0, 0, 0, .null, mm0), (65, .getfield 10, 3, 204, 7, 0, .null, mm0), (68, .getfield 217, 3, 132, 4, 2, .null, mm0), (71, .ireturn, 1, 0, 0, 0, .null, mm0)]
def S_X7_count_72 : List mmMI := [(72, .aload_n 0, 1, 0, 0, 0, .null, mm0), (73, .getfield 10, 3, 204, 7, 0, .null, mm0), (76, .getfield 234, 3, 134, 4, 3, .null, mm0), (79, .ireturn, 1, 0, 0, 0, .null, mm0)]
def S_X7_count_80 : List mmMI := [(80, .aload_n 0, 1, 0, 0, 0, .null, mm0), (81, .getfield 324, 3, 220, 7, 16, .null, mm0), (84, .ireturn, 1, 0, 0, 0, .null, mm0)]
def S_X7_count_85 : List mmMI := [(85, .aload_n 0, 1, 0, 0, 0, .null, mm0), (86, .getfield 327, 3, 221, 7, 17, .null, mm0), (89, .ireturn, 1, 0, 0, 0, .null, mm0)]
def S_X7_count_90 : List mmMI := [(90, .aload_n 0, 1, 0, 0, 0, .null, mm0), (91, .getfield 330, 3, 222, 7, 18, .null, mm0), (94, .ireturn, 1, 0, 0, 0, .null, mm0)]
def S_X7_count_95 : List mmMI := [(95, .aload_n 0, 1, 0, 0, 0, .null, mm0), (96, .getfield 22, 3, 207, 7, 3, .null, mm0), (99, .getfield 290, 3, 172, 5, 0, .null, mm0), (102, .ireturn, 1, 0, 0, 0, .null, mm0)]
def S_X7_count_103 : List mmMI := [(103, .bipush (-2), 2, 0, 0, 0, .int (-2 : Int32), mm0), (105, .ireturn, 1, 0, 0, 0, .null, mm0)]
def BL_X7_count : mmBl := [(0, S_X7_count_0, 48), (48, S_X7_count_48, 56), (56, S_X7_count_56, 64), (64, S_X7_count_64, 72), (72, S_X7_count_72, 80), (80, S_X7_count_80, 85), (85, S_X7_count_85, 90), (90, S_X7_count_90, 95), (95, S_X7_count_95, 103), (103, S_X7_count_103, 106)]
theorem OB_X7_count : mmOkB M_X7_count BL_X7_count = true := by decide +kernel
theorem OH_X7_count_0 : mmOkB M_X7_count [(0, S_X7_count_0, 48)] = true := by decide +kernel
theorem s0_X7_count_0 {d : Nat} {P : Option Value → mmMem → Prop} {μ : mmMem} {x1 : Int32} (h : (x1.toInt < 0 ∨ 7 < x1.toInt → P (some (.int (-2 : Int32))) μ) ∧ (x1.toInt = 0 → (mmKD 0 = 7) ∧ ((mmKD 1 = 4) ∧ (P (some (.int (μ.1 1 0))) μ))) ∧ (x1.toInt = 1 → (mmKD 0 = 7) ∧ ((mmKD 1 = 4) ∧ (P (some (.int (μ.1 1 1))) μ))) ∧ (x1.toInt = 2 → (mmKD 0 = 7) ∧ ((mmKD 1 = 4) ∧ (P (some (.int (μ.1 1 2))) μ))) ∧ (x1.toInt = 3 → (mmKD 0 = 7) ∧ ((mmKD 1 = 4) ∧ (P (some (.int (μ.1 1 3))) μ))) ∧ (x1.toInt = 4 → (mmKD 0 = 7) ∧ (P (some (.int (μ.1 0 16))) μ)) ∧ (x1.toInt = 5 → (mmKD 0 = 7) ∧ (P (some (.int (μ.1 0 17))) μ)) ∧ (x1.toInt = 6 → (mmKD 0 = 7) ∧ (P (some (.int (μ.1 0 18))) μ)) ∧ (x1.toInt = 7 → (mmKD 0 = 7) ∧ ((mmKD 141 = 5) ∧ (P (some (.int (μ.1 141 0))) μ))) ∧ True) : mmEnds d M_X7_count 0 [.ref 0, .int x1] [] μ P := mm_tree 11 OB_X7_count OH_X7_count_0 h
theorem s_X7_count_0 {d : Nat} {P : Option Value → mmMem → Prop} {μ : mmMem} {x1 : Int32} (hd : 0 ≤ d)  (h : (x1.toInt < 0 ∨ 7 < x1.toInt → P (some (.int (-2 : Int32))) μ) ∧ (x1.toInt = 0 → P (some (.int (μ.1 1 0))) μ) ∧ (x1.toInt = 1 → P (some (.int (μ.1 1 1))) μ) ∧ (x1.toInt = 2 → P (some (.int (μ.1 1 2))) μ) ∧ (x1.toInt = 3 → P (some (.int (μ.1 1 3))) μ) ∧ (x1.toInt = 4 → P (some (.int (μ.1 0 16))) μ) ∧ (x1.toInt = 5 → P (some (.int (μ.1 0 17))) μ) ∧ (x1.toInt = 6 → P (some (.int (μ.1 0 18))) μ) ∧ (x1.toInt = 7 → P (some (.int (μ.1 141 0))) μ) ∧ True) : mmEnds d M_X7_count 0 [.ref 0, .int x1] [] μ P := s0_X7_count_0 (⟨fun q1 => (have h2 := (h).1 q1; h2), fun q1 => (have h2 := (h).2.1 q1; ⟨kd_0, ⟨kd_1, h2⟩⟩), fun q1 => (have h2 := (h).2.2.1 q1; ⟨kd_0, ⟨kd_1, h2⟩⟩), fun q1 => (have h2 := (h).2.2.2.1 q1; ⟨kd_0, ⟨kd_1, h2⟩⟩), fun q1 => (have h2 := (h).2.2.2.2.1 q1; ⟨kd_0, ⟨kd_1, h2⟩⟩), fun q1 => (have h2 := (h).2.2.2.2.2.1 q1; ⟨kd_0, h2⟩), fun q1 => (have h2 := (h).2.2.2.2.2.2.1 q1; ⟨kd_0, h2⟩), fun q1 => (have h2 := (h).2.2.2.2.2.2.2.1 q1; ⟨kd_0, h2⟩), fun q1 => (have h2 := (h).2.2.2.2.2.2.2.2.1 q1; ⟨kd_0, ⟨kd_141, h2⟩⟩), trivial⟩)
theorem u_X7_count {d : Nat} {K : Int32 → mmMem → Prop} {μ : mmMem} {x1 : Int32} (hd : 1 ≤ d)  (h : (x1.toInt < 0 ∨ 7 < x1.toInt → K (-2 : Int32) μ) ∧ (x1.toInt = 0 → K (μ.1 1 0) μ) ∧ (x1.toInt = 1 → K (μ.1 1 1) μ) ∧ (x1.toInt = 2 → K (μ.1 1 2) μ) ∧ (x1.toInt = 3 → K (μ.1 1 3) μ) ∧ (x1.toInt = 4 → K (μ.1 0 16) μ) ∧ (x1.toInt = 5 → K (μ.1 0 17) μ) ∧ (x1.toInt = 6 → K (μ.1 0 18) μ) ∧ (x1.toInt = 7 → K (μ.1 141 0) μ) ∧ True) : mmCI d M_X7_count false 1 [.ref 0, .int x1] μ K :=
  mmCU.of (d' := d - 1) g_X7_count (by decide +kernel) rfl rfl (by omega) (s_X7_count_0 (d := d - 1) (by omega)  h)
theorem g_X7_feed : mmGd M_X7_feed false 1 := ⟨mm_in 802 (by decide +kernel) rfl, mm_in 10 (by decide +kernel) rfl, by decide +kernel, by decide, ⟨mm_in 800 (by decide +kernel) rfl, mm_in 801 (by decide +kernel) rfl⟩⟩
def S_X7_feed_0 : List mmMI := [(0, .iload_n 1, 1, 0, 0, 0, .null, mm0), (1, .ifCond .lt 9, 3, 0, 10, 0, .null, mm0)]
def S_X7_feed_4 : List mmMI := [(4, .iload_n 1, 1, 0, 0, 0, .null, mm0), (5, .bipush 127, 2, 0, 0, 0, .int (127 : Int32), mm0), (7, .if_icmp .le 6, 3, 0, 13, 0, .null, mm0)]
def S_X7_feed_10 : List mmMI := [(10, .bipush (-2), 2, 0, 0, 0, .int (-2 : Int32), mm0), (12, .ireturn, 1, 0, 0, 0, .null, mm0)]
def S_X7_feed_13 : List mmMI := [(13, .aload_n 0, 1, 0, 0, 0, .null, mm0), (14, .getfield 22, 3, 207, 7, 3, .null, mm0), (17, .getfield 290, 3, 172, 5, 0, .null, mm0), (20, .bipush 100, 2, 0, 0, 0, .int (100 : Int32), mm0), (22, .if_icmp .lt 6, 3, 0, 28, 0, .null, mm0)]
def S_X7_feed_25 : List mmMI := [(25, .bipush (-4), 2, 0, 0, 0, .int (-4 : Int32), mm0), (27, .ireturn, 1, 0, 0, 0, .null, mm0)]
def S_X7_feed_28 : List mmMI := [(28, .aload_n 0, 1, 0, 0, 0, .null, mm0), (29, .getfield 22, 3, 207, 7, 3, .null, mm0), (32, .iload_n 1, 1, 0, 0, 0, .null, mm0), (33, .invokevirtual 291, 3, 803, 1, 5, .null, M_X5_add), (36, .aload_n 0, 1, 0, 0, 0, .null, mm0), (37, .getfield 22, 3, 207, 7, 3, .null, mm0), (40, .getfield 290, 3, 172, 5, 0, .null, mm0), (43, .ireturn, 1, 0, 0, 0, .null, mm0)]
def BL_X7_feed : mmBl := [(0, S_X7_feed_0, 4), (4, S_X7_feed_4, 10), (10, S_X7_feed_10, 13), (13, S_X7_feed_13, 25), (25, S_X7_feed_25, 28), (28, S_X7_feed_28, 44)]
theorem OB_X7_feed : mmOkB M_X7_feed BL_X7_feed = true := by decide +kernel
theorem OH_X7_feed_0 : mmOkB M_X7_feed [(0, S_X7_feed_0, 4)] = true := by decide +kernel
theorem s0_X7_feed_0 {d : Nat} {P : Option Value → mmMem → Prop} {μ : mmMem} {x1 : Int32} (h : (x1 < (0 : Int32) → P (some (.int (-2 : Int32))) μ) ∧ (¬ x1 < (0 : Int32) → (x1 ≤ (127 : Int32) → (mmKD 0 = 7) ∧ ((mmKD 141 = 5) ∧ (((μ.1 141 0) < (100 : Int32) → (mmKD 0 = 7) ∧ ((mmKD 141 = 5) ∧ (mmC0 d M_X5_add false 1 [.ref 141, .int x1] μ fun ν1 => (mmKD 0 = 7) ∧ ((mmKD 141 = 5) ∧ (P (some (.int (ν1.1 141 0))) ν1))))) ∧ (¬ (μ.1 141 0) < (100 : Int32) → P (some (.int (-4 : Int32))) μ)))) ∧ (¬ x1 ≤ (127 : Int32) → P (some (.int (-2 : Int32))) μ))) : mmEnds d M_X7_feed 0 [.ref 0, .int x1] [] μ P := mm_tree 7 OB_X7_feed OH_X7_feed_0 h
theorem s_X7_feed_0 {d : Nat} {P : Option Value → mmMem → Prop} {μ : mmMem} {x1 : Int32} (hd : 1 ≤ d)  (h : (x1 < (0 : Int32) → P (some (.int (-2 : Int32))) μ) ∧ (¬ x1 < (0 : Int32) → (x1 ≤ (127 : Int32) → ((μ.1 141 0) < (100 : Int32) → (vp_in (μ.1 141 0) 100) ∧ (P (some (.int ((μ.1 141 0) + (1 : Int32)))) (sI (sI μ 142 (μ.1 141 0).toNatClampNeg x1) 141 0 ((μ.1 141 0) + (1 : Int32))))) ∧ (¬ (μ.1 141 0) < (100 : Int32) → P (some (.int (-4 : Int32))) μ)) ∧ (¬ x1 ≤ (127 : Int32) → P (some (.int (-2 : Int32))) μ))) : mmEnds d M_X7_feed 0 [.ref 0, .int x1] [] μ P := s0_X7_feed_0 (⟨fun q1 => (have h3 := (h).1 q1; h3), fun q2 => (have h4 := (h).2 q2; ⟨fun q5 => (have h7 := (h4).1 q5; ⟨kd_0, ⟨kd_141, ⟨fun q9 => (have h11 := (h7).1 q9; ⟨kd_0, ⟨kd_141, (u_X5_add (by omega)  (⟨fun q15 => absurd q15 (Int32.not_le.mpr q9), fun _ => (have o13 := (h11).1; have h14 := (h11).2; ⟨o13, ⟨kd_0, ⟨kd_141, h14⟩⟩⟩)⟩))⟩⟩), fun q10 => (have h12 := (h7).2 q10; h12)⟩⟩⟩), fun q6 => (have h8 := (h4).2 q6; h8)⟩)⟩)
theorem u_X7_feed {d : Nat} {K : Int32 → mmMem → Prop} {μ : mmMem} {x1 : Int32} (hd : 2 ≤ d)  (h : (x1 < (0 : Int32) → K (-2 : Int32) μ) ∧ (¬ x1 < (0 : Int32) → (x1 ≤ (127 : Int32) → ((μ.1 141 0) < (100 : Int32) → (vp_in (μ.1 141 0) 100) ∧ (K ((μ.1 141 0) + (1 : Int32)) (sI (sI μ 142 (μ.1 141 0).toNatClampNeg x1) 141 0 ((μ.1 141 0) + (1 : Int32))))) ∧ (¬ (μ.1 141 0) < (100 : Int32) → K (-4 : Int32) μ)) ∧ (¬ x1 ≤ (127 : Int32) → K (-2 : Int32) μ))) : mmCI d M_X7_feed false 1 [.ref 0, .int x1] μ K :=
  mmCU.of (d' := d - 1) g_X7_feed (by decide +kernel) rfl rfl (by omega) (s_X7_feed_0 (d := d - 1) (by omega)  h)
theorem g_X7_read : mmGd M_X7_read false 0 := ⟨mm_in 810 (by decide +kernel) rfl, mm_in 10 (by decide +kernel) rfl, by decide +kernel, by decide, ⟨mm_in 808 (by decide +kernel) rfl, mm_in 809 (by decide +kernel) rfl⟩⟩
def S_X7_read_0 : List mmMI := [(0, .aload_n 0, 1, 0, 0, 0, .null, mm0), (1, .getfield 22, 3, 207, 7, 3, .null, mm0), (4, .aload_n 0, 1, 0, 0, 0, .null, mm0), (5, .getfield 36, 3, 209, 7, 5, .null, mm0), (8, .aload_n 0, 1, 0, 0, 0, .null, mm0), (9, .getfield 10, 3, 204, 7, 0, .null, mm0), (12, .getfield 77, 3, 127, 4, 0, .null, mm0), (15, .invokevirtual 294, 3, 811, 2, 5, .null, M_X5_parse), (18, .istore_n 1, 1, 0, 0, 0, .null, mm0), (19, .aload_n 0, 1, 0, 0, 0, .null, mm0), (20, .getfield 22, 3, 207, 7, 3, .null, mm0), (23, .iconst 0, 1, 0, 0, 0, .int (0 : Int32), mm0), (24, .putfield 290, 3, 172, 5, 0, .null, mm0), (27, .iload_n 1, 1, 0, 0, 0, .null, mm0), (28, .ifCond .ne 14, 3, 0, 42, 0, .null, mm0)]
def S_X7_read_31 : List mmMI := [(31, .bipush (-10), 2, 0, 0, 0, .int (-10 : Int32), mm0), (33, .aload_n 0, 1, 0, 0, 0, .null, mm0), (34, .getfield 22, 3, 207, 7, 3, .null, mm0), (37, .getfield 298, 3, 174, 5, 1, .null, mm0), (40, .isub, 1, 0, 0, 0, .null, mm0), (41, .ireturn, 1, 0, 0, 0, .null, mm0)]
def S_X7_read_42 : List mmMI := [(42, .aload_n 0, 1, 0, 0, 0, .null, mm0), (43, .getfield 10, 3, 204, 7, 0, .null, mm0), (46, .getfield 89, 3, 130, 4, 1, .null, mm0), (49, .bipush 12, 2, 0, 0, 0, .int (12 : Int32), mm0), (51, .if_icmp .lt 6, 3, 0, 57, 0, .null, mm0)]
def S_X7_read_54 : List mmMI := [(54, .bipush (-4), 2, 0, 0, 0, .int (-4 : Int32), mm0), (56, .ireturn, 1, 0, 0, 0, .null, mm0)]
def S_X7_read_57 : List mmMI := [(57, .aload_n 0, 1, 0, 0, 0, .null, mm0), (58, .getfield 10, 3, 204, 7, 0, .null, mm0), (61, .invokevirtual 92, 3, 289, 0, 4, .null, M_X4_nextColumn), (64, .aload_n 0, 1, 0, 0, 0, .null, mm0), (65, .getfield 36, 3, 209, 7, 5, .null, mm0), (68, .invokevirtual 301, 3, 872, 1, 1, .null, M_X1_copyFrom), (71, .aload_n 0, 1, 0, 0, 0, .null, mm0), (72, .getfield 10, 3, 204, 7, 0, .null, mm0), (75, .getfield 89, 3, 130, 4, 1, .null, mm0), (78, .iconst 1, 1, 0, 0, 0, .int (1 : Int32), mm0), (79, .isub, 1, 0, 0, 0, .null, mm0), (80, .ireturn, 1, 0, 0, 0, .null, mm0)]
def BL_X7_read : mmBl := [(0, S_X7_read_0, 31), (31, S_X7_read_31, 42), (42, S_X7_read_42, 54), (54, S_X7_read_54, 57), (57, S_X7_read_57, 81)]
theorem OB_X7_read : mmOkB M_X7_read BL_X7_read = true := by decide +kernel
theorem OH_X7_read_0 : mmOkB M_X7_read [(0, S_X7_read_0, 31)] = true := by decide +kernel
set_option maxRecDepth 10000 in
theorem s0_X7_read_0 {d : Nat} {P : Option Value → mmMem → Prop} {μ : mmMem}  (h : (mmKD 0 = 7) ∧ ((mmKD 0 = 7) ∧ ((mmKD 0 = 7) ∧ ((mmKD 1 = 4) ∧ ((mmKD 141 = 5) ∧ (mmCI d M_X5_parse false 2 [.ref 141, .ref 146, .int (μ.1 1 0)] μ fun y1 ν1 => (mmKD 0 = 7) ∧ ((mmKD 141 = 5) ∧ ((¬ y1 = (0 : Int32) → (mmKD 0 = 7) ∧ ((mmKD 1 = 4) ∧ (((ν1.1 1 1) < (12 : Int32) → (mmKD 0 = 7) ∧ ((mmKD 1 = 4) ∧ (mmCA d M_X4_nextColumn false 0 [.ref 1] (sI ν1 141 0 (0 : Int32)) fun y2 ν2 => (mmKD 0 = 7) ∧ ((mmKD y2 = 1) ∧ (mmC0 d M_X1_copyFrom false 1 [.ref y2, .ref 146] ν2 fun ν3 => (mmKD 0 = 7) ∧ ((mmKD 1 = 4) ∧ (P (some (.int ((ν3.1 1 1) - (1 : Int32)))) ν3))))))) ∧ (¬ (ν1.1 1 1) < (12 : Int32) → P (some (.int (-4 : Int32))) (sI ν1 141 0 (0 : Int32)))))) ∧ (y1 = (0 : Int32) → (mmKD 0 = 7) ∧ ((mmKD 141 = 5) ∧ (P (some (.int ((-10 : Int32) - (ν1.1 141 1)))) (sI ν1 141 0 (0 : Int32))))))))))))) : mmEnds d M_X7_read 0 [.ref 0, .retAddr 7] [] μ P := mm_tree 6 OB_X7_read OH_X7_read_0 h
theorem s_X7_read_0 {d : Nat} {P : Option Value → mmMem → Prop} {μ : mmMem}  (hd : 1 ≤ d)  (h : mmCI d M_X5_parse false 2 [.ref 141, .ref 146, .int (μ.1 1 0)] μ fun y2 ν1 => (¬ y2 = (0 : Int32) → ((ν1.1 1 1) < (12 : Int32) → (vp_in (((ν1.1 1 1) + (1 : Int32)) - (1 : Int32)) 12) ∧ (mmC0 d M_X1_copyFrom false 1 [.ref (7 + 4 * (((ν1.1 1 1) + (1 : Int32)) - (1 : Int32)).toNatClampNeg), .ref 146] (sI (sI ν1 141 0 (0 : Int32)) 1 1 ((ν1.1 1 1) + (1 : Int32))) fun ν13 => P (some (.int ((ν13.1 1 1) - (1 : Int32)))) ν13)) ∧ (¬ (ν1.1 1 1) < (12 : Int32) → P (some (.int (-4 : Int32))) (sI ν1 141 0 (0 : Int32)))) ∧ (y2 = (0 : Int32) → P (some (.int ((-10 : Int32) - (ν1.1 141 1)))) (sI ν1 141 0 (0 : Int32)))) : mmEnds d M_X7_read 0 [.ref 0, .retAddr 7] [] μ P := s0_X7_read_0 (⟨kd_0, ⟨kd_0, ⟨kd_0, ⟨kd_1, ⟨kd_141, (mmCI.mono (h) (fun y2 ν1 h15 => ⟨kd_0, ⟨kd_141, ⟨fun q3 => (have h5 := (h15).1 q3; ⟨kd_0, ⟨kd_1, ⟨fun q7 => (have h9 := (h5).1 q7; ⟨kd_0, ⟨kd_1, (u_X4_nextColumn (by omega) kd_1 (have o11 := (h9).1; have h12 := (h9).2; ⟨o11, ⟨kd_0, ⟨(ke_14 kd_2 (vp_l ln_2 o11)), (mmC0.mono (h12) (fun ν13 h14 => ⟨kd_0, ⟨kd_1, h14⟩⟩))⟩⟩⟩))⟩⟩), fun q8 => (have h10 := (h5).2 q8; h10)⟩⟩⟩), fun q4 => (have h6 := (h15).2 q4; ⟨kd_0, ⟨kd_141, h6⟩⟩)⟩⟩⟩))⟩⟩⟩⟩⟩)
theorem u_X7_read {d : Nat} {K : Int32 → mmMem → Prop} {μ : mmMem}  (hd : 2 ≤ d)  (h : mmCI (d - 1) M_X5_parse false 2 [.ref 141, .ref 146, .int (μ.1 1 0)] μ fun y2 ν1 => (¬ y2 = (0 : Int32) → ((ν1.1 1 1) < (12 : Int32) → (vp_in (((ν1.1 1 1) + (1 : Int32)) - (1 : Int32)) 12) ∧ (mmC0 (d - 1) M_X1_copyFrom false 1 [.ref (7 + 4 * (((ν1.1 1 1) + (1 : Int32)) - (1 : Int32)).toNatClampNeg), .ref 146] (sI (sI ν1 141 0 (0 : Int32)) 1 1 ((ν1.1 1 1) + (1 : Int32))) fun ν13 => K ((ν13.1 1 1) - (1 : Int32)) ν13)) ∧ (¬ (ν1.1 1 1) < (12 : Int32) → K (-4 : Int32) (sI ν1 141 0 (0 : Int32)))) ∧ (y2 = (0 : Int32) → K ((-10 : Int32) - (ν1.1 141 1)) (sI ν1 141 0 (0 : Int32)))) : mmCI d M_X7_read false 0 [.ref 0] μ K :=
  mmCU.of (d' := d - 1) g_X7_read (by decide +kernel) rfl rfl (by omega) (s_X7_read_0 (d := d - 1) (by omega)  h)
theorem g_X7_widens : mmGd M_X7_widens true 2 := ⟨mm_in 886 (by decide +kernel) rfl, mm_in 10 (by decide +kernel) rfl, by decide +kernel, by decide, (show _ from mm_in 885 (by decide +kernel) rfl)⟩
def S_X7_widens_0 : List mmMI := [(0, .iload_n 0, 1, 0, 0, 0, .null, mm0), (1, .iload_n 1, 1, 0, 0, 0, .null, mm0), (2, .if_icmp .ne 5, 3, 0, 7, 0, .null, mm0)]
def S_X7_widens_5 : List mmMI := [(5, .iconst 1, 1, 0, 0, 0, .int (1 : Int32), mm0), (6, .ireturn, 1, 0, 0, 0, .null, mm0)]
def S_X7_widens_7 : List mmMI := [(7, .iload_n 0, 1, 0, 0, 0, .null, mm0), (8, .ifCond .eq 18, 3, 0, 26, 0, .null, mm0)]
def S_X7_widens_11 : List mmMI := [(11, .iload_n 1, 1, 0, 0, 0, .null, mm0), (12, .iconst 2, 1, 0, 0, 0, .int (2 : Int32), mm0), (13, .if_icmp .eq 13, 3, 0, 26, 0, .null, mm0)]
def S_X7_widens_16 : List mmMI := [(16, .iload_n 0, 1, 0, 0, 0, .null, mm0), (17, .iconst 2, 1, 0, 0, 0, .int (2 : Int32), mm0), (18, .if_icmp .ne 10, 3, 0, 28, 0, .null, mm0)]
def S_X7_widens_21 : List mmMI := [(21, .iload_n 1, 1, 0, 0, 0, .null, mm0), (22, .iconst 3, 1, 0, 0, 0, .int (3 : Int32), mm0), (23, .if_icmp .ne 5, 3, 0, 28, 0, .null, mm0)]
def S_X7_widens_26 : List mmMI := [(26, .iconst 0, 1, 0, 0, 0, .int (0 : Int32), mm0), (27, .ireturn, 1, 0, 0, 0, .null, mm0)]
def S_X7_widens_28 : List mmMI := [(28, .iload_n 1, 1, 0, 0, 0, .null, mm0), (29, .iload_n 0, 1, 0, 0, 0, .null, mm0), (30, .if_icmp .le 7, 3, 0, 37, 0, .null, mm0)]
def S_X7_widens_33 : List mmMI := [(33, .iconst 1, 1, 0, 0, 0, .int (1 : Int32), mm0), (34, .goto 4, 3, 0, 38, 0, .null, mm0)]
def S_X7_widens_37 : List mmMI := [(37, .iconst 0, 1, 0, 0, 0, .int (0 : Int32), mm0)]
def S_X7_widens_38 : List mmMI := [(38, .ireturn, 1, 0, 0, 0, .null, mm0)]
def BL_X7_widens : mmBl := [(0, S_X7_widens_0, 5), (5, S_X7_widens_5, 7), (7, S_X7_widens_7, 11), (11, S_X7_widens_11, 16), (16, S_X7_widens_16, 21), (21, S_X7_widens_21, 26), (26, S_X7_widens_26, 28), (28, S_X7_widens_28, 33), (33, S_X7_widens_33, 37), (37, S_X7_widens_37, 38), (38, S_X7_widens_38, 39)]
theorem OB_X7_widens : mmOkB M_X7_widens BL_X7_widens = true := by decide +kernel
theorem OH_X7_widens_0 : mmOkB M_X7_widens [(0, S_X7_widens_0, 5)] = true := by decide +kernel
theorem s0_X7_widens_0 {d : Nat} {P : Option Value → mmMem → Prop} {μ : mmMem} {x0 : Int32} {x1 : Int32} (h : (¬ x0 = x1 → (x0 = (0 : Int32) → P (some (.int (0 : Int32))) μ) ∧ (¬ x0 = (0 : Int32) → (x1 = (2 : Int32) → P (some (.int (0 : Int32))) μ) ∧ (¬ x1 = (2 : Int32) → (¬ x0 = (2 : Int32) → (x1 ≤ x0 → P (some (.int (0 : Int32))) μ) ∧ (¬ x1 ≤ x0 → P (some (.int (1 : Int32))) μ)) ∧ (x0 = (2 : Int32) → (¬ x1 = (3 : Int32) → (x1 ≤ x0 → P (some (.int (0 : Int32))) μ) ∧ (¬ x1 ≤ x0 → P (some (.int (1 : Int32))) μ)) ∧ (x1 = (3 : Int32) → P (some (.int (0 : Int32))) μ))))) ∧ (x0 = x1 → P (some (.int (1 : Int32))) μ)) : mmEnds d M_X7_widens 0 [.int x0, .int x1] [] μ P := mm_tree 12 OB_X7_widens OH_X7_widens_0 h
theorem s_X7_widens_0 {d : Nat} {P : Option Value → mmMem → Prop} {μ : mmMem} {x0 : Int32} {x1 : Int32} (hd : 0 ≤ d)  (h : (¬ x0 = x1 → (x0 = (0 : Int32) → P (some (.int (0 : Int32))) μ) ∧ (¬ x0 = (0 : Int32) → (x1 = (2 : Int32) → P (some (.int (0 : Int32))) μ) ∧ (¬ x1 = (2 : Int32) → (¬ x0 = (2 : Int32) → (x1 ≤ x0 → P (some (.int (0 : Int32))) μ) ∧ (¬ x1 ≤ x0 → P (some (.int (1 : Int32))) μ)) ∧ (x0 = (2 : Int32) → (¬ x1 = (3 : Int32) → (x1 ≤ x0 → P (some (.int (0 : Int32))) μ) ∧ (¬ x1 ≤ x0 → P (some (.int (1 : Int32))) μ)) ∧ (x1 = (3 : Int32) → P (some (.int (0 : Int32))) μ))))) ∧ (x0 = x1 → P (some (.int (1 : Int32))) μ)) : mmEnds d M_X7_widens 0 [.int x0, .int x1] [] μ P := s0_X7_widens_0 (⟨fun q1 => (have h3 := (h).1 q1; ⟨fun q5 => (have h7 := (h3).1 q5; h7), fun q6 => (have h8 := (h3).2 q6; ⟨fun q9 => (have h11 := (h8).1 q9; h11), fun q10 => (have h12 := (h8).2 q10; ⟨fun q13 => (have h15 := (h12).1 q13; ⟨fun q17 => (have h19 := (h15).1 q17; h19), fun q18 => (have h20 := (h15).2 q18; h20)⟩), fun q14 => (have h16 := (h12).2 q14; ⟨fun q21 => (have h23 := (h16).1 q21; ⟨fun q25 => (have h27 := (h23).1 q25; h27), fun q26 => (have h28 := (h23).2 q26; h28)⟩), fun q22 => (have h24 := (h16).2 q22; h24)⟩)⟩)⟩)⟩), fun q2 => (have h4 := (h).2 q2; h4)⟩)
theorem u_X7_widens {d : Nat} {K : Int32 → mmMem → Prop} {μ : mmMem} {x0 : Int32} {x1 : Int32} (hd : 1 ≤ d)  (h : (¬ x0 = x1 → (x0 = (0 : Int32) → K (0 : Int32) μ) ∧ (¬ x0 = (0 : Int32) → (x1 = (2 : Int32) → K (0 : Int32) μ) ∧ (¬ x1 = (2 : Int32) → (¬ x0 = (2 : Int32) → (x1 ≤ x0 → K (0 : Int32) μ) ∧ (¬ x1 ≤ x0 → K (1 : Int32) μ)) ∧ (x0 = (2 : Int32) → (¬ x1 = (3 : Int32) → (x1 ≤ x0 → K (0 : Int32) μ) ∧ (¬ x1 ≤ x0 → K (1 : Int32) μ)) ∧ (x1 = (3 : Int32) → K (0 : Int32) μ))))) ∧ (x0 = x1 → K (1 : Int32) μ)) : mmCI d M_X7_widens true 2 [.int x0, .int x1] μ K :=
  mmCU.of (d' := d - 1) g_X7_widens (by decide +kernel) rfl rfl (by omega) (s_X7_widens_0 (d := d - 1) (by omega)  h)
theorem g_X7_askRefusal : mmGd M_X7_askRefusal false 3 := ⟨mm_in 883 (by decide +kernel) rfl, mm_in 10 (by decide +kernel) rfl, by decide +kernel, by decide, ⟨mm_in 882 (by decide +kernel) rfl, mm_in 8 (by decide +kernel) rfl⟩⟩
def S_X7_askRefusal_0 : List mmMI := [(0, .iload_n 3, 1, 0, 0, 0, .null, mm0), (1, .bipush 8, 2, 0, 0, 0, .int (8 : Int32), mm0), (3, .if_icmp .eq 12, 3, 0, 15, 0, .null, mm0)]
def S_X7_askRefusal_6 : List mmMI := [(6, .iload_n 1, 1, 0, 0, 0, .null, mm0), (7, .bipush 7, 2, 0, 0, 0, .int (7 : Int32), mm0), (9, .if_icmp .le 6, 3, 0, 15, 0, .null, mm0)]
def S_X7_askRefusal_12 : List mmMI := [(12, .bipush (-22), 2, 0, 0, 0, .int (-22 : Int32), mm0), (14, .ireturn, 1, 0, 0, 0, .null, mm0)]
def S_X7_askRefusal_15 : List mmMI := [(15, .aload_n 0, 1, 0, 0, 0, .null, mm0), (16, .iload_n 2, 1, 0, 0, 0, .null, mm0), (17, .invokevirtual 167, 3, 318, 1, 7, .null, M_X7_isRow), (20, .ifCond .ne 6, 3, 0, 26, 0, .null, mm0)]
def S_X7_askRefusal_23 : List mmMI := [(23, .bipush (-21), 2, 0, 0, 0, .int (-21 : Int32), mm0), (25, .ireturn, 1, 0, 0, 0, .null, mm0)]
def S_X7_askRefusal_26 : List mmMI := [(26, .iload_n 3, 1, 0, 0, 0, .null, mm0), (27, .bipush 8, 2, 0, 0, 0, .int (8 : Int32), mm0), (29, .if_icmp .eq 11, 3, 0, 40, 0, .null, mm0)]
def S_X7_askRefusal_32 : List mmMI := [(32, .iload_n 1, 1, 0, 0, 0, .null, mm0), (33, .iload_n 3, 1, 0, 0, 0, .null, mm0), (34, .invokestatic 333, 3, 884, 2, 0, .null, M_X7_widens), (37, .ifCond .eq 7, 3, 0, 44, 0, .null, mm0)]
def S_X7_askRefusal_40 : List mmMI := [(40, .iconst 0, 1, 0, 0, 0, .int (0 : Int32), mm0), (41, .goto 5, 3, 0, 46, 0, .null, mm0)]
def S_X7_askRefusal_44 : List mmMI := [(44, .bipush (-22), 2, 0, 0, 0, .int (-22 : Int32), mm0)]
def S_X7_askRefusal_46 : List mmMI := [(46, .ireturn, 1, 0, 0, 0, .null, mm0)]
def BL_X7_askRefusal : mmBl := [(0, S_X7_askRefusal_0, 6), (6, S_X7_askRefusal_6, 12), (12, S_X7_askRefusal_12, 15), (15, S_X7_askRefusal_15, 23), (23, S_X7_askRefusal_23, 26), (26, S_X7_askRefusal_26, 32), (32, S_X7_askRefusal_32, 40), (40, S_X7_askRefusal_40, 44), (44, S_X7_askRefusal_44, 46), (46, S_X7_askRefusal_46, 47)]
theorem OB_X7_askRefusal : mmOkB M_X7_askRefusal BL_X7_askRefusal = true := by decide +kernel
theorem OH_X7_askRefusal_0 : mmOkB M_X7_askRefusal [(0, S_X7_askRefusal_0, 6)] = true := by decide +kernel
set_option maxRecDepth 10000 in
theorem s0_X7_askRefusal_0 {d : Nat} {P : Option Value → mmMem → Prop} {μ : mmMem} {x1 : Int32} {x2 : Int32} {x3 : Int32} (h : (x3 = (8 : Int32) → (mmKD 0 = 7) ∧ (mmCI d M_X7_isRow false 1 [.ref 0, .int x2] μ fun y1 ν1 => (¬ y1 = (0 : Int32) → (x3 = (8 : Int32) → P (some (.int (0 : Int32))) ν1) ∧ (¬ x3 = (8 : Int32) → mmCI d M_X7_widens true 2 [.int x1, .int x3] ν1 fun y2 ν2 => (y2 = (0 : Int32) → P (some (.int (-22 : Int32))) ν2) ∧ (¬ y2 = (0 : Int32) → P (some (.int (0 : Int32))) ν2))) ∧ (y1 = (0 : Int32) → P (some (.int (-21 : Int32))) ν1))) ∧ (¬ x3 = (8 : Int32) → (x1 ≤ (7 : Int32) → (mmKD 0 = 7) ∧ (mmCI d M_X7_isRow false 1 [.ref 0, .int x2] μ fun y3 ν3 => (¬ y3 = (0 : Int32) → (x3 = (8 : Int32) → P (some (.int (0 : Int32))) ν3) ∧ (¬ x3 = (8 : Int32) → mmCI d M_X7_widens true 2 [.int x1, .int x3] ν3 fun y4 ν4 => (y4 = (0 : Int32) → P (some (.int (-22 : Int32))) ν4) ∧ (¬ y4 = (0 : Int32) → P (some (.int (0 : Int32))) ν4))) ∧ (y3 = (0 : Int32) → P (some (.int (-21 : Int32))) ν3))) ∧ (¬ x1 ≤ (7 : Int32) → P (some (.int (-22 : Int32))) μ))) : mmEnds d M_X7_askRefusal 0 [.ref 0, .int x1, .int x2, .int x3] [] μ P := mm_tree 11 OB_X7_askRefusal OH_X7_askRefusal_0 h
theorem s_X7_askRefusal_0 {d : Nat} {P : Option Value → mmMem → Prop} {μ : mmMem} {x1 : Int32} {x2 : Int32} {x3 : Int32} (hd : 1 ≤ d)  (h : (x3 = (8 : Int32) → (x2 < (0 : Int32) → P (some (.int (-21 : Int32))) μ) ∧ (¬ x2 < (0 : Int32) → ((μ.1 1 0) ≤ x2 → P (some (.int (-21 : Int32))) μ) ∧ (¬ (μ.1 1 0) ≤ x2 → P (some (.int (0 : Int32))) μ))) ∧ (¬ x3 = (8 : Int32) → (x1 ≤ (7 : Int32) → (x2 < (0 : Int32) → P (some (.int (-21 : Int32))) μ) ∧ (¬ x2 < (0 : Int32) → ((μ.1 1 0) ≤ x2 → P (some (.int (-21 : Int32))) μ) ∧ (¬ (μ.1 1 0) ≤ x2 → mmCI d M_X7_widens true 2 [.int x1, .int x3] μ fun y32 ν31 => (y32 = (0 : Int32) → P (some (.int (-22 : Int32))) ν31) ∧ (¬ y32 = (0 : Int32) → P (some (.int (0 : Int32))) ν31)))) ∧ (¬ x1 ≤ (7 : Int32) → P (some (.int (-22 : Int32))) μ))) : mmEnds d M_X7_askRefusal 0 [.ref 0, .int x1, .int x2, .int x3] [] μ P := s0_X7_askRefusal_0 (⟨fun q1 => (have h3 := (h).1 q1; ⟨kd_0, (u_X7_isRow (by omega)  (⟨fun q5 => (have h7 := (h3).1 q5; ⟨fun q9 => absurd (by decide : (0 : Int32) = (0 : Int32)) q9, fun _ => h7⟩), fun q6 => (have h8 := (h3).2 q6; ⟨fun q10 => (have h12 := (h8).1 q10; ⟨fun q14 => absurd (by decide : (0 : Int32) = (0 : Int32)) q14, fun _ => h12⟩), fun q11 => (have h13 := (h8).2 q11; ⟨fun _ => ⟨fun _ => h13, fun q15 => absurd q1 q15⟩, fun q16 => absurd q16 (by decide : ¬ (1 : Int32) = (0 : Int32))⟩)⟩)⟩))⟩), fun q2 => (have h4 := (h).2 q2; ⟨fun q17 => (have h19 := (h4).1 q17; ⟨kd_0, (u_X7_isRow (by omega)  (⟨fun q21 => (have h23 := (h19).1 q21; ⟨fun q25 => absurd (by decide : (0 : Int32) = (0 : Int32)) q25, fun _ => h23⟩), fun q22 => (have h24 := (h19).2 q22; ⟨fun q26 => (have h28 := (h24).1 q26; ⟨fun q30 => absurd (by decide : (0 : Int32) = (0 : Int32)) q30, fun _ => h28⟩), fun q27 => (have h29 := (h24).2 q27; ⟨fun _ => ⟨fun q38 => absurd q38 q2, fun _ => (mmCI.mono (h29) (fun y32 ν31 h37 => ⟨fun q33 => (have h35 := (h37).1 q33; h35), fun q34 => (have h36 := (h37).2 q34; h36)⟩))⟩, fun q39 => absurd q39 (by decide : ¬ (1 : Int32) = (0 : Int32))⟩)⟩)⟩))⟩), fun q18 => (have h20 := (h4).2 q18; h20)⟩)⟩)
theorem u_X7_askRefusal {d : Nat} {K : Int32 → mmMem → Prop} {μ : mmMem} {x1 : Int32} {x2 : Int32} {x3 : Int32} (hd : 2 ≤ d)  (h : (x3 = (8 : Int32) → (x2 < (0 : Int32) → K (-21 : Int32) μ) ∧ (¬ x2 < (0 : Int32) → ((μ.1 1 0) ≤ x2 → K (-21 : Int32) μ) ∧ (¬ (μ.1 1 0) ≤ x2 → K (0 : Int32) μ))) ∧ (¬ x3 = (8 : Int32) → (x1 ≤ (7 : Int32) → (x2 < (0 : Int32) → K (-21 : Int32) μ) ∧ (¬ x2 < (0 : Int32) → ((μ.1 1 0) ≤ x2 → K (-21 : Int32) μ) ∧ (¬ (μ.1 1 0) ≤ x2 → mmCI (d - 1) M_X7_widens true 2 [.int x1, .int x3] μ fun y32 ν31 => (y32 = (0 : Int32) → K (-22 : Int32) ν31) ∧ (¬ y32 = (0 : Int32) → K (0 : Int32) ν31)))) ∧ (¬ x1 ≤ (7 : Int32) → K (-22 : Int32) μ))) : mmCI d M_X7_askRefusal false 3 [.ref 0, .int x1, .int x2, .int x3] μ K :=
  mmCU.of (d' := d - 1) g_X7_askRefusal (by decide +kernel) rfl rfl (by omega) (s_X7_askRefusal_0 (d := d - 1) (by omega)  h)
end
section
theorem g_X7_ask : mmGd M_X7_ask false 3 := ⟨mm_in 879 (by decide +kernel) rfl, mm_in 10 (by decide +kernel) rfl, by decide +kernel, by decide, ⟨mm_in 877 (by decide +kernel) rfl, mm_in 878 (by decide +kernel) rfl⟩⟩
def S_X7_ask_0 : List mmMI := [(0, .aload_n 0, 1, 0, 0, 0, .null, mm0), (1, .iload_n 1, 1, 0, 0, 0, .null, mm0), (2, .invokevirtual 100, 3, 302, 1, 7, .null, M_X7_columnRefusal), (5, .istore 4, 2, 0, 0, 0, .null, mm0), (7, .iload 4, 2, 0, 0, 0, .null, mm0), (9, .ifCond .eq 6, 3, 0, 15, 0, .null, mm0)]
def S_X7_ask_12 : List mmMI := [(12, .iload 4, 2, 0, 0, 0, .null, mm0), (14, .ireturn, 1, 0, 0, 0, .null, mm0)]
def S_X7_ask_15 : List mmMI := [(15, .iload_n 3, 1, 0, 0, 0, .null, mm0), (16, .ifCond .lt 9, 3, 0, 25, 0, .null, mm0)]
def S_X7_ask_19 : List mmMI := [(19, .iload_n 3, 1, 0, 0, 0, .null, mm0), (20, .bipush 8, 2, 0, 0, 0, .int (8 : Int32), mm0), (22, .if_icmp .le 6, 3, 0, 28, 0, .null, mm0)]
def S_X7_ask_25 : List mmMI := [(25, .bipush (-2), 2, 0, 0, 0, .int (-2 : Int32), mm0), (27, .ireturn, 1, 0, 0, 0, .null, mm0)]
def S_X7_ask_28 : List mmMI := [(28, .aload_n 0, 1, 0, 0, 0, .null, mm0), (29, .getfield 10, 3, 204, 7, 0, .null, mm0), (32, .getfield 104, 3, 136, 4, 4, .null, mm0), (35, .iload_n 1, 1, 0, 0, 0, .null, mm0), (36, .aaload, 1, 0, 14, 0, .null, mm0), (37, .astore 5, 2, 0, 0, 0, .null, mm0), (39, .aload_n 0, 1, 0, 0, 0, .null, mm0), (40, .aload 5, 2, 0, 0, 0, .null, mm0), (42, .getfield 112, 3, 56, 1, 0, .null, mm0), (45, .iload_n 2, 1, 0, 0, 0, .null, mm0), (46, .iload_n 3, 1, 0, 0, 0, .null, mm0), (47, .invokevirtual 115, 3, 880, 3, 7, .null, M_X7_askRefusal), (50, .istore 4, 2, 0, 0, 0, .null, mm0), (52, .iload 4, 2, 0, 0, 0, .null, mm0), (54, .ifCond .eq 10, 3, 0, 64, 0, .null, mm0)]
def S_X7_ask_57 : List mmMI := [(57, .aload_n 0, 1, 0, 0, 0, .null, mm0), (58, .iload 4, 2, 0, 0, 0, .null, mm0), (60, .invokevirtual 119, 3, 306, 1, 7, .null, M_X7_refused), (63, .ireturn, 1, 0, 0, 0, .null, mm0)]
def S_X7_ask_64 : List mmMI := [(64, .aload 5, 2, 0, 0, 0, .null, mm0), (66, .iload_n 2, 1, 0, 0, 0, .null, mm0), (67, .aload_n 0, 1, 0, 0, 0, .null, mm0), (68, .getfield 50, 3, 211, 7, 7, .null, mm0), (71, .invokevirtual 122, 3, 322, 2, 1, .null, M_X1_load), (74, .iload_n 3, 1, 0, 0, 0, .null, mm0), (75, .bipush 8, 2, 0, 0, 0, .int (8 : Int32), mm0), (77, .if_icmp .ne 25, 3, 0, 102, 0, .null, mm0)]
def S_X7_ask_80 : List mmMI := [(80, .aload_n 0, 1, 0, 0, 0, .null, mm0), (81, .aload_n 0, 1, 0, 0, 0, .null, mm0), (82, .getfield 50, 3, 211, 7, 7, .null, mm0), (85, .invokevirtual 126, 3, 887, 0, 0, .null, M_X0_bits), (88, .putfield 130, 3, 219, 7, 15, .null, mm0), (91, .bipush 100, 2, 0, 0, 0, .int (100 : Int32), mm0), (93, .aload_n 0, 1, 0, 0, 0, .null, mm0), (94, .getfield 50, 3, 211, 7, 7, .null, mm0), (97, .getfield 134, 3, 105, 0, 0, .null, mm0), (100, .iadd, 1, 0, 0, 0, .null, mm0), (101, .ireturn, 1, 0, 0, 0, .null, mm0)]
def S_X7_ask_102 : List mmMI := [(102, .aload_n 0, 1, 0, 0, 0, .null, mm0), (103, .getfield 50, 3, 211, 7, 7, .null, mm0), (106, .iload_n 3, 1, 0, 0, 0, .null, mm0), (107, .invokevirtual 135, 3, 423, 1, 0, .null, M_X0_turnInto), (110, .aload_n 0, 1, 0, 0, 0, .null, mm0), (111, .aload_n 0, 1, 0, 0, 0, .null, mm0), (112, .getfield 50, 3, 211, 7, 7, .null, mm0), (115, .invokevirtual 126, 3, 887, 0, 0, .null, M_X0_bits), (118, .putfield 130, 3, 219, 7, 15, .null, mm0), (121, .iconst 1, 1, 0, 0, 0, .int (1 : Int32), mm0), (122, .ireturn, 1, 0, 0, 0, .null, mm0)]
def BL_X7_ask : mmBl := [(0, S_X7_ask_0, 12), (12, S_X7_ask_12, 15), (15, S_X7_ask_15, 19), (19, S_X7_ask_19, 25), (25, S_X7_ask_25, 28), (28, S_X7_ask_28, 57), (57, S_X7_ask_57, 64), (64, S_X7_ask_64, 80), (80, S_X7_ask_80, 102), (102, S_X7_ask_102, 123)]
theorem OB_X7_ask : mmOkB M_X7_ask BL_X7_ask = true := by decide +kernel
theorem OH_X7_ask_0 : mmOkB M_X7_ask [(0, S_X7_ask_0, 12)] = true := by decide +kernel
set_option maxRecDepth 10000 in
theorem s0_X7_ask_0 {d : Nat} {P : Option Value → mmMem → Prop} {μ : mmMem} {x1 : Int32} {x2 : Int32} {x3 : Int32} (h : (mmKD 0 = 7) ∧ (mmCI d M_X7_columnRefusal false 1 [.ref 0, .int x1] μ fun y1 ν1 => (y1 = (0 : Int32) → (x3 < (0 : Int32) → P (some (.int (-2 : Int32))) ν1) ∧ (¬ x3 < (0 : Int32) → (x3 ≤ (8 : Int32) → (mmKD 0 = 7) ∧ ((mmKD 1 = 4) ∧ ((mmKD 2 = 14) ∧ ((vp_in x1 (mmLEN 2)) ∧ ((mmKD (7 + 4 * x1.toNatClampNeg) = 1) ∧ ((mmKD 0 = 7) ∧ (mmCI d M_X7_askRefusal false 3 [.ref 0, .int (ν1.1 (7 + 4 * x1.toNatClampNeg) 0), .int x2, .int x3] ν1 fun y2 ν2 => (y2 = (0 : Int32) → (mmKD 0 = 7) ∧ ((mmKD (7 + 4 * x1.toNatClampNeg) = 1) ∧ (mmC0 d M_X1_load false 2 [.ref (7 + 4 * x1.toNatClampNeg), .int x2, .ref 152] ν2 fun ν3 => (¬ x3 = (8 : Int32) → (mmKD 0 = 7) ∧ ((mmKD 152 = 0) ∧ (mmC0 d M_X0_turnInto false 1 [.ref 152, .int x3] ν3 fun ν4 => (mmKD 0 = 7) ∧ ((mmKD 152 = 0) ∧ (mmCJ d M_X0_bits false 0 [.ref 152] ν4 fun y5 ν5 => (mmKD 0 = 7) ∧ (P (some (.int (1 : Int32))) (sJ ν5 0 15 y5))))))) ∧ (x3 = (8 : Int32) → (mmKD 0 = 7) ∧ ((mmKD 152 = 0) ∧ (mmCJ d M_X0_bits false 0 [.ref 152] ν3 fun y6 ν6 => (mmKD 0 = 7) ∧ ((mmKD 0 = 7) ∧ ((mmKD 152 = 0) ∧ (P (some (.int ((100 : Int32) + (ν6.1 152 0)))) (sJ ν6 0 15 y6)))))))))) ∧ (¬ y2 = (0 : Int32) → (mmKD 0 = 7) ∧ (mmCI d M_X7_refused false 1 [.ref 0, .int y2] ν2 fun y7 ν7 => P (some (.int y7)) ν7))))))))) ∧ (¬ x3 ≤ (8 : Int32) → P (some (.int (-2 : Int32))) ν1))) ∧ (¬ y1 = (0 : Int32) → P (some (.int y1)) ν1))) : mmEnds d M_X7_ask 0 [.ref 0, .int x1, .int x2, .int x3, .retAddr 7, .retAddr 7] [] μ P := mm_tree 11 OB_X7_ask OH_X7_ask_0 h
set_option maxRecDepth 10000 in
theorem s_X7_ask_0 {d : Nat} {P : Option Value → mmMem → Prop} {μ : mmMem} {x1 : Int32} {x2 : Int32} {x3 : Int32} (hd : 0 ≤ d)  (h : mmCI d M_X7_columnRefusal false 1 [.ref 0, .int x1] μ fun y2 ν1 => (y2 = (0 : Int32) → (x3 < (0 : Int32) → P (some (.int (-2 : Int32))) ν1) ∧ (¬ x3 < (0 : Int32) → (x3 ≤ (8 : Int32) → (vp_in x1 12) ∧ (mmCI d M_X7_askRefusal false 3 [.ref 0, .int (ν1.1 (7 + 4 * x1.toNatClampNeg) 0), .int x2, .int x3] ν1 fun y18 ν17 => (y18 = (0 : Int32) → mmC0 d M_X1_load false 2 [.ref (7 + 4 * x1.toNatClampNeg), .int x2, .ref 152] ν17 fun ν23 => (¬ x3 = (8 : Int32) → mmC0 d M_X0_turnInto false 1 [.ref 152, .int x3] ν23 fun ν28 => mmCJ d M_X0_bits false 0 [.ref 152] ν28 fun y30 ν29 => P (some (.int (1 : Int32))) (sJ ν29 0 15 y30)) ∧ (x3 = (8 : Int32) → mmCJ d M_X0_bits false 0 [.ref 152] ν23 fun y34 ν33 => P (some (.int ((100 : Int32) + (ν33.1 152 0)))) (sJ ν33 0 15 y34))) ∧ (¬ y18 = (0 : Int32) → mmCI d M_X7_refused false 1 [.ref 0, .int y18] ν17 fun y38 ν37 => P (some (.int y38)) ν37))) ∧ (¬ x3 ≤ (8 : Int32) → P (some (.int (-2 : Int32))) ν1))) ∧ (¬ y2 = (0 : Int32) → P (some (.int y2)) ν1)) : mmEnds d M_X7_ask 0 [.ref 0, .int x1, .int x2, .int x3, .retAddr 7, .retAddr 7] [] μ P := s0_X7_ask_0 (⟨kd_0, (mmCI.mono (h) (fun y2 ν1 h41 => ⟨fun q3 => (have h5 := (h41).1 q3; ⟨fun q7 => (have h9 := (h5).1 q7; h9), fun q8 => (have h10 := (h5).2 q8; ⟨fun q11 => (have h13 := (h10).1 q11; ⟨kd_0, ⟨kd_1, ⟨kd_2, (have o15 := (h13).1; have h16 := (h13).2; ⟨vp_l ln_2 o15, ⟨(ke_14 kd_2 (vp_l ln_2 o15)), ⟨kd_0, (mmCI.mono (h16) (fun y18 ν17 h40 => ⟨fun q19 => (have h21 := (h40).1 q19; ⟨kd_0, ⟨(ke_14 kd_2 (vp_l ln_2 o15)), (mmC0.mono (h21) (fun ν23 h36 => ⟨fun q24 => (have h26 := (h36).1 q24; ⟨kd_0, ⟨kd_152, (mmC0.mono (h26) (fun ν28 h32 => ⟨kd_0, ⟨kd_152, (mmCJ.mono (h32) (fun y30 ν29 h31 => ⟨kd_0, h31⟩))⟩⟩))⟩⟩), fun q25 => (have h27 := (h36).2 q25; ⟨kd_0, ⟨kd_152, (mmCJ.mono (h27) (fun y34 ν33 h35 => ⟨kd_0, ⟨kd_0, ⟨kd_152, h35⟩⟩⟩))⟩⟩)⟩))⟩⟩), fun q20 => (have h22 := (h40).2 q20; ⟨kd_0, (mmCI.mono (h22) (fun y38 ν37 h39 => h39))⟩)⟩))⟩⟩⟩)⟩⟩⟩), fun q12 => (have h14 := (h10).2 q12; h14)⟩)⟩), fun q4 => (have h6 := (h41).2 q4; h6)⟩))⟩)
set_option maxRecDepth 10000 in
theorem u_X7_ask {d : Nat} {K : Int32 → mmMem → Prop} {μ : mmMem} {x1 : Int32} {x2 : Int32} {x3 : Int32} (hd : 1 ≤ d)  (h : mmCI (d - 1) M_X7_columnRefusal false 1 [.ref 0, .int x1] μ fun y2 ν1 => (y2 = (0 : Int32) → (x3 < (0 : Int32) → K (-2 : Int32) ν1) ∧ (¬ x3 < (0 : Int32) → (x3 ≤ (8 : Int32) → (vp_in x1 12) ∧ (mmCI (d - 1) M_X7_askRefusal false 3 [.ref 0, .int (ν1.1 (7 + 4 * x1.toNatClampNeg) 0), .int x2, .int x3] ν1 fun y18 ν17 => (y18 = (0 : Int32) → mmC0 (d - 1) M_X1_load false 2 [.ref (7 + 4 * x1.toNatClampNeg), .int x2, .ref 152] ν17 fun ν23 => (¬ x3 = (8 : Int32) → mmC0 (d - 1) M_X0_turnInto false 1 [.ref 152, .int x3] ν23 fun ν28 => mmCJ (d - 1) M_X0_bits false 0 [.ref 152] ν28 fun y30 ν29 => K (1 : Int32) (sJ ν29 0 15 y30)) ∧ (x3 = (8 : Int32) → mmCJ (d - 1) M_X0_bits false 0 [.ref 152] ν23 fun y34 ν33 => K ((100 : Int32) + (ν33.1 152 0)) (sJ ν33 0 15 y34))) ∧ (¬ y18 = (0 : Int32) → mmCI (d - 1) M_X7_refused false 1 [.ref 0, .int y18] ν17 fun y38 ν37 => K y38 ν37))) ∧ (¬ x3 ≤ (8 : Int32) → K (-2 : Int32) ν1))) ∧ (¬ y2 = (0 : Int32) → K y2 ν1)) : mmCI d M_X7_ask false 3 [.ref 0, .int x1, .int x2, .int x3] μ K :=
  mmCU.of (d' := d - 1) g_X7_ask (by decide +kernel) rfl rfl (by omega) (s_X7_ask_0 (d := d - 1) (by omega)  h)
theorem g_X7_got : mmGd M_X7_got false 0 := ⟨mm_in 899 (by decide +kernel) rfl, mm_in 10 (by decide +kernel) rfl, by decide +kernel, by decide, ⟨mm_in 897 (by decide +kernel) rfl, mm_in 898 (by decide +kernel) rfl⟩⟩
def S_X7_got_0 : List mmMI := [(0, .aload_n 0, 1, 0, 0, 0, .null, mm0), (1, .getfield 130, 3, 219, 7, 15, .null, mm0), (4, .lreturn, 1, 0, 0, 0, .null, mm0)]
def BL_X7_got : mmBl := [(0, S_X7_got_0, 5)]
theorem OB_X7_got : mmOkB M_X7_got BL_X7_got = true := by decide +kernel
theorem OH_X7_got_0 : mmOkB M_X7_got [(0, S_X7_got_0, 5)] = true := by decide +kernel
theorem s0_X7_got_0 {d : Nat} {P : Option Value → mmMem → Prop} {μ : mmMem}  (h : (mmKD 0 = 7) ∧ (P (some (.long (μ.2.1 0 15))) μ)) : mmEnds d M_X7_got 0 [.ref 0] [] μ P := mm_tree 2 OB_X7_got OH_X7_got_0 h
theorem s_X7_got_0 {d : Nat} {P : Option Value → mmMem → Prop} {μ : mmMem}  (hd : 0 ≤ d)  (h : P (some (.long (μ.2.1 0 15))) μ) : mmEnds d M_X7_got 0 [.ref 0] [] μ P := s0_X7_got_0 (⟨kd_0, h⟩)
theorem u_X7_got {d : Nat} {K : Int64 → mmMem → Prop} {μ : mmMem}  (hd : 1 ≤ d)  (h : K (μ.2.1 0 15) μ) : mmCJ d M_X7_got false 0 [.ref 0] μ K :=
  mmCU.of (d' := d - 1) g_X7_got (by decide +kernel) rfl rfl (by omega) (s_X7_got_0 (d := d - 1) (by omega)  h)
end
section
/-! ===== CELLS: the abstract cell is (sort, number), as the reference has it ===== -/
abbrev aC : Type := Int32 × Int64
def bF (n : Int64) : UInt32 := n.toInt32.toUInt32
def bD (n : Int64) : UInt64 := n.toUInt64
def ofF (f : UInt32) : Int64 := f.toInt32.toInt64
def ofD (d : UInt64) : Int64 := d.toInt64
theorem bF_ofF (f : UInt32) : bF (ofF f) = f := by simp [bF, ofF]
theorem bD_ofD (d : UInt64) : bD (ofD d) = d := rfl
theorem ofD_bD (n : Int64) : ofD (bD n) = n := rfl
def aLow (b : Int32) (v : Int64) : Int64 :=
  if b = 1 then v.toInt32.toInt8.toInt32.toInt64 else if b = 2 then ((v.toInt32.toUInt32 % 65536).toInt32).toInt64 else if b = 3 then v.toInt32.toInt16.toInt32.toInt64 else if b = 4 then v.toInt32.toInt64 else v
def aVal (x : aC) : UInt64 := if x.1 = 6 then FP.f2d (bF x.2) else if x.1 = 7 then bD x.2 else FP.l2d x.2
def aMade (b : Int32) (v : Int64) : Int64 :=
  if b = 0 then v &&& 1 else if b = 6 then ofF (FP.fdiv (FP.l2f v) 1082130432) else if b = 7 then ofD (FP.ddiv (FP.l2d v) 4616189618054758400) else aLow b v
def aCast (x : aC) (t : Int32) : Int64 :=
  if x.1 = t then x.2 else
  if t = 0 then (if x.1 < 6 then (if x.2 = 0 then 0 else 1) else (if aVal x = 0 then 0 else 1)) else
  if t = 5 then (if x.1 < 6 then x.2 else FP.d2l (aVal x)) else
  if t = 6 then (if x.1 < 6 then ofF (FP.l2f x.2) else ofF (FP.d2f (aVal x))) else
  if t = 7 then ofD (aVal x) else
  aLow t (if x.1 < 6 then x.2 else (FP.d2i (aVal x)).toInt64)
def aFam (x : aC) : Int32 := if x.1 = -1 then 3 else if x.1 = 8 then 2 else if x.1 = 0 then 0 else 1
/-- a word's place in a book -/
def aW (n : Int64) : Int32 := if n.toInt32 < 27 then 27 * (n.toInt32 - 1) else 27 * ((n.toInt32 - 27) / 26) + 1 + ((n.toInt32 - 27) - (n.toInt32 - 27) / 26 * 26)
def sg (x : Int32) : Int32 := if x < 0 then -1 else if x = 0 then 0 else 1
def dSg (a b : UInt64) : Int32 := match FP.dcmp a b with
  | some .lt => -1
  | some .gt => 1
  | _ => 0
def aRank (x y : aC) : Int32 :=
  if aFam x ≠ aFam y then aFam x - aFam y else
  if x.1 = -1 then 0 else
  if x.1 = 8 then aW x.2 - aW y.2 else
  if x.1 ≠ 0 ∧ dSg (aVal x) (aVal y) ≠ 0 then dSg (aVal x) (aVal y) else
  if x.1 ≠ y.1 then x.1 - y.1 else lg_cmp x.2 y.2
/-- doubles and floats as they come up here: 0, or of a size from 1/4 to below 2^65; no -0 -/
def okD (r : UInt64) : Prop := r = 0 ∨ (1021 * 2 ^ 52 ≤ r.toNat % 2 ^ 63 ∧ r.toNat % 2 ^ 63 ≤ 1088 * 2 ^ 52)
def okF (f : UInt32) : Prop := f = 0 ∨ (125 * 2 ^ 23 ≤ f.toNat % 2 ^ 31 ∧ f.toNat % 2 ^ 31 ≤ 192 * 2 ^ 23)
def okC (x : aC) : Prop :=
  (x.1 = -1 ∧ x.2 = 0) ∨ (x.1 = 0 ∧ (x.2 = 0 ∨ x.2 = 1)) ∨ (x.1 = 1 ∧ aLow 1 x.2 = x.2) ∨ (x.1 = 2 ∧ aLow 2 x.2 = x.2) ∨ (x.1 = 3 ∧ aLow 3 x.2 = x.2) ∨ (x.1 = 4 ∧ aLow 4 x.2 = x.2) ∨ x.1 = 5 ∨
  (x.1 = 6 ∧ ofF (bF x.2) = x.2 ∧ okF (bF x.2)) ∨ (x.1 = 7 ∧ okD (bD x.2)) ∨ (x.1 = 8 ∧ 1 ≤ x.2 ∧ x.2 ≤ 702)
/-- a cell as the class holds it -/
def enK (x : aC) : Int32 := if x.1 = 8 then 10 else x.1
def enN (x : aC) : Int64 := if x.1 = 6 ∨ x.1 = 7 then 0 else x.2
def enR (x : aC) : UInt64 := if x.1 = -1 ∨ x.1 = 0 ∨ x.1 = 8 then 0 else aVal x
def clC (μ : mmMem) (p : Nat) (x : aC) : Prop := μ.1 p 0 = enK x ∧ μ.2.1 p 1 = enN x ∧ μ.2.2 p 2 = enR x
def setC (μ : mmMem) (p : Nat) (x : aC) : mmMem := sD (sJ (sI μ p 0 (enK x)) p 1 (enN x)) p 2 (enR x)
theorem setC_cl (μ : mmMem) (p : Nat) (x : aC) : clC (setC μ p x) p x := by simp [clC, setC, sI, sJ, sD, upd, vp_updL, vf_upd]
theorem setC_1 (μ : mmMem) (p q : Nat) (x : aC) (h : q ≠ p) : (setC μ p x).1 q = μ.1 q := by simp [setC, sI, sJ, sD, h]
theorem setC_2 (μ : mmMem) (p q : Nat) (x : aC) (h : q ≠ p) : (setC μ p x).2.1 q = μ.2.1 q := by simp [setC, sI, sJ, sD, h]
theorem setC_3 (μ : mmMem) (p q : Nat) (x : aC) (h : q ≠ p) : (setC μ p x).2.2 q = μ.2.2 q := by simp [setC, sI, sJ, sD, h]
theorem clC.set {μ : mmMem} {p q : Nat} {x y : aC} (h : clC μ q y) (hq : q ≠ p) : clC (setC μ p x) q y := by
  unfold clC at *
  rw [setC_1 _ _ _ _ hq, setC_2 _ _ _ _ hq, setC_3 _ _ _ _ hq]
  exact h
/-- the nine sorts one by one -/
theorem okC.cases {x : aC} (h : okC x) : x.1 = -1 ∨ x.1 = 0 ∨ x.1 = 1 ∨ x.1 = 2 ∨ x.1 = 3 ∨ x.1 = 4 ∨ x.1 = 5 ∨ x.1 = 6 ∨ x.1 = 7 ∨ x.1 = 8 := by
  rcases h with h | h | h | h | h | h | h | h | h | h <;> simp [h]
theorem c_lowestBits {d : Nat} {b : Int32} {v : Int64} {μ : mmMem} {K : Int64 → mmMem → Prop} (hd : 1 ≤ d) (h : K (aLow b v) μ) : mmCJ d M_X0_lowestBits true 2 [.int b, .long v] μ K := by
  refine u_X0_lowestBits hd ?_
  have e : ∀ k : Int32, b.toInt = k.toInt → b = k := fun k q => Int32.toInt_inj.mp q
  refine ⟨fun q => ?_, fun q => ?_, fun q => ?_, fun q => ?_, fun q => ?_, trivial⟩
  · have h1 : b ≠ 1 := by rintro rfl; revert q; decide
    have h2 : b ≠ 2 := by rintro rfl; revert q; decide
    have h3 : b ≠ 3 := by rintro rfl; revert q; decide
    have h4 : b ≠ 4 := by rintro rfl; revert q; decide
    simpa [aLow, h1, h2, h3, h4] using h
  · cases e 1 q; exact h
  · cases e 2 q; exact h
  · cases e 3 q; exact h
  · cases e 4 q; exact h
theorem c_family {d p : Nat} {x : aC} {μ : mmMem} {K : Int32 → mmMem → Prop} (hd : 1 ≤ d) (hp : mmKD p = 0) (hx : clC μ p x) (ok : okC x) (h : K (aFam x) μ) : mmCI d M_X0_family false 0 [.ref p] μ K := by
  refine u_X0_family hd hp ?_
  rw [hx.1]
  rcases ok.cases with q | q | q | q | q | q | q | q | q | q <;> simpa [enK, aFam, q] using h
theorem c_isNumber {d p : Nat} {x : aC} {μ : mmMem} {K : Int32 → mmMem → Prop} (hd : 1 ≤ d) (hp : mmKD p = 0) (hx : clC μ p x) (ok : okC x) (h : K (if aFam x = 1 then 1 else 0) μ) : mmCI d M_X0_isNumber false 0 [.ref p] μ K := by
  refine u_X0_isNumber hd hp ?_
  rw [hx.1]
  rcases ok.cases with q | q | q | q | q | q | q | q | q | q <;> simpa [enK, aFam, q] using h
theorem c_isBox {d p : Nat} {x : aC} {μ : mmMem} {K : Int32 → mmMem → Prop} (hd : 1 ≤ d) (hp : mmKD p = 0) (hx : clC μ p x) (ok : okC x) (h : K (if 0 ≤ x.1 ∧ x.1 < 8 then 1 else 0) μ) : mmCI d M_X0_isBox false 0 [.ref p] μ K := by
  refine u_X0_isBox hd hp ?_
  rw [hx.1]
  rcases ok.cases with q | q | q | q | q | q | q | q | q | q <;> simpa [enK, q] using h
end
section
/-! ===== FLOATS: what the walks ask of them ===== -/
theorem okD_nn {r : UInt64} (h : okD r) : r.toNat % 2 ^ 63 ≤ 9218868437227405312 := by
  rcases h with rfl | h
  · decide
  · omega
theorem okF_nn {f : UInt32} (h : okF f) : f.toNat % 2 ^ 31 ≤ 2139095040 := by
  rcases h with rfl | h
  · decide
  · omega
theorem f_n64' {r : UInt64} (h : r.toNat % 2 ^ 63 ≤ 9218868437227405312) : vf_n64 r := by
  unfold vf_n64
  rw [UInt64.le_iff_toNat_le, UInt64.toNat_and]
  have e : (0x7fffffffffffffff : UInt64).toNat = 2 ^ 63 - 1 := rfl
  rw [e, Nat.and_two_pow_sub_one_eq_mod]
  exact h
theorem f_n32' {r : UInt32} (h : r.toNat % 2 ^ 31 ≤ 2139095040) : vf_n32 r := by
  unfold vf_n32
  rw [UInt32.le_iff_toNat_le, UInt32.toNat_and]
  have e : (0x7fffffff : UInt32).toNat = 2 ^ 31 - 1 := rfl
  rw [e, Nat.and_two_pow_sub_one_eq_mod]
  exact h
theorem f_n64 {r : UInt64} (h : okD r) : vf_n64 r := f_n64' (okD_nn h)
theorem f_n32 {f : UInt32} (h : okF f) : vf_n32 f := f_n32' (okF_nn h)
theorem f_v64 {r : UInt64} (h : okD r) : FP.Core.val64 r ≠ .nan := (FP.Core.ne_nan r).mpr (okD_nn h)
theorem f_v32 {f : UInt32} (h : okF f) : FP.Core.val32 f ≠ .nan := (FP.Core.ne_nan32 f).mpr (okF_nn h)
theorem dSg_cases (a b : UInt64) : dSg a b = -1 ∨ dSg a b = 0 ∨ dSg a b = 1 := by
  unfold dSg
  split
  · exact Or.inl rfl
  · exact Or.inr (Or.inr rfl)
  · exact Or.inr (Or.inl rfl)
theorem f_some {a b : UInt64} (ha : okD a) (hb : okD b) : ∃ o, FP.dcmp a b = some o := by
  cases h : FP.dcmp a b with
  | some o => exact ⟨o, rfl⟩
  | none =>
    rcases (FP.Core.dcmp_none a b).mp h with q | q
    · exact absurd q (f_v64 ha)
    · exact absurd q (f_v64 hb)
theorem f_cmp {a b : UInt64} (op : CmpOp) (ha : okD a) (hb : okD b) : Op.cmpValue (FP.dcmp a b) op = dSg a b := by
  obtain ⟨o, h⟩ := f_some ha hb
  unfold dSg
  rw [h]
  cases o <;> cases op <;> rfl
theorem f_key {a b : UInt64} (ha : okD a) (hb : okD b) (h : FP.Core.dkey a = FP.Core.dkey b) : a = b := by
  have ha2 := a.toNat_lt
  have hb2 := b.toNat_lt
  have za : a.toNat % 2 ^ 63 = 0 → a.toNat = 0 := fun q => by
    rcases ha with rfl | h
    · rfl
    · omega
  have zb : b.toNat % 2 ^ 63 = 0 → b.toNat = 0 := fun q => by
    rcases hb with rfl | h
    · rfl
    · omega
  apply UInt64.toNat_inj.mp
  unfold FP.Core.dkey at h
  split at h <;> split at h <;> omega
theorem f_sg0 {a b : UInt64} (ha : okD a) (hb : okD b) : dSg a b = 0 ↔ a = b := by
  obtain ⟨o, h⟩ := f_some ha hb
  constructor
  · intro q
    unfold dSg at q
    rw [h] at q
    cases o with
    | lt => exact absurd q (by decide)
    | gt => exact absurd q (by decide)
    | eq => exact f_key ha hb ((FP.Core.dcmp_eq_key (f_v64 ha) (f_v64 hb)).mp h)
  · rintro rfl
    unfold dSg
    rw [show FP.dcmp a a = some .eq from FP.Core.dcmp_self (f_v64 ha)]
theorem okD_zero : okD 0 := Or.inl rfl
theorem f_l2d (v : Int64) : okD (FP.l2d v) := by
  by_cases h : v = 0
  · subst h; exact Or.inl FP.Core.l2d_zero
  · exact Or.inr ⟨by have := (FP.Core.l2d_big (FP.Core.int64_ne h)).1; show 1021 * 2 ^ 52 ≤ (FP.Core.l2d v).toNat % 2 ^ 63; omega, Nat.le_of_lt (FP.Core.l2d_mag v)⟩
theorem f_l2f (v : Int64) : okF (FP.l2f v) := by
  by_cases h : v = 0
  · subst h; exact Or.inl FP.Core.l2f_zero
  · exact Or.inr ⟨by have := (FP.Core.l2f_big (FP.Core.int64_ne h)).1; show 125 * 2 ^ 23 ≤ (FP.Core.l2f v).toNat % 2 ^ 31; omega, Nat.le_of_lt (FP.Core.l2f_mag v)⟩
theorem f_f2dC {f : UInt32} (h : okF f) : FP.f2d f = FP.Core.f2d f := FP.f2d_core ((FP.Core.notNaN_iff32 f).mpr (f_v32 h))
theorem f_d2fC {r : UInt64} (h : okD r) : FP.d2f r = FP.Core.d2f r := FP.d2f_core ((FP.Core.notNaN_iff r).mpr (f_v64 h))
/-- a double that is no zero and no end: its parts -/
theorem nd64 {a : UInt64} (h1 : 2 ^ 52 ≤ a.toNat % 2 ^ 63) (h2 : a.toNat % 2 ^ 63 < 2047 * 2 ^ 52) : ∃ (s : Bool) (E T : Nat), 1 ≤ E ∧ E < 2047 ∧ T < 2 ^ 52 ∧ a.toNat % 2 ^ 63 = E * 2 ^ 52 + T ∧ FP.Core.val64 a = .fin s (2 ^ 52 + T) ((E : Int) - 1075) := by
  refine ⟨FP.Core.fieldS FP.Core.b64 a.toNat, a.toNat / 2 ^ 52 % 2048, a.toNat % 2 ^ 52, by omega, by omega, by omega, by omega, ?_⟩
  have t : FP.Core.b64.tails = 2 ^ 52 := FP.Core.tails_b64
  have ex : FP.Core.b64.exps = 2048 := rfl
  have qm : FP.Core.b64.qmin = -1074 := FP.Core.qmin_b64
  unfold FP.Core.val64 FP.Core.decode
  have e1 : FP.Core.fieldE FP.Core.b64 a.toNat = a.toNat / 2 ^ 52 % 2048 := by unfold FP.Core.fieldE; rw [t, ex]
  have e2 : FP.Core.fieldT FP.Core.b64 a.toNat = a.toNat % 2 ^ 52 := by unfold FP.Core.fieldT; rw [t]
  rw [e1, e2, t, ex, qm, if_neg (by omega), if_neg (by omega)]
  congr 1
  omega
theorem nd32 {a : UInt32} (h1 : 2 ^ 23 ≤ a.toNat % 2 ^ 31) (h2 : a.toNat % 2 ^ 31 < 255 * 2 ^ 23) : ∃ (s : Bool) (E T : Nat), 1 ≤ E ∧ E < 255 ∧ T < 2 ^ 23 ∧ a.toNat % 2 ^ 31 = E * 2 ^ 23 + T ∧ FP.Core.val32 a = .fin s (2 ^ 23 + T) ((E : Int) - 150) := by
  refine ⟨FP.Core.fieldS FP.Core.b32 a.toNat, a.toNat / 2 ^ 23 % 256, a.toNat % 2 ^ 23, by omega, by omega, by omega, by omega, ?_⟩
  have t : FP.Core.b32.tails = 2 ^ 23 := FP.Core.tails_b32
  have ex : FP.Core.b32.exps = 256 := rfl
  have qm : FP.Core.b32.qmin = -149 := FP.Core.qmin_b32
  unfold FP.Core.val32 FP.Core.decode
  have e1 : FP.Core.fieldE FP.Core.b32 a.toNat = a.toNat / 2 ^ 23 % 256 := by unfold FP.Core.fieldE; rw [t, ex]
  have e2 : FP.Core.fieldT FP.Core.b32 a.toNat = a.toNat % 2 ^ 23 := by unfold FP.Core.fieldT; rw [t]
  rw [e1, e2, t, ex, qm, if_neg (by omega), if_neg (by omega)]
  congr 1
  omega
theorem fit64 {s : Bool} {E T : Nat} (h1 : 1 ≤ E) (h2 : E < 2047) (hT : T < 2 ^ 52) : FP.Core.fits FP.Core.b64 (.fin s (2 ^ 52 + T) ((E : Int) - 1075)) := by
  refine ⟨?_, ?_, ?_, Or.inr ?_⟩
  · show 2 ^ 52 + T < 2 ^ 53; omega
  · rw [FP.Core.qmin_b64]; omega
  · show (E : Int) - 1075 ≤ (1023 : Int) - 53 + 1; omega
  · rw [FP.Core.tails_b64]; omega
theorem fit32 {s : Bool} {E T : Nat} (h1 : 1 ≤ E) (h2 : E < 255) (hT : T < 2 ^ 23) : FP.Core.fits FP.Core.b32 (.fin s (2 ^ 23 + T) ((E : Int) - 150)) := by
  refine ⟨?_, ?_, ?_, Or.inr ?_⟩
  · show 2 ^ 23 + T < 2 ^ 24; omega
  · rw [FP.Core.qmin_b32]; omega
  · show (E : Int) - 150 ≤ (127 : Int) - 24 + 1; omega
  · rw [FP.Core.tails_b32]; omega
theorem mag64 {a : UInt64} {s : Bool} {E T : Nat} (h1 : 1 ≤ E) (h2 : E < 2047) (hT : T < 2 ^ 52) (h : FP.Core.val64 a = .fin s (2 ^ 52 + T) ((E : Int) - 1075)) : a.toNat % 2 ^ 63 = E * 2 ^ 52 + T := by
  have hn : FP.Core.val64 a ≠ .nan := by rw [h]; exact fun q => by cases q
  have e := FP.Core.of64_val64 hn
  rw [h] at e
  have e2 := FP.Core.toNat_of64 (fit64 (s := s) h1 h2 hT)
  rw [e] at e2
  rw [e2]
  unfold FP.Core.encode
  dsimp only
  rw [if_neg (by rw [FP.Core.tails_b64]; omega)]
  unfold FP.Core.assemble
  rw [FP.Core.tails_b64, FP.Core.qmin_b64, show FP.Core.b64.exps = 2048 from rfl]
  have : ((E : Int) - 1075 - -1074).toNat = E - 1 := by omega
  rw [this]
  cases s
  · simp only [Bool.toNat_false]; omega
  · simp only [Bool.toNat_true]; omega
theorem mag32 {a : UInt32} {s : Bool} {E T : Nat} (h1 : 1 ≤ E) (h2 : E < 255) (hT : T < 2 ^ 23) (h : FP.Core.val32 a = .fin s (2 ^ 23 + T) ((E : Int) - 150)) : a.toNat % 2 ^ 31 = E * 2 ^ 23 + T := by
  have hn : FP.Core.val32 a ≠ .nan := by rw [h]; exact fun q => by cases q
  have e := FP.Core.of32_val32 hn
  rw [h] at e
  have e2 := FP.Core.toNat_of32 (fit32 (s := s) h1 h2 hT)
  rw [e] at e2
  rw [e2]
  unfold FP.Core.encode
  dsimp only
  rw [if_neg (by rw [FP.Core.tails_b32]; omega)]
  unfold FP.Core.assemble
  rw [FP.Core.tails_b32, FP.Core.qmin_b32, show FP.Core.b32.exps = 256 from rfl]
  have : ((E : Int) - 150 - -149).toNat = E - 1 := by omega
  rw [this]
  cases s
  · simp only [Bool.toNat_false]; omega
  · simp only [Bool.toNat_true]; omega
theorem ddiv4 {a : UInt64} {s : Bool} {E T : Nat} (h1 : 3 ≤ E) (h2 : E < 2047) (hT : T < 2 ^ 52) (h : FP.Core.val64 a = .fin s (2 ^ 52 + T) ((E : Int) - 1075)) : FP.Core.val64 (FP.ddiv a 4616189618054758400) = .fin s (2 ^ 52 + T) (((E - 2 : Nat) : Int) - 1075) := by
  have v4 : FP.Core.val64 4616189618054758400 = .fin false (2 ^ 52) (-50) := by decide +kernel
  rw [show FP.ddiv a 4616189618054758400 = FP.Core.ddiv a 4616189618054758400 from rfl, FP.Core.val64_ddiv, h, v4]
  unfold FP.Core.quotient
  dsimp only
  rw [if_neg (by decide), show (s != false) = s by cases s <;> rfl]
  refine FP.Core.roundRatio_exact FP.Core.good_b64 (by decide) (fit64 (by omega) (by omega) hT) ?_
  have e1 : ((E : Int) - 1075 - -50 - (((E - 2 : Nat) : Int) - 1075)).toNat = 52 := by omega
  have e2 : ((((E - 2 : Nat) : Int) - 1075) - ((E : Int) - 1075 - -50)).toNat = 0 := by omega
  rw [e1, e2]
  simp
theorem fdiv4 {a : UInt32} {s : Bool} {E T : Nat} (h1 : 3 ≤ E) (h2 : E < 255) (hT : T < 2 ^ 23) (h : FP.Core.val32 a = .fin s (2 ^ 23 + T) ((E : Int) - 150)) : FP.Core.val32 (FP.fdiv a 1082130432) = .fin s (2 ^ 23 + T) (((E - 2 : Nat) : Int) - 150) := by
  have v4 : FP.Core.val32 1082130432 = .fin false (2 ^ 23) (-21) := by decide +kernel
  rw [show FP.fdiv a 1082130432 = FP.Core.fdiv a 1082130432 from rfl, FP.Core.val32_fdiv, h, v4]
  unfold FP.Core.quotient
  dsimp only
  rw [if_neg (by decide), show (s != false) = s by cases s <;> rfl]
  refine FP.Core.roundRatio_exact FP.Core.good_b32 (by decide) (fit32 (by omega) (by omega) hT) ?_
  have e1 : ((E : Int) - 150 - -21 - (((E - 2 : Nat) : Int) - 150)).toNat = 23 := by omega
  have e2 : ((((E - 2 : Nat) : Int) - 150) - ((E : Int) - 150 - -21)).toNat = 0 := by omega
  rw [e1, e2]
  simp
theorem f_fdiv (v : Int64) : okF (FP.fdiv (FP.l2f v) 1082130432) := by
  by_cases h : v = 0
  · subst h
    left
    rw [show FP.l2f 0 = 0 from FP.Core.l2f_zero]
    decide +kernel
  · have h1 := FP.Core.l2f_big (FP.Core.int64_ne h)
    have h2 := FP.Core.l2f_mag v
    obtain ⟨s, E, T, a1, a2, a3, a4, a5⟩ := nd32 (a := FP.l2f v) (by show 2 ^ 23 ≤ (FP.Core.l2f v).toNat % 2 ^ 31; omega) (by show (FP.Core.l2f v).toNat % 2 ^ 31 < _; omega)
    have h3 : 127 * 2 ^ 23 ≤ (FP.l2f v).toNat % 2 ^ 31 := h1.1
    have h4 : (FP.l2f v).toNat % 2 ^ 31 < 192 * 2 ^ 23 := h2
    have := mag32 (by omega) (by omega) a3 (fdiv4 (by omega) a2 a3 a5)
    right
    omega
theorem f_ddiv (v : Int64) : okD (FP.ddiv (FP.l2d v) 4616189618054758400) := by
  by_cases h : v = 0
  · subst h
    left
    rw [show FP.l2d 0 = 0 from FP.Core.l2d_zero]
    decide +kernel
  · have h1 := FP.Core.l2d_big (FP.Core.int64_ne h)
    have h2 := FP.Core.l2d_mag v
    obtain ⟨s, E, T, a1, a2, a3, a4, a5⟩ := nd64 (a := FP.l2d v) (by show 2 ^ 52 ≤ (FP.Core.l2d v).toNat % 2 ^ 63; omega) (by show (FP.Core.l2d v).toNat % 2 ^ 63 < _; omega)
    have h3 : 1023 * 2 ^ 52 ≤ (FP.l2d v).toNat % 2 ^ 63 := h1.1
    have h4 : (FP.l2d v).toNat % 2 ^ 63 < 1088 * 2 ^ 52 := h2
    have := mag64 (by omega) (by omega) a3 (ddiv4 (by omega) a2 a3 a5)
    right
    omega
theorem f2dv {f : UInt32} {s : Bool} {E T : Nat} (h1 : 1 ≤ E) (h2 : E < 255) (hT : T < 2 ^ 23) (h : FP.Core.val32 f = .fin s (2 ^ 23 + T) ((E : Int) - 150)) : FP.Core.val64 (FP.Core.f2d f) = .fin s (2 ^ 52 + T * 2 ^ 29) (((E + 896 : Nat) : Int) - 1075) := by
  rw [FP.Core.val64_f2d, h]
  unfold FP.Core.round
  refine FP.Core.roundRatio_exact FP.Core.good_b64 (by decide) (fit64 (by omega) (by omega) (by omega)) ?_
  have e1 : ((E : Int) - 150 - (((E + 896 : Nat) : Int) - 1075)).toNat = 29 := by omega
  have e2 : ((((E + 896 : Nat) : Int) - 1075) - ((E : Int) - 150)).toNat = 0 := by omega
  rw [e1, e2]
  omega
theorem f_f2d {f : UInt32} (h : okF f) : okD (FP.f2d f) := by
  rw [f_f2dC h]
  rcases h with rfl | h
  · left; decide +kernel
  · obtain ⟨s, E, T, a1, a2, a3, a4, a5⟩ := nd32 (a := f) (by omega) (by omega)
    have := mag64 (by omega) (by omega) (by omega) (f2dv a1 a2 a3 a5)
    right
    omega
theorem f_d2f {r : UInt64} (h : okD r) : okF (FP.d2f r) := by
  rw [f_d2fC h]
  rcases h with rfl | h
  · left; decide +kernel
  · right
    obtain ⟨s, E, T, a1, a2, a3, a4, a5⟩ := nd64 (a := r) (by omega) (by omega)
    have hv := FP.Core.val32_d2f r
    rw [a5] at hv
    have hv2 : FP.Core.decode FP.Core.b32 (FP.Core.d2f r).toNat = FP.Core.roundRatio FP.Core.b32 s (2 ^ 52 + T) 1 ((E : Int) - 1075) := hv
    have q : FP.Core.b32.qmin = -149 := FP.Core.qmin_b32
    have eq : ((E : Int) - 1075 - -149).toNat = E - 926 := by omega
    have u1 : FP.Core.unitsOf FP.Core.b32 (192 * 2 ^ 23) = 2 ^ 23 * 2 ^ 191 := FP.Core.unitsOf_start (f := FP.Core.b32) (K := 192) (by omega)
    have u2 : FP.Core.unitsOf FP.Core.b32 (125 * 2 ^ 23) = 2 ^ 23 * 2 ^ 124 := FP.Core.unitsOf_start (f := FP.Core.b32) (K := 125) (by omega)
    have m1 : FP.Core.mag FP.Core.b32 (FP.Core.d2f r).toNat = (FP.Core.d2f r).toNat % 2 ^ 31 := FP.Core.mag_toNat32 _
    rw [← m1]
    constructor
    · refine FP.Core.mag_ge FP.Core.good_b32 hv2 (by decide) (e0 := -149) (by rw [q]; exact Int.le_refl _) (by omega) (by rw [FP.Core.infBits_b32]; omega) ?_
      rw [u2, q]
      unfold FP.Core.inUnits
      rw [eq]
      have : 2 ^ 52 * 2 ^ 95 ≤ (2 ^ 52 + T) * 2 ^ (E - 926) := Nat.mul_le_mul (by omega) (Nat.pow_le_pow_right (by decide) (by omega))
      refine Nat.le_trans ?_ this
      decide
    · refine FP.Core.mag_le FP.Core.good_b32 hv2 (by decide) (e0 := -149) (by rw [q]; exact Int.le_refl _) (by omega) ?_
      rw [u1, q]
      unfold FP.Core.inUnits
      rw [eq]
      have : (2 ^ 52 + T) * 2 ^ (E - 926) ≤ 2 ^ 214 := by
        by_cases hE : E = 1088
        · have hT : T = 0 := by omega
          rw [hE, hT]
          decide
        · have : (2 ^ 52 + T) * 2 ^ (E - 926) ≤ 2 ^ 53 * 2 ^ 161 := Nat.mul_le_mul (by omega) (Nat.pow_le_pow_right (by decide) (by omega))
          refine Nat.le_trans this ?_
          decide
      refine Nat.le_trans this ?_
      decide
theorem f_rt {f : UInt32} (h : okF f) : FP.d2f (FP.f2d f) = f := by
  rw [f_d2fC (f_f2d h), f_f2dC h]
  exact FP.Core.d2f_f2d (f_v32 h)
end
section
/-! ===== the class's cells ===== -/
theorem lg0 (v : Int64) : lg_cmp v 0 = 0 ↔ v = 0 := by
  unfold lg_cmp
  constructor
  · intro h
    split at h
    · exact absurd h (by decide)
    · split at h
      · assumption
      · exact absurd h (by decide)
  · rintro rfl; decide
theorem lg_e (a b : Int64) : lg_cmp a b = 0 ↔ a = b := by
  unfold lg_cmp
  constructor
  · intro h
    split at h
    · exact absurd h (by decide)
    · split at h
      · assumption
      · exact absurd h (by decide)
  · rintro rfl; simp
theorem lg_cases (a b : Int64) : lg_cmp a b = -1 ∨ lg_cmp a b = 0 ∨ lg_cmp a b = 1 := by
  unfold lg_cmp
  split
  · exact Or.inr (Or.inr rfl)
  · split
    · exact Or.inr (Or.inl rfl)
    · exact Or.inl rfl
theorem aLow_id (t : Int32) (v : Int64) : aLow t (aLow t v) = aLow t v := by
  unfold aLow
  by_cases h1 : t = 1
  · simp [h1]
  by_cases h2 : t = 2
  · have e : ∀ u : UInt32, u % 65536 % 65536 = u % 65536 := fun u => UInt32.toNat_inj.mp (by rw [UInt32.toNat_mod, UInt32.toNat_mod]; exact Nat.mod_mod _ _)
    simp [h2, e]
  by_cases h3 : t = 3
  · simp [h3]
  by_cases h4 : t = 4
  · simp [h4]
  simp [h1, h2, h3, h4]
def isB (t : Int32) : Prop := t = 0 ∨ t = 1 ∨ t = 2 ∨ t = 3 ∨ t = 4 ∨ t = 5 ∨ t = 6 ∨ t = 7
theorem isB_of {t : Int32} (h1 : 0 ≤ t.toInt) (h2 : t.toInt ≤ 7) : isB t := by
  have e : ∀ k : Int32, t.toInt = k.toInt → t = k := fun k q => Int32.toInt_inj.mp q
  have : t.toInt = 0 ∨ t.toInt = 1 ∨ t.toInt = 2 ∨ t.toInt = 3 ∨ t.toInt = 4 ∨ t.toInt = 5 ∨ t.toInt = 6 ∨ t.toInt = 7 := by omega
  rcases this with q | q | q | q | q | q | q | q
  · exact Or.inl (e 0 q)
  · exact Or.inr (Or.inl (e 1 q))
  · exact Or.inr (Or.inr (Or.inl (e 2 q)))
  · exact Or.inr (Or.inr (Or.inr (Or.inl (e 3 q))))
  · exact Or.inr (Or.inr (Or.inr (Or.inr (Or.inl (e 4 q)))))
  · exact Or.inr (Or.inr (Or.inr (Or.inr (Or.inr (Or.inl (e 5 q))))))
  · exact Or.inr (Or.inr (Or.inr (Or.inr (Or.inr (Or.inr (Or.inl (e 6 q)))))))
  · exact Or.inr (Or.inr (Or.inr (Or.inr (Or.inr (Or.inr (Or.inr (e 7 q)))))))
def cW (t : Int32) (v : Int64) : Int64 := if t = 0 then (if v = 0 then 0 else 1) else if t = 6 then ofF (FP.l2f v) else if t = 7 then ofD (FP.l2d v) else aLow t v
def cR (t : Int32) (r : UInt64) : Int64 := if t = 0 then (if r = 0 then 0 else 1) else if t = 5 then FP.d2l r else if t = 6 then ofF (FP.d2f r) else if t = 7 then ofD r else aLow t (FP.d2i r).toInt64
theorem ok_low {t : Int32} (h : t = 1 ∨ t = 2 ∨ t = 3 ∨ t = 4 ∨ t = 5) (v : Int64) : okC (t, aLow t v) := by
  rcases h with rfl | rfl | rfl | rfl | rfl <;> simp [okC, aLow_id]
theorem ok_b (b : Int64) (h : b = 0 ∨ b = 1) : okC (0, b) := Or.inr (Or.inl ⟨rfl, h⟩)
theorem ok_5 (v : Int64) : okC (5, v) := by simp [okC]
theorem ok_f {f : UInt32} (h : okF f) : okC (6, ofF f) := by simp [okC, bF_ofF, h]
theorem ok_d {r : UInt64} (h : okD r) : okC (7, ofD r) := by simp [okC, bD_ofD, h]
theorem ok_W {t : Int32} (h : isB t) (v : Int64) : okC (t, cW t v) := by
  unfold cW
  by_cases h0 : t = 0
  · rw [if_pos h0, h0]; apply ok_b; split <;> simp
  by_cases h6 : t = 6
  · rw [if_neg h0, if_pos h6, h6]; exact ok_f (f_l2f v)
  by_cases h7 : t = 7
  · rw [if_neg h0, if_neg h6, if_pos h7, h7]; exact ok_d (f_l2d v)
  rw [if_neg h0, if_neg h6, if_neg h7]
  exact ok_low (by unfold isB at h; simpa [h0, h6, h7] using h) v
theorem ok_R {t : Int32} (h : isB t) {r : UInt64} (hr : okD r) : okC (t, cR t r) := by
  unfold cR
  by_cases h0 : t = 0
  · rw [if_pos h0, h0]; apply ok_b; split <;> simp
  by_cases h5 : t = 5
  · rw [if_neg h0, if_pos h5, h5]; exact ok_5 _
  by_cases h6 : t = 6
  · rw [if_neg h0, if_neg h5, if_pos h6, h6]; exact ok_f (f_d2f hr)
  by_cases h7 : t = 7
  · rw [if_neg h0, if_neg h5, if_neg h6, if_pos h7, h7]; exact ok_d hr
  rw [if_neg h0, if_neg h5, if_neg h6, if_neg h7]
  exact ok_low (by unfold isB at h; simpa [h0, h5, h6, h7] using h) _
theorem ok_and1 (v : Int64) : v &&& 1 = 0 ∨ v &&& 1 = 1 := by
  have : ∀ b : BitVec 64, b &&& 1#64 = 0#64 ∨ b &&& 1#64 = 1#64 := fun b => by
    have h1 : b &&& 1#64 = BitVec.setWidth 64 (BitVec.ofBool (b.getLsbD 0)) := by
      ext i hi
      by_cases q : i = 0
      · subst q; simp
      · simp [q]
    rw [h1]
    cases b.getLsbD 0 <;> simp
  rcases this v.toBitVec with q | q
  · left; apply Int64.toBitVec_inj.mp; simpa using q
  · right; apply Int64.toBitVec_inj.mp; simpa using q
theorem ok_made {t : Int32} (h : isB t) (v : Int64) : okC (t, aMade t v) := by
  unfold aMade
  by_cases h0 : t = 0
  · rw [if_pos h0, h0]; exact ok_b _ (ok_and1 v)
  by_cases h6 : t = 6
  · rw [if_neg h0, if_pos h6, h6]; exact ok_f (f_fdiv v)
  by_cases h7 : t = 7
  · rw [if_neg h0, if_neg h6, if_pos h7, h7]; exact ok_d (f_ddiv v)
  rw [if_neg h0, if_neg h6, if_neg h7]
  exact ok_low (by unfold isB at h; simpa [h0, h6, h7] using h) v
theorem okC.val {x : aC} (h : okC x) : okD (aVal x) := by
  unfold aVal
  rcases h with h | h | h | h | h | h | h | h | h | h
  · rw [h.1]; exact f_l2d _
  · rw [h.1]; exact f_l2d _
  · rw [h.1]; exact f_l2d _
  · rw [h.1]; exact f_l2d _
  · rw [h.1]; exact f_l2d _
  · rw [h.1]; exact f_l2d _
  · rw [h]; exact f_l2d _
  · rw [h.1]; exact f_f2d h.2.2
  · rw [h.1]; exact h.2
  · rw [h.1]; exact f_l2d _
theorem okC.re {x : aC} (h : okC x) : okD (enR x) := by
  unfold enR
  split
  · exact okD_zero
  · exact h.val
/-- a cast, whole or real as the cell is -/
theorem aCast_W {x : aC} {t : Int32} (h : okC x) (hb : 0 ≤ x.1 ∧ x.1 < 6) (ht : isB t) : cW t x.2 = aCast x t := by
  obtain ⟨s, n⟩ := x
  rcases h with h | h | h | h | h | h | h | h | h | h <;> dsimp only at h hb ⊢
  · rw [h.1] at hb; exact absurd hb (by decide)
  all_goals first
    | (rw [h.1] at hb; exact absurd hb (by decide))
    | skip
  all_goals
    rcases ht with rfl | rfl | rfl | rfl | rfl | rfl | rfl | rfl
  all_goals first
    | (obtain ⟨rfl, h⟩ := h; simp [cW, aCast, aVal, aLow] at h ⊢; try (first | exact h.symm | exact h | (rcases h with rfl | rfl <;> simp)))
    | (subst h; simp [cW, aCast, aVal, aLow])
theorem aCast_R {x : aC} {t : Int32} (h : okC x) (hb : x.1 = 6 ∨ x.1 = 7) (ht : isB t) : cR t (aVal x) = aCast x t := by
  obtain ⟨s, n⟩ := x
  rcases hb with hb | hb <;> dsimp only at hb <;> subst hb
  · have h6 : ofF (bF n) = n ∧ okF (bF n) := by simpa [okC] using h
    rcases ht with rfl | rfl | rfl | rfl | rfl | rfl | rfl | rfl <;> simp [cR, aCast, aVal, aLow, f_rt h6.2, h6.1]
  · rcases ht with rfl | rfl | rfl | rfl | rfl | rfl | rfl | rfl <;> simp [cR, aCast, aVal, aLow, ofD_bD]
theorem ok_cast {x : aC} {t : Int32} (h : okC x) (hb : isB x.1) (ht : isB t) : okC (t, aCast x t) := by
  by_cases h6 : x.1 = 6 ∨ x.1 = 7
  · rw [← aCast_R h h6 ht]; exact ok_R ht h.val
  · rw [← aCast_W h (by rcases hb with q | q | q | q | q | q | q | q <;> simp_all) ht]; exact ok_W ht _
end
section
/-! ===== the class's cell methods ===== -/
theorem en_box {t : Int32} (h : isB t) (n : Int64) : enK (t, n) = t ∧ (enN (t, n) = if t = 6 ∨ t = 7 then 0 else n) ∧ (enR (t, n) = if t = 0 then 0 else aVal (t, n)) := by
  rcases h with rfl | rfl | rfl | rfl | rfl | rfl | rfl | rfl <;> simp [enK, enN, enR]
theorem c_turnWhole {d p : Nat} {t : Int32} {v : Int64} {μ : mmMem} {K : mmMem → Prop} (hd : 2 ≤ d) (hp : mmKD p = 0) (ht : isB t) (h : K (setC μ p (t, cW t v))) : mmC0 d M_X0_turnWhole false 2 [.ref p, .int t, .long v] μ K := by
  refine u_X0_turnWhole hd hp ?_
  have z : FP.dconst0 = 0 := rfl
  refine ⟨fun q => ?_, fun q => ⟨fun q6 => ?_, fun q6 => ⟨fun q7 => ?_, fun q7 => ?_⟩⟩⟩
  · obtain rfl : t = 0 := Int32.toInt_inj.mp q
    rw [lg0]
    refine ⟨fun hv => ?_, fun hv => ?_⟩ <;> simpa [setC, cW, enK, enN, enR, hv, z] using h
  · obtain rfl : t = 6 := Int32.toInt_inj.mp q6
    refine ⟨f_n64 (f_f2d (f_l2f v)), ?_⟩
    simpa [setC, cW, enK, enN, enR, aVal, bF_ofF] using h
  · obtain rfl : t = 7 := Int32.toInt_inj.mp q7
    simpa [setC, cW, enK, enN, enR, aVal, bD_ofD] using h
  · refine c_lowestBits (by omega) ?_
    have n0 : t ≠ 0 := fun e => q (by rw [e]; rfl)
    have n6 : t ≠ 6 := fun e => q6 (by rw [e]; rfl)
    have n7 : t ≠ 7 := fun e => q7 (by rw [e]; rfl)
    refine ⟨fun _ => ?_, fun e => absurd e n0⟩
    obtain ⟨e1, e2, e3⟩ := en_box ht (aLow t v)
    simpa [setC, cW, n0, n6, n7, e1, e2, e3, aVal] using h
theorem c_turnReal {d p : Nat} {t : Int32} {r : UInt64} {μ : mmMem} {K : mmMem → Prop} (hd : 2 ≤ d) (hp : mmKD p = 0) (ht : isB t) (hr : okD r) (h : K (setC μ p (t, cR t r))) : mmC0 d M_X0_turnReal false 2 [.ref p, .int t, .double r] μ K := by
  refine u_X0_turnReal hd hp ?_
  have z : FP.dconst0 = 0 := rfl
  have low : ∀ k : Int32, t = k → (k = 1 ∨ k = 2 ∨ k = 3 ∨ k = 4) → mmCJ (d - 1) M_X0_lowestBits true 2 [.int t, .long (FP.d2i r).toInt64] μ fun y ν => (¬ t = (0 : Int32) → K (sD (sJ (sI ν p 0 t) p 1 y) p 2 (FP.l2d y))) ∧ (t = (0 : Int32) → K (sD (sJ (sI ν p 0 t) p 1 y) p 2 FP.dconst0)) := by
    intro k e hk
    subst e
    refine c_lowestBits (by omega) ?_
    obtain ⟨e1, e2, e3⟩ := en_box ht (aLow t (FP.d2i r).toInt64)
    rcases hk with rfl | rfl | rfl | rfl <;> exact ⟨fun _ => by simpa [setC, cR, e1, e2, e3, aVal] using h, fun e => absurd e (by decide)⟩
  refine ⟨fun q => ?_, fun q => ?_, fun q => ?_, fun q => ?_, fun q => ?_, fun q => ?_, fun q => ?_, fun q => ?_, fun q => ?_, trivial⟩
  · exfalso
    rcases ht with rfl | rfl | rfl | rfl | rfl | rfl | rfl | rfl <;> revert q <;> decide
  · obtain rfl : t = 0 := Int32.toInt_inj.mp q
    rw [f_cmp _ hr (show okD FP.dconst0 from okD_zero), f_sg0 hr (show okD FP.dconst0 from okD_zero)]
    refine ⟨fun hv => ?_, fun hv => ?_⟩ <;> rw [z] at hv <;> simpa [setC, cR, enK, enN, enR, hv, z] using h
  · exact low 1 (Int32.toInt_inj.mp q) (by simp)
  · exact low 2 (Int32.toInt_inj.mp q) (by simp)
  · exact low 3 (Int32.toInt_inj.mp q) (by simp)
  · exact low 4 (Int32.toInt_inj.mp q) (by simp)
  · obtain rfl : t = 5 := Int32.toInt_inj.mp q
    simpa [setC, cR, enK, enN, enR, aVal] using h
  · obtain rfl : t = 6 := Int32.toInt_inj.mp q
    refine ⟨f_n32 (f_d2f hr), f_n64 (f_f2d (f_d2f hr)), ?_⟩
    simpa [setC, cR, enK, enN, enR, aVal, bF_ofF] using h
  · obtain rfl : t = 7 := Int32.toInt_inj.mp q
    simpa [setC, cR, enK, enN, enR, aVal, bD_ofD] using h
theorem c_turnInto {d p : Nat} {x : aC} {t : Int32} {μ : mmMem} {K : mmMem → Prop} (hd : 3 ≤ d) (hp : mmKD p = 0) (hx : clC μ p x) (ok : okC x) (hb : isB x.1) (ht : isB t) (h : K (setC μ p (t, aCast x t))) : mmC0 d M_X0_turnInto false 1 [.ref p, .int t] μ K := by
  refine u_X0_turnInto (by omega) hp ?_
  obtain ⟨h1, h2, h3⟩ := hx
  obtain ⟨e1, e2, e3⟩ := en_box hb x.2
  rw [show (x.1, x.2) = x from rfl] at e1 e2 e3
  rw [h1, e1]
  refine ⟨fun q => ?_, fun q => ⟨fun q7 => ?_, fun q7 => ?_⟩⟩
  · rw [h3, e3, if_neg (by rw [q]; decide)]
    exact c_turnReal (by omega) hp ht ok.val (by rw [aCast_R ok (Or.inl q) ht]; exact h)
  · rw [h2, e2, if_neg (by simp [q, q7])]
    refine c_turnWhole (by omega) hp ht ?_
    rw [aCast_W ok ?_ ht]
    · exact h
    · rcases hb with e | e | e | e | e | e | e | e <;> simp_all
  · have q8 : x.1 = 7 := Classical.byContradiction fun e => by simp_all
    rw [h3, e3, if_neg (by rw [q8]; decide)]
    exact c_turnReal (by omega) hp ht ok.val (by rw [aCast_R ok (Or.inr q8) ht]; exact h)
theorem c_make {d p : Nat} {t : Int32} {v : Int64} {μ : mmMem} {K : mmMem → Prop} (hd : 2 ≤ d) (hp : mmKD p = 0) (ht : isB t) (h : K (setC μ p (t, aMade t v))) : mmC0 d M_X0_make false 2 [.ref p, .int t, .long v] μ K := by
  refine u_X0_make hd hp ?_
  have z : FP.dconst0 = 0 := rfl
  refine ⟨fun q => ?_, fun q => ⟨fun q6 => ?_, fun q6 => ⟨fun q7 => ?_, fun q7 => ?_⟩⟩⟩
  · obtain rfl : t = 0 := Int32.toInt_inj.mp q
    simpa [setC, aMade, enK, enN, enR, z] using h
  · obtain rfl : t = 6 := Int32.toInt_inj.mp q6
    refine ⟨f_n32 (f_fdiv v), f_n64 (f_f2d (f_fdiv v)), ?_⟩
    simpa [setC, aMade, enK, enN, enR, aVal, bF_ofF] using h
  · obtain rfl : t = 7 := Int32.toInt_inj.mp q7
    refine ⟨f_n64 (f_ddiv v), ?_⟩
    simpa [setC, aMade, enK, enN, enR, aVal, bD_ofD] using h
  · refine c_lowestBits (by omega) ?_
    have n0 : t ≠ 0 := fun e => q (by rw [e]; rfl)
    have n6 : t ≠ 6 := fun e => q6 (by rw [e]; rfl)
    have n7 : t ≠ 7 := fun e => q7 (by rw [e]; rfl)
    refine ⟨fun _ => ?_, fun e => absurd e n0⟩
    obtain ⟨e1, e2, e3⟩ := en_box ht (aLow t v)
    simpa [setC, aMade, n0, n6, n7, e1, e2, e3, aVal] using h
theorem en_inj {x y : aC} (hx : okC x) (hy : okC y) (h1 : enK x = enK y) (h2 : enN x = enN y) (h3 : enR x = enR y) : x = y := by
  obtain ⟨s, n⟩ := x
  obtain ⟨s', n'⟩ := y
  have hs : s = s' := by
    unfold enK at h1
    dsimp only at h1
    have c1 := hx.cases
    have c2 := hy.cases
    dsimp only at c1 c2
    by_cases a8 : s = 8
    · by_cases b8 : s' = 8
      · rw [a8, b8]
      · rw [if_pos a8, if_neg b8] at h1
        rw [← h1] at c2
        exact absurd c2 (by decide)
    · by_cases b8 : s' = 8
      · rw [if_neg a8, if_pos b8] at h1
        rw [h1] at c1
        exact absurd c1 (by decide)
      · rw [if_neg a8, if_neg b8] at h1
        exact h1
  subst hs
  by_cases h6 : s = 6
  · subst h6
    simp [enR, aVal] at h3
    have a1 : ofF (bF n) = n ∧ okF (bF n) := by simpa [okC] using hx
    have a2 : ofF (bF n') = n' ∧ okF (bF n') := by simpa [okC] using hy
    have := congrArg FP.d2f h3
    rw [f_rt a1.2, f_rt a2.2] at this
    rw [← a1.1, ← a2.1, this]
  · by_cases h7 : s = 7
    · subst h7
      simp [enR, aVal] at h3
      rw [← ofD_bD n, ← ofD_bD n', h3]
    · simp [enN, h6, h7] at h2
      rw [h2]
theorem c_isSame {d p q : Nat} {x y : aC} {μ : mmMem} {K : Int32 → mmMem → Prop} (hd : 1 ≤ d) (hp : mmKD p = 0) (hq : mmKD q = 0) (hx : clC μ p x) (hy : clC μ q y) (okx : okC x) (oky : okC y) (h : K (if x = y then 1 else 0) μ) : mmCI d M_X0_isSame false 1 [.ref p, .ref q] μ K := by
  refine u_X0_isSame hd hp hq ?_
  rw [hx.1, hy.1, hx.2.1, hy.2.1, hx.2.2, hy.2.2, lg_e, f_cmp _ okx.re oky.re, f_sg0 okx.re oky.re]
  refine ⟨fun e => ?_, fun e => ⟨fun e2 => ?_, fun e2 => ⟨fun e3 => ?_, fun e3 => ?_⟩⟩⟩
  · rwa [if_neg (fun w => e (by rw [w]))] at h
  · rwa [if_neg (fun w => e2 (by rw [w]))] at h
  · rwa [if_neg (fun w => e3 (by rw [w]))] at h
  · rwa [if_pos (en_inj okx oky e e2 e3)] at h
end
section
/-! ===== rank and worth, in the class ===== -/
def aPl (x : aC) : Int64 := if x.1 = 8 then (aW x.2).toInt64 else enN x
theorem wd_pl : ∀ i, i < 703 → 1 ≤ i → (∃ k, k < 2000 ∧ aW (Int64.ofNat i) = Int32.ofNat k) ∧
    (if 0 < lg_cmp (Int64.ofNat i) 26 then ((Int64.ofNat i - 27) / 26) * 27 + ((Int64.ofNat i - 27) - (Int64.ofNat i - 27) / 26 * 26) + 1 else (Int64.ofNat i - 1) * 27) = (aW (Int64.ofNat i)).toInt64 := by
  have h : (List.range 703).all (fun i => decide (1 ≤ i → (Int32.ofNat (aW (Int64.ofNat i)).toNatClampNeg = aW (Int64.ofNat i) ∧ (aW (Int64.ofNat i)).toNatClampNeg < 2000) ∧
    (if 0 < lg_cmp (Int64.ofNat i) 26 then ((Int64.ofNat i - 27) / 26) * 27 + ((Int64.ofNat i - 27) - (Int64.ofNat i - 27) / 26 * 26) + 1 else (Int64.ofNat i - 1) * 27) = (aW (Int64.ofNat i)).toInt64)) = true := by decide +kernel
  intro i hi h1
  have h2 := of_decide_eq_true (List.all_eq_true.mp h i (List.mem_range.mpr hi)) h1
  exact ⟨⟨_, h2.1.2, h2.1.1.symm⟩, h2.2⟩
theorem wd_of {n : Int64} (h1 : 1 ≤ n) (h2 : n ≤ 702) : ∃ i, i < 703 ∧ 1 ≤ i ∧ n = Int64.ofNat i := by
  rw [Int64.le_iff_toInt_le] at h1 h2
  have e1 : (1 : Int64).toInt = 1 := rfl
  have e2 : (702 : Int64).toInt = 702 := rfl
  rw [e1] at h1
  rw [e2] at h2
  refine ⟨n.toInt.toNat, by omega, by omega, ?_⟩
  apply Int64.toInt_inj.mp
  rw [lg_ofNat_toInt (by omega)]
  omega
theorem c_place {d p : Nat} {x : aC} {μ : mmMem} {K : Int64 → mmMem → Prop} (hd : 1 ≤ d) (hp : mmKD p = 0) (hx : clC μ p x) (ok : okC x) (h : K (aPl x) μ) : mmCJ d M_X0_place false 0 [.ref p] μ K := by
  refine u_X0_place hd hp ?_
  rw [hx.1, hx.2.1]
  by_cases h8 : x.1 = 8
  · have hw : 1 ≤ x.2 ∧ x.2 ≤ 702 := by
      rcases ok with q | q | q | q | q | q | q | q | q | q
      all_goals first | exact q.2 | skip
      all_goals (exfalso; revert q; rw [h8]; first | (rintro ⟨q, -⟩; revert q; decide) | decide)
    obtain ⟨i, hi, hi1, e⟩ := wd_of hw.1 hw.2
    have := (wd_pl i hi hi1).2
    have e1 : enK x = 10 := by simp [enK, h8]
    have e2 : enN x = x.2 := by simp [enN, h8]
    have e3 : aPl x = (aW x.2).toInt64 := by simp [aPl, h8]
    rw [e1, e2]
    rw [e3, e] at h
    rw [e]
    refine ⟨fun _ => ⟨fun q => ?_, fun q => ?_⟩, fun q => absurd rfl q⟩
    · rw [if_pos q] at this; rw [this]; exact h
    · rw [if_neg q] at this; rw [this]; exact h
  · have e1 : enK x ≠ 10 := by
      have := ok.cases
      unfold enK
      rw [if_neg h8]
      rcases this with q | q | q | q | q | q | q | q | q | q <;> rw [q] <;> decide
    have e3 : aPl x = enN x := by simp [aPl, h8]
    rw [e3] at h
    exact ⟨fun q => absurd q e1, fun _ => h⟩
/-- an answer of the sign of another -/
def sgEq (r q : Int32) : Prop := (r < 0 ↔ q < 0) ∧ (r = 0 ↔ q = 0)
theorem sgEq.refl (r : Int32) : sgEq r r := ⟨Iff.rfl, Iff.rfl⟩
theorem lcmp3 {K : Int32 → mmMem → Prop} {a b : Int64} {μ : mmMem} (h : K (lg_cmp a b) μ) : ((0 : Int32) ≤ lg_cmp a b → (¬ lg_cmp a b = 0 → K 1 μ) ∧ (lg_cmp a b = 0 → K 0 μ)) ∧ (¬ (0 : Int32) ≤ lg_cmp a b → K (-1) μ) := by
  rcases lg_cases a b with q | q | q <;> rw [q] at h ⊢
  · exact ⟨fun e => absurd e (by decide), fun _ => h⟩
  · exact ⟨fun _ => ⟨fun e => absurd rfl e, fun _ => h⟩, fun e => absurd (by decide) e⟩
  · exact ⟨fun _ => ⟨fun _ => h, fun e => absurd e (by decide)⟩, fun e => absurd (by decide) e⟩
theorem wd_sg {a b : Int64} (ha : 1 ≤ a ∧ a ≤ 702) (hb : 1 ≤ b ∧ b ≤ 702) : lg_cmp (aW a).toInt64 (aW b).toInt64 = sg (aW a - aW b) := by
  obtain ⟨i, hi, hi1, rfl⟩ := wd_of ha.1 ha.2
  obtain ⟨j, hj, hj1, rfl⟩ := wd_of hb.1 hb.2
  obtain ⟨⟨k, hk, ek⟩, -⟩ := wd_pl i hi hi1
  obtain ⟨⟨l, hl, el⟩, -⟩ := wd_pl j hj hj1
  rw [ek, el]
  have t1 : (Int32.ofNat k).toInt = k := Int32.toInt_ofNat_of_lt (by omega)
  have t2 : (Int32.ofNat l).toInt = l := Int32.toInt_ofNat_of_lt (by omega)
  have s1 : (Int32.ofNat k).toInt64.toInt = k := by rw [Int32.toInt_toInt64, t1]
  have s2 : (Int32.ofNat l).toInt64.toInt = l := by rw [Int32.toInt_toInt64, t2]
  have s3 : (Int32.ofNat k - Int32.ofNat l).toInt = (k : Int) - l := by
    rw [Int32.toInt_sub, t1, t2, Int.bmod_eq_of_le (by omega) (by omega)]
  unfold lg_cmp sg
  rcases Nat.lt_trichotomy k l with q | q | q
  · rw [if_neg (by rw [gt_iff_lt, Int64.lt_iff_toInt_lt, s1, s2]; omega), if_neg (by rw [← Int64.toInt_inj, s1, s2]; omega), if_pos (by rw [Int32.lt_iff_toInt_lt, s3]; show _ < (0 : Int); omega)]
  · subst q
    rw [if_neg (by rw [gt_iff_lt, Int64.lt_iff_toInt_lt]; omega), if_pos rfl, if_neg (by rw [Int32.lt_iff_toInt_lt, s3]; show ¬ _ < (0 : Int); omega), if_pos (by rw [← Int32.toInt_inj, s3]; show _ = (0 : Int); omega)]
  · rw [if_pos (by rw [gt_iff_lt, Int64.lt_iff_toInt_lt, s1, s2]; omega), if_neg (by rw [Int32.lt_iff_toInt_lt, s3]; show ¬ _ < (0 : Int); omega), if_neg (by rw [← Int32.toInt_inj, s3]; show ¬ _ = (0 : Int); omega)]
theorem sg_sgEq (x : Int32) : sgEq (sg x) x := by
  unfold sgEq sg
  split
  · rename_i h
    exact ⟨⟨fun _ => h, fun _ => by decide⟩, ⟨fun q => absurd q (by decide), fun q => by rw [q] at h; exact absurd h (by decide)⟩⟩
  · rename_i h
    split
    · rename_i h2; exact ⟨⟨fun q => absurd q (by decide), fun q => absurd q h⟩, ⟨fun _ => h2, fun _ => rfl⟩⟩
    · rename_i h2; exact ⟨⟨fun q => absurd q (by decide), fun q => absurd q h⟩, ⟨fun q => absurd q (by decide), fun q => absurd q h2⟩⟩
theorem okC.word {x : aC} (ok : okC x) (h8 : x.1 = 8) : 1 ≤ x.2 ∧ x.2 ≤ 702 := by
  rcases ok with q | q | q | q | q | q | q | q | q | q
  all_goals first | exact q.2 | skip
  all_goals (exfalso; revert q; rw [h8]; first | (rintro ⟨q, -⟩; revert q; decide) | decide)
theorem fam_eq {x y : aC} (okx : okC x) (oky : okC y) (h : aFam x = aFam y) : (x.1 = -1 ∧ y.1 = -1) ∨ (x.1 = 0 ∧ y.1 = 0) ∨ (x.1 = 8 ∧ y.1 = 8) ∨ (aFam x = 1 ∧ aFam y = 1 ∧ isB x.1 ∧ isB y.1 ∧ x.1 ≠ 0 ∧ y.1 ≠ 0) := by
  unfold aFam at h ⊢
  rcases okx.cases with q | q | q | q | q | q | q | q | q | q <;> rcases oky.cases with q' | q' | q' | q' | q' | q' | q' | q' | q' | q' <;> rw [q, q'] at h ⊢ <;> first | (exact absurd h (by decide)) | (simp [isB])
end
section
theorem fam_c (x : aC) : aFam x = 0 ∨ aFam x = 1 ∨ aFam x = 2 ∨ aFam x = 3 := by
  unfold aFam
  split
  · simp
  · split
    · simp
    · split <;> simp
theorem c_rank {d p q : Nat} {x y : aC} {μ : mmMem} {K : Int32 → mmMem → Prop} (hd : 3 ≤ d) (hp : mmKD p = 0) (hq : mmKD q = 0) (hx : clC μ p x) (hy : clC μ q y) (okx : okC x) (oky : okC y) (h : ∀ r, sgEq r (aRank x y) → K r μ) : mmCI d M_X0_rankAgainst false 1 [.ref p, .ref q] μ K := by
  refine u_X0_rankAgainst (by omega) hp hq ?_
  refine c_family (by omega) hp hx okx ?_
  refine c_family (by omega) hq hy oky ?_
  refine ⟨fun f => ?_, fun f => ?_⟩
  · rw [hx.2.2, hy.2.2, f_cmp _ okx.re oky.re, f_cmp _ okx.re oky.re]
    rcases fam_eq okx oky f with w | w | w | w
    · have e1 : enR x = enR y := by simp [enR, w.1, w.2]
      have e2 : aFam x ≠ 1 := by unfold aFam; rw [w.1]; decide
      rw [(f_sg0 okx.re oky.re).mpr e1]
      refine ⟨fun _ => ?_, fun e => absurd rfl e⟩
      refine c_isNumber (by omega) hp hx okx ?_
      rw [if_neg e2]
      refine ⟨fun _ => ?_, fun e => absurd rfl e⟩
      refine c_place (by omega) hp hx okx ?_
      refine c_place (by omega) hq hy oky ?_
      refine lcmp3 (h _ ?_)
      have z1 : x.2 = 0 := by
        rcases okx with v | v | v | v | v | v | v | v | v | v
        · exact v.2
        all_goals (exfalso; rw [w.1] at v; revert v; first | (rintro ⟨v, -⟩; revert v; decide) | decide)
      have z2 : y.2 = 0 := by
        rcases oky with v | v | v | v | v | v | v | v | v | v
        · exact v.2
        all_goals (exfalso; rw [w.2] at v; revert v; first | (rintro ⟨v, -⟩; revert v; decide) | decide)
      have : lg_cmp (aPl x) (aPl y) = aRank x y := by simp [aPl, aRank, enN, w.1, w.2, z1, z2, f, lg_cmp]
      rw [this]; exact sgEq.refl _
    · have e1 : enR x = enR y := by simp [enR, w.1, w.2]
      have e2 : aFam x ≠ 1 := by unfold aFam; rw [w.1]; decide
      rw [(f_sg0 okx.re oky.re).mpr e1]
      refine ⟨fun _ => ?_, fun e => absurd rfl e⟩
      refine c_isNumber (by omega) hp hx okx ?_
      rw [if_neg e2]
      refine ⟨fun _ => ?_, fun e => absurd rfl e⟩
      refine c_place (by omega) hp hx okx ?_
      refine c_place (by omega) hq hy oky ?_
      refine lcmp3 (h _ ?_)
      have : lg_cmp (aPl x) (aPl y) = aRank x y := by simp [aPl, aRank, enN, w.1, w.2, f]
      rw [this]; exact sgEq.refl _
    · have e1 : enR x = enR y := by simp [enR, w.1, w.2]
      have e2 : aFam x ≠ 1 := by unfold aFam; rw [w.1]; decide
      rw [(f_sg0 okx.re oky.re).mpr e1]
      refine ⟨fun _ => ?_, fun e => absurd rfl e⟩
      refine c_isNumber (by omega) hp hx okx ?_
      rw [if_neg e2]
      refine ⟨fun _ => ?_, fun e => absurd rfl e⟩
      refine c_place (by omega) hp hx okx ?_
      refine c_place (by omega) hq hy oky ?_
      refine lcmp3 (h _ ?_)
      have : lg_cmp (aPl x) (aPl y) = sg (aRank x y) := by
        have h2 := wd_sg (okx.word w.1) (oky.word w.2)
        simp only [aPl, w.1, w.2, if_true]
        rw [h2]
        simp [aRank, f, w.1]
      rw [this]; exact sg_sgEq _
    · obtain ⟨f1, f2, b1, b2, n1, n2⟩ := w
      have e1 : enR x = aVal x := by
        unfold enR; rw [if_neg]; unfold aFam at f1; intro w; rcases w with w | w | w <;> rw [w] at f1 <;> exact absurd f1 (by decide)
      have e2 : enR y = aVal y := by
        unfold enR; rw [if_neg]; unfold aFam at f2; intro w; rcases w with w | w | w <;> rw [w] at f2 <;> exact absurd f2 (by decide)
      have n8 : x.1 ≠ 8 := by rcases b1 with v | v | v | v | v | v | v | v <;> rw [v] <;> decide
      have nm : x.1 ≠ -1 := by rcases b1 with v | v | v | v | v | v | v | v <;> rw [v] <;> decide
      have hr : aRank x y = if dSg (aVal x) (aVal y) ≠ 0 then dSg (aVal x) (aVal y) else if x.1 ≠ y.1 then x.1 - y.1 else lg_cmp x.2 y.2 := by
        unfold aRank
        rw [if_neg (fun e => e f), if_neg nm, if_neg n8]
        simp only [n1, ne_eq, not_false_eq_true, true_and]
      rw [e1, e2]
      by_cases z : dSg (aVal x) (aVal y) = 0
      · rw [z]
        refine ⟨fun _ => ?_, fun e => absurd rfl e⟩
        refine c_isNumber (by omega) hp hx okx ?_
        rw [if_pos f1]
        refine ⟨fun e => absurd e (by decide), fun _ => ?_⟩
        rw [hx.1, hy.1, show enK x = x.1 by simp [enK, n8], show enK y = y.1 by rcases b2 with v | v | v | v | v | v | v | v <;> simp [enK, v]]
        refine ⟨fun k => ?_, fun k => ?_⟩
        · refine c_place (by omega) hp hx okx ?_
          refine c_place (by omega) hq hy oky ?_
          refine lcmp3 (h _ ?_)
          have e3 : enR x = enR y := by rw [e1, e2]; exact (f_sg0 okx.val oky.val).mp z
          by_cases h67 : x.1 = 6 ∨ x.1 = 7
          · have exy : x = y := en_inj okx oky (by simp [enK, k]) (by simp [enN, ← k, h67]) e3
            rw [hr, exy]
            have : lg_cmp (aPl y) (aPl y) = 0 := (lg_e _ _).mpr rfl
            rw [this, if_neg (by rw [(f_sg0 oky.val oky.val).mpr rfl]; exact fun e => e rfl), if_neg (fun e => e rfl), (lg_e _ _).mpr rfl]
            exact sgEq.refl _
          · have p1 : aPl x = x.2 := by simp [aPl, n8, enN, h67]
            have p2 : aPl y = y.2 := by simp [aPl, ← k, n8, enN, h67]
            rw [hr, p1, p2, if_neg (fun e => e z), if_neg (fun e => e k)]
            exact sgEq.refl _
        · have hr2 : aRank x y = x.1 - y.1 := by rw [hr, if_neg (fun e => e z), if_pos k]
          refine ⟨fun l => h _ ?_, fun l => h _ ?_⟩ <;> rw [hr2] <;> revert k l <;> rcases b1 with v | v | v | v | v | v | v | v <;> rcases b2 with v' | v' | v' | v' | v' | v' | v' | v' <;> rw [v, v'] <;> unfold sgEq <;> decide
      · refine ⟨fun e => absurd e z, fun _ => ?_⟩
        have hr2 : aRank x y = dSg (aVal x) (aVal y) := by rw [hr, if_pos z]
        rcases dSg_cases (aVal x) (aVal y) with v | v | v
        · rw [v] at hr2 ⊢
          exact ⟨fun e => absurd e (by decide), fun _ => h _ (by rw [hr2]; exact sgEq.refl _)⟩
        · exact absurd v z
        · rw [v] at hr2 ⊢
          exact ⟨fun _ => h _ (by rw [hr2]; exact sgEq.refl _), fun e => absurd (by decide) e⟩
  · refine c_family (by omega) hp hx okx ?_
    refine c_family (by omega) hq hy oky ?_
    have hr : aRank x y = aFam x - aFam y := by unfold aRank; rw [if_pos f]
    have c1 := fam_c x
    have c2 := fam_c y
    refine ⟨fun l => ⟨fun _ => h _ ?_, fun e => absurd e f⟩, fun l => h _ ?_⟩ <;> rw [hr] <;> revert f l <;> rcases c1 with v | v | v | v <;> rcases c2 with v' | v' | v' | v' <;> rw [v, v'] <;> unfold sgEq <;> decide
end
section
/-! ===== the number of a cell: the bits of a real by halving ===== -/
theorem wb_tb (n : Nat) : (lN n).toBitVec = BitVec.ofNat 64 n := rfl
theorem wb_inj {a b : Int64} (h : a.toBitVec = b.toBitVec) : a = b := Int64.toBitVec_inj.mp h
theorem wb_c : ∀ k, k < 64 → ((nI k).toInt64 &&& 63) = lN k := by decide +kernel
theorem wb_sm : ∀ k, k < 64 → (BitVec.ofNat 64 k).smod 64 = BitVec.ofNat 64 k := by decide +kernel
theorem wb_shl (n : Nat) {k : Nat} (hk : k < 64) : lN n <<< ((nI k).toInt64 &&& 63) = lN (n * 2 ^ k) := by
  rw [wb_c k hk]
  apply wb_inj
  rw [Int64.toBitVec_shiftLeft, wb_tb, wb_tb, wb_tb, wb_sm k hk]
  apply BitVec.eq_of_toNat_eq
  rw [BitVec.shiftLeft_eq', BitVec.toNat_shiftLeft, BitVec.toNat_ofNat, BitVec.toNat_ofNat, BitVec.toNat_ofNat, Nat.mod_eq_of_lt (show k < 2 ^ 64 by omega), Nat.shiftLeft_eq, Nat.mul_mod, Nat.mod_mod, ← Nat.mul_mod]
theorem u_tn {n : Nat} (h : n < 2 ^ 64) : (UInt64.ofNat n).toNat = n := Nat.mod_eq_of_lt h
theorem g_or {k p a b : Nat} (hp : 2 ^ k = p) (ha : a < p) (h : b * p + a < 2 ^ 64) : lN (b * p) ||| lN a = lN (b * p + a) := by
  subst hp
  have h1 : b * 2 ^ k ||| a = b * 2 ^ k + a := by rw [← Nat.shiftLeft_eq, Nat.shiftLeft_add_eq_or_of_lt ha]
  have h3 : UInt64.ofNat (b * 2 ^ k) ||| UInt64.ofNat a = UInt64.ofNat (b * 2 ^ k + a) := UInt64.toNat_inj.mp (by rw [UInt64.toNat_or, u_tn (by omega), u_tn (by omega), u_tn h, h1])
  have h2 := congrArg UInt64.toInt64 h3
  exact h2
theorem f_cmpN {a b : UInt64} (op : CmpOp) (ha : FP.Core.val64 a ≠ .nan) (hb : FP.Core.val64 b ≠ .nan) : Op.cmpValue (FP.dcmp a b) op = dSg a b := by
  cases h : FP.dcmp a b with
  | none =>
    rcases (FP.Core.dcmp_none a b).mp h with q | q
    · exact absurd q ha
    · exact absurd q hb
  | some o =>
    unfold dSg
    rw [h]
    cases o <;> cases op <;> rfl
theorem dSg_key {a b : UInt64} (ha : FP.Core.val64 a ≠ .nan) (hb : FP.Core.val64 b ≠ .nan) : (dSg a b < 0 ↔ FP.Core.dkey a < FP.Core.dkey b) ∧ (dSg a b = 0 ↔ FP.Core.dkey a = FP.Core.dkey b) := by
  have h1 := FP.Core.dcmp_lt_key ha hb
  have h2 := FP.Core.dcmp_eq_key ha hb
  cases h : FP.dcmp a b with
  | none =>
    rcases (FP.Core.dcmp_none a b).mp h with q | q
    · exact absurd q ha
    · exact absurd q hb
  | some o =>
    rw [show FP.Core.dcmp a b = some o from h] at h1 h2
    unfold dSg
    rw [h]
    cases o with
    | lt => exact ⟨⟨fun _ => h1.mp rfl, fun _ => by decide⟩, ⟨fun q => absurd q (by decide), fun q => absurd (h2.mpr q) (by simp)⟩⟩
    | eq => exact ⟨⟨fun q => absurd q (by decide), fun q => absurd (h1.mpr q) (by simp)⟩, ⟨fun _ => h2.mp rfl, fun _ => rfl⟩⟩
    | gt => exact ⟨⟨fun q => absurd q (by decide), fun q => absurd (h1.mpr q) (by simp)⟩, ⟨fun q => absurd q (by decide), fun q => absurd (h2.mpr q) (by simp)⟩⟩
def okW (r : UInt64) : Prop := r = 0 ∨ (2 ^ 52 ≤ r.toNat % 2 ^ 63 ∧ r.toNat % 2 ^ 63 < 2047 * 2 ^ 52)
theorem okD.W {r : UInt64} (h : okD r) : okW r := by
  rcases h with h | h
  · exact Or.inl h
  · exact Or.inr (by omega)
/-- a double above 0, by its parts -/
def pd (E T : Nat) : UInt64 := UInt64.ofNat (E * 2 ^ 52 + T)
theorem pd_n {E T : Nat} (hE : E < 2047) (hT : T < 2 ^ 52) : (pd E T).toNat = E * 2 ^ 52 + T := u_tn (by omega)
theorem pd_val {E T : Nat} (h1 : 1 ≤ E) (hE : E < 2047) (hT : T < 2 ^ 52) : FP.Core.val64 (pd E T) = .fin false (2 ^ 52 + T) ((E : Int) - 1075) := by
  have hn := pd_n hE hT
  obtain ⟨s, E', T', a1, a2, a3, a4, a5⟩ := nd64 (a := pd E T) (by omega) (by omega)
  have e1 : E' = E := by omega
  have e2 : T' = T := by omega
  subst e1
  subst e2
  have hs := FP.Core.sgn_bits (a := pd E' T') (by rw [a5]; exact fun q => by cases q)
  rw [a5] at hs
  have : s = false := by
    have e : FP.Core.sgn (.fin s (2 ^ 52 + T') ((E' : Int) - 1075)) = s := rfl
    rw [e] at hs
    rw [hs, decide_eq_false_iff_not]
    omega
  rw [a5, this]
theorem pd_nn {E T : Nat} (h1 : 1 ≤ E) (hE : E < 2047) (hT : T < 2 ^ 52) : FP.Core.val64 (pd E T) ≠ .nan := by rw [pd_val h1 hE hT]; exact fun q => by cases q
theorem pd_key {E T : Nat} (hE : E < 2047) (hT : T < 2 ^ 52) : FP.Core.dkey (pd E T) = ((E * 2 ^ 52 + T : Nat) : Int) := by
  unfold FP.Core.dkey
  rw [pd_n hE hT, if_neg (by omega)]
theorem pd_two : (4611686018427387904 : UInt64) = pd 1024 0 := by decide +kernel
theorem pd_one : FP.dconst1 = pd 1023 0 := by decide +kernel
theorem pd_ddiv {E T : Nat} (h1 : 2 ≤ E) (hE : E < 2047) (hT : T < 2 ^ 52) : FP.ddiv (pd E T) 4611686018427387904 = pd (E - 1) T := by
  refine FP.Core.val64_inj ?_ ?_
  all_goals
    have v2 : FP.Core.val64 4611686018427387904 = .fin false (2 ^ 52) (-51) := by decide +kernel
    have hv : FP.Core.val64 (FP.Core.ddiv (pd E T) 4611686018427387904) = .fin false (2 ^ 52 + T) (((E - 1 : Nat) : Int) - 1075) := by
      rw [FP.Core.val64_ddiv, pd_val (by omega) hE hT, v2]
      unfold FP.Core.quotient
      dsimp only
      rw [if_neg (by decide)]
      refine FP.Core.roundRatio_exact FP.Core.good_b64 (by decide) (fit64 (by omega) (by omega) hT) ?_
      have e1 : ((E : Int) - 1075 - -51 - (((E - 1 : Nat) : Int) - 1075)).toNat = 52 := by omega
      have e2 : ((((E - 1 : Nat) : Int) - 1075) - ((E : Int) - 1075 - -51)).toNat = 0 := by omega
      rw [e1, e2]
      simp
  · show FP.Core.val64 (FP.Core.ddiv (pd E T) 4611686018427387904) ≠ .nan
    rw [hv]; exact fun q => by cases q
  · show FP.Core.val64 (FP.Core.ddiv (pd E T) 4611686018427387904) = _
    rw [hv, pd_val (by omega) (by omega) hT]
theorem pd_dmul {E T : Nat} (h1 : 1 ≤ E) (hE : E + 1 < 2047) (hT : T < 2 ^ 52) : FP.dmul (pd E T) 4611686018427387904 = pd (E + 1) T := by
  refine FP.Core.val64_inj ?_ ?_
  all_goals
    have v2 : FP.Core.val64 4611686018427387904 = .fin false (2 ^ 52) (-51) := by decide +kernel
    have hv : FP.Core.val64 (FP.Core.dmul (pd E T) 4611686018427387904) = .fin false (2 ^ 52 + T) (((E + 1 : Nat) : Int) - 1075) := by
      rw [FP.Core.val64_dmul, pd_val (by omega) (by omega) hT, v2]
      unfold FP.Core.exactProduct FP.Core.round
      dsimp only
      refine FP.Core.roundRatio_exact FP.Core.good_b64 (by decide) (fit64 (by omega) (by omega) hT) ?_
      have e1 : ((E : Int) - 1075 + -51 - (((E + 1 : Nat) : Int) - 1075)).toNat = 0 := by omega
      have e2 : ((((E + 1 : Nat) : Int) - 1075) - ((E : Int) - 1075 + -51)).toNat = 52 := by omega
      rw [e1, e2]
      simp
  · show FP.Core.val64 (FP.Core.dmul (pd E T) 4611686018427387904) ≠ .nan
    rw [hv]; exact fun q => by cases q
  · show FP.Core.val64 (FP.Core.dmul (pd E T) 4611686018427387904) = _
    rw [hv, pd_val (by omega) (by omega) hT]
theorem nan_of {r : UInt64} (h : FP.Core.val64 r ≠ .nan) : vf_n64 r := f_n64' ((FP.Core.ne_nan r).mp h)
/-- what lies above 1 -/
theorem fr_D {T : Nat} (hT : T < 2 ^ 52) : ∃ c q, FP.Core.val64 (FP.dsub (pd 1023 T) FP.dconst1) = .fin false c q ∧ -1074 ≤ q ∧ c * 2 ^ (q + 1074).toNat = T * 2 ^ 1022 := by
  have v1 : FP.Core.val64 FP.dconst1 = .fin false (2 ^ 52) (-52) := FP.Core.val64_dconst1
  have hv : FP.Core.val64 (FP.dsub (pd 1023 T) FP.dconst1) = FP.Core.round FP.Core.b64 (.fin false T (-52)) := by
    rw [show FP.dsub (pd 1023 T) FP.dconst1 = FP.Core.dsub (pd 1023 T) FP.dconst1 from rfl, FP.Core.val64_dsub, pd_val (by decide) (by decide) hT, v1]
    congr 1
    unfold FP.Core.negate FP.Core.exactSum
    dsimp only
    have em : min (((1023 : Nat) : Int) - 1075) (-52) = -52 := by decide
    rw [em]
    have su : FP.Core.sumUnits false (2 ^ 52 + T) (((1023 : Nat) : Int) - 1075) (!false) (2 ^ 52) (-52) (-52) = (T : Int) := by
      unfold FP.Core.sumUnits FP.Core.inUnits FP.Core.signed
      have e1 : (((1023 : Nat) : Int) - 1075 - -52).toNat = 0 := by decide
      have e2 : ((-52 : Int) - -52).toNat = 0 := by decide
      rw [e1, e2]
      simp
      omega
    rw [su]
    have ss : FP.Core.sumSign false (!false) (T : Int) = false := by
      unfold FP.Core.sumSign
      split
      · rfl
      · rw [decide_eq_false_iff_not]; omega
    rw [ss]
    simp
  have hq : FP.Core.b64.qmin = -1074 := FP.Core.qmin_b64
  obtain ⟨c, q, e1, e2⟩ := FP.Core.round_exact FP.Core.good_b64 false (c := T) (q := -52) (show T < 2 ^ 53 by omega) (by rw [hq]; decide) (by decide)
  have fit := FP.Core.val64_fits (FP.dsub (pd 1023 T) FP.dconst1)
  rw [hv, e1] at fit
  refine ⟨c, q, by rw [hv, e1], by have := fit.2.1; rw [hq] at this; exact this, ?_⟩
  unfold FP.Core.inUnits at e2
  rw [hq] at e2
  have e3 : (q - -1074).toNat = (q + 1074).toNat := by congr 1
  rw [e3] at e2
  rw [e2]
  rfl
theorem fr_F {T : Nat} (hT : T < 2 ^ 52) {L : UInt64} {e : Int} (hL : FP.Core.val64 L = .fin false (2 ^ 52) e) (he : -1074 ≤ e) (he2 : e ≤ 0) : ∃ c q, FP.Core.val64 (FP.dmul (FP.dsub (pd 1023 T) FP.dconst1) L) = .fin false c q ∧ -1074 ≤ q ∧ c * 2 ^ (q + 1074).toNat = T * 2 ^ (e + 1074).toNat := by
  obtain ⟨c, q, h1, h2, h3⟩ := fr_D hT
  have hq : FP.Core.b64.qmin = -1074 := FP.Core.qmin_b64
  have hv : FP.Core.val64 (FP.dmul (FP.dsub (pd 1023 T) FP.dconst1) L) = FP.Core.round FP.Core.b64 (.fin false T e) := by
    rw [show FP.dmul (FP.dsub (pd 1023 T) FP.dconst1) L = FP.Core.dmul (FP.dsub (pd 1023 T) FP.dconst1) L from rfl, FP.Core.val64_dmul, h1, hL]
    unfold FP.Core.exactProduct FP.Core.round
    dsimp only
    refine FP.Core.roundRatio_congr (by decide) (by decide) ?_
    rcases Int.le_total 0 q with hq0 | hq0
    · have e1 : (q + e - e).toNat = q.toNat := by congr 1; omega
      have e2 : (e - (q + e)).toNat = 0 := by omega
      rw [e1, e2]
      have e3 : (q + 1074).toNat = q.toNat + 1074 := by omega
      rw [e3, Nat.pow_add, show 2 ^ 1074 = 2 ^ 52 * 2 ^ 1022 from Nat.pow_add 2 52 1022] at h3
      have h4 : c * 2 ^ 52 * 2 ^ q.toNat = T := by
        refine Nat.eq_of_mul_eq_mul_right (Nat.two_pow_pos 1022) ?_
        rw [← h3, Nat.mul_right_comm c, Nat.mul_assoc, Nat.mul_assoc]
      rw [Nat.mul_one, h4]
      simp
    · have e1 : (q + e - e).toNat = 0 := by omega
      have e2 : (e - (q + e)).toNat = (-q).toNat := by congr 1; omega
      rw [e1, e2]
      have h4 : c * 2 ^ 52 = T * 2 ^ (-q).toNat := by
        refine Nat.eq_of_mul_eq_mul_right (Nat.two_pow_pos 1022) ?_
        have e3 : (q + 1074).toNat + (-q).toNat = 52 + 1022 := by omega
        calc c * 2 ^ 52 * 2 ^ 1022 = c * 2 ^ (52 + 1022) := by rw [Nat.mul_assoc, ← Nat.pow_add]
          _ = c * 2 ^ ((q + 1074).toNat + (-q).toNat) := by rw [e3]
          _ = c * 2 ^ (q + 1074).toNat * 2 ^ (-q).toNat := by rw [Nat.pow_add, Nat.mul_assoc]
          _ = T * 2 ^ 1022 * 2 ^ (-q).toNat := by rw [h3]
          _ = T * 2 ^ (-q).toNat * 2 ^ 1022 := Nat.mul_right_comm _ _ _
      rw [h4]
      simp
  obtain ⟨c2, q2, e1, e2⟩ := FP.Core.round_exact FP.Core.good_b64 false (c := T) (q := e) (show T < 2 ^ 53 by omega) (by rw [hq]; exact he) (Int.le_trans he2 (by decide))
  have fit := FP.Core.val64_fits (FP.dmul (FP.dsub (pd 1023 T) FP.dconst1) L)
  rw [hv, e1] at fit
  refine ⟨c2, q2, by rw [hv, e1], by have := fit.2.1; rw [hq] at this; exact this, ?_⟩
  unfold FP.Core.inUnits at e2
  rw [hq] at e2
  have e3 : (q2 - -1074).toNat = (q2 + 1074).toNat := by congr 1
  have e4 : (e - -1074).toNat = (e + 1074).toNat := by congr 1
  rw [e3, e4] at e2
  exact e2
theorem fr_t {c N : Nat} {q : Int} (h1 : -1074 ≤ q) (h : c * 2 ^ (q + 1074).toNat = N) : c * 2 ^ q.toNat / 2 ^ (-q).toNat = N / 2 ^ 1074 := by
  subst h
  rcases Int.le_total 0 q with hq0 | hq0
  · have e1 : (-q).toNat = 0 := by omega
    have e3 : (q + 1074).toNat = q.toNat + 1074 := by omega
    rw [e1, e3, Nat.pow_add, ← Nat.mul_assoc, Nat.mul_div_cancel _ (Nat.two_pow_pos 1074)]
    simp
  · have e1 : q.toNat = 0 := by omega
    have e3 : 1074 = (q + 1074).toNat + (-q).toNat := by omega
    have e4 : (2 : Nat) ^ 1074 = 2 ^ (q + 1074).toNat * 2 ^ (-q).toNat := by rw [← Nat.pow_add, ← e3]
    rw [e1, e4, Nat.mul_comm (2 ^ (q + 1074).toNat), Nat.mul_div_mul_right _ _ (Nat.two_pow_pos _)]
    simp
theorem fr_l {T : Nat} (hT : T < 2 ^ 52) {L : UInt64} {e : Int} (hL : FP.Core.val64 L = .fin false (2 ^ 52) e) (he : -1074 ≤ e) (he2 : e ≤ 0) : FP.d2l (FP.dmul (FP.dsub (pd 1023 T) FP.dconst1) L) = lN (T * 2 ^ (e + 1074).toNat / 2 ^ 1074) := by
  obtain ⟨c, q, h1, h2, h3⟩ := fr_F hT hL he he2
  have : FP.d2l (FP.dmul (FP.dsub (pd 1023 T) FP.dconst1) L) = FP.Core.toL (FP.Core.val64 (FP.dmul (FP.dsub (pd 1023 T) FP.dconst1) L)) := rfl
  rw [this, h1]
  unfold FP.Core.toL FP.Core.toInt FP.Core.truncate FP.Core.signed
  dsimp only
  rw [fr_t h2 h3]
  have hb : T * 2 ^ (e + 1074).toNat / 2 ^ 1074 < 2 ^ 52 := by
    rw [Nat.div_lt_iff_lt_mul (Nat.two_pow_pos 1074)]
    refine Nat.lt_of_lt_of_le (Nat.mul_lt_mul_of_pos_right hT (Nat.two_pow_pos _)) ?_
    exact Nat.mul_le_mul_left _ (Nat.pow_le_pow_right (by decide) (by omega))
  generalize T * 2 ^ (e + 1074).toNat / 2 ^ 1074 = N at hb
  have : max (-2 ^ 63 : Int) (min (2 ^ 63 - 1) (if false = true then -(N : Int) else (N : Int))) = (N : Int) := by
    simp only [Bool.false_eq_true, if_false]
    omega
  rw [this]
  rfl
theorem fr_52 {T : Nat} (hT : T < 2 ^ 52) : FP.d2l (FP.dmul (FP.dsub (pd 1023 T) FP.dconst1) (FP.l2d ((1 : Int64) <<< ((52 : Int32).toInt64 &&& 63)))) = lN T ∧ vf_n64 (FP.dmul (FP.dsub (pd 1023 T) FP.dconst1) (FP.l2d ((1 : Int64) <<< ((52 : Int32).toInt64 &&& 63)))) := by
  have hL : FP.Core.val64 (FP.l2d ((1 : Int64) <<< ((52 : Int32).toInt64 &&& 63))) = .fin false (2 ^ 52) 0 := by decide +kernel
  refine ⟨?_, ?_⟩
  · rw [fr_l hT hL (by decide) (by decide)]
    have e : ((0 : Int) + 1074).toNat = 1074 := rfl
    rw [e, Nat.mul_div_cancel _ (Nat.two_pow_pos 1074)]
  · obtain ⟨c, q, h1, -, -⟩ := fr_F hT hL (by decide) (by decide)
    exact nan_of (by rw [h1]; exact fun q => by cases q)
theorem fr_23 {T : Nat} (hT : T < 2 ^ 52) : FP.d2l (FP.dmul (FP.dsub (pd 1023 T) FP.dconst1) (FP.l2d ((1 : Int64) <<< ((23 : Int32).toInt64 &&& 63)))) = lN (T / 2 ^ 29) ∧ vf_n64 (FP.dmul (FP.dsub (pd 1023 T) FP.dconst1) (FP.l2d ((1 : Int64) <<< ((23 : Int32).toInt64 &&& 63)))) := by
  have hL : FP.Core.val64 (FP.l2d ((1 : Int64) <<< ((23 : Int32).toInt64 &&& 63))) = .fin false (2 ^ 52) (-29) := by decide +kernel
  refine ⟨?_, ?_⟩
  · rw [fr_l hT hL (by decide) (by decide)]
    have e : ((-29 : Int) + 1074).toNat = 1045 := rfl
    rw [e, show 2 ^ 1074 = 2 ^ 29 * 2 ^ 1045 from Nat.pow_add 2 29 1045, Nat.mul_div_mul_right _ _ (Nat.two_pow_pos 1045)]
  · obtain ⟨c, q, h1, -, -⟩ := fr_F hT hL (by decide) (by decide)
    exact nan_of (by rw [h1]; exact fun q => by cases q)
theorem fr_Dn {T : Nat} (hT : T < 2 ^ 52) : vf_n64 (FP.dsub (pd 1023 T) FP.dconst1) := by
  obtain ⟨c, q, h1, -, -⟩ := fr_D hT
  exact nan_of (by rw [h1]; exact fun q => by cases q)
/-- from the second loop on -/
theorem c_rbE {d p k : Nat} {x1 x2 x3 : Int32} {x6 : Int64} {v9 v10 v11 : Value} {T : Nat} {r : UInt64} {P : Option Value → mmMem → Prop} {μ : mmMem} (hp : mmKD p = 0) (hT : T < 2 ^ 52) (hk : k < 2000) (hr : μ.2.2 p 2 = r) (hr0 : FP.Core.val64 r ≠ .nan)
    (hn : vf_n64 (FP.dmul (FP.dsub (pd 1023 T) FP.dconst1) (FP.l2d ((1 : Int64) <<< (x1.toInt64 &&& 63)))))
    (h : P (some (.long (((if FP.Core.dkey r < 0 then ((1 : Int64) <<< (x3.toInt64 &&& 63)) else 0) ||| (x6 <<< (x1.toInt64 &&& 63))) ||| (FP.d2l (FP.dmul (FP.dsub (pd 1023 T) FP.dconst1) (FP.l2d ((1 : Int64) <<< (x1.toInt64 &&& 63)))))))) μ) :
    mmEnds d M_X0_realBits 81 [.ref p, .int x1, .int x2, .int x3, .double (pd 1023 T), .retAddr 7, .long x6, .retAddr 7, .int (nI k), v9, v10, v11] [] μ P := by
  refine s_X0_realBits_81 (by omega) hp ?_
  have z0 : FP.Core.val64 FP.dconst0 ≠ .nan := by decide +kernel
  have one : FP.Core.val64 FP.dconst1 ≠ .nan := by decide +kernel
  have k0 : FP.Core.dkey FP.dconst0 = 0 := by decide +kernel
  rw [hr, f_cmpN _ hr0 z0, f_cmpN _ (pd_nn (by decide) (by decide) hT) one]
  have hkey := (dSg_key hr0 z0).1
  rw [k0] at hkey
  have hone := (dSg_key (pd_nn (E := 1023) (by decide) (by decide) hT) one).1
  rw [pd_one, pd_key (by decide) hT, pd_key (by decide) (by decide)] at hone
  have last : ((0 : Int32) ≤ dSg r FP.dconst0 → P (some (.long (((0 : Int64) ||| (x6 <<< (x1.toInt64 &&& 63))) ||| (FP.d2l (FP.dmul (FP.dsub (pd 1023 T) FP.dconst1) (FP.l2d ((1 : Int64) <<< (x1.toInt64 &&& 63)))))))) μ) ∧ (¬ (0 : Int32) ≤ dSg r FP.dconst0 → P (some (.long ((((1 : Int64) <<< (x3.toInt64 &&& 63)) ||| (x6 <<< (x1.toInt64 &&& 63))) ||| (FP.d2l (FP.dmul (FP.dsub (pd 1023 T) FP.dconst1) (FP.l2d ((1 : Int64) <<< (x1.toInt64 &&& 63)))))))) μ) := by
    refine ⟨fun w => ?_, fun w => ?_⟩
    · rw [if_neg (fun e => absurd (hkey.mpr e) (Int32.not_lt.mpr w))] at h; exact h
    · rw [if_pos (hkey.mp (Int32.not_le.mp w))] at h; exact h
  refine ⟨fun w => absurd w (nI_ge (b := 2000) hk (by decide)), fun _ => ⟨fun _ => ⟨fr_Dn hT, hn, last⟩, fun w => absurd (hone.mp (Int32.not_le.mp w)) (by omega)⟩⟩
theorem lN_p1 (n : Nat) : lN n + 1 = lN (n + 1) := lN_1 n
theorem lN_m1 (n : Nat) : lN (n + 1) - 1 = lN n := lN_sub (a := n + 1) (b := 1) (by omega)
theorem c_rbL2 {d p : Nat} {x1 x2 x3 : Int32} {v9 v10 v11 : Value} {T b : Nat} {P : Option Value → mmMem → Prop} {μ : mmMem} (hp : mmKD p = 0) (hT : T < 2 ^ 52) (h : ∀ k, k < 2000 → mmEnds d M_X0_realBits 81 [.ref p, .int x1, .int x2, .int x3, .double (pd 1023 T), .retAddr 7, .long (lN b), .retAddr 7, .int (nI k), v9, v10, v11] [] μ P) : ∀ (n k : Nat), n < 1023 → k + n < 2000 → mmEnds d M_X0_realBits 81 [.ref p, .int x1, .int x2, .int x3, .double (pd (1023 - n) T), .retAddr 7, .long (lN (b + n)), .retAddr 7, .int (nI k), v9, v10, v11] [] μ P := by
  intro n
  induction n with
  | zero => intro k _ hk; exact h k hk
  | succ n ih =>
    intro k hn hk
    refine s_X0_realBits_81 (by omega) hp ?_
    have one : FP.Core.val64 FP.dconst1 ≠ .nan := by decide +kernel
    rw [f_cmpN _ (pd_nn (E := 1023 - (n + 1)) (by omega) (by omega) hT) one]
    have hone := (dSg_key (pd_nn (E := 1023 - (n + 1)) (by omega) (by omega) hT) one).1
    rw [pd_one, pd_key (by omega) hT, pd_key (by decide) (by decide)] at hone
    refine ⟨fun w => absurd w (nI_ge (b := 2000) (by omega) (by decide)), fun _ => ⟨fun w => absurd (hone.mpr (by omega)) (Int32.not_lt.mpr (by rw [pd_one] at w; exact w)), fun _ => ?_⟩⟩
    have e1 : FP.dmul (pd (1023 - (n + 1)) T) 4611686018427387904 = pd (1023 - n) T := by
      rw [pd_dmul (by omega) (by omega) hT]
      congr 1
      omega
    rw [e1, nI_1]
    refine ⟨nan_of (pd_nn (by omega) (by omega) hT), ?_⟩
    have e2 : lN (b + (n + 1)) - 1 = lN (b + n) := lN_m1 (b + n)
    rw [e2]
    exact ih (k + 1) (by omega) (by omega)
theorem c_rbL1 {d p : Nat} {x1 x2 x3 : Int32} {v9 v10 v11 : Value} {T : Nat} {P : Option Value → mmMem → Prop} {μ : mmMem} (hp : mmKD p = 0) (hT : T < 2 ^ 52) (F : Nat) (hF : 1 ≤ F ∧ F ≤ 1023) : ∀ (n b k : Nat), (n = 0 ∨ F = 1023) → F + n < 2047 → k + n < 2000 → mmEnds d M_X0_realBits 81 [.ref p, .int x1, .int x2, .int x3, .double (pd F T), .retAddr 7, .long (lN (b + n)), .retAddr 7, .int (nI 0), v9, v10, v11] [] μ P → mmEnds d M_X0_realBits 41 [.ref p, .int x1, .int x2, .int x3, .double (pd (F + n) T), .retAddr 7, .long (lN b), .retAddr 7, .int (nI k), v9, v10, v11] [] μ P := by
  intro n
  have two : FP.Core.val64 (4611686018427387904 : UInt64) ≠ .nan := by decide +kernel
  induction n with
  | zero =>
    intro b k hE h2 hk h
    have h1 : 1 ≤ F + 0 := by omega
    refine s_X0_realBits_41 (by omega) hp ?_
    rw [f_cmpN _ (pd_nn h1 h2 hT) two]
    have ht := (dSg_key (pd_nn h1 h2 hT) two).1
    rw [pd_two, pd_key h2 hT, pd_key (by decide) (by decide)] at ht
    refine ⟨fun w => absurd w (nI_ge (b := 2000) (by omega) (by decide)), fun _ => ⟨fun _ => h, fun w => absurd (ht.mpr (by omega)) (by rw [pd_two] at w; exact w)⟩⟩
  | succ n ih =>
    intro b k hE h2 hk h
    have h1 : 2 ≤ F + (n + 1) := by omega
    have hF2 : F = 1023 := by omega
    refine s_X0_realBits_41 (by omega) hp ?_
    rw [f_cmpN _ (pd_nn (by omega) h2 hT) two]
    have ht := (dSg_key (pd_nn (E := F + (n + 1)) (by omega) h2 hT) two).1
    rw [pd_two, pd_key h2 hT, pd_key (by decide) (by decide)] at ht
    refine ⟨fun w => absurd w (nI_ge (b := 2000) (by omega) (by decide)), fun _ => ⟨fun w => absurd (ht.mp (by rw [pd_two] at w; exact w)) (by omega), fun _ => ?_⟩⟩
    have e1 : FP.ddiv (pd (F + (n + 1)) T) 4611686018427387904 = pd (F + n) T := pd_ddiv h1 h2 hT
    rw [e1, nI_1, lN_p1]
    refine ⟨nan_of (pd_nn (by omega) (by omega) hT), ?_⟩
    refine ih (b + 1) (k + 1) (Or.inr hF2) (by omega) (by omega) ?_
    have e2 : b + 1 + n = b + (n + 1) := by omega
    rw [e2]
    exact h
theorem neg_pd {r : UInt64} {E T : Nat} (hE : E < 2047) (hm : r.toNat % 2 ^ 63 = E * 2 ^ 52 + T) (hT : T < 2 ^ 52) (hs : FP.Core.dkey r < 0) : FP.dneg r = pd E T := by
  have h1 := r.toNat_lt
  apply UInt64.toNat_inj.mp
  rw [pd_n hE hT]
  unfold FP.Core.dkey at hs
  have hge : 2 ^ 63 ≤ r.toNat := by
    refine Classical.byContradiction fun w => ?_
    rw [if_neg w] at hs
    omega
  unfold FP.dneg
  rw [UInt64.toNat_xor, show (0x8000000000000000 : UInt64).toNat = 2 ^ 63 from rfl]
  have hx : ∀ m, m < 2 ^ 63 → (m + 2 ^ 63) ^^^ 2 ^ 63 = m := fun m hm => by
    apply Nat.eq_of_testBit_eq
    intro i
    rw [Nat.testBit_xor, Nat.testBit_two_pow]
    by_cases hi : 63 = i
    · subst hi
      rw [Nat.testBit_lt_two_pow hm, Nat.add_comm, Nat.testBit_two_pow_add_eq, Nat.testBit_lt_two_pow hm]
      simp
    · rcases Nat.lt_or_ge i 63 with q | q
      · rw [Nat.add_comm, Nat.testBit_two_pow_add_gt q]
        simp [hi]
      · have h1 : m.testBit i = false := Nat.testBit_lt_two_pow (Nat.lt_of_lt_of_le hm (Nat.pow_le_pow_right (by decide) q))
        have h2 : (m + 2 ^ 63).testBit i = false := Nat.testBit_lt_two_pow (Nat.lt_of_lt_of_le (show m + 2 ^ 63 < 2 ^ 64 by omega) (Nat.pow_le_pow_right (by decide) (by omega)))
        rw [h1, h2]
        simp [hi]
  have e : r.toNat = (E * 2 ^ 52 + T) + 2 ^ 63 := by omega
  rw [e]
  exact hx _ (by omega)
theorem pos_pd {r : UInt64} {E T : Nat} (hE : E < 2047) (hm : r.toNat % 2 ^ 63 = E * 2 ^ 52 + T) (hT : T < 2 ^ 52) (hs : ¬ FP.Core.dkey r < 0) (hz : ¬ E * 2 ^ 52 + T = 0) : r = pd E T := by
  have h1 := r.toNat_lt
  apply UInt64.toNat_inj.mp
  rw [pd_n hE hT]
  unfold FP.Core.dkey at hs
  have hge : ¬ 2 ^ 63 ≤ r.toNat := by
    intro w
    rw [if_pos w] at hs
    omega
  omega
/-- the bits of a real that is no zero: the halving ends, and what is put together is said -/
theorem c_realW {d p E T b sb fb : Nat} {x1 x3 : Int32} {r : UInt64} {μ : mmMem} {K : Int64 → mmMem → Prop} (hd : 1 ≤ d) (hp : mmKD p = 0) (hr : μ.2.2 p 2 = r) (h1 : 1 ≤ E) (hE : E < 2047) (hT : T < 2 ^ 52) (hm : r.toNat % 2 ^ 63 = E * 2 ^ 52 + T) (hb : 1023 ≤ b + E) (hb2 : b < 2 ^ 31)
    (hn : vf_n64 (FP.dmul (FP.dsub (pd 1023 T) FP.dconst1) (FP.l2d ((1 : Int64) <<< (x1.toInt64 &&& 63)))))
    (h : K (((if FP.Core.dkey r < 0 then ((1 : Int64) <<< (x3.toInt64 &&& 63)) else 0) ||| (lN (b + E - 1023) <<< (x1.toInt64 &&& 63))) ||| (FP.d2l (FP.dmul (FP.dsub (pd 1023 T) FP.dconst1) (FP.l2d ((1 : Int64) <<< (x1.toInt64 &&& 63)))))) μ) : mmCJ d M_X0_realBits false 3 [.ref p, .int x1, .int (nI b), .int x3] μ K := by
  refine u_X0_realBits hd hp ?_
  have z0 : FP.Core.val64 FP.dconst0 ≠ .nan := by decide +kernel
  have k0 : FP.Core.dkey FP.dconst0 = 0 := by decide +kernel
  have hr0 : FP.Core.val64 r ≠ .nan := (FP.Core.ne_nan r).mpr (by omega)
  rw [hr, f_cmpN _ hr0 z0, f_cmpN _ hr0 z0]
  obtain ⟨q1, q2⟩ := dSg_key hr0 z0
  rw [k0] at q1 q2
  have nz : ¬ FP.Core.dkey r = 0 := by
    unfold FP.Core.dkey
    split <;> omega
  have eb : (nI b).toInt64 = lN b := nI_l hb2
  rw [eb]
  have go : mmEnds (d - 1) M_X0_realBits 41 [.ref p, .int x1, .int (nI b), .int x3, .double (pd E T), .retAddr 7, .long (lN b), .retAddr 7, .int (nI 0), .retAddr 7, .retAddr 7, .retAddr 7] [] μ (mmPJ K) := by
    rcases Nat.le_total 1023 E with hE2 | hE2
    · obtain ⟨n, rfl⟩ : ∃ n, E = 1023 + n := ⟨E - 1023, by omega⟩
      refine c_rbL1 hp hT 1023 (by decide) n b 0 (Or.inr rfl) hE (by omega) ?_
      refine c_rbE hp hT (by decide) hr hr0 hn ?_
      have e2 : b + (1023 + n) - 1023 = b + n := by omega
      rw [e2] at h
      exact h
    · refine c_rbL1 hp hT E ⟨h1, hE2⟩ 0 b 0 (Or.inl rfl) hE (by omega) ?_
      obtain ⟨n, hn2⟩ : ∃ n, 1023 = E + n := ⟨1023 - E, by omega⟩
      obtain ⟨c, rfl⟩ : ∃ c, b = c + n := ⟨b - n, by omega⟩
      have e2 : c + n + E - 1023 = c := by omega
      rw [e2] at h
      have e3 : pd (1023 - n) T = pd E T := by
        have : 1023 - n = E := by omega
        rw [this]
      rw [← e3]
      exact c_rbL2 hp hT (fun k hk => c_rbE hp hT hk hr hr0 hn h) n 0 (by omega) (by omega)
  refine ⟨fun _ => ⟨fun w => ?_, fun w => ?_⟩, fun w => absurd (q2.mp w) nz⟩
  · rw [pos_pd hE hm hT (fun e => absurd (q1.mpr e) (Int32.not_lt.mpr w)) (by omega)]
    exact go
  · rw [neg_pd hE hm hT (q1.mp (Int32.not_le.mp w))]
    exact go
theorem c_real0 {d p : Nat} {x1 x2 x3 : Int32} {μ : mmMem} {K : Int64 → mmMem → Prop} (hd : 1 ≤ d) (hp : mmKD p = 0) (hr : μ.2.2 p 2 = 0) (h : K 0 μ) : mmCJ d M_X0_realBits false 3 [.ref p, .int x1, .int x2, .int x3] μ K := by
  refine u_X0_realBits hd hp ?_
  have z0 : FP.Core.val64 FP.dconst0 ≠ .nan := by decide +kernel
  have zz : FP.Core.val64 0 ≠ .nan := by decide +kernel
  rw [hr, f_cmpN _ zz z0]
  have : dSg 0 FP.dconst0 = 0 := by decide +kernel
  rw [this]
  exact ⟨fun w => absurd rfl w, fun _ => h⟩
theorem c_real64 {d p : Nat} {r : UInt64} {μ : mmMem} {K : Int64 → mmMem → Prop} (hd : 1 ≤ d) (hp : mmKD p = 0) (hr : μ.2.2 p 2 = r) (ok : okW r) (h : K (ofD r) μ) : mmCJ d M_X0_realBits false 3 [.ref p, .int (52 : Int32), .int (1023 : Int32), .int (63 : Int32)] μ K := by
  rcases ok with rfl | ok
  · exact c_real0 hd hp hr h
  · obtain ⟨s, E, T, a1, a2, a3, a4, a5⟩ := nd64 (a := r) ok.1 ok.2
    obtain ⟨f1, f2⟩ := fr_52 a3
    refine c_realW (b := 1023) (sb := 63) (fb := 52) hd hp hr a1 a2 a3 a4 (by omega) (by decide) f2 ?_
    rw [f1]
    have e1 : lN (1023 + E - 1023) <<< ((52 : Int32).toInt64 &&& 63) = lN (E * 2 ^ 52) := by
      rw [show 1023 + E - 1023 = E by omega]
      exact wb_shl E (k := 52) (by decide)
    have e2 : (1 : Int64) <<< ((63 : Int32).toInt64 &&& 63) = lN (1 * 2 ^ 63) := wb_shl 1 (k := 63) (by decide)
    have e3 : lN (E * 2 ^ 52) ||| lN T = lN (E * 2 ^ 52 + T) := g_or rfl a3 (by omega)
    have hl := r.toNat_lt
    rw [e1, e2, Int64.or_assoc, e3]
    by_cases hs : FP.Core.dkey r < 0
    · rw [if_pos hs, g_or rfl (by omega) (by omega)]
      unfold FP.Core.dkey at hs
      have hge : 2 ^ 63 ≤ r.toNat := by
        refine Classical.byContradiction fun w => ?_
        rw [if_neg w] at hs
        omega
      have : lN (1 * 2 ^ 63 + (E * 2 ^ 52 + T)) = ofD r := by
        rw [show 1 * 2 ^ 63 + (E * 2 ^ 52 + T) = r.toNat by omega]
        show (UInt64.ofNat r.toNat).toInt64 = r.toInt64
        rw [UInt64.ofNat_toNat]
      rw [this]; exact h
    · rw [if_neg hs]
      have z : (0 : Int64) ||| lN (E * 2 ^ 52 + T) = lN (E * 2 ^ 52 + T) := Int64.zero_or
      rw [z]
      unfold FP.Core.dkey at hs
      have hge : ¬ 2 ^ 63 ≤ r.toNat := by
        intro w
        rw [if_pos w] at hs
        omega
      have : lN (E * 2 ^ 52 + T) = ofD r := by
        rw [show E * 2 ^ 52 + T = r.toNat by omega]
        show (UInt64.ofNat r.toNat).toInt64 = r.toInt64
        rw [UInt64.ofNat_toNat]
      rw [this]; exact h
theorem c_real32 {d p : Nat} {f : UInt32} {μ : mmMem} {K : Int64 → mmMem → Prop} (hd : 1 ≤ d) (hp : mmKD p = 0) (hr : μ.2.2 p 2 = FP.f2d f) (ok : okF f) (h : ∀ y : Int64, y.toInt32.toInt64 = ofF f → K y μ) : mmCJ d M_X0_realBits false 3 [.ref p, .int (23 : Int32), .int (127 : Int32), .int (31 : Int32)] μ K := by
  rw [f_f2dC ok] at hr
  rcases ok with rfl | ok
  · have : FP.Core.f2d 0 = 0 := by decide +kernel
    rw [this] at hr
    exact c_real0 hd hp hr (h 0 (by decide +kernel))
  · obtain ⟨s, E, T, a1, a2, a3, a4, a5⟩ := nd32 (a := f) (by omega) (by omega)
    have hv := f2dv a1 a2 a3 a5
    have hm := mag64 (by omega) (by omega) (by omega) hv
    obtain ⟨f1, f2⟩ := fr_23 (T := T * 2 ^ 29) (by omega)
    refine c_realW (b := 127) (sb := 31) (fb := 23) hd hp hr (E := E + 896) (T := T * 2 ^ 29) (by omega) (by omega) (by omega) hm (by omega) (by decide) f2 ?_
    rw [f1, Nat.mul_div_cancel _ (by decide)]
    have e1 : lN (127 + (E + 896) - 1023) <<< ((23 : Int32).toInt64 &&& 63) = lN (E * 2 ^ 23) := by
      rw [show 127 + (E + 896) - 1023 = E by omega]
      exact wb_shl E (k := 23) (by decide)
    have e2 : (1 : Int64) <<< ((31 : Int32).toInt64 &&& 63) = lN (1 * 2 ^ 31) := wb_shl 1 (k := 31) (by decide)
    have e3 : lN (E * 2 ^ 23) ||| lN T = lN (E * 2 ^ 23 + T) := g_or rfl a3 (by omega)
    have hl := f.toNat_lt
    have fin : ∀ n, n = f.toNat → (lN n).toInt32.toInt64 = ofF f := fun n e => by
      rw [lN_i, e]
      show (Int32.ofNat f.toNat).toInt64 = f.toInt32.toInt64
      congr 1
      show (UInt32.ofNat f.toNat).toInt32 = f.toInt32
      rw [UInt32.ofNat_toNat]
    have hsg : FP.Core.sgn (FP.Core.val64 (FP.Core.f2d f)) = decide (2 ^ 63 ≤ (FP.Core.f2d f).toNat) := FP.Core.sgn_bits (by rw [hv]; exact fun q => by cases q)
    have hsf : FP.Core.sgn (FP.Core.val32 f) = decide (2 ^ 31 ≤ f.toNat) := FP.Core.sgn_bits32 (by rw [a5]; exact fun q => by cases q)
    rw [hv] at hsg
    rw [a5] at hsf
    have s1 : ∀ (c : Nat) (q : Int), FP.Core.sgn (.fin s c q) = s := fun _ _ => rfl
    rw [s1] at hsg hsf
    have es : decide (2 ^ 63 ≤ (FP.Core.f2d f).toNat) = decide (2 ^ 31 ≤ f.toNat) := by rw [← hsg, ← hsf]
    have hd2 := (FP.Core.f2d f).toNat_lt
    rw [e1, e2, Int64.or_assoc, e3]
    by_cases hs : FP.Core.dkey (FP.Core.f2d f) < 0
    · rw [if_pos hs, g_or rfl (by omega) (by omega)]
      unfold FP.Core.dkey at hs
      have hge : 2 ^ 63 ≤ (FP.Core.f2d f).toNat := by
        refine Classical.byContradiction fun w => ?_
        rw [if_neg w] at hs
        omega
      rw [decide_eq_true hge] at es
      have hge2 : 2 ^ 31 ≤ f.toNat := of_decide_eq_true es.symm
      exact h _ (fin _ (by omega))
    · rw [if_neg hs]
      have z : (0 : Int64) ||| lN (E * 2 ^ 23 + T) = lN (E * 2 ^ 23 + T) := Int64.zero_or
      rw [z]
      unfold FP.Core.dkey at hs
      have hge : ¬ 2 ^ 63 ≤ (FP.Core.f2d f).toNat := by
        intro w
        rw [if_pos w] at hs
        omega
      rw [decide_eq_false hge] at es
      have hge2 : ¬ 2 ^ 31 ≤ f.toNat := of_decide_eq_false es.symm
      exact h _ (fin _ (by omega))
theorem c_bits {d p : Nat} {x : aC} {μ : mmMem} {K : Int64 → mmMem → Prop} (hd : 2 ≤ d) (hp : mmKD p = 0) (hx : clC μ p x) (ok : okC x) (h : K x.2 μ) : mmCJ d M_X0_bits false 0 [.ref p] μ K := by
  refine u_X0_bits (by omega) hp ?_
  obtain ⟨h1, h2, h3⟩ := hx
  rw [h1, h2]
  have ek6 : enK x = 6 ↔ x.1 = 6 := by
    unfold enK
    rcases ok.cases with w | w | w | w | w | w | w | w | w | w <;> rw [w] <;> decide
  have ek7 : enK x = 7 ↔ x.1 = 7 := by
    unfold enK
    rcases ok.cases with w | w | w | w | w | w | w | w | w | w <;> rw [w] <;> decide
  rw [ek6, ek7]
  clear ek6 ek7
  obtain ⟨s, n⟩ := x
  dsimp only
  refine ⟨fun n6 => ⟨fun n7 => ?_, fun e7 => ?_⟩, fun e6 => ?_⟩
  · have : enN (s, n) = n := by simp [enN, n6, n7]
    rw [this]; exact h
  · subst e7
    have okd : okD (bD n) := by simpa [okC] using ok
    refine c_real64 (r := bD n) (by omega) hp (by rw [h3]; simp [enR, aVal]) okd.W ?_
    exact h
  · subst e6
    have okf : ofF (bF n) = n ∧ okF (bF n) := by simpa [okC] using ok
    refine c_real32 (f := bF n) (by omega) hp (by rw [h3]; simp [enR, aVal]) okf.2 (fun y hy => ?_)
    rw [hy, okf.1]
    exact h
end
section
/-! ===== columns and views of the class ===== -/
abbrev aCol : Type := Int32 × Bool × (Nat → aC)
abbrev aFil : Type := Nat × Int32 × aC
def eq3 (μ ν : mmMem) (q : Nat) : Prop := ν.1 q = μ.1 q ∧ ν.2.1 q = μ.2.1 q ∧ ν.2.2 q = μ.2.2 q
theorem eq3.rfl' {μ : mmMem} {q : Nat} : eq3 μ μ q := ⟨rfl, rfl, rfl⟩
theorem eq3.trans {μ ν ξ : mmMem} {q : Nat} (h : eq3 μ ν q) (h2 : eq3 ν ξ q) : eq3 μ ξ q := ⟨h2.1.trans h.1, h2.2.1.trans h.2.1, h2.2.2.trans h.2.2⟩
/-- the cells of the column at a are written where g tells so; else all is as it was -/
def colUpd (μ ν : mmMem) (a : Nat) (g : Nat → Option aC) : Prop :=
  (∀ q, q ≠ a + 1 → q ≠ a + 2 → q ≠ a + 3 → eq3 μ ν q) ∧ (ν.2.1 (a + 1) = μ.2.1 (a + 1) ∧ ν.2.2 (a + 1) = μ.2.2 (a + 1) ∧ ν.1 (a + 2) = μ.1 (a + 2) ∧ ν.2.2 (a + 2) = μ.2.2 (a + 2) ∧ ν.1 (a + 3) = μ.1 (a + 3) ∧ ν.2.1 (a + 3) = μ.2.1 (a + 3)) ∧
  ∀ r, ν.1 (a + 1) r = (match g r with | some x => enK x | none => μ.1 (a + 1) r) ∧ ν.2.1 (a + 2) r = (match g r with | some x => enN x | none => μ.2.1 (a + 2) r) ∧ ν.2.2 (a + 3) r = (match g r with | some x => enR x | none => μ.2.2 (a + 3) r)
theorem colUpd.same (μ : mmMem) (a : Nat) (g : Nat → Option aC) (h : ∀ r, g r = none) : colUpd μ μ a g := by
  refine ⟨fun q _ _ _ => eq3.rfl', ⟨rfl, rfl, rfl, rfl, rfl, rfl⟩, fun r => ?_⟩
  rw [h r]
  exact ⟨rfl, rfl, rfl⟩
theorem colUpd.trans {μ ν ξ : mmMem} {a : Nat} {g1 g2 g : Nat → Option aC} (h1 : colUpd μ ν a g1) (h2 : colUpd ν ξ a g2) (hg : ∀ r, g r = match g2 r with | some x => some x | none => g1 r) : colUpd μ ξ a g := by
  obtain ⟨a1, ⟨b1, b2, b3, b4, b5, b6⟩, c1⟩ := h1
  obtain ⟨a2, ⟨d1, d2, d3, d4, d5, d6⟩, c2⟩ := h2
  refine ⟨fun q x y z => (a1 q x y z).trans (a2 q x y z), ⟨d1.trans b1, d2.trans b2, d3.trans b3, d4.trans b4, d5.trans b5, d6.trans b6⟩, fun r => ?_⟩
  obtain ⟨e1, e2, e3⟩ := c1 r
  obtain ⟨f1, f2, f3⟩ := c2 r
  rw [hg r]
  cases hh : g2 r with
  | some x => rw [hh] at f1 f2 f3; exact ⟨f1, f2, f3⟩
  | none => rw [hh] at f1 f2 f3; exact ⟨f1.trans e1, f2.trans e2, f3.trans e3⟩
theorem colUpd.one (μ : mmMem) (a r : Nat) (x : aC) : colUpd μ (sD (sJ (sI μ (a + 1) r (enK x)) (a + 2) r (enN x)) (a + 3) r (enR x)) a (fun i => if i = r then some x else none) := by
  refine ⟨fun q h1 h2 h3 => ?_, ?_, fun i => ?_⟩
  · simp [eq3, sI, sJ, sD, h1, h2, h3]
  · simp [sI, sJ, sD]
  · by_cases h : i = r <;> simp [sI, sJ, sD, upd, vp_updL, vf_upd, h]
/-- the column at a holds a column, as far as n rows -/
def colC (μ : mmMem) (a n : Nat) (c : aCol) : Prop := μ.1 a 0 = c.1 ∧ μ.1 a 1 = (if c.2.1 = true then 1 else 0) ∧ ∀ r, r < n → μ.1 (a + 1) r = enK (c.2.2 r) ∧ μ.2.1 (a + 2) r = enN (c.2.2 r) ∧ μ.2.2 (a + 3) r = enR (c.2.2 r)
def newC (k : Int32) : aC := if k ≤ 7 then (k, 0) else (-1, 0)
/-- a view: rows in some order -/
def vwC (μ : mmMem) (a : Nat) (l : List Nat) : Prop := μ.1 a 0 = nI l.length ∧ ∀ i r, l[i]? = some r → μ.1 (a + 1) i = nI r
theorem c_load {d a p r n : Nat} {c : aCol} {μ : mmMem} {K : mmMem → Prop} (hd : 1 ≤ d) (ha : mmKD a = 1) (hp : mmKD p = 0) (hc : colC μ a n c) (hr : r < n) (hn : n ≤ 40) (h : K (setC μ p (c.2.2 r))) : mmC0 d M_X1_load false 2 [.ref a, .int (nI r), .ref p] μ K := by
  refine u_X1_load hd ha hp ?_
  refine ⟨fun q => absurd q (nI_pos (by omega)), fun _ => ⟨fun q => absurd q (nI_ge (b := 40) (by omega) (by decide)), fun _ => ?_⟩⟩
  rw [nI_clamp (by omega)]
  obtain ⟨e1, e2, e3⟩ := hc.2.2 r hr
  rw [e1, e2, e3]
  exact h
theorem c_store {d a p r : Nat} {x : aC} {μ : mmMem} {K : mmMem → Prop} (hd : 1 ≤ d) (ha : mmKD a = 1) (hp : mmKD p = 0) (hx : clC μ p x) (hr : r < 40) (h : ∀ ν, colUpd μ ν a (fun i => if i = r then some x else none) → K ν) : mmC0 d M_X1_store false 2 [.ref a, .int (nI r), .ref p] μ K := by
  refine u_X1_store hd ha hp ?_
  refine ⟨fun q => absurd q (nI_pos (by omega)), fun _ => ⟨fun q => absurd q (nI_ge (b := 40) (by omega) (by decide)), fun _ => ?_⟩⟩
  rw [nI_clamp (by omega), hx.1, hx.2.1, hx.2.2]
  exact h _ (colUpd.one μ a r x)
theorem newC_en {k : Int32} (h : 0 ≤ k.toInt ∧ k.toInt ≤ 10) : (¬ 7 < k → enK (newC k) = k) ∧ (7 < k → enK (newC k) = -1) ∧ enN (newC k) = 0 ∧ enR (newC k) = 0 := by
  have e : ∀ j : Int32, k.toInt = j.toInt → k = j := fun j q => Int32.toInt_inj.mp q
  have : k.toInt = 0 ∨ k.toInt = 1 ∨ k.toInt = 2 ∨ k.toInt = 3 ∨ k.toInt = 4 ∨ k.toInt = 5 ∨ k.toInt = 6 ∨ k.toInt = 7 ∨ k.toInt = 8 ∨ k.toInt = 9 ∨ k.toInt = 10 := by omega
  have : k = 0 ∨ k = 1 ∨ k = 2 ∨ k = 3 ∨ k = 4 ∨ k = 5 ∨ k = 6 ∨ k = 7 ∨ k = 8 ∨ k = 9 ∨ k = 10 := by
    rcases this with q | q | q | q | q | q | q | q | q | q | q
    · simp [e 0 q]
    · simp [e 1 q]
    · simp [e 2 q]
    · simp [e 3 q]
    · simp [e 4 q]
    · simp [e 5 q]
    · simp [e 6 q]
    · simp [e 7 q]
    · simp [e 8 q]
    · simp [e 9 q]
    · simp [e 10 q]
  rcases this with rfl | rfl | rfl | rfl | rfl | rfl | rfl | rfl | rfl | rfl | rfl <;> decide +kernel
theorem c_renewE {d a n : Nat} {kd : Int32} {P : Option Value → mmMem → Prop} (ha : mmKD a = 1) (hk : 0 ≤ kd.toInt ∧ kd.toInt ≤ 10) (hn : n ≤ 40) (x1 : Int32) : ∀ (j r : Nat) (μ : mmMem), n - r = j → r ≤ 40 → μ.1 a 0 = kd → (∀ ν, colUpd μ ν a (fun i => if r ≤ i ∧ i < n then some (newC kd) else none) → P none ν) → mmEnds d M_X1_renew 2 [.ref a, .int x1, .int (nI n), .int (nI r)] [] μ P := by
  intro j
  induction j with
  | zero =>
    intro r μ hj hr h0 h
    refine s_X1_renew_2 (by omega) ha ?_
    refine ⟨fun q => absurd q (nI_pos (by omega)), fun _ => ⟨fun _ => h μ (colUpd.same _ _ _ fun i => if_neg (by omega)), fun q => absurd (nI_le (by omega) (by omega)) q⟩⟩
  | succ j ih =>
    intro r μ hj hr h0 h
    refine s_X1_renew_2 (by omega) ha ?_
    refine ⟨fun q => absurd q (nI_pos (by omega)), fun _ => ⟨fun q => absurd q (nI_ge (by omega) (by omega)), fun _ => ⟨fun q => absurd q (nI_ge (b := 40) (by omega) (by decide)), fun _ => ?_⟩⟩⟩
    obtain ⟨e1, e2, e3, e4⟩ := newC_en hk
    rw [nI_clamp (by omega), nI_1, h0]
    have z : FP.dconst0 = 0 := rfl
    have step : ∀ k, enK (newC kd) = k → mmEnds d M_X1_renew 2 [.ref a, .int x1, .int (nI n), .int (nI (r + 1))] [] (sD (sJ (sI μ (a + 1) r k) (a + 2) r 0) (a + 3) r FP.dconst0) P := by
      intro k hk2
      rw [z, ← hk2, ← e3, ← e4]
      refine ih (r + 1) _ (by omega) (by omega) ?_ (fun ν hν => h ν ?_)
      · have := ((colUpd.one μ a r (newC kd)).1 a (by omega) (by omega) (by omega)).1
        rw [this]; exact h0
      · refine (colUpd.one μ a r (newC kd)).trans hν (fun i => ?_)
        by_cases c1 : r + 1 ≤ i ∧ i < n
        · rw [if_pos c1, if_pos (by omega)]
        · rw [if_neg c1]
          by_cases c2 : i = r
          · rw [if_pos (by omega), if_pos c2]
          · rw [if_neg (by omega), if_neg c2]
    exact ⟨fun q => step _ (e2 q), fun q => step _ (e1 q)⟩
theorem c_renew {d a m n : Nat} {kd : Int32} {μ : mmMem} {K : mmMem → Prop} (hd : 1 ≤ d) (ha : mmKD a = 1) (hk : 0 ≤ kd.toInt ∧ kd.toInt ≤ 10) (hm : m ≤ 40) (hn : n ≤ 40) (h0 : μ.1 a 0 = kd) (h : ∀ ν, colUpd μ ν a (fun i => if m ≤ i ∧ i < n then some (newC kd) else none) → K ν) : mmC0 d M_X1_renew false 2 [.ref a, .int (nI m), .int (nI n)] μ K := by
  refine u_X1_renew hd ha ?_
  exact c_renewE ha hk hn _ _ m μ rfl hm h0 (fun ν hν => h ν hν)
/-- a view's rows are written where g tells so, and its length -/
def vwUpd (μ ν : mmMem) (a : Nat) : Prop := (∀ q, q ≠ a → q ≠ a + 1 → eq3 μ ν q) ∧ ν.2.1 a = μ.2.1 a ∧ ν.2.2 a = μ.2.2 a ∧ ν.2.1 (a + 1) = μ.2.1 (a + 1) ∧ ν.2.2 (a + 1) = μ.2.2 (a + 1) ∧ ∀ i, i ≠ 0 → ν.1 a i = μ.1 a i
theorem vwUpd.refl (μ : mmMem) (a : Nat) : vwUpd μ μ a := ⟨fun _ _ _ => eq3.rfl', rfl, rfl, rfl, rfl, fun _ _ => rfl⟩
theorem vwUpd.trans {μ ν ξ : mmMem} {a : Nat} (h : vwUpd μ ν a) (h2 : vwUpd ν ξ a) : vwUpd μ ξ a := by
  obtain ⟨a1, a2, a3, a4, a5, a6⟩ := h
  obtain ⟨b1, b2, b3, b4, b5, b6⟩ := h2
  exact ⟨fun q x y => (a1 q x y).trans (b1 q x y), b2.trans a2, b3.trans a3, b4.trans a4, b5.trans a5, fun i hi => (b6 i hi).trans (a6 i hi)⟩
theorem vwUpd.put (μ : mmMem) (a i : Nat) (x : Int32) : vwUpd μ (sI μ (a + 1) i x) a := by
  refine ⟨fun q h1 h2 => ?_, ?_, ?_, ?_, ?_, fun i hi => ?_⟩ <;> simp [eq3, sI]
  intro e; exact absurd e h2
theorem vwUpd.len (μ : mmMem) (a : Nat) (x : Int32) : vwUpd μ (sI μ a 0 x) a := by
  refine ⟨fun q h1 h2 => ?_, ?_, ?_, ?_, ?_, fun i hi => ?_⟩
  · simp [eq3, sI, h1]
  · simp [sI]
  · simp [sI]
  · simp [sI]
  · simp [sI]
  · simp [sI, upd, hi]
theorem vwC.push {μ : mmMem} {a r : Nat} {l : List Nat} (h : vwC μ a l) : vwC (sI (sI μ (a + 1) l.length (nI r)) a 0 (nI (l.length + 1))) a (l ++ [r]) := by
  refine ⟨by simp [sI, upd], fun i q hq => ?_⟩
  have hne : a + 1 ≠ a := by omega
  by_cases hi : i = l.length
  · subst hi
    rw [List.getElem?_concat_length] at hq
    cases hq
    simp [sI, upd]
  · have hlt : i < l.length := by
      have := (List.getElem?_eq_some_iff.mp hq).1
      simp at this
      omega
    rw [List.getElem?_append_left hlt] at hq
    have := h.2 i q hq
    simp [sI, upd, hi, this]
theorem c_appendE {d a n : Nat} {P : Option Value → mmMem → Prop} (ha : mmKD a = 6) (hn : n ≤ 40) (x1 : Int32) : ∀ (j r : Nat) (μ : mmMem) (l : List Nat), n - r = j → r ≤ 40 → l.length + (n - r) ≤ 40 → vwC μ a l → (∀ ν, vwUpd μ ν a → vwC ν a (l ++ List.range' r (n - r)) → P none ν) → mmEnds d M_X6_append 2 [.ref a, .int x1, .int (nI n), .int (nI r)] [] μ P := by
  intro j
  induction j with
  | zero =>
    intro r μ l hj hr hl hv h
    refine s_X6_append_2 (by omega) ha ?_
    refine ⟨fun _ => h μ (vwUpd.refl _ _) (by rw [hj]; simpa using hv), fun q => absurd (nI_le (by omega) (by omega)) q⟩
  | succ j ih =>
    intro r μ l hj hr hl hv h
    refine s_X6_append_2 (by omega) ha ?_
    rw [hv.1, nI_clamp (by omega)]
    refine ⟨fun q => absurd q (nI_ge (by omega) (by omega)), fun _ => ⟨fun q => absurd q (nI_ge (b := 40) (by omega) (by decide)), fun _ => ⟨vp_in_nI (by omega) (by decide), ?_⟩⟩⟩
    have e1 : (sI μ (a + 1) l.length (nI r)).1 a 0 = nI l.length := by
      have : (sI μ (a + 1) l.length (nI r)).1 a = μ.1 a := by simp [sI]
      rw [this]; exact hv.1
    rw [e1, nI_1, nI_1]
    refine ih (r + 1) _ (l ++ [r]) (by omega) (by omega) (by simp; omega) hv.push (fun ν h1 h2 => h ν (((vwUpd.put μ a _ _).trans (vwUpd.len _ a _)).trans h1) ?_)
    have : List.range' r (n - r) = r :: List.range' (r + 1) (n - (r + 1)) := by
      rw [hj, List.range'_succ, show n - (r + 1) = j by omega]
    rw [this]
    simpa using h2
theorem c_append {d a m n : Nat} {l : List Nat} {μ : mmMem} {K : mmMem → Prop} (hd : 1 ≤ d) (ha : mmKD a = 6) (hn : n ≤ 40) (hm : m ≤ 40) (hl : l.length + (n - m) ≤ 40) (hv : vwC μ a l) (h : ∀ ν, vwUpd μ ν a → vwC ν a (l ++ List.range' m (n - m)) → K ν) : mmC0 d M_X6_append false 2 [.ref a, .int (nI m), .int (nI n)] μ K := by
  refine u_X6_append hd ha ?_
  exact c_appendE ha hn _ _ m μ l rfl hm hl hv (fun ν h1 h2 => h ν h1 h2)
theorem c_showAll {d a n : Nat} {l : List Nat} {μ : mmMem} {K : mmMem → Prop} (hd : 2 ≤ d) (ha : mmKD a = 6) (hn : n ≤ 40) (hv : vwC μ a l) (h : ∀ ν, vwUpd μ ν a → vwC ν a (List.range' 0 n) → K ν) : mmC0 d M_X6_showAll false 1 [.ref a, .int (nI n)] μ K := by
  refine u_X6_showAll (by omega) ha ?_
  refine c_append (l := []) (m := 0) (by omega) ha hn (by omega) (by simpa using hn) ⟨by simp [sI, upd]; rfl, fun i r hr => by simp at hr⟩ (fun ν h1 h2 => h ν ((vwUpd.len μ a 0).trans h1) (by simpa using h2))
/-- the rows that stay close up in front -/
def vwF (μ : mmMem) (a : Nat) (l : List Nat) (i s : Nat) (k : List Nat) : Prop := μ.1 a 0 = nI l.length ∧ s = k.length ∧ s ≤ i ∧ (∀ j r, k[j]? = some r → μ.1 (a + 1) j = nI r) ∧ ∀ j r, i ≤ j → l[j]? = some r → μ.1 (a + 1) j = nI r
theorem vwF.keep {μ : mmMem} {a i s r : Nat} {l k : List Nat} (h : vwF μ a l i s k) (hr : l[i]? = some r) : vwF (sI μ (a + 1) s (nI r)) a l (i + 1) (s + 1) (k ++ [r]) := by
  obtain ⟨h1, h2, h3, h4, h5⟩ := h
  refine ⟨by simp [sI, h1], by simp [h2], by omega, fun j q hq => ?_, fun j q hj hq => ?_⟩
  · by_cases hi : j = k.length
    · subst hi
      rw [List.getElem?_concat_length] at hq
      cases hq
      simp [sI, upd, h2]
    · have hlt : j < k.length := by
        have := (List.getElem?_eq_some_iff.mp hq).1
        simp at this
        omega
      rw [List.getElem?_append_left hlt] at hq
      have := h4 j q hq
      have hn : j ≠ s := by omega
      simp [sI, upd, hn, this]
  · have hn : j ≠ s := by omega
    simp [sI, upd, hn, h5 j q (by omega) hq]
theorem vwF.skip {μ : mmMem} {a i s : Nat} {l k : List Nat} (h : vwF μ a l i s k) : vwF μ a l (i + 1) s k := ⟨h.1, h.2.1, by have := h.2.2.1; omega, h.2.2.2.1, fun j r hj => h.2.2.2.2 j r (by omega)⟩
theorem vwF.done {μ : mmMem} {a s i : Nat} {l k : List Nat} (h : vwF μ a l i s k) : vwC (sI μ a 0 (nI s)) a k := by
  obtain ⟨h1, h2, h3, h4, h5⟩ := h
  refine ⟨by simp [sI, upd, h2], fun j r hr => ?_⟩
  simp [sI, h4 j r hr]
theorem c_vresizeE {d a m n : Nat} {l : List Nat} {P : Option Value → mmMem → Prop} (hd : 2 ≤ d) (ha : mmKD a = 6) (hm : m ≤ 40) (hn : n ≤ 40) (hl : ∀ r ∈ l, r < 2 ^ 31) (hll : l.length ≤ 40) (hlen : (l.filter (fun r => decide (r < n))).length + (n - m) ≤ 40) : ∀ (j i s : Nat) (μ : mmMem) (k : List Nat), l.length - i = j → i ≤ l.length → vwF μ a l i s k → k = (l.take i).filter (fun r => decide (r < n)) → (∀ ν, vwUpd μ ν a → vwC ν a (l.filter (fun r => decide (r < n)) ++ List.range' m (n - m)) → P none ν) → mmEnds d M_X6_resize 5 [.ref a, .int (nI m), .int (nI n), .int (nI s), .int (nI i)] [] μ P := by
  intro j
  induction j with
  | zero =>
    intro i s μ k hj hi hv hk h
    refine s_X6_resize_5 (by omega) ha ?_
    rw [hv.1]
    refine ⟨fun _ => ?_, fun q => absurd (nI_le (by omega) (by omega)) q⟩
    have e : i = l.length := by omega
    rw [e, List.take_length] at hk
    refine c_append (by omega) ha hn hm (l := k) (by rw [hk]; exact hlen) hv.done (fun ν h1 h2 => ?_)
    exact h ν ((vwUpd.len μ a _).trans h1) (by rw [← hk]; exact h2)
  | succ j ih =>
    intro i s μ k hj hi hv hk h
    refine s_X6_resize_5 (by omega) ha ?_
    have hil : i < l.length := by omega
    obtain ⟨r, hr⟩ : ∃ r, l[i]? = some r := ⟨l[i], List.getElem?_eq_getElem hil⟩
    have hrl : r < 2 ^ 31 := hl r (List.mem_of_getElem? hr)
    have ht : l.take (i + 1) = l.take i ++ [r] := by
      rw [List.take_succ, hr]; rfl
    rw [hv.1, nI_clamp (by omega), hv.2.2.2.2 i r (Nat.le_refl _) hr, nI_1, nI_1]
    have hsi := hv.2.2.1
    refine ⟨fun q => absurd q (nI_ge (by omega) (by omega)), fun _ => ⟨vp_in_nI (by omega) (by decide), fun q => ?_, fun q => ⟨vp_in_nI (by omega) (by decide), ?_⟩⟩⟩
    · rw [nI_leI (by omega) hrl] at q
      refine ih (i + 1) s μ k (by omega) (by omega) hv.skip ?_ h
      rw [ht, List.filter_append, ← hk, List.filter_cons_of_neg (by simp; omega)]
      simp
    · rw [nI_leI (by omega) hrl] at q
      rw [nI_clamp (by omega)]
      refine ih (i + 1) (s + 1) _ (k ++ [r]) (by omega) (by omega) (hv.keep hr) ?_ (fun ν h1 h2 => h ν ((vwUpd.put μ a _ _).trans h1) h2)
      rw [ht, List.filter_append, ← hk, List.filter_cons_of_pos (by simp; omega)]
      simp
theorem vwF.start {μ : mmMem} {a : Nat} {l : List Nat} (h : vwC μ a l) : vwF μ a l 0 0 [] := ⟨h.1, rfl, Nat.le_refl _, fun j r hr => by simp at hr, fun j r _ => h.2 j r⟩
theorem c_vresize {d a m n : Nat} {l : List Nat} {μ : mmMem} {K : mmMem → Prop} (hd : 3 ≤ d) (ha : mmKD a = 6) (hm : m ≤ 40) (hn : n ≤ 40) (hl : ∀ r ∈ l, r < 2 ^ 31) (hll : l.length ≤ 40) (hlen : (l.filter (fun r => decide (r < n))).length + (n - m) ≤ 40) (hv : vwC μ a l) (h : ∀ ν, vwUpd μ ν a → vwC ν a (l.filter (fun r => decide (r < n)) ++ List.range' m (n - m)) → K ν) : mmC0 d M_X6_resize false 2 [.ref a, .int (nI m), .int (nI n)] μ K := by
  refine u_X6_resize (by omega) ha ?_
  exact c_vresizeE (by omega) ha hm hn hl hll hlen _ 0 0 μ [] rfl (Nat.zero_le _) (vwF.start hv) (by simp) (fun ν h1 h2 => h ν h1 h2)
end
section
/-! ===== the abstract state and how the class holds it ===== -/
abbrev aT : Type := Nat × List aCol × List Nat × List Nat × List (Nat × Bool) × List aFil
abbrev aS : Type := aT × Option aT × Int64 × (Int32 × Int32 × Int32) × List Int32
def fitK (k : Int32) (x : aC) : Prop := (k ≤ 7 → x.1 = k) ∧ (k = 8 → x.1 = -1 ∨ x.1 = 4) ∧ (k = 10 → x.1 = -1 ∨ x.1 = 8)
def okCol (n : Nat) (c : aCol) : Prop := 0 ≤ c.1.toInt ∧ c.1.toInt ≤ 10 ∧ ∀ r, r < n → okC (c.2.2 r) ∧ fitK c.1 (c.2.2 r)
def okV (n : Nat) (l : List Nat) : Prop := l.Nodup ∧ ∀ r ∈ l, r < n
def okFil (m : Nat) (f : aFil) : Prop := f.1 < m ∧ (0 ≤ f.2.1.toInt ∧ f.2.1.toInt ≤ 5) ∧ okC f.2.2
def okT (T : aT) : Prop := T.1 ≤ 40 ∧ T.2.1.length ≤ 12 ∧ (∀ c ∈ T.2.1, okCol T.1 c) ∧ okV T.1 T.2.2.1 ∧ okV T.1 T.2.2.2.1 ∧ T.2.2.2.2.1.length ≤ 4 ∧ (∀ k ∈ T.2.2.2.2.1, k.1 < T.2.1.length) ∧ T.2.2.2.2.2.length ≤ 6 ∧ ∀ f ∈ T.2.2.2.2.2, okFil T.2.1.length f
theorem nodup_le : ∀ (n : Nat) (l : List Nat), l.Nodup → (∀ r ∈ l, r < n) → l.length ≤ n := by
  intro n
  induction n with
  | zero =>
    intro l _ h
    cases l with
    | nil => exact Nat.le_refl _
    | cons a t => exact absurd (h a List.mem_cons_self) (Nat.not_lt_zero _)
  | succ n ih =>
    intro l hn h
    have h1 : (l.erase n).length ≤ n := ih _ (hn.erase n) (fun r hr => by
      have h2 := (List.Nodup.mem_erase_iff hn).mp hr
      have h3 := h r h2.2
      have h4 : r ≠ n := h2.1
      omega)
    by_cases hm : n ∈ l
    · rw [List.length_erase_of_mem hm] at h1
      omega
    · rw [List.erase_of_not_mem hm] at h1
      omega
theorem okV.len {n : Nat} {l : List Nat} (h : okV n l) : l.length ≤ n := nodup_le n l h.1 h.2
/-- the table at b (1: the table; 71: the image) -/
def tabC (μ : mmMem) (b : Nat) (T : aT) : Prop :=
  (μ.1 b 0 = nI T.1 ∧ μ.1 b 1 = nI T.2.1.length ∧ μ.1 b 2 = nI T.2.2.2.2.1.length ∧ μ.1 b 3 = nI T.2.2.2.2.2.length) ∧
  (∀ c col, T.2.1[c]? = some col → colC μ (b + 6 + 4 * c) T.1 col) ∧ (vwC μ (b + 54) T.2.2.1 ∧ vwC μ (b + 56) T.2.2.2.1) ∧
  (∀ k q, T.2.2.2.2.1[k]? = some q → μ.1 (b + 3) k = nI q.1 ∧ μ.1 (b + 4) k = if q.2 = true then 1 else 0) ∧
  ∀ f q, T.2.2.2.2.2[f]? = some q → μ.1 (b + 58 + 2 * f) 0 = nI q.1 ∧ μ.1 (b + 58 + 2 * f) 1 = q.2.1 ∧ clC μ (b + 59 + 2 * f) q.2.2
theorem colC.fr {μ ν : mmMem} {a n : Nat} {c : aCol} (h : colC μ a n c) (e0 : eq3 μ ν a) (e1 : eq3 μ ν (a + 1)) (e2 : eq3 μ ν (a + 2)) (e3 : eq3 μ ν (a + 3)) : colC ν a n c := by
  obtain ⟨h1, h2, h3⟩ := h
  refine ⟨by rw [e0.1]; exact h1, by rw [e0.1]; exact h2, fun r hr => ?_⟩
  rw [e1.1, e2.2.1, e3.2.2]
  exact h3 r hr
theorem vwC.fr {μ ν : mmMem} {a : Nat} {l : List Nat} (h : vwC μ a l) (e0 : eq3 μ ν a) (e1 : eq3 μ ν (a + 1)) : vwC ν a l := by
  obtain ⟨h1, h2⟩ := h
  exact ⟨by rw [e0.1]; exact h1, fun i r hr => by rw [e1.1]; exact h2 i r hr⟩
theorem clC.fr {μ ν : mmMem} {p : Nat} {x : aC} (h : clC μ p x) (e : eq3 μ ν p) : clC ν p x := by
  obtain ⟨h1, h2, h3⟩ := h
  exact ⟨by rw [e.1]; exact h1, by rw [e.2.1]; exact h2, by rw [e.2.2]; exact h3⟩
theorem lt_of_get {α : Type} {l : List α} {i : Nat} {x : α} (h : l[i]? = some x) : i < l.length := (List.getElem?_eq_some_iff.mp h).1
theorem tabC.fr {μ ν : mmMem} {b : Nat} {T : aT} (h : tabC μ b T) (ok : okT T) (e : ∀ q, b ≤ q → q < b + 70 → eq3 μ ν q) : tabC ν b T := by
  obtain ⟨⟨h1, h2, h3, h4⟩, h5, ⟨h6, h7⟩, h8, h9⟩ := h
  have e0 := (e b (Nat.le_refl _) (by omega)).1
  refine ⟨⟨by rw [e0]; exact h1, by rw [e0]; exact h2, by rw [e0]; exact h3, by rw [e0]; exact h4⟩, fun c col hc => ?_, ⟨h6.fr (e _ (by omega) (by omega)) (e _ (by omega) (by omega)), h7.fr (e _ (by omega) (by omega)) (e _ (by omega) (by omega))⟩, fun k q hk => ?_, fun f q hf => ?_⟩
  · have := lt_of_get hc
    have := ok.2.1
    exact (h5 c col hc).fr (e _ (by omega) (by omega)) (e _ (by omega) (by omega)) (e _ (by omega) (by omega)) (e _ (by omega) (by omega))
  · rw [(e (b + 3) (by omega) (by omega)).1, (e (b + 4) (by omega) (by omega)).1]
    exact h8 k q hk
  · have := lt_of_get hf
    have := ok.2.2.2.2.2.2.2.1
    obtain ⟨g1, g2, g3⟩ := h9 f q hf
    have e1 := (e (b + 58 + 2 * f) (by omega) (by omega)).1
    exact ⟨by rw [e1]; exact g1, by rw [e1]; exact g2, g3.fr (e _ (by omega) (by omega))⟩
def txtC (μ : mmMem) (l : List Int32) : Prop := μ.1 141 0 = nI l.length ∧ ∀ i x, l[i]? = some x → μ.1 142 i = x
def okX (l : List Int32) : Prop := l.length ≤ 100 ∧ ∀ x ∈ l, 0 ≤ x.toInt ∧ x.toInt ≤ 127
def imgC (μ : mmMem) (o : Option aT) : Prop := match o with
  | none => μ.1 0 2 = 0
  | some T => μ.1 0 2 = 1 ∧ tabC μ 71 T ∧ okT T
/-- the class holds the state -/
def CS (μ : mmMem) (S : aS) : Prop := tabC μ 1 S.1 ∧ okT S.1 ∧ imgC μ S.2.1 ∧ μ.2.1 0 15 = S.2.2.1 ∧ (μ.1 0 16 = S.2.2.2.1.1 ∧ μ.1 0 17 = S.2.2.2.1.2.1 ∧ μ.1 0 18 = S.2.2.2.1.2.2) ∧ txtC μ S.2.2.2.2 ∧ okX S.2.2.2.2
/-- only the class's own slates differ -/
def scr (μ ν : mmMem) : Prop := (∀ q, q < 141 ∨ q = 142 ∨ 160 ≤ q → eq3 μ ν q) ∧ ν.1 141 0 = μ.1 141 0
def hiE (μ ν : mmMem) : Prop := ∀ q, 160 ≤ q → eq3 μ ν q
def loE (μ ν : mmMem) : Prop := ∀ q, q < 160 → eq3 μ ν q
theorem scr.refl (μ : mmMem) : scr μ μ := ⟨fun _ _ => eq3.rfl', rfl⟩
theorem scr.trans {μ ν ξ : mmMem} (h : scr μ ν) (h2 : scr ν ξ) : scr μ ξ := ⟨fun q hq => (h.1 q hq).trans (h2.1 q hq), h2.2.trans h.2⟩
theorem scr.hi {μ ν : mmMem} (h : scr μ ν) : hiE μ ν := fun q hq => h.1 q (Or.inr (Or.inr hq))
theorem hiE.refl (μ : mmMem) : hiE μ μ := fun _ _ => eq3.rfl'
theorem hiE.trans {μ ν ξ : mmMem} (h : hiE μ ν) (h2 : hiE ν ξ) : hiE μ ξ := fun q hq => (h q hq).trans (h2 q hq)
theorem loE.refl (μ : mmMem) : loE μ μ := fun _ _ => eq3.rfl'
theorem loE.trans {μ ν ξ : mmMem} (h : loE μ ν) (h2 : loE ν ξ) : loE μ ξ := fun q hq => (h q hq).trans (h2 q hq)
theorem setC_scr (μ : mmMem) (p : Nat) (x : aC) (h : 143 ≤ p) (h2 : p < 160) : scr μ (setC μ p x) := by
  refine ⟨fun q hq => ?_, ?_⟩
  · have : q ≠ p := by omega
    exact ⟨setC_1 _ _ _ _ this, setC_2 _ _ _ _ this, setC_3 _ _ _ _ this⟩
  · rw [setC_1 _ _ _ _ (by omega)]
theorem imgC.fr {μ ν : mmMem} {o : Option aT} (h : imgC μ o) (e0 : ν.1 0 2 = μ.1 0 2) (e : ∀ q, 71 ≤ q → q < 141 → eq3 μ ν q) : imgC ν o := by
  cases o with
  | none => exact e0.trans h
  | some T => exact ⟨e0.trans h.1, h.2.1.fr h.2.2 (fun q h1 h2 => e q h1 (by omega)), h.2.2⟩
theorem CS.fr {μ ν : mmMem} {S : aS} (h : CS μ S) (e : ∀ q, q < 141 ∨ q = 142 → eq3 μ ν q) (e2 : ν.1 141 0 = μ.1 141 0) : CS ν S := by
  obtain ⟨h1, h2, h3, h4, ⟨h5, h6, h7⟩, h8, h9⟩ := h
  have e0 := e 0 (by omega)
  refine ⟨h1.fr h2 (fun q _ _ => e q (by omega)), h2, h3.fr (by rw [e0.1]) (fun q _ _ => e q (by omega)), by rw [e0.2.1]; exact h4, ⟨by rw [e0.1]; exact h5, by rw [e0.1]; exact h6, by rw [e0.1]; exact h7⟩, ⟨e2.trans h8.1, fun i x hx => by rw [(e 142 (by omega)).1]; exact h8.2 i x hx⟩, h9⟩
theorem CS.scr {μ ν : mmMem} {S : aS} (h : CS μ S) (e : scr μ ν) : CS ν S := h.fr (fun q hq => e.1 q (by omega)) e.2
/-- what is refused is counted -/
def cntf (c : Int32 × Int32 × Int32) (code : Int32) : Int32 × Int32 × Int32 := if code = -21 then (c.1 + 1, c.2.1, c.2.2) else if code = -22 then (c.1, c.2.1 + 1, c.2.2) else if code = -23 then (c.1, c.2.1, c.2.2 + 1) else c
def rfs (S : aS) (code : Int32) : aS := (S.1, S.2.1, S.2.2.1, cntf S.2.2.2.1 code, S.2.2.2.2)
/-- the class's own object alone has changed, in a slot of ints -/
theorem CS.own {μ : mmMem} {S : aS} (h : CS μ S) (i : Nat) (x : Int32) (hi : i ≠ 2) : tabC (sI μ 0 i x) 1 S.1 ∧ okT S.1 ∧ imgC (sI μ 0 i x) S.2.1 ∧ (sI μ 0 i x).2.1 0 15 = S.2.2.1 ∧ txtC (sI μ 0 i x) S.2.2.2.2 ∧ okX S.2.2.2.2 := by
  obtain ⟨h1, h2, h3, h4, -, h8, h9⟩ := h
  have e : ∀ q, q ≠ 0 → eq3 μ (sI μ 0 i x) q := fun q hq => by simp [eq3, sI, hq]
  refine ⟨h1.fr h2 (fun q _ _ => e q (by omega)), h2, h3.fr (by simp [sI, upd, Ne.symm hi]) (fun q _ _ => e q (by omega)), h4, ⟨by rw [(e 141 (by omega)).1]; exact h8.1, fun j y hy => by rw [(e 142 (by omega)).1]; exact h8.2 j y hy⟩, h9⟩
theorem hiE_own (μ : mmMem) (i : Nat) (x : Int32) : hiE μ (sI μ 0 i x) := fun q hq => by
  have : q ≠ 0 := by omega
  simp [eq3, sI, this]
theorem c_refused {d : Nat} {code : Int32} {S : aS} {μ : mmMem} {K : Int32 → mmMem → Prop} (hd : 1 ≤ d) (hC : CS μ S) (h : ∀ ν, CS ν (rfs S code) → hiE μ ν → K code ν) : mmCI d M_X7_refused false 1 [.ref 0, .int code] μ K := by
  refine u_X7_refused hd ?_
  have h5 := hC.2.2.2.2.1
  refine ⟨fun n1 => ⟨fun n2 => ⟨fun n3 => ?_, fun n3 => ?_⟩, fun n2 => ?_⟩, fun n1 => ?_⟩
  · have e : rfs S code = S := by unfold rfs cntf; rw [if_neg n1, if_neg n2, if_neg n3]
    exact h μ (by rw [e]; exact hC) (hiE.refl _)
  · refine h _ ?_ (hiE_own _ _ _)
    obtain ⟨a1, a2, a3, a4, a5, a6⟩ := hC.own 18 (μ.1 0 18 + 1) (by decide)
    refine ⟨a1, a2, a3, a4, ?_, a5, a6⟩
    rw [n3]
    exact ⟨h5.1, h5.2.1, by rw [h5.2.2]; rfl⟩
  · refine h _ ?_ (hiE_own _ _ _)
    obtain ⟨a1, a2, a3, a4, a5, a6⟩ := hC.own 17 (μ.1 0 17 + 1) (by decide)
    refine ⟨a1, a2, a3, a4, ?_, a5, a6⟩
    rw [n2]
    exact ⟨h5.1, by rw [h5.2.1]; rfl, h5.2.2⟩
  · refine h _ ?_ (hiE_own _ _ _)
    obtain ⟨a1, a2, a3, a4, a5, a6⟩ := hC.own 16 (μ.1 0 16 + 1) (by decide)
    refine ⟨a1, a2, a3, a4, ?_, a5, a6⟩
    rw [n1]
    exact ⟨by rw [h5.1]; rfl, h5.2.1, h5.2.2⟩
/-- what stands against a column -/
def cref (T : aT) (c : Int32) : Int32 := if c < 0 ∨ ¬ c < 12 then -1 else match T.2.1[c.toNatClampNeg]? with
  | none => -23
  | some col => if col.2.1 = true then -22 else 0
theorem c_columnRefusal {d : Nat} {c : Int32} {S : aS} {μ : mmMem} {K : Int32 → mmMem → Prop} (hd : 2 ≤ d) (hC : CS μ S) (h : ∀ ν, CS ν (rfs S (cref S.1 c)) → hiE μ ν → K (cref S.1 c) ν) : mmCI d M_X7_columnRefusal false 1 [.ref 0, .int c] μ K := by
  refine u_X7_columnRefusal (by omega) ?_
  have ok := hC.2.1
  refine ⟨fun q => ?_, fun q => ⟨fun q2 => ?_, fun q2 => ?_⟩⟩
  · have e : cref S.1 c = -1 := if_pos (Or.inl q)
    rw [e] at h
    exact h μ hC (hiE.refl _)
  · obtain ⟨k, hk, rfl⟩ := nI_of q
    have e : cref S.1 (nI k) = match S.1.2.1[k]? with | none => -23 | some col => if col.2.1 = true then -22 else 0 := by
      unfold cref
      rw [if_neg (by rintro (w | w); exact q w; exact w q2), nI_clamp hk]
    rw [hC.1.1.2.1]
    have hl := ok.2.1
    refine ⟨fun q3 => ?_, fun q3 => ?_⟩
    · rw [nI_ltI hk (by omega)] at q3
      obtain ⟨col, hcol⟩ : ∃ col, S.1.2.1[k]? = some col := ⟨_, List.getElem?_eq_getElem q3⟩
      rw [hcol] at e
      dsimp only at e
      have hcc := (hC.1.2.1 k col hcol).2.1
      rw [show 1 + 6 + 4 * k = 7 + 4 * k by omega] at hcc
      rw [nI_clamp hk, hcc]
      cases hg : col.2.1 with
      | true =>
        rw [hg, if_pos rfl] at e
        rw [e] at h
        refine ⟨fun w => absurd w (by decide), fun _ => ?_⟩
        exact c_refused (by omega) hC h
      | false =>
        rw [hg, if_neg (by decide)] at e
        rw [e] at h
        exact ⟨fun _ => h μ hC (hiE.refl _), fun w => absurd rfl w⟩
    · rw [nI_ltI hk (by omega)] at q3
      rw [List.getElem?_eq_none (by omega)] at e
      dsimp only at e
      rw [e] at h
      exact c_refused (by omega) hC h
  · have e : cref S.1 c = -1 := if_pos (Or.inr q2)
    rw [e] at h
    exact h μ hC (hiE.refl _)
theorem cref_0 {T : aT} {c : Int32} (h : cref T c = 0) : ∃ k col, k < 12 ∧ c = nI k ∧ T.2.1[k]? = some col ∧ col.2.1 = false := by
  unfold cref at h
  split at h
  · exact absurd h (by decide)
  · rename_i q
    have q1 : ¬ c < 0 := fun w => q (Or.inl w)
    have q2 : c < 12 := Classical.not_not.mp fun w => q (Or.inr w)
    obtain ⟨k, hk, rfl⟩ := nI_of q1
    rw [nI_clamp hk] at h
    split at h
    · exact absurd h (by decide)
    · rename_i col hcol
      refine ⟨k, col, ?_, rfl, hcol, ?_⟩
      · exact (nI_ltI hk (by decide : (12 : Nat) < 2 ^ 31)).mp q2
      · cases hg : col.2.1 with
        | false => rfl
        | true => rw [hg] at h; exact absurd h (by decide)
end
section
/-! ===== what the calls come to ===== -/
def sT (S : aS) (T : aT) : aS := (T, S.2)
def szV (m n : Nat) (l : List Nat) : List Nat := l.filter (fun r => decide (r < n)) ++ List.range' m (n - m)
def renC (m n : Nat) (c : aCol) : aCol := (c.1, c.2.1, fun r => if m ≤ r ∧ r < n then newC c.1 else c.2.2 r)
def szT (T : aT) (n : Nat) : aT := (n, T.2.1.map (renC T.1 n), szV T.1 n T.2.2.1, szV T.1 n T.2.2.2.1, T.2.2.2.2)
def sp_size (n : Int32) (S : aS) : Int32 × aS := if n < 0 ∨ ¬ n ≤ 40 then (-2, S) else (nI S.1.1, sT S (szT S.1 n.toNatClampNeg))
def addT (T : aT) (c : aCol) : aT := (T.1, T.2.1 ++ [c], T.2.2)
def sp_column (k : Int32) (S : aS) : Int32 × aS := if k < 0 ∨ 10 < k then (-2, S) else if S.1.2.1.length < 12 then (nI S.1.2.1.length, sT S (addT S.1 (k, false, fun _ => newC k))) else (-4, S)
def withC (S : aS) (c : Int32) (f : Nat → aCol → Int32 × aS) : Int32 × aS := if cref S.1 c = 0 then (match S.1.2.1[c.toNatClampNeg]? with
  | some col => f c.toNatClampNeg col
  | none => (0, S)) else (cref S.1 c, rfs S (cref S.1 c))
theorem withC_no {S : aS} {c : Int32} {f : Nat → aCol → Int32 × aS} (h : ¬ cref S.1 c = 0) : withC S c f = (cref S.1 c, rfs S (cref S.1 c)) := if_neg h
theorem withC_ok {S : aS} {k : Nat} {col : aCol} {f : Nat → aCol → Int32 × aS} (hk : k < 12) (h : cref S.1 (nI k) = 0) (hc : S.1.2.1[k]? = some col) : withC S (nI k) f = f k col := by
  unfold withC
  rw [if_pos h, nI_clamp (by omega), hc]
def putCol (S : aS) (k : Nat) (c : aCol) : aS := sT S (S.1.1, S.1.2.1.set k c, S.1.2.2)
def sp_drop (c : Int32) (S : aS) : Int32 × aS := withC S c fun k col => (col.1, putCol S k (col.1, true, col.2.2))
def sp_kindOf (c : Int32) (S : aS) : Int32 × aS := withC S c fun _ col => (col.1, S)
abbrev noRow (T : aT) (r : Int32) : Prop := r < 0 ∨ ¬ r < nI T.1
theorem row_of {T : aT} {r : Int32} (ok : okT T) (h : ¬ noRow T r) : ∃ k, k < T.1 ∧ r = nI k := by
  have h1 : ¬ r < 0 := fun w => h (Or.inl w)
  have h2 : r < nI T.1 := Classical.not_not.mp fun w => h (Or.inr w)
  obtain ⟨k, hk, rfl⟩ := nI_of h1
  exact ⟨k, (nI_ltI hk (by have := ok.1; omega)).mp h2, rfl⟩
def sGot (S : aS) (v : Int64) : aS := (S.1, S.2.1, v, S.2.2.2)
def aWid (a b : Int32) : Bool := if a = b then true else if a = 0 ∨ b = 2 ∨ (a = 2 ∧ b = 3) then false else decide (a < b)
def aref (T : aT) (k r as : Int32) : Int32 := if as ≠ 8 ∧ 7 < k then -22 else if noRow T r then -21 else if as = 8 ∨ aWid k as = true then 0 else -22
def sp_ask (c r as : Int32) (S : aS) : Int32 × aS := withC S c fun _ col => if as < 0 ∨ 8 < as then (-2, S) else if aref S.1 col.1 r as = 0 then (if as = 8 then (100 + enK (col.2.2 r.toNatClampNeg), sGot S (col.2.2 r.toNatClampNeg).2) else (1, sGot S (aCast (col.2.2 r.toNatClampNeg) as))) else (aref S.1 col.1 r as, rfs S (aref S.1 col.1 r as))
/-! ===== the class's table ===== -/
theorem kcol : ∀ c, c < 12 → mmKD (7 + 4 * c) = 1 ∧ mmKD (77 + 4 * c) = 1 := by decide +kernel
theorem kvw : ∀ v, v < 2 → mmKD (55 + 2 * v) = 6 ∧ mmKD (125 + 2 * v) = 6 := by decide +kernel
theorem colUpd.col {μ ν : mmMem} {a m n : Nat} {c : aCol} (h : colUpd μ ν a (fun r => if m ≤ r ∧ r < n then some (newC c.1) else none)) (hc : colC μ a m c) : colC ν a n (renC m n c) := by
  obtain ⟨h1, h2, h3⟩ := h
  obtain ⟨c1, c2, c3⟩ := hc
  have e := h1 a (by omega) (by omega) (by omega)
  refine ⟨by rw [e.1]; exact c1, by rw [e.1]; exact c2, fun r hr => ?_⟩
  obtain ⟨g1, g2, g3⟩ := h3 r
  rw [g1, g2, g3]
  dsimp only
  by_cases hm : m ≤ r ∧ r < n
  · rw [if_pos hm]
    have : (renC m n c).2.2 r = newC c.1 := if_pos hm
    rw [this]
    exact ⟨rfl, rfl, rfl⟩
  · rw [if_neg hm]
    have : (renC m n c).2.2 r = c.2.2 r := if_neg hm
    rw [this]
    exact c3 r (by omega)
theorem c_tcols {d n : Nat} {T : aT} {P : Option Value → mmMem → Prop} (hd : 1 ≤ d) (ok : okT T) (hn : n ≤ 40) (μ0 : mmMem) (h0 : μ0.1 1 0 = nI T.1 ∧ μ0.1 1 1 = nI T.2.1.length) (hcols : ∀ c col, T.2.1[c]? = some col → colC μ0 (7 + 4 * c) T.1 col) (h : ∀ ν, (∀ q, q < 7 ∨ 55 ≤ q → eq3 μ0 ν q) → (∀ c col, T.2.1[c]? = some col → colC ν (7 + 4 * c) n (renC T.1 n col)) → mmEnds d M_X4_resize 32 [.ref 1, .int (nI n), .int (0 : Int32)] [] ν P) :
    ∀ (j c : Nat) (μ : mmMem), T.2.1.length - c = j → c ≤ T.2.1.length → (∀ q, q < 7 ∨ 55 ≤ q → eq3 μ0 μ q) → (∀ i col, T.2.1[i]? = some col → (i < c → colC μ (7 + 4 * i) n (renC T.1 n col)) ∧ (c ≤ i → colC μ (7 + 4 * i) T.1 col)) → mmEnds d M_X4_resize 2 [.ref 1, .int (nI n), .int (nI c)] [] μ P := by
  have hl := ok.2.1
  have hr := ok.1
  intro j
  induction j with
  | zero =>
    intro c μ hj hc hf hi
    refine s_X4_resize_2 (by omega) kd_1 ?_
    rw [(hf 1 (by omega)).1, h0.2]
    refine ⟨fun _ => h μ hf (fun i col hic => (hi i col hic).1 (by have := lt_of_get hic; omega)), fun q => absurd (nI_le (by omega) (by omega)) q⟩
  | succ j ih =>
    intro c μ hj hc hf hi
    refine s_X4_resize_2 (by omega) kd_1 ?_
    have hlt : c < T.2.1.length := by omega
    obtain ⟨col, hcol⟩ : ∃ col, T.2.1[c]? = some col := ⟨_, List.getElem?_eq_getElem hlt⟩
    have hcc := (hi c col hcol).2 (Nat.le_refl _)
    have okc := ok.2.2.1 col (List.mem_of_getElem? hcol)
    rw [(hf 1 (by omega)).1, h0.2, h0.1, nI_clamp (by omega), nI_1]
    refine ⟨fun q => absurd q (nI_ge (by omega) (by omega)), fun _ => ⟨vp_in_nI (by omega) (by decide), ?_⟩⟩
    show mmC0 d M_X1_renew false 2 [.ref (7 + 4 * c), .int (nI T.1), .int (nI n)] μ _
    refine c_renew (by omega) (kcol c (by omega)).1 ⟨okc.1, okc.2.1⟩ hr hn hcc.1 (fun ν hν => ?_)
    refine ih (c + 1) ν (by omega) (by omega) (fun q hq => (hf q hq).trans (hν.1 q (by omega) (by omega) (by omega))) (fun i col2 hi2 => ⟨fun hlt2 => ?_, fun hle => ?_⟩)
    · by_cases hic : i = c
      · subst hic
        rw [hcol] at hi2
        cases hi2
        exact hν.col hcc
      · exact ((hi i col2 hi2).1 (by omega)).fr (hν.1 _ (by omega) (by omega) (by omega)) (hν.1 _ (by omega) (by omega) (by omega)) (hν.1 _ (by omega) (by omega) (by omega)) (hν.1 _ (by omega) (by omega) (by omega))
    · exact ((hi i col2 hi2).2 (by omega)).fr (hν.1 _ (by omega) (by omega) (by omega)) (hν.1 _ (by omega) (by omega) (by omega)) (hν.1 _ (by omega) (by omega) (by omega)) (hν.1 _ (by omega) (by omega) (by omega))
theorem szV_ok {m n : Nat} {l : List Nat} (h : okV m l) : okV n (szV m n l) := by
  refine ⟨?_, fun r hr => ?_⟩
  · unfold szV
    refine List.nodup_append.mpr ⟨h.1.filter _, List.nodup_range', fun a ha b hb => ?_⟩
    have h1 := h.2 a (List.mem_filter.mp ha).1
    have h2 := (List.mem_range'_1.mp hb).1
    omega
  · unfold szV at hr
    rcases List.mem_append.mp hr with q | q
    · exact of_decide_eq_true (List.mem_filter.mp q).2
    · have := List.mem_range'_1.mp q
      omega
theorem newC_ok {k : Int32} (h : 0 ≤ k.toInt ∧ k.toInt ≤ 10) : okC (newC k) ∧ fitK k (newC k) := by
  have e : ∀ j : Int32, k.toInt = j.toInt → k = j := fun j q => Int32.toInt_inj.mp q
  have : k.toInt = 0 ∨ k.toInt = 1 ∨ k.toInt = 2 ∨ k.toInt = 3 ∨ k.toInt = 4 ∨ k.toInt = 5 ∨ k.toInt = 6 ∨ k.toInt = 7 ∨ k.toInt = 8 ∨ k.toInt = 9 ∨ k.toInt = 10 := by omega
  have : k = 0 ∨ k = 1 ∨ k = 2 ∨ k = 3 ∨ k = 4 ∨ k = 5 ∨ k = 6 ∨ k = 7 ∨ k = 8 ∨ k = 9 ∨ k = 10 := by
    rcases this with q | q | q | q | q | q | q | q | q | q | q
    · simp [e 0 q]
    · simp [e 1 q]
    · simp [e 2 q]
    · simp [e 3 q]
    · simp [e 4 q]
    · simp [e 5 q]
    · simp [e 6 q]
    · simp [e 7 q]
    · simp [e 8 q]
    · simp [e 9 q]
    · simp [e 10 q]
  have z6 : ofF (bF 0) = 0 ∧ okF (bF 0) := ⟨by decide +kernel, Or.inl (by decide +kernel)⟩
  have z7 : okD (bD 0) := Or.inl rfl
  have l1 : aLow 1 0 = 0 := by decide +kernel
  have l2 : aLow 2 0 = 0 := by decide +kernel
  have l3 : aLow 3 0 = 0 := by decide +kernel
  have l4 : aLow 4 0 = 0 := by decide +kernel
  rcases this with rfl | rfl | rfl | rfl | rfl | rfl | rfl | rfl | rfl | rfl | rfl <;> simp [newC, okC, fitK, z6, z7, l1, l2, l3, l4]
theorem renC_ok {m n : Nat} {c : aCol} (h : okCol m c) : okCol n (renC m n c) := by
  refine ⟨h.1, h.2.1, fun r hr => ?_⟩
  by_cases q : m ≤ r ∧ r < n
  · have : (renC m n c).2.2 r = newC c.1 := if_pos q
    rw [this]
    exact newC_ok ⟨h.1, h.2.1⟩
  · have : (renC m n c).2.2 r = c.2.2 r := if_neg q
    rw [this]
    exact h.2.2 r (by omega)
theorem szT_ok {T : aT} {n : Nat} (h : okT T) (hn : n ≤ 40) : okT (szT T n) := by
  obtain ⟨h1, h2, h3, h4, h5, h6, h7, h8, h9⟩ := h
  refine ⟨hn, by simpa [szT] using h2, fun c hc => ?_, szV_ok h4, szV_ok h5, h6, by simpa [szT] using h7, h8, by simpa [szT] using h9⟩
  obtain ⟨c0, hc0, rfl⟩ := List.mem_map.mp hc
  exact renC_ok (h3 c0 hc0)
theorem szV_len {m n : Nat} {l : List Nat} (h : okV m l) (hn : n ≤ 40) : (l.filter (fun r => decide (r < n))).length + (n - m) ≤ 40 := by
  have := (szV_ok (n := n) h).len
  unfold szV at this
  simp at this
  omega
theorem c_tresize {d n : Nat} {T : aT} {μ : mmMem} {K : mmMem → Prop} (hd : 4 ≤ d) (hT : tabC μ 1 T) (ok : okT T) (hn : n ≤ 40) (h : ∀ ν, tabC ν 1 (szT T n) → (∀ q, q < 1 ∨ 71 ≤ q → eq3 μ ν q) → K ν) : mmC0 d M_X4_resize false 1 [.ref 1, .int (nI n)] μ K := by
  refine u_X4_resize (by omega) kd_1 ?_
  obtain ⟨⟨t1, t2, t3, t4⟩, t5, ⟨t6, t7⟩, t8, t9⟩ := hT
  have l0 := ok.2.2.2.1.len
  have l1 := ok.2.2.2.2.1.len
  have hr := ok.1
  have lt0 : ∀ r ∈ T.2.2.1, r < 2 ^ 31 := fun r q => by have := ok.2.2.2.1.2 r q; omega
  have lt1 : ∀ r ∈ T.2.2.2.1, r < 2 ^ 31 := fun r q => by have := ok.2.2.2.2.1.2 r q; omega
  refine c_tcols (by omega) ok hn μ ⟨t1, t2⟩ (fun c col hc => by have := t5 c col hc; rwa [show 1 + 6 + 4 * c = 7 + 4 * c by omega] at this) (fun ν f1 c1 => ?_) _ 0 μ rfl (Nat.zero_le _) (fun q _ => eq3.rfl') (fun i col hc => ⟨fun w => absurd w (Nat.not_lt_zero _), fun _ => by have := t5 i col hc; rwa [show 1 + 6 + 4 * i = 7 + 4 * i by omega] at this⟩)
  refine s_X4_resize_32 (by omega) kd_1 ?_
  refine ⟨fun q => absurd q (by decide), fun _ => ⟨vp_lit (by decide), ?_⟩⟩
  have e1 := (f1 1 (by omega)).1
  rw [e1, t1]
  show mmC0 (d - 1) M_X6_resize false 2 [.ref 55, .int (nI T.1), .int (nI n)] ν _
  refine c_vresize (by omega) kd_55 hr hn lt0 (by omega) (szV_len ok.2.2.2.1 hn) (t6.fr (f1 _ (by omega)) (f1 _ (by omega))) (fun ν2 f2 v2 => ?_)
  refine s_X4_resize_32 (by omega) kd_1 ?_
  refine ⟨fun q => absurd q (by decide), fun _ => ⟨vp_lit (by decide), ?_⟩⟩
  have e2 : ν2.1 1 0 = nI T.1 := by rw [(f2.1 1 (by omega) (by omega)).1, e1]; exact t1
  rw [e2]
  show mmC0 (d - 1) M_X6_resize false 2 [.ref 57, .int (nI T.1), .int (nI n)] ν2 _
  have t7' : vwC ν2 57 T.2.2.2.1 := (t7.fr (f1 _ (by omega)) (f1 _ (by omega))).fr (f2.1 _ (by omega) (by omega)) (f2.1 _ (by omega) (by omega))
  refine c_vresize (by omega) kd_57 hr hn lt1 (by omega) (szV_len ok.2.2.2.2.1 hn) t7' (fun ν3 f3 v3 => ?_)
  refine s_X4_resize_32 (by omega) kd_1 ?_
  refine ⟨fun _ => ?_, fun q => absurd (by decide) q⟩
  have g : ∀ q, q ≠ 1 → (q < 7 ∨ 59 ≤ q) → eq3 μ (sI ν3 1 0 (nI n)) q := fun q h1 hq => by
    refine (((f1 q (by omega)).trans (f2.1 q (by omega) (by omega))).trans (f3.1 q (by omega) (by omega))).trans ?_
    simp [eq3, sI, h1]
  have g3 : ∀ q, q ≠ 1 → eq3 ν3 (sI ν3 1 0 (nI n)) q := fun q h1 => by simp [eq3, sI, h1]
  have es : ∀ i, i ≠ 0 → (sI ν3 1 0 (nI n)).1 1 i = μ.1 1 i := fun i hi => by
    have e3 : ν3.1 1 = μ.1 1 := by rw [(f3.1 1 (by omega) (by omega)).1, (f2.1 1 (by omega) (by omega)).1, e1]
    simp [sI, upd, hi, e3]
  refine h _ ⟨⟨?_, ?_, ?_, ?_⟩, fun c col hc => ?_, ⟨?_, ?_⟩, fun k q hk => ?_, fun f q hf => ?_⟩ (fun q hq => g q (by omega) (by omega))
  · simp [sI, upd, szT]
  · rw [es 1 (by decide), t2]; simp [szT]
  · rw [es 2 (by decide), t3]; simp [szT]
  · rw [es 3 (by decide), t4]; simp [szT]
  · have hc' : (T.2.1.map (renC T.1 n))[c]? = some col := hc
    rw [List.getElem?_map, Option.map_eq_some_iff] at hc'
    obtain ⟨c0, hc0, rfl⟩ := hc'
    have hlt := lt_of_get hc0
    have hl := ok.2.1
    have := c1 c c0 hc0
    rw [show 1 + 6 + 4 * c = 7 + 4 * c by omega]
    have fr : ∀ q, 7 ≤ q → q < 55 → eq3 ν (sI ν3 1 0 (nI n)) q := fun q h1 h2 => ((f2.1 q (by omega) (by omega)).trans (f3.1 q (by omega) (by omega))).trans (g3 q (by omega))
    exact this.fr (fr _ (by omega) (by omega)) (fr _ (by omega) (by omega)) (fr _ (by omega) (by omega)) (fr _ (by omega) (by omega))
  · exact (v2.fr (f3.1 _ (by omega) (by omega)) (f3.1 _ (by omega) (by omega))).fr (g3 _ (by omega)) (g3 _ (by omega))
  · exact v3.fr (g3 _ (by omega)) (g3 _ (by omega))
  · rw [(g (1 + 3) (by omega) (by omega)).1, (g (1 + 4) (by omega) (by omega)).1]
    exact t8 k q hk
  · have hlt := lt_of_get hf
    obtain ⟨w1, w2, w3⟩ := t9 f q hf
    have e9 := (g (1 + 58 + 2 * f) (by omega) (by omega)).1
    exact ⟨by rw [e9]; exact w1, by rw [e9]; exact w2, w3.fr (g _ (by omega) (by omega))⟩
theorem c_size {d : Nat} {n : Int32} {S : aS} {μ : mmMem} {K : Int32 → mmMem → Prop} (hd : 5 ≤ d) (hC : CS μ S) (h : ∀ ν, CS ν (sp_size n S).2 → hiE μ ν → K (sp_size n S).1 ν) : mmCI d M_X7_size false 1 [.ref 0, .int n] μ K := by
  refine u_X7_size (by omega) ?_
  refine ⟨fun q => ?_, fun q => ⟨fun q2 => ?_, fun q2 => ?_⟩⟩
  · have e : sp_size n S = (-2, S) := if_pos (Or.inl q)
    rw [e] at h
    exact h μ hC (hiE.refl _)
  · obtain ⟨k, hk, rfl⟩ := nI_of q
    have hk2 : k ≤ 40 := (nI_leI hk (by decide : (40 : Nat) < 2 ^ 31)).mp q2
    have e : sp_size (nI k) S = (nI S.1.1, sT S (szT S.1 k)) := by
      unfold sp_size
      rw [if_neg (by rintro (w | w); exact q w; exact w q2), nI_clamp hk]
    rw [e] at h
    refine c_tresize (by omega) hC.1 hC.2.1 hk2 (fun ν hν f => ?_)
    obtain ⟨h1, h2, h3, h4, ⟨h5, h6, h7⟩, h8, h9⟩ := hC
    rw [h1.1.1]
    have e0 := f 0 (by omega)
    refine h ν ⟨hν, szT_ok h2 hk2, h3.fr (by rw [e0.1]) (fun q _ _ => f q (by omega)), by rw [e0.2.1]; exact h4, ⟨by rw [e0.1]; exact h5, by rw [e0.1]; exact h6, by rw [e0.1]; exact h7⟩, ⟨by rw [(f 141 (by omega)).1]; exact h8.1, fun i x hx => by rw [(f 142 (by omega)).1]; exact h8.2 i x hx⟩, h9⟩ (fun q hq => f q (by omega))
  · have e : sp_size n S = (-2, S) := if_pos (Or.inr q2)
    rw [e] at h
    exact h μ hC (hiE.refl _)
end
section
/-! ===== the class: columns come and go ===== -/
theorem CS.tab {μ ν : mmMem} {S : aS} {T : aT} (h : CS μ S) (hT : tabC ν 1 T) (okt : okT T) (e : ∀ q, (q < 1 ∨ 71 ≤ q) → (q < 141 ∨ q = 142) → eq3 μ ν q) (e2 : ν.1 141 0 = μ.1 141 0) : CS ν (sT S T) := by
  obtain ⟨h1, h2, h3, h4, ⟨h5, h6, h7⟩, h8, h9⟩ := h
  have e0 := e 0 (by omega) (by omega)
  exact ⟨hT, okt, h3.fr (by rw [e0.1]) (fun q _ _ => e q (by omega) (by omega)), by rw [e0.2.1]; exact h4, ⟨by rw [e0.1]; exact h5, by rw [e0.1]; exact h6, by rw [e0.1]; exact h7⟩, ⟨e2.trans h8.1, fun i x hx => by rw [(e 142 (by omega) (by omega)).1]; exact h8.2 i x hx⟩, h9⟩
theorem tabC.setCol {μ ν : mmMem} {T : aT} {k : Nat} {c : aCol} (h : tabC μ 1 T) (ok : okT T) (hk : k < T.2.1.length) (f : ∀ q, (q < 7 + 4 * k ∨ 11 + 4 * k ≤ q) → q < 71 → eq3 μ ν q) (hc : colC ν (7 + 4 * k) T.1 c) : tabC ν 1 (T.1, T.2.1.set k c, T.2.2) := by
  obtain ⟨⟨h1, h2, h3, h4⟩, h5, ⟨h6, h7⟩, h8, h9⟩ := h
  have hl := ok.2.1
  have e0 := (f 1 (by omega) (by omega)).1
  refine ⟨⟨by rw [e0]; exact h1, by rw [e0]; simpa using h2, by rw [e0]; exact h3, by rw [e0]; exact h4⟩, fun i col hi => ?_, ⟨h6.fr (f _ (by omega) (by omega)) (f _ (by omega) (by omega)), h7.fr (f _ (by omega) (by omega)) (f _ (by omega) (by omega))⟩, fun i q hi => ?_, fun i q hi => ?_⟩
  · dsimp only at hi
    rw [List.getElem?_set] at hi
    by_cases hki : k = i
    · subst hki
      rw [if_pos rfl, if_pos hk] at hi
      cases hi
      rw [show 1 + 6 + 4 * k = 7 + 4 * k by omega]
      exact hc
    · rw [if_neg hki] at hi
      have := lt_of_get hi
      exact (h5 i col hi).fr (f _ (by omega) (by omega)) (f _ (by omega) (by omega)) (f _ (by omega) (by omega)) (f _ (by omega) (by omega))
  · rw [(f (1 + 3) (by omega) (by omega)).1, (f (1 + 4) (by omega) (by omega)).1]
    exact h8 i q hi
  · have : i < T.2.2.2.2.2.length := lt_of_get hi
    have := ok.2.2.2.2.2.2.2.1
    obtain ⟨g1, g2, g3⟩ := h9 i q hi
    have e1 := (f (1 + 58 + 2 * i) (by omega) (by omega)).1
    exact ⟨by rw [e1]; exact g1, by rw [e1]; exact g2, g3.fr (f _ (by omega) (by omega))⟩
theorem okT.setCol {T : aT} {k : Nat} {c : aCol} (ok : okT T) (hc : okCol T.1 c) : okT (T.1, T.2.1.set k c, T.2.2) := by
  obtain ⟨h1, h2, h3, h4, h5, h6, h7, h8, h9⟩ := ok
  refine ⟨h1, by simpa using h2, fun x hx => ?_, h4, h5, h6, by simpa using h7, h8, by simpa using h9⟩
  rcases List.mem_or_eq_of_mem_set hx with q | q
  · exact h3 x q
  · rw [q]; exact hc
theorem CS.putCol {μ ν : mmMem} {S : aS} {k : Nat} {c : aCol} (h : CS μ S) (hk : k < S.1.2.1.length) (f : ∀ q, (q < 7 + 4 * k ∨ 11 + 4 * k ≤ q) → (q < 141 ∨ q = 142) → eq3 μ ν q) (e2 : ν.1 141 0 = μ.1 141 0) (hc : colC ν (7 + 4 * k) S.1.1 c) (okc : okCol S.1.1 c) : CS ν (putCol S k c) := by
  have hl := h.2.1.2.1
  exact h.tab (h.1.setCol h.2.1 hk (fun q h1 h2 => f q h1 (by omega)) hc) (h.2.1.setCol okc) (fun q h1 h2 => f q (by omega) h2) e2
theorem CS.colC {μ : mmMem} {S : aS} {k : Nat} {c : aCol} (h : CS μ S) (hk : S.1.2.1[k]? = some c) : colC μ (7 + 4 * k) S.1.1 c := by
  have := h.1.2.1 k c hk
  rwa [show 1 + 6 + 4 * k = 7 + 4 * k by omega] at this
theorem CS.okCol {μ : mmMem} {S : aS} {k : Nat} {c : aCol} (h : CS μ S) (hk : S.1.2.1[k]? = some c) : okCol S.1.1 c := h.2.1.2.2.1 c (List.mem_of_getElem? hk)
theorem c_begin {d a n : Nat} {kd : Int32} {μ : mmMem} {K : mmMem → Prop} (hd : 2 ≤ d) (ha : mmKD a = 1) (hk : 0 ≤ kd.toInt ∧ kd.toInt ≤ 10) (hn : n ≤ 40) (h : ∀ ν, colC ν a n (kd, false, fun _ => newC kd) → (∀ q, q < a ∨ a + 4 ≤ q → eq3 μ ν q) → K ν) : mmC0 d M_X1_begin false 2 [.ref a, .int kd, .int (nI n)] μ K := by
  refine u_X1_begin (by omega) ha ?_
  refine c_renew (m := 0) (kd := kd) (by omega) ha hk (by omega) hn (by simp [sI, upd]) (fun ν hν => ?_)
  have e0 : ∀ q, q ≠ a → eq3 μ (sI (sI μ a 0 kd) a 1 0) q := fun q hq => by simp [eq3, sI, hq]
  obtain ⟨f1, f2, f3⟩ := hν
  refine h ν ⟨?_, ?_, fun r hr => ?_⟩ (fun q hq => (e0 q (by omega)).trans (f1 q (by omega) (by omega) (by omega)))
  · rw [(f1 a (by omega) (by omega) (by omega)).1]; simp [sI, upd]
  · rw [(f1 a (by omega) (by omega) (by omega)).1]; simp [sI, upd]
  · obtain ⟨g1, g2, g3⟩ := f3 r
    rw [g1, g2, g3]
    dsimp only
    rw [if_pos ⟨Nat.zero_le _, hr⟩]
    exact ⟨rfl, rfl, rfl⟩
theorem addT_ok {T : aT} {c : aCol} (ok : okT T) (hl : T.2.1.length < 12) (hc : okCol T.1 c) : okT (addT T c) := by
  obtain ⟨h1, h2, h3, h4, h5, h6, h7, h8, h9⟩ := ok
  refine ⟨h1, by simp [addT]; omega, fun x hx => ?_, h4, h5, h6, fun k hk => ?_, h8, fun f hf => ?_⟩
  · rcases List.mem_append.mp hx with q | q
    · exact h3 x q
    · rw [List.mem_singleton.mp q]; exact hc
  · have := h7 k hk
    simp [addT]; omega
  · obtain ⟨g1, g2⟩ := h9 f hf
    exact ⟨by simp [addT]; omega, g2⟩
theorem tabC.add {μ ν : mmMem} {T : aT} {c : aCol} (h : tabC μ 1 T) (ok : okT T) (hl : T.2.1.length < 12) (f : ∀ q, q ≠ 1 → (q < 7 + 4 * T.2.1.length ∨ 11 + 4 * T.2.1.length ≤ q) → q < 71 → eq3 μ ν q) (e : ν.1 1 1 = nI (T.2.1.length + 1) ∧ ν.1 1 0 = μ.1 1 0 ∧ ν.1 1 2 = μ.1 1 2 ∧ ν.1 1 3 = μ.1 1 3) (hc : colC ν (7 + 4 * T.2.1.length) T.1 c) : tabC ν 1 (addT T c) := by
  obtain ⟨⟨h1, h2, h3, h4⟩, h5, ⟨h6, h7⟩, h8, h9⟩ := h
  refine ⟨⟨by rw [e.2.1]; exact h1, by rw [e.1]; simp [addT], by rw [e.2.2.1]; exact h3, by rw [e.2.2.2]; exact h4⟩, fun i col hi => ?_, ⟨h6.fr (f _ (by omega) (by omega) (by omega)) (f _ (by omega) (by omega) (by omega)), h7.fr (f _ (by omega) (by omega) (by omega)) (f _ (by omega) (by omega) (by omega))⟩, fun i q hi => ?_, fun i q hi => ?_⟩
  · have hi' : (T.2.1 ++ [c])[i]? = some col := hi
    rw [show 1 + 6 + 4 * i = 7 + 4 * i by omega]
    by_cases hlt : i < T.2.1.length
    · rw [List.getElem?_append_left hlt] at hi'
      have := h5 i col hi'
      rw [show 1 + 6 + 4 * i = 7 + 4 * i by omega] at this
      exact this.fr (f _ (by omega) (by omega) (by omega)) (f _ (by omega) (by omega) (by omega)) (f _ (by omega) (by omega) (by omega)) (f _ (by omega) (by omega) (by omega))
    · have h10 := lt_of_get hi'
      simp at h10
      have : i = T.2.1.length := by omega
      subst this
      rw [List.getElem?_concat_length] at hi'
      cases hi'
      exact hc
  · rw [(f (1 + 3) (by omega) (by omega) (by omega)).1, (f (1 + 4) (by omega) (by omega) (by omega)).1]
    exact h8 i q hi
  · have : i < T.2.2.2.2.2.length := lt_of_get hi
    have := ok.2.2.2.2.2.2.2.1
    obtain ⟨g1, g2, g3⟩ := h9 i q hi
    have e1 := (f (1 + 58 + 2 * i) (by omega) (by omega) (by omega)).1
    exact ⟨by rw [e1]; exact g1, by rw [e1]; exact g2, g3.fr (f _ (by omega) (by omega) (by omega))⟩
theorem i32_of {k : Int32} (h1 : ¬ k < 0) (h2 : ¬ 10 < k) : 0 ≤ k.toInt ∧ k.toInt ≤ 10 := by
  rw [Int32.lt_iff_toInt_lt] at h1 h2
  exact ⟨Int.not_lt.mp h1, Int.not_lt.mp h2⟩
theorem c_column {d : Nat} {k : Int32} {S : aS} {μ : mmMem} {K : Int32 → mmMem → Prop} (hd : 4 ≤ d) (hC : CS μ S) (h : ∀ ν, CS ν (sp_column k S).2 → hiE μ ν → K (sp_column k S).1 ν) : mmCI d M_X7_column false 1 [.ref 0, .int k] μ K := by
  refine u_X7_column (by omega) ?_
  refine ⟨fun q => ?_, fun q => ⟨fun q2 => ?_, fun q2 => ?_⟩⟩
  · have e : sp_column k S = (-2, S) := if_pos (Or.inl q)
    rw [e] at h
    exact h μ hC (hiE.refl _)
  · have e : sp_column k S = (-2, S) := if_pos (Or.inr q2)
    rw [e] at h
    exact h μ hC (hiE.refl _)
  · have hk := i32_of q q2
    have hl := hC.2.1.2.1
    rw [hC.1.1.2.1, hC.1.1.1, nI_1]
    refine ⟨fun q3 => ?_, fun q3 => ?_⟩
    · have hlt : S.1.2.1.length < 12 := (nI_ltI (by omega) (by decide : (12 : Nat) < 2 ^ 31)).mp q3
      have e : sp_column k S = (nI S.1.2.1.length, sT S (addT S.1 (k, false, fun _ => newC k))) := by
        unfold sp_column
        rw [if_neg (by rintro (w | w); exact q w; exact q2 w), if_pos hlt]
      rw [e] at h
      have e1 : nI (S.1.2.1.length + 1) - 1 = nI S.1.2.1.length := nI_pred _
      rw [e1, nI_clamp (by omega)]
      refine ⟨vp_in_nI hlt (by decide), ?_⟩
      refine c_begin (by omega) (kcol _ hlt).1 hk hC.2.1.1 (fun ν hν f => ?_)
      have g0 : ∀ q, q ≠ 1 → eq3 μ (sI μ 1 1 (nI (S.1.2.1.length + 1))) q := fun q hq => by simp [eq3, sI, hq]
      have g : ∀ q, q ≠ 1 → (q < 7 + 4 * S.1.2.1.length ∨ 11 + 4 * S.1.2.1.length ≤ q) → eq3 μ ν q := fun q h1 h2 => (g0 q h1).trans (f q (by omega))
      have e2 : ν.1 1 = (sI μ 1 1 (nI (S.1.2.1.length + 1))).1 1 := (f 1 (by omega)).1
      have e3 : ν.1 1 1 = nI (S.1.2.1.length + 1) := by rw [e2]; simp [sI, upd]
      rw [e3, e1]
      have okc : okCol S.1.1 (k, false, fun _ => newC k) := ⟨hk.1, hk.2, fun r _ => newC_ok hk⟩
      refine h ν (hC.tab (hC.1.add hC.2.1 hlt (fun q h1 h2 _ => g q h1 h2) ⟨e3, by rw [e2]; simp [sI, upd], by rw [e2]; simp [sI, upd], by rw [e2]; simp [sI, upd]⟩ hν) (addT_ok hC.2.1 hlt okc) (fun q h1 h2 => g q (by omega) (by omega)) (by rw [(g 141 (by omega) (by omega)).1])) (fun q hq => g q (by omega) (by omega))
    · have hlt : ¬ S.1.2.1.length < 12 := fun w => q3 ((nI_ltI (by omega) (by decide : (12 : Nat) < 2 ^ 31)).mpr w)
      have e : sp_column k S = (-4, S) := by
        unfold sp_column
        rw [if_neg (by rintro (w | w); exact q w; exact q2 w), if_neg hlt]
      rw [e] at h
      exact h μ hC (hiE.refl _)
theorem c_drop {d : Nat} {c : Int32} {S : aS} {μ : mmMem} {K : Int32 → mmMem → Prop} (hd : 3 ≤ d) (hC : CS μ S) (h : ∀ ν, CS ν (sp_drop c S).2 → hiE μ ν → K (sp_drop c S).1 ν) : mmCI d M_X7_drop false 1 [.ref 0, .int c] μ K := by
  refine u_X7_drop (by omega) ?_
  refine c_columnRefusal (by omega) hC (fun ν hν hh => ?_)
  refine ⟨fun q => ?_, fun q => ?_⟩
  · obtain ⟨k, col, hk, rfl, hcol, hg⟩ := cref_0 q
    have e : sp_drop (nI k) S = (col.1, putCol S k (col.1, true, col.2.2)) := withC_ok hk q hcol
    rw [e] at h
    rw [q] at hν
    rw [nI_clamp (by omega)]
    refine ⟨vp_in_nI hk (by decide), ?_⟩
    have hcc := CS.colC (S := S) hν hcol
    have hoc := CS.okCol (S := S) hν hcol
    have e1 : (sI ν (7 + 4 * k) 1 1).1 (7 + 4 * k) 0 = col.1 := by simp [sI, upd, hcc.1]
    rw [e1]
    have g : ∀ q, q ≠ 7 + 4 * k → eq3 ν (sI ν (7 + 4 * k) 1 1) q := fun q hq => by simp [eq3, sI, hq]
    have hlt := lt_of_get hcol
    refine h _ (CS.putCol (S := S) hν hlt (fun q h1 _ => g q (by omega)) (by rw [(g 141 (by omega)).1]) ⟨e1, by simp [sI, upd], fun r hr => ?_⟩ ⟨hoc.1, hoc.2.1, hoc.2.2⟩) (hh.trans fun q hq => g q (by omega))
    rw [(g _ (by omega)).1, (g _ (by omega)).2.1, (g _ (by omega)).2.2]
    exact hcc.2.2 r hr
  · have e : sp_drop c S = (cref S.1 c, rfs S (cref S.1 c)) := withC_no q
    rw [e] at h
    exact h ν hν hh
theorem c_kindOf {d : Nat} {c : Int32} {S : aS} {μ : mmMem} {K : Int32 → mmMem → Prop} (hd : 3 ≤ d) (hC : CS μ S) (h : ∀ ν, CS ν (sp_kindOf c S).2 → hiE μ ν → K (sp_kindOf c S).1 ν) : mmCI d M_X7_kindOf false 1 [.ref 0, .int c] μ K := by
  refine u_X7_kindOf (by omega) ?_
  refine c_columnRefusal (by omega) hC (fun ν hν hh => ?_)
  refine ⟨fun q => ?_, fun q => ?_⟩
  · obtain ⟨k, col, hk, rfl, hcol, hg⟩ := cref_0 q
    have e : sp_kindOf (nI k) S = (col.1, S) := withC_ok hk q hcol
    rw [e] at h
    rw [q] at hν
    rw [nI_clamp (by omega)]
    refine ⟨vp_in_nI hk (by decide), ?_⟩
    rw [(CS.colC (S := S) hν hcol).1]
    exact h ν hν hh
  · have e : sp_kindOf c S = (cref S.1 c, rfs S (cref S.1 c)) := withC_no q
    rw [e] at h
    exact h ν hν hh
theorem c_got {d : Nat} {S : aS} {μ : mmMem} {K : Int64 → mmMem → Prop} (hd : 1 ≤ d) (hC : CS μ S) (h : K S.2.2.1 μ) : mmCJ d M_X7_got false 0 [.ref 0] μ K := by
  refine u_X7_got hd ?_
  rw [hC.2.2.2.1]
  exact h
end
section
/-! ===== the class: asked and written ===== -/
theorem c_widens {d : Nat} {a b : Int32} {μ : mmMem} {K : Int32 → mmMem → Prop} (hd : 1 ≤ d) (h : K (if aWid a b = true then 1 else 0) μ) : mmCI d M_X7_widens true 2 [.int a, .int b] μ K := by
  refine u_X7_widens hd ?_
  have f : aWid a b = false → K 0 μ := fun e => by rw [e] at h; exact h
  have t : aWid a b = true → K 1 μ := fun e => by rw [e] at h; exact h
  refine ⟨fun n => ⟨fun z => f ?_, fun z => ⟨fun z2 => f ?_, fun z2 => ⟨fun z3 => ⟨fun l => f ?_, fun l => t ?_⟩, fun z3 => ⟨fun z4 => ⟨fun l => f ?_, fun l => t ?_⟩, fun z4 => f ?_⟩⟩⟩⟩, fun n => t ?_⟩
  · unfold aWid; rw [if_neg n, if_pos (Or.inl z)]
  · unfold aWid; rw [if_neg n, if_pos (Or.inr (Or.inl z2))]
  · simp [aWid, n, z, z2, z3, l]
  · simp [aWid, n, z, z2, z3, Int32.not_le.mp l]
  · simp [aWid, n, z, z2, z4, l]
  · simp [aWid, n, z, z2, z4, Int32.not_le.mp l]
  · simp [aWid, n, z, z2, z3, z4]
  · simp [aWid, n]
theorem c_askRefusal {d : Nat} {k r a : Int32} {S : aS} {μ : mmMem} {K : Int32 → mmMem → Prop} (hd : 2 ≤ d) (hC : CS μ S) (h : K (aref S.1 k r a) μ) : mmCI d M_X7_askRefusal false 3 [.ref 0, .int k, .int r, .int a] μ K := by
  refine u_X7_askRefusal (by omega) ?_
  rw [hC.1.1.1]
  unfold aref at h
  refine ⟨fun q => ?_, fun q => ⟨fun q2 => ?_, fun q2 => ?_⟩⟩
  · rw [if_neg (fun w => w.1 q)] at h
    refine ⟨fun l => ?_, fun l => ⟨fun m => ?_, fun m => ?_⟩⟩
    · rw [if_pos (Or.inl l)] at h; exact h
    · rw [if_pos (Or.inr (Int32.not_lt.mpr m))] at h; exact h
    · rw [if_neg (by rintro (w | w); exact l w; exact m (Int32.not_lt.mp w)), if_pos (Or.inl q)] at h; exact h
  · rw [if_neg (fun w => absurd w.2 (Int32.not_lt.mpr q2))] at h
    refine ⟨fun l => ?_, fun l => ⟨fun m => ?_, fun m => ?_⟩⟩
    · rw [if_pos (Or.inl l)] at h; exact h
    · rw [if_pos (Or.inr (Int32.not_lt.mpr m))] at h; exact h
    · rw [if_neg (by rintro (w | w); exact l w; exact m (Int32.not_lt.mp w))] at h
      refine c_widens (by omega) ?_
      refine ⟨fun w => ?_, fun w => ?_⟩
      · cases hh : aWid k a with
        | true => rw [hh] at w; exact absurd w (by decide)
        | false => rw [hh, if_neg (by rintro (v | v); exact q v; exact absurd v (by decide))] at h; exact h
      · cases hh : aWid k a with
        | true => rw [hh, if_pos (Or.inr rfl)] at h; exact h
        | false => rw [hh] at w; exact absurd rfl w
  · rw [if_pos ⟨q, Int32.not_le.mp q2⟩] at h; exact h
theorem aref_0 {T : aT} {k r a : Int32} (h : aref T k r a = 0) : ¬ noRow T r ∧ (a = 8 ∨ (aWid k a = true ∧ k ≤ 7)) := by
  unfold aref at h
  split at h
  · exact absurd h (by decide)
  · rename_i n1
    split at h
    · exact absurd h (by decide)
    · rename_i n2
      split at h
      · rename_i n3
        refine ⟨n2, ?_⟩
        by_cases a8 : a = 8
        · exact Or.inl a8
        · refine Or.inr ⟨n3.resolve_left a8, Int32.not_lt.mp fun w => n1 ⟨a8, w⟩⟩
      · exact absurd h (by decide)
theorem CS.got {μ : mmMem} {S : aS} (h : CS μ S) (v : Int64) : CS (sJ μ 0 15 v) (sGot S v) := by
  obtain ⟨h1, h2, h3, h4, h5, h8, h9⟩ := h
  have e : ∀ q, q ≠ 0 → eq3 μ (sJ μ 0 15 v) q := fun q hq => by simp [eq3, sJ, hq]
  exact ⟨h1.fr h2 (fun q _ _ => e q (by omega)), h2, h3.fr rfl (fun q _ _ => e q (by omega)), by simp [sJ, vp_updL, sGot], h5, h8, h9⟩
theorem isB_i {a : Int32} (h1 : ¬ a < 0) (h2 : a ≤ 7) : isB a := by
  rw [Int32.lt_iff_toInt_lt] at h1
  rw [Int32.le_iff_toInt_le] at h2
  exact isB_of (Int.not_lt.mp h1) h2
theorem fitK.box {k : Int32} {x : aC} (h : fitK k x) (hk : 0 ≤ k.toInt) (h7 : k ≤ 7) : x.1 = k ∧ isB k := by
  refine ⟨h.1 h7, isB_i (fun w => ?_) h7⟩
  rw [Int32.lt_iff_toInt_lt] at w
  exact absurd w (Int.not_lt.mpr hk)
theorem c_ask {d : Nat} {c r a : Int32} {S : aS} {μ : mmMem} {K : Int32 → mmMem → Prop} (hd : 5 ≤ d) (hC : CS μ S) (h : ∀ ν, CS ν (sp_ask c r a S).2 → hiE μ ν → K (sp_ask c r a S).1 ν) : mmCI d M_X7_ask false 3 [.ref 0, .int c, .int r, .int a] μ K := by
  refine u_X7_ask (by omega) ?_
  refine c_columnRefusal (by omega) hC (fun ν hν hh => ?_)
  refine ⟨fun q => ?_, fun q => ?_⟩
  · obtain ⟨k, col, hk, rfl, hcol, hg⟩ := cref_0 q
    have e := withC_ok (f := fun _ col => if a < 0 ∨ 8 < a then (-2, S) else if aref S.1 col.1 r a = 0 then (if a = 8 then (100 + enK (col.2.2 r.toNatClampNeg), sGot S (col.2.2 r.toNatClampNeg).2) else (1, sGot S (aCast (col.2.2 r.toNatClampNeg) a))) else (aref S.1 col.1 r a, rfs S (aref S.1 col.1 r a))) hk q hcol
    rw [show sp_ask (nI k) r a S = _ from e] at h
    rw [q] at hν
    replace hν : CS ν S := hν
    rw [nI_clamp (by omega)]
    have hcc := hν.colC hcol
    have hoc := hν.okCol hcol
    refine ⟨fun l => ?_, fun l => ⟨fun l2 => ?_, fun l2 => ?_⟩⟩
    · rw [if_pos (Or.inl l)] at h
      exact h ν hν hh
    · rw [if_neg (by rintro (w | w); exact l w; exact absurd w (Int32.not_lt.mpr l2))] at h
      refine ⟨vp_in_nI hk (by decide), ?_⟩
      rw [hcc.1]
      refine c_askRefusal (by omega) hν ?_
      refine ⟨fun z => ?_, fun z => ?_⟩
      · rw [if_pos z] at h
        obtain ⟨hr, hw⟩ := aref_0 z
        obtain ⟨i, hi, rfl⟩ := row_of hC.2.1 hr
        have hrr := hC.2.1.1
        rw [nI_clamp (by omega)] at h
        refine c_load (by omega) (kcol k hk).1 kd_152 hcc hi hrr ?_
        have s1 := setC_scr ν 152 (col.2.2 i) (by decide) (by decide)
        obtain ⟨okx, fit⟩ := hoc.2.2 i hi
        refine ⟨fun n8 => ?_, fun n8 => ?_⟩
        · rw [if_neg n8] at h
          obtain ⟨hw1, hw2⟩ := hw.resolve_left n8
          obtain ⟨fx, bx⟩ := fit.box hoc.1 hw2
          have ba : isB a := isB_i l (by
            rw [Int32.le_iff_toInt_le] at l2 ⊢
            have : a.toInt ≠ 8 := fun w => n8 (Int32.toInt_inj.mp w)
            have e8 : (8 : Int32).toInt = 8 := rfl
            have e7 : (7 : Int32).toInt = 7 := rfl
            omega)
          have bx' : isB (col.2.2 i).1 := by rw [fx]; exact bx
          refine c_turnInto (by omega) kd_152 (setC_cl _ _ _) okx bx' ba ?_
          have s2 := s1.trans (setC_scr _ 152 (a, aCast (col.2.2 i) a) (by decide) (by decide))
          refine c_bits (by omega) kd_152 (setC_cl _ _ _) (ok_cast okx bx' ba) ?_
          have hC2 := (hν.scr s2).got (aCast (col.2.2 i) a)
          exact h _ hC2 ((hh.trans s2.hi).trans fun q hq => by
            have : q ≠ 0 := by omega
            simp [eq3, sJ, this])
        · rw [if_pos n8] at h
          refine c_bits (by omega) kd_152 (setC_cl _ _ _) okx ?_
          rw [(setC_cl ν 152 (col.2.2 i)).1]
          have hC2 := (hν.scr s1).got (col.2.2 i).2
          exact h _ hC2 ((hh.trans s1.hi).trans fun q hq => by
            have : q ≠ 0 := by omega
            simp [eq3, sJ, this])
      · rw [if_neg z] at h
        exact c_refused (by omega) hν (fun ν2 h2 g2 => h ν2 h2 (hh.trans g2))
    · rw [if_pos (Or.inr (Int32.not_le.mp l2))] at h
      exact h ν hν hh
  · have e : sp_ask c r a S = (cref S.1 c, rfs S (cref S.1 c)) := withC_no q
    rw [e] at h
    exact h ν hν hh
/-! ===== written ===== -/
def setRow (c : aCol) (r : Nat) (x : aC) : aCol := (c.1, c.2.1, fun i => if i = r then x else c.2.2 i)
theorem colUpd.row {μ ν : mmMem} {a n r : Nat} {c : aCol} {x : aC} (h : colUpd μ ν a (fun i => if i = r then some x else none)) (hc : colC μ a n c) : colC ν a n (setRow c r x) := by
  obtain ⟨h1, h2, h3⟩ := h
  obtain ⟨c1, c2, c3⟩ := hc
  have e := h1 a (by omega) (by omega) (by omega)
  refine ⟨by rw [e.1]; exact c1, by rw [e.1]; exact c2, fun i hi => ?_⟩
  obtain ⟨g1, g2, g3⟩ := h3 i
  rw [g1, g2, g3]
  dsimp only [setRow]
  by_cases q : i = r
  · rw [if_pos q, if_pos q]; exact ⟨rfl, rfl, rfl⟩
  · rw [if_neg q, if_neg q]; exact c3 i hi
theorem okCol.row {n r : Nat} {c : aCol} {x : aC} (h : okCol n c) (hx : okC x ∧ fitK c.1 x) : okCol n (setRow c r x) := by
  refine ⟨h.1, h.2.1, fun i hi => ?_⟩
  dsimp only [setRow]
  by_cases q : i = r
  · rw [if_pos q]; exact hx
  · rw [if_neg q]; exact h.2.2 i hi
end
section
/-! ===== the class: brought, swapped, compared ===== -/
theorem c_sameRows {d a r q n : Nat} {c : aCol} {μ : mmMem} {K : Int32 → mmMem → Prop} (hd : 2 ≤ d) (ha : mmKD a = 1) (ha2 : a < 143 ∨ a = 146) (hc : colC μ a n c) (oc : okCol n c) (hn : n ≤ 40) (hr : r < n) (hq : q < n) (h : ∀ ν, scr μ ν → (∀ z, z ≠ 152 → z ≠ 153 → eq3 μ ν z) → K (if c.2.2 r = c.2.2 q then 1 else 0) ν) : mmCI d M_X7_isSame false 3 [.ref 0, .ref a, .int (nI r), .int (nI q)] μ K := by
  refine u_X7_isSame (by omega) ha ?_
  have e1 : ∀ z, z ≠ 152 → eq3 μ (setC μ 152 (c.2.2 r)) z := fun z hz => ⟨setC_1 _ _ _ _ hz, setC_2 _ _ _ _ hz, setC_3 _ _ _ _ hz⟩
  have s1 := setC_scr μ 152 (c.2.2 r) (by decide) (by decide)
  refine c_load (by omega) ha kd_152 hc hr hn ?_
  have hc2 := hc.fr (e1 _ (by omega)) (e1 _ (by omega)) (e1 _ (by omega)) (e1 _ (by omega))
  refine c_load (by omega) ha kd_153 hc2 hq hn ?_
  have s2 := setC_scr (setC μ 152 (c.2.2 r)) 153 (c.2.2 q) (by decide) (by decide)
  have e2 : ∀ z, z ≠ 153 → eq3 (setC μ 152 (c.2.2 r)) (setC (setC μ 152 (c.2.2 r)) 153 (c.2.2 q)) z := fun z hz => ⟨setC_1 _ _ _ _ hz, setC_2 _ _ _ _ hz, setC_3 _ _ _ _ hz⟩
  refine c_isSame (by omega) kd_152 kd_153 ((setC_cl _ _ _).set (by decide)) (setC_cl _ _ _) (oc.2.2 r hr).1 (oc.2.2 q hq).1 ?_
  refine ⟨by split <;> simp, h _ (s1.trans s2) (fun z h1 h2 => (e1 z h1).trans (e2 z h2))⟩
def swC (r q : Nat) (c : aCol) : aCol := if c.2.1 = true then c else (c.1, c.2.1, fun i => if i = q then c.2.2 r else if i = r then c.2.2 q else c.2.2 i)
def swT (T : aT) (r q : Nat) : aT := (T.1, T.2.1.map (swC r q), T.2.2)
def sp_swap (r q : Int32) (S : aS) : Int32 × aS := if noRow S.1 r ∨ noRow S.1 q then (-21, rfs S (-21)) else (nI (S.1.2.1.filter (fun c => !c.2.1)).length, sT S (swT S.1 r.toNatClampNeg q.toNatClampNeg))
theorem swC_ok {n r q : Nat} {c : aCol} (h : okCol n c) (hr : r < n) (hq : q < n) : okCol n (swC r q c) := by
  unfold swC
  split
  · exact h
  · refine ⟨h.1, h.2.1, fun i hi => ?_⟩
    dsimp only
    split
    · exact h.2.2 r hr
    · split
      · exact h.2.2 q hq
      · exact h.2.2 i hi
theorem c_swapE {d r q : Nat} {T : aT} {P : Option Value → mmMem → Prop} (hd : 1 ≤ d) (ok : okT T) (hr : r < T.1) (hq : q < T.1) (μ0 : mmMem) (h0 : μ0.1 1 1 = nI T.2.1.length) (h : ∀ ν, (∀ z, z < 7 ∨ (55 ≤ z ∧ z ≠ 152 ∧ z ≠ 153) → eq3 μ0 ν z) → (∀ c col, T.2.1[c]? = some col → colC ν (7 + 4 * c) T.1 (swC r q col)) → P (some (.int (nI (T.2.1.filter (fun c => !c.2.1)).length))) ν) :
    ∀ (j c : Nat) (μ : mmMem) (v : Value), T.2.1.length - c = j → c ≤ T.2.1.length → (∀ z, z < 7 ∨ (55 ≤ z ∧ z ≠ 152 ∧ z ≠ 153) → eq3 μ0 μ z) → (∀ i col, T.2.1[i]? = some col → (i < c → colC μ (7 + 4 * i) T.1 (swC r q col)) ∧ (c ≤ i → colC μ (7 + 4 * i) T.1 col)) → mmEnds d M_X7_swap 28 [.ref 0, .int (nI r), .int (nI q), .int (nI ((T.2.1.take c).filter (fun c => !c.2.1)).length), .int (nI c), v] [] μ P := by
  have hl := ok.2.1
  have hr40 := ok.1
  intro j
  induction j with
  | zero =>
    intro c μ v hj hc hf hi
    refine s_X7_swap_28 (by omega) ?_
    have e1 : μ.1 1 1 = nI T.2.1.length := by rw [(hf 1 (by omega)).1]; exact h0
    rw [e1]
    have ec : c = T.2.1.length := by omega
    refine ⟨fun _ => ?_, fun w => absurd (nI_le (by omega) (by omega)) w⟩
    rw [ec, List.take_length]
    exact h μ hf (fun i col hic => (hi i col hic).1 (by have := lt_of_get hic; omega))
  | succ j ih =>
    intro c μ v hj hc hf hi
    refine s_X7_swap_28 (by omega) ?_
    have e1 : μ.1 1 1 = nI T.2.1.length := by rw [(hf 1 (by omega)).1]; exact h0
    have hlt : c < T.2.1.length := by omega
    obtain ⟨col, hcol⟩ : ∃ col, T.2.1[c]? = some col := ⟨_, List.getElem?_eq_getElem hlt⟩
    have hcc := (hi c col hcol).2 (Nat.le_refl _)
    have okc := ok.2.2.1 col (List.mem_of_getElem? hcol)
    have ht : T.2.1.take (c + 1) = T.2.1.take c ++ [col] := by rw [List.take_add_one, hcol]; rfl
    rw [e1, nI_clamp (by omega), hcc.2.1, nI_1, nI_1]
    have hlen : ((T.2.1.take c).filter (fun c => !c.2.1)).length ≤ 12 := Nat.le_trans (List.length_filter_le _ _) (by rw [List.length_take]; omega)
    refine ⟨fun w => absurd w (nI_ge (by omega) (by omega)), fun _ => ⟨vp_in_nI (by omega) (by decide), fun w => ?_, fun w => ?_⟩⟩
    · have hg : col.2.1 = true := by
        cases hh : col.2.1 with
        | true => rfl
        | false => rw [hh] at w; exact absurd rfl w
      have := ih (c + 1) μ (.ref (7 + 4 * c)) (by omega) (by omega) hf (fun i col2 hi2 => ⟨fun hlt2 => ?_, fun hle => (hi i col2 hi2).2 (by omega)⟩)
      · rw [ht, List.filter_append, List.filter_cons_of_neg (by simp [hg])] at this
        simpa using this
      · by_cases hic : i = c
        · subst hic
          rw [hcol] at hi2
          cases hi2
          unfold swC
          rw [if_pos hg]
          exact hcc
        · exact (hi i col2 hi2).1 (by omega)
    · have hg : col.2.1 = false := by
        cases hh : col.2.1 with
        | true => rw [hh] at w; exact absurd w (by decide)
        | false => rfl
      have ka := (kcol c (by omega)).1
      refine c_load (by omega) ka kd_152 hcc hr hr40 ?_
      have f1 : ∀ z, z ≠ 152 → eq3 μ (setC μ 152 (col.2.2 r)) z := fun z hz => ⟨setC_1 _ _ _ _ hz, setC_2 _ _ _ _ hz, setC_3 _ _ _ _ hz⟩
      have hc1 := hcc.fr (f1 _ (by omega)) (f1 _ (by omega)) (f1 _ (by omega)) (f1 _ (by omega))
      refine c_load (by omega) ka kd_153 hc1 hq hr40 ?_
      have f2 : ∀ z, z ≠ 153 → eq3 (setC μ 152 (col.2.2 r)) (setC (setC μ 152 (col.2.2 r)) 153 (col.2.2 q)) z := fun z hz => ⟨setC_1 _ _ _ _ hz, setC_2 _ _ _ _ hz, setC_3 _ _ _ _ hz⟩
      have hc2 := hc1.fr (f2 _ (by omega)) (f2 _ (by omega)) (f2 _ (by omega)) (f2 _ (by omega))
      refine c_store (by omega) ka kd_153 (setC_cl _ _ _) (by omega) (fun ν3 u3 => ?_)
      have k152 : clC ν3 152 (col.2.2 r) := (((setC_cl μ 152 (col.2.2 r)).set (by decide)).fr (u3.1 152 (by omega) (by omega) (by omega)))
      refine c_store (by omega) ka kd_152 k152 (by omega) (fun ν4 u4 => ?_)
      have u34 := u3.trans u4 (g := fun i => if i = q then some (col.2.2 r) else if i = r then some (col.2.2 q) else none) (fun i => by
        by_cases z : i = q
        · rw [if_pos z]; simp [z]
        · rw [if_neg z]; simp [z])
      have all : ∀ z, z < 7 + 4 * c ∨ 11 + 4 * c ≤ z → z ≠ 152 → z ≠ 153 → eq3 μ ν4 z := fun z h1 h2 h3 => ((f1 z h2).trans (f2 z h3)).trans (u34.1 z (by omega) (by omega) (by omega))
      have := ih (c + 1) ν4 (.ref (7 + 4 * c)) (by omega) (by omega) (fun z hz => (hf z hz).trans (all z (by omega) (by omega) (by omega))) (fun i col2 hi2 => ⟨fun hlt2 => ?_, fun hle => by have := lt_of_get hi2; exact ((hi i col2 hi2).2 (by omega)).fr (all _ (by omega) (by omega) (by omega)) (all _ (by omega) (by omega) (by omega)) (all _ (by omega) (by omega) (by omega)) (all _ (by omega) (by omega) (by omega))⟩)
      · rw [ht, List.filter_append, List.filter_cons_of_pos (by simp [hg])] at this
        simpa using this
      · by_cases hic : i = c
        · subst hic
          rw [hcol] at hi2
          cases hi2
          obtain ⟨g1, g2, g3⟩ := u34
          have e0 := g1 (7 + 4 * i) (by omega) (by omega) (by omega)
          have es : swC r q col = (col.1, col.2.1, fun i => if i = q then col.2.2 r else if i = r then col.2.2 q else col.2.2 i) := by unfold swC; rw [if_neg (by rw [hg]; decide)]
          rw [es]
          refine ⟨by rw [e0.1]; exact hc2.1, by rw [e0.1]; exact hc2.2.1, fun z hz => ?_⟩
          obtain ⟨w1, w2, w3⟩ := g3 z
          rw [w1, w2, w3]
          dsimp only
          by_cases z1 : z = q
          · rw [if_pos z1, if_pos z1]; exact ⟨rfl, rfl, rfl⟩
          · rw [if_neg z1, if_neg z1]
            by_cases z2 : z = r
            · rw [if_pos z2, if_pos z2]; exact ⟨rfl, rfl, rfl⟩
            · rw [if_neg z2, if_neg z2]; exact hc2.2.2 z hz
        · exact ((hi i col2 hi2).1 (by omega)).fr (all _ (by omega) (by omega) (by omega)) (all _ (by omega) (by omega) (by omega)) (all _ (by omega) (by omega) (by omega)) (all _ (by omega) (by omega) (by omega))
theorem rows2 {T : aT} {r q : Int32} {A B : Prop} (ha : (noRow T r ∨ noRow T q) → A) (hb : ¬ noRow T r → ¬ noRow T q → B) : (r < 0 → A) ∧ (¬ r < 0 → (nI T.1 ≤ r → A) ∧ (¬ nI T.1 ≤ r → (q < 0 → A) ∧ (¬ q < 0 → (nI T.1 ≤ q → A) ∧ (¬ nI T.1 ≤ q → B)))) :=
  ⟨fun l => ha (Or.inl (Or.inl l)), fun l => ⟨fun m => ha (Or.inl (Or.inr (Int32.not_lt.mpr m))), fun m => ⟨fun l2 => ha (Or.inr (Or.inl l2)), fun l2 => ⟨fun m2 => ha (Or.inr (Or.inr (Int32.not_lt.mpr m2))), fun m2 => hb (by rintro (w | w); exact l w; exact m (Int32.not_lt.mp w)) (by rintro (w | w); exact l2 w; exact m2 (Int32.not_lt.mp w))⟩⟩⟩⟩
theorem tabC.cols {μ ν : mmMem} {T : aT} {f : aCol → aCol} (h : tabC μ 1 T) (ok : okT T) (e : ∀ q, q < 7 ∨ 55 ≤ q → q < 71 → eq3 μ ν q) (hc : ∀ c col, T.2.1[c]? = some col → colC ν (7 + 4 * c) T.1 (f col)) : tabC ν 1 (T.1, T.2.1.map f, T.2.2) := by
  obtain ⟨⟨h1, h2, h3, h4⟩, h5, ⟨h6, h7⟩, h8, h9⟩ := h
  have e0 := (e 1 (by omega) (by omega)).1
  refine ⟨⟨by rw [e0]; exact h1, by rw [e0]; simpa using h2, by rw [e0]; exact h3, by rw [e0]; exact h4⟩, fun i col hi => ?_, ⟨h6.fr (e _ (by omega) (by omega)) (e _ (by omega) (by omega)), h7.fr (e _ (by omega) (by omega)) (e _ (by omega) (by omega))⟩, fun i q hi => ?_, fun i q hi => ?_⟩
  · have hi' : (T.2.1.map f)[i]? = some col := hi
    rw [List.getElem?_map, Option.map_eq_some_iff] at hi'
    obtain ⟨c0, hc0, rfl⟩ := hi'
    rw [show 1 + 6 + 4 * i = 7 + 4 * i by omega]
    exact hc i c0 hc0
  · rw [(e (1 + 3) (by omega) (by omega)).1, (e (1 + 4) (by omega) (by omega)).1]
    exact h8 i q hi
  · have : i < T.2.2.2.2.2.length := lt_of_get hi
    have := ok.2.2.2.2.2.2.2.1
    obtain ⟨g1, g2, g3⟩ := h9 i q hi
    have e1 := (e (1 + 58 + 2 * i) (by omega) (by omega)).1
    exact ⟨by rw [e1]; exact g1, by rw [e1]; exact g2, g3.fr (e _ (by omega) (by omega))⟩
theorem okT.cols {T : aT} {f : aCol → aCol} (ok : okT T) (hf : ∀ c, okCol T.1 c → okCol T.1 (f c)) : okT (T.1, T.2.1.map f, T.2.2) := by
  obtain ⟨h1, h2, h3, h4, h5, h6, h7, h8, h9⟩ := ok
  refine ⟨h1, by simpa using h2, fun x hx => ?_, h4, h5, h6, by simpa using h7, h8, by simpa using h9⟩
  obtain ⟨c0, hc0, rfl⟩ := List.mem_map.mp hx
  exact hf c0 (h3 c0 hc0)
theorem c_swap {d : Nat} {r q : Int32} {S : aS} {μ : mmMem} {K : Int32 → mmMem → Prop} (hd : 3 ≤ d) (hC : CS μ S) (h : ∀ ν, CS ν (sp_swap r q S).2 → hiE μ ν → K (sp_swap r q S).1 ν) : mmCI d M_X7_swap false 2 [.ref 0, .int r, .int q] μ K := by
  refine u_X7_swap (by omega) ?_
  rw [hC.1.1.1]
  have hrow := hC.2.1.1
  have bad : (noRow S.1 r ∨ noRow S.1 q) → mmCI (d - 1) M_X7_refused false 1 [.ref 0, .int (-21)] μ K := fun w => by
    unfold sp_swap at h
    rw [if_pos w] at h
    exact c_refused (by omega) hC (fun ν2 h2 g2 => h ν2 h2 g2)
  refine rows2 bad fun n1 n2 => ?_
  have e : sp_swap r q S = _ := if_neg (by rintro (w | w); exact n1 w; exact n2 w)
  rw [e] at h
  obtain ⟨i, hi, rfl⟩ := row_of hC.2.1 n1
  obtain ⟨j, hj, rfl⟩ := row_of hC.2.1 n2
  rw [nI_clamp (by omega), nI_clamp (by omega)] at h
  refine c_swapE (T := S.1) (by omega) hC.2.1 hi hj μ hC.1.1.2.1 (fun ν f g => ?_) _ 0 μ _ rfl (Nat.zero_le _) (fun z _ => eq3.rfl') (fun c col hc => ⟨fun w => absurd w (Nat.not_lt_zero _), fun _ => hC.colC hc⟩)
  exact h ν (hC.tab (hC.1.cols hC.2.1 (fun z h1 _ => f z (by omega)) g) (hC.2.1.cols fun c hc => swC_ok hc hi hj) (fun z h1 h2 => f z (by omega)) (by rw [(f 141 (by omega)).1])) (fun z hz => f z (by omega))
end
section
/-! ===== the class: differs, of ===== -/
def difAt (r q : Nat) : List aCol → Nat → Int32
  | [], _ => -5
  | c :: t, i => if c.2.1 = false ∧ ¬ c.2.2 r = c.2.2 q then nI i else difAt r q t (i + 1)
def sp_differs (r q : Int32) (S : aS) : Int32 × aS := if noRow S.1 r ∨ noRow S.1 q then (-21, rfs S (-21)) else (difAt r.toNatClampNeg q.toNatClampNeg S.1.2.1 0, S)
theorem drop_get {α : Type} {l : List α} {i : Nat} {x : α} (h : l[i]? = some x) : l.drop i = x :: l.drop (i + 1) := by
  have hl := lt_of_get h
  rw [List.drop_eq_getElem_cons hl]
  congr 1
  exact (List.getElem?_eq_some_iff.mp h).2
theorem c_differsE {d r q : Nat} {S : aS} {P : Option Value → mmMem → Prop} (hd : 2 ≤ d) (hr : r < S.1.1) (hq : q < S.1.1) (ans : Int32) : ∀ (j c : Nat) (μ : mmMem), S.1.2.1.length - c = j → c ≤ S.1.2.1.length → CS μ S → ans = difAt r q (S.1.2.1.drop c) c → (∀ ν, scr μ ν → P (some (.int ans)) ν) → mmEnds d M_X7_differs 25 [.ref 0, .int (nI r), .int (nI q), .int (nI c)] [] μ P := by
  intro j
  induction j with
  | zero =>
    intro c μ hj hc hC ha h
    have hl := hC.2.1.2.1
    refine s_X7_differs_25 (by omega) ?_
    rw [hC.1.1.2.1]
    rw [List.drop_of_length_le (by omega)] at ha
    subst ha
    exact ⟨fun _ => h μ (scr.refl μ), fun w => absurd (nI_le (by omega) (by omega)) w⟩
  | succ j ih =>
    intro c μ hj hc hC ha h
    have hl := hC.2.1.2.1
    have hr40 := hC.2.1.1
    refine s_X7_differs_25 (by omega) ?_
    obtain ⟨col, hcol⟩ : ∃ col, S.1.2.1[c]? = some col := ⟨_, List.getElem?_eq_getElem (by omega)⟩
    have hcc := hC.colC hcol
    rw [drop_get hcol] at ha
    unfold difAt at ha
    rw [hC.1.1.2.1, nI_clamp (by omega), hcc.2.1, nI_1]
    refine ⟨fun w => absurd w (nI_ge (by omega) (by omega)), fun _ => ⟨vp_in_nI (by omega) (by decide), fun w => ?_, fun w => ?_⟩⟩
    · have hg : col.2.1 = true := by
        cases hh : col.2.1 with
        | true => rfl
        | false => rw [hh] at w; exact absurd rfl w
      rw [if_neg (fun e => by rw [hg] at e; exact absurd e.1 (by decide))] at ha
      exact ih (c + 1) μ (by omega) (by omega) hC ha h
    · have hg : col.2.1 = false := by
        cases hh : col.2.1 with
        | true => rw [hh] at w; exact absurd w (by decide)
        | false => rfl
      refine c_sameRows (by omega) (kcol c (by omega)).1 (by omega) hcc (hC.okCol hcol) hr40 hr hq (fun ν s1 _ => ?_)
      by_cases e : col.2.2 r = col.2.2 q
      · rw [if_pos e]
        rw [if_neg (fun w => w.2 e)] at ha
        exact ⟨fun _ => ih (c + 1) ν (by omega) (by omega) (hC.scr s1) ha (fun ν2 s2 => h ν2 (s1.trans s2)), fun w => absurd w (by decide)⟩
      · rw [if_neg e]
        rw [if_pos ⟨hg, e⟩] at ha
        subst ha
        exact ⟨fun w => absurd rfl w, fun _ => h ν s1⟩
theorem c_differs {d : Nat} {r q : Int32} {S : aS} {μ : mmMem} {K : Int32 → mmMem → Prop} (hd : 4 ≤ d) (hC : CS μ S) (h : ∀ ν, CS ν (sp_differs r q S).2 → hiE μ ν → K (sp_differs r q S).1 ν) : mmCI d M_X7_differs false 2 [.ref 0, .int r, .int q] μ K := by
  refine u_X7_differs (by omega) ?_
  rw [hC.1.1.1]
  have hrow := hC.2.1.1
  have bad : (noRow S.1 r ∨ noRow S.1 q) → mmCI (d - 1) M_X7_refused false 1 [.ref 0, .int (-21)] μ K := fun w => by
    unfold sp_differs at h
    rw [if_pos w] at h
    exact c_refused (by omega) hC (fun ν2 h2 g2 => h ν2 h2 g2)
  refine rows2 bad fun n1 n2 => ?_
  have e : sp_differs r q S = _ := if_neg (by rintro (w | w); exact n1 w; exact n2 w)
  rw [e] at h
  obtain ⟨i, hi, rfl⟩ := row_of hC.2.1 n1
  obtain ⟨j, hj, rfl⟩ := row_of hC.2.1 n2
  rw [nI_clamp (by omega), nI_clamp (by omega)] at h
  exact c_differsE (S := S) (by omega) hi hj _ _ 0 μ rfl (Nat.zero_le _) hC rfl (fun ν s => h ν (hC.scr s) s.hi)
/-- how many below n -/
def cnt (p : Nat → Bool) (n : Nat) : Nat := ((List.range n).filter p).length
theorem cnt_0 (p : Nat → Bool) : cnt p 0 = 0 := rfl
theorem cnt_s (p : Nat → Bool) (n : Nat) : cnt p (n + 1) = cnt p n + (if p n = true then 1 else 0) := by
  unfold cnt
  rw [List.range_succ, List.filter_append, List.length_append]
  congr 1
  cases h : p n <;> simp [h]
end
section
/-! ===== the class: views, keys, filters ===== -/
def getV (T : aT) (v : Nat) : List Nat := if v = 0 then T.2.2.1 else T.2.2.2.1
def setV (T : aT) (v : Nat) (l : List Nat) : aT := if v = 0 then (T.1, T.2.1, l, T.2.2.2) else (T.1, T.2.1, T.2.2.1, l, T.2.2.2.2)
abbrev noView (v : Int32) : Prop := v < 0 ∨ 2 ≤ v
theorem view_of {v : Int32} (h : ¬ noView v) : ∃ k, k < 2 ∧ v = nI k := by
  have h1 : ¬ v < 0 := fun w => h (Or.inl w)
  have h2 : ¬ 2 ≤ v := fun w => h (Or.inr w)
  obtain ⟨k, hk, rfl⟩ := nI_of h1
  exact ⟨k, Nat.not_le.mp fun w => h2 ((nI_leI (a := 2) (by decide) hk).mpr w), rfl⟩
theorem tabC.vw {μ : mmMem} {T : aT} (h : tabC μ 1 T) {v : Nat} (hv : v < 2) : vwC μ (55 + 2 * v) (getV T v) := by
  have : v = 0 ∨ v = 1 := by omega
  rcases this with rfl | rfl
  · exact h.2.2.1.1
  · exact h.2.2.1.2
theorem okT.vw {T : aT} (h : okT T) (v : Nat) : okV T.1 (getV T v) := by
  unfold getV
  split
  · exact h.2.2.2.1
  · exact h.2.2.2.2.1
theorem tabC.setV {μ ν : mmMem} {T : aT} {v : Nat} {l : List Nat} (h : tabC μ 1 T) (ok : okT T) (hv : v < 2) (f : ∀ q, q ≠ 55 + 2 * v → q ≠ 56 + 2 * v → q < 71 → eq3 μ ν q) (hl : vwC ν (55 + 2 * v) l) : tabC ν 1 (setV T v l) := by
  obtain ⟨⟨h1, h2, h3, h4⟩, h5, ⟨h6, h7⟩, h8, h9⟩ := h
  have e0 := (f 1 (by omega) (by omega) (by omega)).1
  have hcl := ok.2.1
  have hfl := ok.2.2.2.2.2.2.2.1
  have cols : ∀ c col, T.2.1[c]? = some col → colC ν (1 + 6 + 4 * c) T.1 col := fun c col hc => by
    have := lt_of_get hc
    exact (h5 c col hc).fr (f _ (by omega) (by omega) (by omega)) (f _ (by omega) (by omega) (by omega)) (f _ (by omega) (by omega) (by omega)) (f _ (by omega) (by omega) (by omega))
  have keys : ∀ k q, T.2.2.2.2.1[k]? = some q → ν.1 (1 + 3) k = nI q.1 ∧ ν.1 (1 + 4) k = if q.2 = true then 1 else 0 := fun k q hk => by
    rw [(f (1 + 3) (by omega) (by omega) (by omega)).1, (f (1 + 4) (by omega) (by omega) (by omega)).1]
    exact h8 k q hk
  have fils : ∀ i q, T.2.2.2.2.2[i]? = some q → ν.1 (1 + 58 + 2 * i) 0 = nI q.1 ∧ ν.1 (1 + 58 + 2 * i) 1 = q.2.1 ∧ clC ν (1 + 59 + 2 * i) q.2.2 := fun i q hi => by
    have := lt_of_get hi
    obtain ⟨g1, g2, g3⟩ := h9 i q hi
    have e1 := (f (1 + 58 + 2 * i) (by omega) (by omega) (by omega)).1
    exact ⟨by rw [e1]; exact g1, by rw [e1]; exact g2, g3.fr (f _ (by omega) (by omega) (by omega))⟩
  have : v = 0 ∨ v = 1 := by omega
  rcases this with rfl | rfl
  · exact ⟨⟨by rw [e0]; exact h1, by rw [e0]; exact h2, by rw [e0]; exact h3, by rw [e0]; exact h4⟩, cols, ⟨hl, h7.fr (f _ (by omega) (by omega) (by omega)) (f _ (by omega) (by omega) (by omega))⟩, keys, fils⟩
  · exact ⟨⟨by rw [e0]; exact h1, by rw [e0]; exact h2, by rw [e0]; exact h3, by rw [e0]; exact h4⟩, cols, ⟨h6.fr (f _ (by omega) (by omega) (by omega)) (f _ (by omega) (by omega) (by omega)), hl⟩, keys, fils⟩
theorem okT.setV {T : aT} {v : Nat} {l : List Nat} (ok : okT T) (hl : okV T.1 l) : okT (setV T v l) := by
  obtain ⟨h1, h2, h3, h4, h5, h6, h7, h8, h9⟩ := ok
  unfold Jvm.Pilot.CColumnCastsLaw_law_r4198_211b93.setV
  split
  · exact ⟨h1, h2, h3, hl, h5, h6, h7, h8, h9⟩
  · exact ⟨h1, h2, h3, h4, hl, h6, h7, h8, h9⟩
theorem CS.setV {μ ν : mmMem} {S : aS} {v : Nat} {l : List Nat} (h : CS μ S) (hv : v < 2) (f : ∀ q, q ≠ 55 + 2 * v → q ≠ 56 + 2 * v → (q < 141 ∨ q = 142) → eq3 μ ν q) (e2 : ν.1 141 0 = μ.1 141 0) (hl : vwC ν (55 + 2 * v) l) (okl : okV S.1.1 l) : CS ν (sT S (setV S.1 v l)) :=
  h.tab (h.1.setV h.2.1 hv (fun q h1 h2 h3 => f q h1 h2 (by omega)) hl) (h.2.1.setV okl) (fun q h1 h2 => f q (by omega) (by omega) h2) e2
def sp_view (v : Int32) (S : aS) : Int32 × aS := if noView v then (-1, S) else (nI S.1.1, sT S (setV S.1 v.toNatClampNeg (List.range' 0 S.1.1)))
theorem c_view {d : Nat} {v : Int32} {S : aS} {μ : mmMem} {K : Int32 → mmMem → Prop} (hd : 4 ≤ d) (hC : CS μ S) (h : ∀ ν, CS ν (sp_view v S).2 → hiE μ ν → K (sp_view v S).1 ν) : mmCI d M_X7_view false 1 [.ref 0, .int v] μ K := by
  refine u_X7_view (by omega) ?_
  have bad : noView v → K (-1) μ := fun w => by
    unfold sp_view at h
    rw [if_pos w] at h
    exact h μ hC (hiE.refl _)
  refine ⟨fun a => bad (Or.inl a), fun a => ⟨fun b => bad (Or.inr b), fun b => ?_⟩⟩
  have nv : ¬ noView v := by rintro (w | w); exact a w; exact b w
  have e : sp_view v S = _ := if_neg nv
  rw [e] at h
  obtain ⟨k, hk, rfl⟩ := view_of nv
  rw [nI_clamp (by omega)] at h ⊢
  rw [hC.1.1.1]
  refine c_showAll (by omega) (kvw k hk).1 hC.2.1.1 (hC.1.vw hk) (fun ν f g => ?_)
  rw [(f.1 1 (by omega) (by omega)).1, hC.1.1.1]
  refine h ν (hC.setV hk (fun q h1 h2 _ => f.1 q h1 (by omega)) (by rw [(f.1 141 (by omega) (by omega)).1]) g ⟨List.nodup_range', fun r hr => ?_⟩) (fun q hq => f.1 q (by omega) (by omega))
  have := List.mem_range'_1.mp hr
  omega
def sp_viewed (v i : Int32) (S : aS) : Int32 × aS := if noView v then (-1, S) else if i = -1 then (nI (getV S.1 v.toNatClampNeg).length, S) else if i < 0 ∨ ¬ i < nI (getV S.1 v.toNatClampNeg).length then (-1, S) else (nI ((getV S.1 v.toNatClampNeg).getD i.toNatClampNeg 0), S)
theorem c_viewed {d : Nat} {v i : Int32} {S : aS} {μ : mmMem} {K : Int32 → mmMem → Prop} (hd : 3 ≤ d) (hC : CS μ S) (h : ∀ ν, CS ν (sp_viewed v i S).2 → hiE μ ν → K (sp_viewed v i S).1 ν) : mmCI d M_X7_viewed false 2 [.ref 0, .int v, .int i] μ K := by
  refine u_X7_viewed (by omega) ?_
  unfold sp_viewed at h
  have bad : noView v → K (-1) μ := fun w => by
    rw [if_pos w] at h
    exact h μ hC (hiE.refl _)
  refine ⟨fun a => bad (Or.inl a), fun a => ⟨fun b => bad (Or.inr b), fun b => ?_⟩⟩
  have nv : ¬ noView v := by rintro (w | w); exact a w; exact b w
  rw [if_neg nv] at h
  obtain ⟨k, hk, rfl⟩ := view_of nv
  rw [nI_clamp (by omega)] at h ⊢
  have hv := hC.1.vw hk
  have hln := (hC.2.1.vw k).len
  have h40 := hC.2.1.1
  rw [hv.1]
  refine ⟨fun n1 => ?_, fun e1 => ?_⟩
  · rw [if_neg n1] at h
    refine ⟨fun l => ?_, fun l => ⟨fun l2 => ?_, fun l2 => ?_⟩⟩
    · rw [if_pos (Or.inl l)] at h; exact h μ hC (hiE.refl _)
    · rw [if_neg (by rintro (w | w); exact l w; exact w l2)] at h
      obtain ⟨j, hj, rfl⟩ := nI_of l
      have hlt : j < (getV S.1 k).length := (nI_ltI hj (by omega)).mp l2
      rw [nI_clamp hj] at h ⊢
      refine ⟨vp_in_nI (by omega) (by decide), ?_⟩
      obtain ⟨r, hr⟩ : ∃ r, (getV S.1 k)[j]? = some r := ⟨_, List.getElem?_eq_getElem hlt⟩
      have e2 := hv.2 j r hr
      have e3 : (getV S.1 k).getD j 0 = r := by rw [List.getD_eq_getElem?_getD, hr]; rfl
      rw [e3] at h
      rw [e2]
      exact h μ hC (hiE.refl _)
    · rw [if_pos (Or.inr l2)] at h; exact h μ hC (hiE.refl _)
  · rw [if_pos e1] at h
    exact h μ hC (hiE.refl _)
def filC (μ : mmMem) (q : Nat) (f : aFil) : Prop := μ.1 q 0 = nI f.1 ∧ μ.1 q 1 = f.2.1 ∧ clC μ (q + 1) f.2.2
theorem filC.fr {μ ν : mmMem} {q : Nat} {f : aFil} (h : filC μ q f) (e0 : eq3 μ ν q) (e1 : eq3 μ ν (q + 1)) : filC ν q f := by
  obtain ⟨h1, h2, h3⟩ := h
  exact ⟨by rw [e0.1]; exact h1, by rw [e0.1]; exact h2, h3.fr e1⟩
end
section
/-! ===== the class: kept, keyed, filtered ===== -/
theorem nar01 (b : Bool) : vp_nar .boolean (if b = true then (1 : Int32) else 0) = if b = true then 1 else 0 := by cases b <;> decide
theorem okV.filter {n : Nat} {l : List Nat} (h : okV n l) (p : Nat → Bool) : okV n (l.filter p) := ⟨h.1.filter _, fun r hr => h.2 r (List.mem_filter.mp hr).1⟩
def setK (T : aT) (ks : List (Nat × Bool)) : aT := (T.1, T.2.1, T.2.2.1, T.2.2.2.1, ks, T.2.2.2.2.2)
def sp_key (c : Int32) (b : Bool) (S : aS) : Int32 × aS := if c = -1 then (0, sT S (setK S.1 [])) else withC S c fun k _ => if S.1.2.2.2.2.1.length < 4 then (nI (S.1.2.2.2.2.1.length + 1), sT S (setK S.1 (S.1.2.2.2.2.1 ++ [(k, b)]))) else (-4, S)
theorem c_key {d : Nat} {c : Int32} {b : Bool} {S : aS} {μ : mmMem} {K : Int32 → mmMem → Prop} (hd : 4 ≤ d) (hC : CS μ S) (h : ∀ ν, CS ν (sp_key c b S).2 → hiE μ ν → K (sp_key c b S).1 ν) : mmCI d M_X7_key false 2 [.ref 0, .int c, .int (if b = true then 1 else 0)] μ K := by
  refine u_X7_key (by omega) ?_
  unfold sp_key at h
  have fr1 : ∀ i x, (∀ q, q ≠ 1 → eq3 μ (sI μ 1 i x) q) := fun i x q hq => by simp [eq3, sI, hq]
  refine ⟨fun n => ?_, fun n => ?_⟩
  · rw [if_neg n] at h
    refine c_columnRefusal (by omega) hC (fun ν hν hh => ?_)
    refine ⟨fun q => ?_, fun q => ?_⟩
    · obtain ⟨k, col, hk, rfl, hcol, hg⟩ := cref_0 q
      rw [withC_ok hk q hcol] at h
      rw [q] at hν
      replace hν : CS ν S := hν
      obtain ⟨⟨h1, h2, h3, h4⟩, h5, ⟨h6, h7⟩, h8, h9⟩ := hν.1
      have hkl := hC.2.1.2.2.2.2.2.1
      rw [h3]
      refine ⟨fun l => ?_, fun l => ?_⟩
      · have hlt : S.1.2.2.2.2.1.length < 4 := (nI_ltI (by omega) (by decide : (4 : Nat) < 2 ^ 31)).mp l
        rw [if_pos hlt] at h
        refine u_X4_addKey (by omega) kd_1 ?_
        have e1 : ∀ x, (sI ν (1 + 3) S.1.2.2.2.2.1.length x).1 1 2 = nI S.1.2.2.2.2.1.length := fun x => by
          have : (1 : Nat) ≠ 1 + 3 := by decide
          simp [sI, h3]
        have e2 : ∀ x y, (sI (sI ν (1 + 3) S.1.2.2.2.2.1.length x) (1 + 4) S.1.2.2.2.2.1.length y).1 1 2 = nI S.1.2.2.2.2.1.length := fun x y => by
          simp [sI, h3]
        rw [h3, nI_clamp (by omega), e1, nI_clamp (by omega), e2, nI_1, nar01]
        refine ⟨vp_in_nI hlt (by decide), vp_in_nI hlt (by decide), ?_⟩
        have g : ∀ q, q ≠ 1 → q ≠ 4 → q ≠ 5 → eq3 ν (sI (sI (sI ν (1 + 3) S.1.2.2.2.2.1.length (nI k)) (1 + 4) S.1.2.2.2.2.1.length (if b = true then 1 else 0)) 1 2 (nI (S.1.2.2.2.2.1.length + 1))) q := fun q q1 q2 q3 => by simp [eq3, sI, q1, q2, q3]
        have ev : (sI (sI (sI ν (1 + 3) S.1.2.2.2.2.1.length (nI k)) (1 + 4) S.1.2.2.2.2.1.length (if b = true then 1 else 0)) 1 2 (nI (S.1.2.2.2.2.1.length + 1))).1 1 2 = nI (S.1.2.2.2.2.1.length + 1) := by simp [sI, upd]
        rw [ev]
        refine h _ (hν.tab ⟨⟨?_, ?_, ?_, ?_⟩, fun i c2 hi => ?_, ⟨h6.fr (g _ (by decide) (by decide) (by decide)) (g _ (by decide) (by decide) (by decide)), h7.fr (g _ (by decide) (by decide) (by decide)) (g _ (by decide) (by decide) (by decide))⟩, fun i q2 hi => ?_, fun i q2 hi => ?_⟩ ?_ (fun q h1 h2 => g q (by omega) (by omega) (by omega)) (by rw [(g 141 (by decide) (by decide) (by decide)).1])) (hh.trans fun q hq => g q (by omega) (by omega) (by omega))
        · simp [sI, upd, h1, setK]
        · simp [sI, upd, h2, setK]
        · rw [ev]; simp [setK]
        · simp [sI, upd, h4, setK]
        · have hi2 : S.1.2.1[i]? = some c2 := hi
          have := lt_of_get hi2
          have := hC.2.1.2.1
          exact (h5 i c2 hi2).fr (g _ (by omega) (by omega) (by omega)) (g _ (by omega) (by omega) (by omega)) (g _ (by omega) (by omega) (by omega)) (g _ (by omega) (by omega) (by omega))
        · have hi2 : (S.1.2.2.2.2.1 ++ [(k, b)])[i]? = some q2 := hi
          by_cases il : i < S.1.2.2.2.2.1.length
          · rw [List.getElem?_append_left il] at hi2
            obtain ⟨w1, w2⟩ := h8 i q2 hi2
            have ne : i ≠ S.1.2.2.2.2.1.length := by omega
            have w1' : ν.1 4 i = nI q2.1 := w1
            have w2' : ν.1 5 i = if q2.2 = true then 1 else 0 := w2
            constructor
            · simp [sI, upd, ne, w1']
            · simp [sI, upd, ne, w2']
          · have := lt_of_get hi2
            simp at this
            have : i = S.1.2.2.2.2.1.length := by omega
            subst this
            rw [List.getElem?_concat_length] at hi2
            cases hi2
            constructor
            · simp [sI, upd]
            · simp [sI, upd]
        · have hi2 : S.1.2.2.2.2.2[i]? = some q2 := hi
          obtain ⟨w1, w2, w3⟩ := h9 i q2 hi2
          have e9 := (g (1 + 58 + 2 * i) (by omega) (by omega) (by omega)).1
          exact ⟨by rw [e9]; exact w1, by rw [e9]; exact w2, w3.fr (g _ (by omega) (by omega) (by omega))⟩
        · obtain ⟨o1, o2, o3, o4, o5, o6, o7, o8, o9⟩ := hC.2.1
          refine ⟨o1, o2, o3, o4, o5, by simp [setK]; omega, fun z hz => ?_, o8, o9⟩
          rcases List.mem_append.mp hz with w | w
          · exact o7 z w
          · rw [List.mem_singleton.mp w]; exact lt_of_get hcol
      · have hlt : ¬ S.1.2.2.2.2.1.length < 4 := fun w => l ((nI_ltI (by omega) (by decide : (4 : Nat) < 2 ^ 31)).mpr w)
        rw [if_neg hlt] at h
        exact h ν hν hh
    · rw [withC_no q] at h
      exact h ν hν hh
  · rw [if_pos n] at h
    have g := fr1 2 0
    obtain ⟨⟨h1, h2, h3, h4⟩, h5, ⟨h6, h7⟩, h8, h9⟩ := hC.1
    refine h _ (hC.tab ⟨⟨?_, ?_, ?_, ?_⟩, fun i c2 hi => ?_, ⟨h6.fr (g _ (by decide)) (g _ (by decide)), h7.fr (g _ (by decide)) (g _ (by decide))⟩, fun i q2 hi => ?_, fun i q2 hi => ?_⟩ ?_ (fun q h1 h2 => g q (by omega)) (by rw [(g 141 (by decide)).1])) (fun q hq => g q (by omega))
    · simp [sI, upd, h1, setK]
    · simp [sI, upd, h2, setK]
    · simp [sI, upd, setK]; rfl
    · simp [sI, upd, h4, setK]
    · exact (h5 i c2 hi).fr (g _ (by omega)) (g _ (by omega)) (g _ (by omega)) (g _ (by omega))
    · simp [setK] at hi
    · obtain ⟨w1, w2, w3⟩ := h9 i q2 hi
      have e9 := (g (1 + 58 + 2 * i) (by omega)).1
      exact ⟨by rw [e9]; exact w1, by rw [e9]; exact w2, w3.fr (g _ (by omega))⟩
    · obtain ⟨o1, o2, o3, o4, o5, o6, o7, o8, o9⟩ := hC.2.1
      exact ⟨o1, o2, o3, o4, o5, by simp [setK], fun z hz => by simp [setK] at hz, o8, o9⟩
end
section
/-! ===== the class: sorted ===== -/
def ahead (T : aT) : List (Nat × Bool) → Nat → Nat → Bool
  | [], _, _ => false
  | k :: t, r, q => match T.2.1[k.1]? with
    | some col => if col.2.1 = true then ahead T t r q else if aRank (col.2.2 r) (col.2.2 q) = 0 then ahead T t r q else if k.2 = true then decide (0 < aRank (col.2.2 r) (col.2.2 q)) else decide (aRank (col.2.2 r) (col.2.2 q) < 0)
    | none => ahead T t r q
def keyC (μ : mmMem) (T : aT) : Prop := μ.1 1 2 = nI T.2.2.2.2.1.length ∧ (∀ c col, T.2.1[c]? = some col → colC μ (7 + 4 * c) T.1 col) ∧ ∀ k q, T.2.2.2.2.1[k]? = some q → μ.1 4 k = nI q.1 ∧ μ.1 5 k = if q.2 = true then 1 else 0
theorem keyC.fr {μ ν : mmMem} {T : aT} (h : keyC μ T) (ok : okT T) (e : ∀ q, q < 55 → eq3 μ ν q) : keyC ν T := by
  obtain ⟨h1, h2, h3⟩ := h
  have hl := ok.2.1
  refine ⟨by rw [(e 1 (by omega)).1]; exact h1, fun c col hc => ?_, fun k q hk => by rw [(e 4 (by omega)).1, (e 5 (by omega)).1]; exact h3 k q hk⟩
  have := lt_of_get hc
  exact (h2 c col hc).fr (e _ (by omega)) (e _ (by omega)) (e _ (by omega)) (e _ (by omega))
theorem CS.keyC {μ : mmMem} {S : aS} (h : CS μ S) : keyC μ S.1 := ⟨h.1.1.2.2.1, fun _ _ hc => h.colC hc, h.1.2.2.2.1⟩
theorem sg_pos {y r : Int32} (h : sgEq y r) : 0 < y ↔ 0 < r := by
  have h1 := h.1
  have h2 := h.2
  rw [Int32.lt_iff_toInt_lt, Int32.lt_iff_toInt_lt] at h1 ⊢
  rw [← Int32.toInt_inj, ← Int32.toInt_inj] at h2
  omega
theorem c_isAheadE {d r q : Nat} {T : aT} {P : Option Value → mmMem → Prop} (hd : 3 ≤ d) (ok : okT T) (hr : r < T.1) (hq : q < T.1) (ans : Bool) : ∀ (j c : Nat) (μ : mmMem) (v4 v5 : Value), T.2.2.2.2.1.length - c = j → c ≤ T.2.2.2.2.1.length → keyC μ T → ans = ahead T (T.2.2.2.2.1.drop c) r q → (∀ ν, (∀ z, z ≠ 152 → z ≠ 153 → eq3 μ ν z) → P (some (.int (if ans = true then 1 else 0))) ν) → mmEnds d M_X7_isAhead 2 [.ref 0, .int (nI r), .int (nI q), .int (nI c), v4, v5] [] μ P := by
  have hkl := ok.2.2.2.2.2.1
  have h40 := ok.1
  have h12 := ok.2.1
  intro j
  induction j with
  | zero =>
    intro c μ v4 v5 hj hc hC ha h
    refine s_X7_isAhead_2 (by omega) ?_
    rw [hC.1]
    rw [List.drop_of_length_le (by omega)] at ha
    subst ha
    exact ⟨fun _ => h μ (fun z _ _ => eq3.rfl'), fun w => absurd (nI_le (by omega) (by omega)) w⟩
  | succ j ih =>
    intro c μ v4 v5 hj hc hC ha h
    refine s_X7_isAhead_2 (by omega) ?_
    obtain ⟨k, hk⟩ : ∃ k, T.2.2.2.2.1[c]? = some k := ⟨_, List.getElem?_eq_getElem (by omega)⟩
    have hk1 := ok.2.2.2.2.2.2.1 k (List.mem_of_getElem? hk)
    obtain ⟨col, hcol⟩ : ∃ col, T.2.1[k.1]? = some col := ⟨_, List.getElem?_eq_getElem hk1⟩
    obtain ⟨k4, k5⟩ := hC.2.2 c k hk
    have hcc := hC.2.1 k.1 col hcol
    have okc := ok.2.2.1 col (List.mem_of_getElem? hcol)
    rw [drop_get hk] at ha
    unfold ahead at ha
    rw [hcol] at ha
    dsimp only at ha
    rw [hC.1, nI_clamp (by omega), k4, nI_clamp (by omega), hcc.2.1, nI_1]
    refine ⟨fun w => absurd w (nI_ge (by omega) (by omega)), fun _ => ⟨vp_in_nI (by omega) (by decide), vp_in_nI (by omega) (by decide), fun w => ?_, fun w => ?_⟩⟩
    · have hg : col.2.1 = true := by
        cases hh : col.2.1 with
        | true => rfl
        | false => rw [hh] at w; exact absurd rfl w
      rw [if_pos hg] at ha
      exact ih (c + 1) μ _ _ (by omega) (by omega) hC ha h
    · have hg : col.2.1 = false := by
        cases hh : col.2.1 with
        | true => rw [hh] at w; exact absurd w (by decide)
        | false => rfl
      rw [if_neg (by rw [hg]; decide)] at ha
      have ka := (kcol k.1 (by omega)).1
      refine c_load (by omega) ka kd_152 hcc hr h40 ?_
      have f1 : ∀ z, z ≠ 152 → eq3 μ (setC μ 152 (col.2.2 r)) z := fun z hz => ⟨setC_1 _ _ _ _ hz, setC_2 _ _ _ _ hz, setC_3 _ _ _ _ hz⟩
      have hc1 := hcc.fr (f1 _ (by omega)) (f1 _ (by omega)) (f1 _ (by omega)) (f1 _ (by omega))
      refine c_load (by omega) ka kd_153 hc1 hq h40 ?_
      have f2 : ∀ z, z ≠ 153 → eq3 (setC μ 152 (col.2.2 r)) (setC (setC μ 152 (col.2.2 r)) 153 (col.2.2 q)) z := fun z hz => ⟨setC_1 _ _ _ _ hz, setC_2 _ _ _ _ hz, setC_3 _ _ _ _ hz⟩
      have f12 : ∀ z, z ≠ 152 → z ≠ 153 → eq3 μ (setC (setC μ 152 (col.2.2 r)) 153 (col.2.2 q)) z := fun z h1 h2 => (f1 z h1).trans (f2 z h2)
      refine c_rank (by omega) kd_152 kd_153 ((setC_cl _ _ _).set (by decide)) (setC_cl _ _ _) (okc.2.2 r hr).1 (okc.2.2 q hq).1 (fun y hy => ?_)
      have hp := sg_pos hy
      rw [(f12 5 (by decide) (by decide)).1, k5, hy.2]
      have hC2 : keyC (setC (setC μ 152 (col.2.2 r)) 153 (col.2.2 q)) T := hC.fr ok (fun z hz => f12 z (by omega) (by omega))
      refine ⟨fun z => ?_, fun z => ?_⟩
      · rw [if_pos z] at ha
        exact ih (c + 1) _ _ _ (by omega) (by omega) hC2 ha (fun ν g => h ν (fun z h1 h2 => (f12 z h1 h2).trans (g z h1 h2)))
      · rw [if_neg z] at ha
        refine ⟨fun t => ?_, fun t => ?_⟩
        · have ht : k.2 = false := by
            cases hh : k.2 with
            | true => rw [hh] at t; exact absurd t (by decide)
            | false => rfl
          rw [if_neg (by rw [ht]; decide)] at ha
          refine ⟨fun l => ?_, fun l => ?_⟩
          · have : ans = false := by rw [ha, decide_eq_false_iff_not, ← hy.1]; exact Int32.not_lt.mpr l
            rw [this] at h
            exact h _ f12
          · have : ans = true := by rw [ha, decide_eq_true_eq, ← hy.1]; exact Int32.not_le.mp l
            rw [this] at h
            exact h _ f12
        · have ht : k.2 = true := by
            cases hh : k.2 with
            | true => rfl
            | false => rw [hh] at t; exact absurd rfl t
          rw [if_pos ht] at ha
          refine ⟨fun l => ?_, fun l => ?_⟩
          · have : ans = false := by rw [ha, decide_eq_false_iff_not, ← hp]; exact Int32.not_lt.mpr l
            rw [this] at h
            exact h _ f12
          · have : ans = true := by rw [ha, decide_eq_true_eq, ← hp]; exact Int32.not_le.mp l
            rw [this] at h
            exact h _ f12
theorem c_isAhead {d r q : Nat} {T : aT} {μ : mmMem} {K : Int32 → mmMem → Prop} (hd : 4 ≤ d) (ok : okT T) (hr : r < T.1) (hq : q < T.1) (hC : keyC μ T) (h : ∀ ν, (∀ z, z ≠ 152 → z ≠ 153 → eq3 μ ν z) → K (if ahead T T.2.2.2.2.1 r q = true then 1 else 0) ν) : mmCI d M_X7_isAhead false 2 [.ref 0, .int (nI r), .int (nI q)] μ K := by
  refine u_X7_isAhead (by omega) ?_
  exact c_isAheadE (by omega) ok hr hq _ _ 0 μ _ _ rfl (Nat.zero_le _) hC rfl (fun ν g => h ν g)
/-! rows of an array, by lists -/
def arr (g : Nat → Int32) (l : List Nat) : Prop := ∀ i r, l[i]? = some r → g i = nI r
theorem arr_app {g : Nat → Int32} {a b : List Nat} (h1 : arr g a) (h2 : arr (fun i => g (a.length + i)) b) : arr g (a ++ b) := by
  intro i r hr
  by_cases hi : i < a.length
  · rw [List.getElem?_append_left hi] at hr
    exact h1 i r hr
  · rw [List.getElem?_append_right (by omega)] at hr
    have := h2 (i - a.length) r hr
    dsimp only at this
    rw [show a.length + (i - a.length) = i by omega] at this
    exact this
theorem arr_left {g : Nat → Int32} {a b : List Nat} (h : arr g (a ++ b)) : arr g a := fun i r hr => h i r (by rw [List.getElem?_append_left (lt_of_get hr)]; exact hr)
theorem arr_right {g : Nat → Int32} {a b : List Nat} (h : arr g (a ++ b)) : arr (fun i => g (a.length + i)) b := fun i r hr => h (a.length + i) r (by rw [List.getElem?_append_right (by omega)]; rw [show a.length + i - a.length = i by omega]; exact hr)
/-- a row goes in, from behind: past those that it is ahead of -/
def insRev (A : Nat → Nat → Bool) (x : Nat) : List Nat → List Nat
  | [] => [x]
  | y :: t => if A x y = true then y :: insRev A x t else x :: y :: t
def sortRev (A : Nat → Nat → Bool) (l acc : List Nat) : List Nat := match l with
  | [] => acc
  | x :: t => sortRev A t (insRev A x acc)
def srt (A : Nat → Nat → Bool) : List Nat → List Nat
  | [] => []
  | x :: t => (sortRev A t [x]).reverse
theorem insRev_perm (A : Nat → Nat → Bool) (x : Nat) : ∀ l, (insRev A x l).Perm (x :: l)
  | [] => List.Perm.refl _
  | y :: t => by
    unfold insRev
    split
    · exact ((insRev_perm A x t).cons y).trans (List.Perm.swap x y t)
    · exact List.Perm.refl _
theorem sortRev_perm (A : Nat → Nat → Bool) : ∀ l acc, (sortRev A l acc).Perm (acc ++ l)
  | [], acc => by simp [sortRev]
  | x :: t, acc => by
    unfold sortRev
    refine (sortRev_perm A t _).trans ?_
    have h1 : (insRev A x acc ++ t).Perm ((x :: acc) ++ t) := (insRev_perm A x acc).append_right t
    refine h1.trans ?_
    have : ((x :: acc) ++ t) = x :: (acc ++ t) := rfl
    rw [this]
    exact List.perm_middle.symm
theorem srt_perm (A : Nat → Nat → Bool) (l : List Nat) : (srt A l).Perm l := by
  cases l with
  | nil => exact List.Perm.refl _
  | cons x t =>
    unfold srt
    refine (List.reverse_perm _).trans ((sortRev_perm A t [x]).trans ?_)
    exact List.Perm.refl _
theorem okV.perm {n : Nat} {l l' : List Nat} (h : okV n l) (p : l'.Perm l) : okV n l' := ⟨p.nodup_iff.mpr h.1, fun r hr => h.2 r (p.mem_iff.mp hr)⟩
/-- while a row goes in: t in place, sh shifted by one -/
def hole (g : Nat → Int32) (t sh rest : List Nat) : Prop := arr g t.reverse ∧ arr (fun i => g (t.length + 1 + i)) (sh.reverse ++ rest)
theorem hole_start {g : Nat → Int32} {acc rest : List Nat} {x : Nat} (h : arr g (acc.reverse ++ x :: rest)) : hole g acc [] rest ∧ g acc.length = nI x := by
  have h2 := arr_right h
  simp only [List.length_reverse] at h2
  refine ⟨⟨arr_left h, fun i r hr => ?_⟩, ?_⟩
  · have := h2 (i + 1) r (by simpa using hr)
    dsimp only at this ⊢
    rw [show acc.length + (i + 1) = acc.length + 1 + i by omega] at this
    exact this
  · have := h2 0 x rfl
    exact this
theorem hole_step {g : Nat → Int32} {t sh rest : List Nat} {y : Nat} (h : hole g (y :: t) sh rest) : g t.length = nI y ∧ hole (fun i => if i = t.length + 1 then nI y else g i) t (sh ++ [y]) rest := by
  obtain ⟨h1, h2⟩ := h
  rw [List.reverse_cons] at h1
  have e : g t.length = nI y := by
    have := arr_right h1 0 y rfl
    simpa using this
  refine ⟨e, fun i r hr => ?_, fun i r hr => ?_⟩
  · have hi := lt_of_get hr
    simp at hi
    have := arr_left h1 i r hr
    show (if i = t.length + 1 then nI y else g i) = nI r
    rw [if_neg (by omega)]
    exact this
  · show (if t.length + 1 + i = t.length + 1 then nI y else g (t.length + 1 + i)) = nI r
    rw [List.reverse_append, List.reverse_singleton, List.singleton_append, List.cons_append] at hr
    cases i with
    | zero =>
      cases hr
      rw [if_pos (by omega)]
    | succ i =>
      rw [if_neg (by omega)]
      have := h2 i r (by simpa using hr)
      dsimp only [List.length_cons] at this
      rw [show t.length + 1 + (i + 1) = t.length + 1 + 1 + i by omega]
      exact this
theorem hole_end {g : Nat → Int32} {t sh rest : List Nat} {x : Nat} (h : hole g t sh rest) : arr (fun i => if i = t.length then nI x else g i) ((sh ++ x :: t).reverse ++ rest) := by
  obtain ⟨h1, h2⟩ := h
  have e : (sh ++ x :: t).reverse ++ rest = t.reverse ++ (x :: (sh.reverse ++ rest)) := by simp
  rw [e]
  refine arr_app (fun i r hr => ?_) (fun i r hr => ?_)
  · have hi := lt_of_get hr
    simp at hi
    show (if i = t.length then nI x else g i) = nI r
    rw [if_neg (by omega)]
    exact h1 i r hr
  · dsimp only
    rw [List.length_reverse]
    cases i with
    | zero =>
      cases hr
      rw [if_pos (by omega)]
    | succ i =>
      rw [if_neg (by omega)]
      have := h2 i r (by simpa using hr)
      dsimp only at this
      rw [show t.length + (i + 1) = t.length + 1 + i by omega]
      exact this
theorem insRev_app {A : Nat → Nat → Bool} {x : Nat} : ∀ {sh t : List Nat}, (∀ y ∈ sh, A x y = true) → insRev A x (sh ++ t) = sh ++ insRev A x t
  | [], _, _ => rfl
  | y :: sh, t, h => by
    show (if A x y = true then y :: insRev A x (sh ++ t) else _) = _
    rw [if_pos (h y List.mem_cons_self), insRev_app (fun z hz => h z (List.mem_cons_of_mem _ hz))]
    rfl
/-! the class's view while it is being sorted -/
def wrV (μ ν : mmMem) (a : Nat) : Prop := (∀ q, q ≠ a + 1 → q ≠ 152 → q ≠ 153 → eq3 μ ν q) ∧ ν.2.1 (a + 1) = μ.2.1 (a + 1) ∧ ν.2.2 (a + 1) = μ.2.2 (a + 1)
theorem wrV.refl (μ : mmMem) (a : Nat) : wrV μ μ a := ⟨fun _ _ _ _ => eq3.rfl', rfl, rfl⟩
theorem wrV.trans {μ ν ξ : mmMem} {a : Nat} (h : wrV μ ν a) (h2 : wrV ν ξ a) : wrV μ ξ a := ⟨fun q a1 a2 a3 => (h.1 q a1 a2 a3).trans (h2.1 q a1 a2 a3), h2.2.1.trans h.2.1, h2.2.2.trans h.2.2⟩
theorem wrV.put (μ : mmMem) (a i : Nat) (x : Int32) : wrV μ (sI μ (a + 1) i x) a := ⟨fun q h1 _ _ => by simp [eq3, sI, h1], rfl, rfl⟩
theorem wrV.sc {μ ν : mmMem} {a : Nat} (h : ∀ z, z ≠ 152 → z ≠ 153 → eq3 μ ν z) (h2 : a + 1 < 152) : wrV μ ν a := ⟨fun q _ a2 a3 => h q a2 a3, (h _ (by omega) (by omega)).2.1, (h _ (by omega) (by omega)).2.2⟩
theorem c_insertE {d a : Nat} {T : aT} {l : List Nat} {P : Option Value → mmMem → Prop} (hd : 4 ≤ d) (ha : mmKD a = 6) (ha2 : 55 ≤ a ∧ a < 140) (ok : okT T) (okl : okV T.1 l) (μ0 : mmMem) (h0 : μ0.1 a 0 = nI l.length) (hK : keyC μ0 T) (h : ∀ ν, wrV μ0 ν a → arr (ν.1 (a + 1)) (srt (ahead T T.2.2.2.2.1) l) → P none ν) :
    ∀ (rest acc : List Nat) (μ : mmMem) (v3 v4 : Value), acc ≠ [] → acc.length + rest.length = l.length → (∀ r ∈ acc, r < T.1) → (∀ r ∈ rest, r < T.1) → wrV μ0 μ a → arr (μ.1 (a + 1)) (acc.reverse ++ rest) → srt (ahead T T.2.2.2.2.1) l = (sortRev (ahead T T.2.2.2.2.1) rest acc).reverse → mmEnds d M_X7_insertInOrder 2 [.ref 0, .ref a, .int (nI acc.length), v3, v4] [] μ P := by
  have h40 := ok.1
  have hll := okl.len
  intro rest
  induction rest with
  | nil =>
    intro acc μ v3 v4 hne hlen hacc hrest hw harr hs
    refine s_X7_insertInOrder_2 (by omega) ha ?_
    rw [(hw.1 a (by omega) (by omega) (by omega)).1, h0]
    simp only [List.length_nil, Nat.add_zero] at hlen
    refine ⟨fun _ => h μ hw ?_, fun w => absurd (nI_le (by omega) (by omega)) w⟩
    rw [hs]
    simpa [sortRev] using harr
  | cons x rest ih =>
    intro acc μ v3 v4 hne hlen hacc hrest hw harr hs
    simp only [List.length_cons] at hlen
    have hx := hrest x List.mem_cons_self
    obtain ⟨hh, hgx⟩ := hole_start harr
    have inner : ∀ (t sh : List Nat) (μ : mmMem), acc = sh ++ t → (∀ y ∈ sh, ahead T T.2.2.2.2.1 x y = true) → wrV μ0 μ a → hole (μ.1 (a + 1)) t sh rest → mmEnds d M_X7_insertInOrder 20 [.ref 0, .ref a, .int (nI acc.length), .int (nI x), .int (nI t.length)] [] μ P := by
      intro t
      induction t with
      | nil =>
        intro sh μ e hsh hw hho
        refine s_X7_insertInOrder_20 (by omega) ha ?_
        refine ⟨fun _ => ⟨vp_lit (by decide), ?_⟩, fun w => absurd (by decide) w⟩
        have e1 : insRev (ahead T T.2.2.2.2.1) x acc = sh ++ [x] := by rw [e, insRev_app hsh]; rfl
        have := ih (insRev (ahead T T.2.2.2.2.1) x acc) (sI μ (a + 1) 0 (nI x)) (.int (nI x)) (.int (nI 0)) (by rw [e1]; simp) (by rw [e1, ← hlen, e]; simp; omega) (fun r hr => by
          rw [e1] at hr
          rcases List.mem_append.mp hr with w | w
          · exact hacc r (by rw [e]; exact List.mem_append_left _ w)
          · rw [List.mem_singleton.mp w]; exact hx) (fun r hr => hrest r (List.mem_cons_of_mem _ hr)) (hw.trans (wrV.put μ a 0 _)) (by
          rw [e1]
          have := hole_end (x := x) hho
          have e2 : (sI μ (a + 1) 0 (nI x)).1 (a + 1) = fun i => if i = ([] : List Nat).length then nI x else μ.1 (a + 1) i := by funext i; simp [sI, upd]
          rw [e2]
          simpa using this) (by rw [hs]; rfl)
        have e3 : (insRev (ahead T T.2.2.2.2.1) x acc).length = acc.length + 1 := by rw [e1, e]; simp
        rw [e3] at this
        rw [nI_1]
        exact this
      | cons y t iht =>
        intro sh μ e hsh hw hho
        have hacl : acc.length = sh.length + (t.length + 1) := by rw [e]; simp
        refine s_X7_insertInOrder_20 (by omega) ha ?_
        have ep : nI (t.length + 1) - 1 = nI t.length := nI_pred _
        have em : nI (t.length + 1) + (-1) = nI t.length := by
          have : nI (t.length + 1) + (-1) = nI (t.length + 1) - 1 := by rw [Int32.sub_eq_add_neg]
          rw [this]; exact ep
        obtain ⟨hgy, hst⟩ := hole_step hho
        have hy : y < T.1 := hacc y (by rw [e]; simp)
        simp only [List.length_cons]
        rw [ep, em, nI_clamp (by omega), nI_clamp (by omega), hgy]
        refine ⟨fun w => absurd w (nI_nle (by omega) (by omega)), fun _ => ⟨vp_in_nI (by omega) (by decide), ?_⟩⟩
        refine c_isAhead (by omega) ok hx hy (hK.fr ok (fun z hz => hw.1 z (by omega) (by omega) (by omega))) (fun ν g => ?_)
        have hw2 := hw.trans (wrV.sc (a := a) g (by omega))
        have ga : ν.1 (a + 1) = μ.1 (a + 1) := (g (a + 1) (by omega) (by omega)).1
        refine ⟨fun z => ⟨vp_in_nI (by omega) (by decide), ?_⟩, fun z => ⟨vp_in_nI (by omega) (by decide), ?_⟩⟩
        · have hA : ahead T T.2.2.2.2.1 x y = false := by
            cases hq : ahead T T.2.2.2.2.1 x y with
            | true => rw [hq] at z; exact absurd z (by decide)
            | false => rfl
          have e1 : insRev (ahead T T.2.2.2.2.1) x acc = sh ++ x :: y :: t := by
            rw [e, insRev_app hsh]
            have e0 : insRev (ahead T T.2.2.2.2.1) x (y :: t) = x :: y :: t := by
              unfold insRev
              rw [if_neg (by rw [hA]; decide)]
            rw [e0]
          have := ih (insRev (ahead T T.2.2.2.2.1) x acc) (sI ν (a + 1) (t.length + 1) (nI x)) (.int (nI x)) (.int (nI (t.length + 1))) (by rw [e1]; simp) (by rw [e1, ← hlen, e]; simp; omega) (fun r hr => by
            rw [e1] at hr
            rcases List.mem_append.mp hr with w | w
            · exact hacc r (by rw [e]; exact List.mem_append_left _ w)
            · rcases List.mem_cons.mp w with w | w
              · rw [w]; exact hx
              · exact hacc r (by rw [e]; exact List.mem_append_right _ w)) (fun r hr => hrest r (List.mem_cons_of_mem _ hr)) (hw2.trans (wrV.put ν a _ _)) (by
            rw [e1]
            have := hole_end (x := x) hho
            have e2 : (sI ν (a + 1) (t.length + 1) (nI x)).1 (a + 1) = fun i => if i = (y :: t).length then nI x else μ.1 (a + 1) i := by funext i; simp [sI, upd, ga]
            rw [e2]
            exact this) (by rw [hs]; rfl)
          have e3 : (insRev (ahead T T.2.2.2.2.1) x acc).length = acc.length + 1 := by rw [e1]; simp; omega
          rw [e3] at this
          rw [nI_1]
          exact this
        · have hA : ahead T T.2.2.2.2.1 x y = true := by
            cases hq : ahead T T.2.2.2.2.1 x y with
            | true => rfl
            | false => rw [hq] at z; exact absurd rfl z
          rw [ga, hgy]
          refine iht (sh ++ [y]) _ (by rw [e]; simp) (fun z hz => ?_) (hw2.trans (wrV.put ν a _ _)) ?_
          · rcases List.mem_append.mp hz with w | w
            · exact hsh z w
            · rw [List.mem_singleton.mp w]; exact hA
          · have e2 : (sI ν (a + 1) (t.length + 1) (nI y)).1 (a + 1) = fun i => if i = t.length + 1 then nI y else μ.1 (a + 1) i := by funext i; simp [sI, upd, ga]
            rw [e2]
            exact hst
    refine s_X7_insertInOrder_2 (by omega) ha ?_
    rw [(hw.1 a (by omega) (by omega) (by omega)).1, h0, nI_clamp (by omega), hgx]
    refine ⟨fun w => absurd w (nI_ge (by omega) (by omega)), fun _ => ⟨vp_in_nI (by omega) (by decide), ?_⟩⟩
    exact inner acc [] μ rfl (fun y hy => absurd hy (by simp)) hw hh
theorem c_insert {d a : Nat} {T : aT} {l : List Nat} {μ : mmMem} {K : mmMem → Prop} (hd : 5 ≤ d) (ha : mmKD a = 6) (ha2 : 55 ≤ a ∧ a < 140) (ok : okT T) (okl : okV T.1 l) (hv : vwC μ a l) (hK : keyC μ T) (h : ∀ ν, wrV μ ν a → vwC ν a (srt (ahead T T.2.2.2.2.1) l) → K ν) : mmC0 d M_X7_insertInOrder false 1 [.ref 0, .ref a] μ K := by
  refine u_X7_insertInOrder (by omega) ha ?_
  have h40 := ok.1
  have hll := okl.len
  have fin : ∀ ν, wrV μ ν a → arr (ν.1 (a + 1)) (srt (ahead T T.2.2.2.2.1) l) → K ν := fun ν hw harr => h ν hw ⟨by rw [(hw.1 a (by omega) (by omega) (by omega)).1, hv.1, (srt_perm _ l).length_eq], harr⟩
  cases l with
  | nil =>
    refine s_X7_insertInOrder_2 (by omega) ha ?_
    rw [hv.1]
    exact ⟨fun _ => fin μ (wrV.refl μ a) (fun i r hr => by simp [srt] at hr), fun w => absurd (by decide) w⟩
  | cons x t =>
    have harr : arr (μ.1 (a + 1)) (x :: t) := fun i r hr => hv.2 i r hr
    exact c_insertE (l := x :: t) (by omega) ha ha2 ok okl μ hv.1 hK (fun ν hw harr => fin ν hw harr) t [x] μ _ _ (by simp) (by simp; omega) (fun r hr => okl.2 r (by simp at hr; simp [hr])) (fun r hr => okl.2 r (List.mem_cons_of_mem _ hr)) (wrV.refl μ a) (by simpa using harr) rfl
def sp_sort (v : Int32) (S : aS) : Int32 × aS := if noView v then (-1, S) else if S.1.2.2.2.2.1.length = 0 then (-3, S) else
  (nI (cnt (fun i => !((srt (ahead S.1 S.1.2.2.2.2.1) (getV S.1 v.toNatClampNeg))[i]? == (getV S.1 v.toNatClampNeg)[i]?)) (getV S.1 v.toNatClampNeg).length), sT S (setV S.1 v.toNatClampNeg (srt (ahead S.1 S.1.2.2.2.2.1) (getV S.1 v.toNatClampNeg))))
theorem c_sortE {d a : Nat} {l l' : List Nat} {P : Option Value → mmMem → Prop} (ha : mmKD a = 6) (x1 : Int32) (hlen : l'.length = l.length) (hll : l.length ≤ 40) (hb : (∀ r ∈ l, r < 2 ^ 31) ∧ ∀ r ∈ l', r < 2 ^ 31) (μ : mmMem) (hv : vwC μ a l') (h155 : arr (μ.1 155) l) (h : P (some (.int (nI (cnt (fun i => !(l'[i]? == l[i]?)) l.length)))) μ) : ∀ (j i : Nat), l.length - i = j → i ≤ l.length → mmEnds d M_X7_sort 59 [.ref 0, .int x1, .ref a, .int (nI (cnt (fun i => !(l'[i]? == l[i]?)) i)), .int (nI i)] [] μ P := by
  intro j
  induction j with
  | zero =>
    intro i hj hi
    refine s_X7_sort_59 (by omega) ha ?_
    rw [hv.1, hlen]
    have e : i = l.length := by omega
    rw [e]
    exact ⟨fun _ => h, fun w => absurd (nI_le (Nat.le_refl _) (by omega)) w⟩
  | succ j ih =>
    intro i hj hi
    refine s_X7_sort_59 (by omega) ha ?_
    obtain ⟨r, hr⟩ : ∃ r, l[i]? = some r := ⟨_, List.getElem?_eq_getElem (by omega)⟩
    obtain ⟨r', hr'⟩ : ∃ r, l'[i]? = some r := ⟨_, List.getElem?_eq_getElem (by omega)⟩
    have := ih (i + 1) (by omega) (by omega)
    rw [cnt_s] at this
    rw [hv.1, hlen, nI_clamp (by omega), hv.2 i r' hr', h155 i r hr, nI_1, nI_1, nI_eq (hb.2 r' (List.mem_of_getElem? hr')) (hb.1 r (List.mem_of_getElem? hr))]
    refine ⟨fun w => absurd w (nI_ge (by omega) (by omega)), fun _ => ⟨vp_in_nI (by omega) (by decide), fun e => ?_, fun e => ?_⟩⟩
    · rw [if_neg (by simp [hr, hr', e])] at this; exact this
    · rw [if_pos (by simp [hr, hr', e])] at this; exact this
theorem c_sort {d : Nat} {v : Int32} {S : aS} {μ : mmMem} {K : Int32 → mmMem → Prop} (hd : 6 ≤ d) (hC : CS μ S) (h : ∀ ν, CS ν (sp_sort v S).2 → hiE μ ν → K (sp_sort v S).1 ν) : mmCI d M_X7_sort false 1 [.ref 0, .int v] μ K := by
  refine u_X7_sort (by omega) ?_
  unfold sp_sort at h
  have bad : noView v → K (-1) μ := fun w => by
    rw [if_pos w] at h
    exact h μ hC (hiE.refl _)
  refine ⟨fun a => bad (Or.inl a), fun a => ⟨fun b => bad (Or.inr b), fun b => ?_⟩⟩
  have nv : ¬ noView v := by rintro (w | w); exact a w; exact b w
  rw [if_neg nv] at h
  obtain ⟨v, hv, rfl⟩ := view_of nv
  rw [nI_clamp (by omega)] at h ⊢
  have hkl := hC.2.1.2.2.2.2.2.1
  have okv := hC.2.1.vw v
  have hln := okv.len
  have h40 := hC.2.1.1
  have hvw := hC.1.vw hv
  rw [hC.1.1.2.2.1, hvw.1, nI_clamp (by omega)]
  have z0 : (0 : Int32).toNatClampNeg = 0 := rfl
  rw [z0]
  refine ⟨fun n => ?_, fun n => ?_⟩
  · have hne : ¬ S.1.2.2.2.2.1.length = 0 := fun w => n (by rw [w]; rfl)
    rw [if_neg hne] at h
    refine ⟨nI_pos (by omega), by omega, ?_⟩
    have e0 : ∀ q, q ≠ 155 → eq3 μ (cI μ (55 + 2 * v + 1) 155 0 0 (getV S.1 v).length) q := fun q hq => by simp [eq3, cI, hq]
    have e155 : ∀ i, i < (getV S.1 v).length → (cI μ (55 + 2 * v + 1) 155 0 0 (getV S.1 v).length).1 155 i = μ.1 (55 + 2 * v + 1) i := fun i hi => by simp [cI, va_cpy, hi]
    have s0 : scr μ (cI μ (55 + 2 * v + 1) 155 0 0 (getV S.1 v).length) := ⟨fun q hq => e0 q (by omega), by rw [(e0 141 (by decide)).1]⟩
    have hC2 := hC.scr s0
    refine c_insert (by omega) (kvw v hv).1 (by omega) hC.2.1 okv (hC2.1.vw hv) hC2.keyC (fun ν hw hvν => ?_)
    have all : ∀ q, q ≠ 55 + 2 * v → q ≠ 56 + 2 * v → (q < 141 ∨ q = 142) → eq3 μ ν q := fun q h1 h2 h3 => (e0 q (by omega)).trans (hw.1 q (by omega) (by omega) (by omega))
    have okl' := okv.perm (srt_perm (ahead S.1 S.1.2.2.2.2.1) (getV S.1 v))
    have hlen := (srt_perm (ahead S.1 S.1.2.2.2.2.1) (getV S.1 v)).length_eq
    have a155 : arr (ν.1 155) (getV S.1 v) := fun i r hr => by
      rw [(hw.1 155 (by omega) (by decide) (by decide)).1, e155 i (lt_of_get hr)]
      exact hvw.2 i r hr
    have b1 : ∀ r ∈ getV S.1 v, r < 2 ^ 31 := fun r hr => by have := okv.2 r hr; omega
    have b2 : ∀ r ∈ srt (ahead S.1 S.1.2.2.2.2.1) (getV S.1 v), r < 2 ^ 31 := fun r hr => by have := okl'.2 r hr; omega
    have := c_sortE (d := d - 1) (a := 55 + 2 * v) (l := getV S.1 v) (P := mmPI K) (kvw v hv).1 (nI v) hlen (by omega) ⟨b1, b2⟩ ν hvν a155 (h ν (hC.setV hv all (by rw [(hw.1 141 (by omega) (by omega) (by omega)).1, (e0 141 (by omega)).1]) hvν okl') (fun q hq => (e0 q (by omega)).trans (hw.1 q (by omega) (by omega) (by omega)))) _ 0 rfl (Nat.zero_le _)
    rw [cnt_0] at this
    exact this
  · have he : S.1.2.2.2.2.1.length = 0 := (nI_eq (by omega) (by decide : (0 : Nat) < 2 ^ 31)).mp n
    rw [if_pos he] at h
    exact h μ hC (hiE.refl _)
end
section
/-! ===== the class: groups ===== -/
def leadAns (o : Option Nat) : Int32 := match o with
  | none => -1
  | some a => nI a
end
section
/-! ===== the class: casts ===== -/
def bxIn (k : Int32) : Int32 := if k = 8 then 4 else k
def cbk (x : aC) (k : Int32) : Bool := if x.1 = -1 then !(decide (k < 8)) else if x.1 = 8 then !(decide (k < 9)) else if k < 9 then aCast (bxIn k, aCast x (bxIn k)) x.1 == x.2 else k == 9
theorem bxIn_ok {k : Int32} (h1 : ¬ k < 0) (h2 : k < 9) : isB (bxIn k) := by
  unfold bxIn
  split
  · simp [isB]
  · rename_i n
    refine isB_i h1 ?_
    rw [Int32.lt_iff_toInt_lt] at h2
    rw [Int32.le_iff_toInt_le]
    have : k.toInt ≠ 8 := fun w => n (Int32.toInt_inj.mp w)
    have e9 : (9 : Int32).toInt = 9 := rfl
    have e7 : (7 : Int32).toInt = 7 := rfl
    omega
theorem c_copy {d p q : Nat} {x : aC} {μ : mmMem} {K : mmMem → Prop} (hd : 1 ≤ d) (hp : mmKD p = 0) (hq : mmKD q = 0) (hx : clC μ q x) (h : K (setC μ p x)) : mmC0 d M_X0_copyFrom false 1 [.ref p, .ref q] μ K := by
  refine u_X0_copyFrom hd hp hq ?_
  rw [hx.1, hx.2.1, hx.2.2]
  exact h
theorem box_of {x : aC} (ok : okC x) (h1 : ¬ x.1 = -1) (h2 : ¬ x.1 = 8) : isB x.1 := by
  rcases ok.cases with w | w
  · exact absurd w h1
  · rcases w with w | w | w | w | w | w | w | w | w
    all_goals first | (exact absurd w h2) | (rw [w]; simp [isB])
theorem enK_m1 {x : aC} (ok : okC x) : enK x = -1 ↔ x.1 = -1 := by
  unfold enK
  rcases ok.cases with w | w | w | w | w | w | w | w | w | w <;> rw [w] <;> decide
theorem enK_10 {x : aC} (ok : okC x) : enK x = 10 ↔ x.1 = 8 := by
  unfold enK
  rcases ok.cases with w | w | w | w | w | w | w | w | w | w <;> rw [w] <;> decide
theorem c_comesBack {d p : Nat} {x : aC} {k : Int32} {μ : mmMem} {K : Int32 → mmMem → Prop} (hd : 5 ≤ d) (hp : mmKD p = 0) (hp2 : p ≠ 154) (hx : clC μ p x) (ok : okC x) (hk : ¬ k < 0) (h : ∀ ν, (∀ z, z ≠ 154 → eq3 μ ν z) → K (if cbk x k = true then 1 else 0) ν) : mmCI d M_X7_comesBack false 2 [.ref 0, .ref p, .int k] μ K := by
  refine u_X7_comesBack (by omega) hp ?_
  rw [hx.1, enK_m1 ok, enK_10 ok]
  have f : cbk x k = false → K 0 μ := fun e => by have := h μ (fun z _ => eq3.rfl'); rw [e] at this; exact this
  have t : cbk x k = true → K 1 μ := fun e => by have := h μ (fun z _ => eq3.rfl'); rw [e] at this; exact this
  refine ⟨fun n1 => ⟨fun n2 => ⟨fun l => ?_, fun l => ⟨fun n9 => f (by simp [cbk, n1, n2, l, n9]), fun n9 => t (by rw [n9]; simp [cbk, n1, n2])⟩⟩, fun n2 => ⟨fun l => f (by simp [cbk, n2, l]), fun l => t (by simp [cbk, n2, l])⟩⟩, fun n1 => ⟨fun l => f (by simp [cbk, n1, l]), fun l => t (by simp [cbk, n1, l])⟩⟩
  have hb := box_of ok n1 n2
  have ht := bxIn_ok hk l
  have ec : cbk x k = (aCast (bxIn k, aCast x (bxIn k)) x.1 == x.2) := by unfold cbk; rw [if_neg n1, if_neg n2, if_pos l]
  have ek : enK x = x.1 := (en_box hb x.2).1
  have go : mmC0 (d - 1) M_X0_turnInto false 1 [.ref 154, .int (bxIn k)] (setC μ 154 x) fun ν18 => mmC0 (d - 1) M_X0_turnInto false 1 [.ref 154, .int (ν18.1 p 0)] ν18 fun ν19 => mmCI (d - 1) M_X0_isSame false 1 [.ref 154, .ref p] ν19 fun y21 ν20 => (y21 = 0 ∨ y21 = 1) ∧ K y21 ν20 := by
    have f1 : ∀ z, z ≠ 154 → eq3 μ (setC μ 154 x) z := fun z hz => ⟨setC_1 _ _ _ _ hz, setC_2 _ _ _ _ hz, setC_3 _ _ _ _ hz⟩
    refine c_turnInto (by omega) kd_154 (setC_cl _ _ _) ok hb ht ?_
    have f2 : ∀ z, z ≠ 154 → eq3 μ (setC (setC μ 154 x) 154 (bxIn k, aCast x (bxIn k))) z := fun z hz => (f1 z hz).trans ⟨setC_1 _ _ _ _ hz, setC_2 _ _ _ _ hz, setC_3 _ _ _ _ hz⟩
    rw [(f2 p hp2).1, hx.1, ek]
    have ok2 := ok_cast ok hb ht
    refine c_turnInto (by omega) kd_154 (setC_cl _ _ _) ok2 ht hb ?_
    have f3 : ∀ z, z ≠ 154 → eq3 μ (setC (setC (setC μ 154 x) 154 (bxIn k, aCast x (bxIn k))) 154 (x.1, aCast (bxIn k, aCast x (bxIn k)) x.1)) z := fun z hz => (f2 z hz).trans ⟨setC_1 _ _ _ _ hz, setC_2 _ _ _ _ hz, setC_3 _ _ _ _ hz⟩
    have ok3 := ok_cast (x := (bxIn k, aCast x (bxIn k))) ok2 ht hb
    refine c_isSame (by omega) kd_154 hp (setC_cl _ _ _) (hx.fr (f3 p hp2)) ok3 ok ?_
    refine ⟨by split <;> simp, ?_⟩
    have := h _ f3
    rw [ec] at this
    have ei : ((x.1, aCast (bxIn k, aCast x (bxIn k)) x.1) = x) ↔ (aCast (bxIn k, aCast x (bxIn k)) x.1 = x.2) := ⟨fun e => congrArg Prod.snd e, fun e => Prod.ext rfl e⟩
    by_cases z : aCast (bxIn k, aCast x (bxIn k)) x.1 = x.2
    · rw [if_pos (ei.mpr z)]
      rw [if_pos (by simpa using z)] at this
      exact this
    · rw [if_neg (fun e => z (ei.mp e))]
      rw [if_neg (by simpa using z)] at this
      exact this
  refine c_copy (by omega) kd_154 hp hx ?_
  refine ⟨fun n8 => ?_, fun n8 => ?_⟩
  · have : bxIn k = k := if_neg n8
    rw [this] at go
    exact go
  · have : bxIn k = 4 := if_pos n8
    rw [this] at go
    exact go
def lostAt (f : Nat → aC) (k : Int32) : Nat → Nat → Int32
  | 0, _ => -5
  | j + 1, r => if cbk (f r) k = true then lostAt f k j (r + 1) else nI r
theorem lostAt_ok {f : Nat → aC} {k : Int32} : ∀ {j r : Nat}, r + j ≤ 40 → lostAt f k j r = -5 → ∀ i, r ≤ i → i < r + j → cbk (f i) k = true
  | 0, r, _, _, i, h1, h2 => by omega
  | j + 1, r, hj, h, i, h1, h2 => by
    unfold lostAt at h
    by_cases hc : cbk (f r) k = true
    · rw [if_pos hc] at h
      by_cases e : i = r
      · rw [e]; exact hc
      · exact lostAt_ok (by omega) h i (by omega) (by omega)
    · rw [if_neg hc] at h
      have := congrArg Int32.toInt h
      rw [nI_toInt (by omega)] at this
      have e5 : (-5 : Int32).toInt = -5 := rfl
      rw [e5] at this
      omega
theorem c_lostE {d a i : Nat} {k : Int32} {S : aS} {col : aCol} {P : Option Value → mmMem → Prop} (hd : 5 ≤ d) (ea : a = 7 + 4 * i) (hi : S.1.2.1[i]? = some col) (hk : ¬ k < 0) (ans : Int32) : ∀ (j r : Nat) (μ : mmMem), S.1.1 - r = j → r ≤ S.1.1 → CS μ S → ans = lostAt col.2.2 k j r → (∀ ν, scr μ ν → P (some (.int ans)) ν) → mmEnds d M_X7_firstLost 2 [.ref 0, .ref a, .int k, .int (nI r)] [] μ P := by
  intro j
  induction j with
  | zero =>
    intro r μ hj hr hC ha h
    have h40 := hC.2.1.1
    have h12 := hC.2.1.2.1
    have hkl := lt_of_get hi
    refine s_X7_firstLost_2 (by omega) (by rw [ea]; exact (kcol i (by omega)).1) ?_
    rw [hC.1.1.1]
    have e : ans = -5 := ha
    rw [e] at h
    exact ⟨fun _ => h μ (scr.refl μ), fun w => absurd (nI_le (by omega) (by omega)) w⟩
  | succ j ih =>
    intro r μ hj hr hC ha h
    have h40 := hC.2.1.1
    have h12 := hC.2.1.2.1
    have hkl := lt_of_get hi
    have ka : mmKD a = 1 := by rw [ea]; exact (kcol i (by omega)).1
    refine s_X7_firstLost_2 (by omega) ka ?_
    rw [hC.1.1.1, nI_1]
    refine ⟨fun w => absurd w (nI_ge (by omega) (by omega)), fun _ => ?_⟩
    subst ea
    refine c_load (by omega) ka kd_152 (hC.colC hi) (by omega) h40 ?_
    have s1 := setC_scr μ 152 (col.2.2 r) (by decide) (by decide)
    refine c_comesBack (by omega) kd_152 (by decide) (setC_cl _ _ _) ((hC.okCol hi).2.2 r (by omega)).1 hk (fun ν g => ?_)
    have s2 : scr μ ν := s1.trans ⟨fun q hq => g q (by omega), by rw [(g 141 (by decide)).1]⟩
    unfold lostAt at ha
    cases hb : cbk (col.2.2 r) k with
    | true =>
      rw [hb, if_pos rfl] at ha
      exact ⟨fun _ => ih (r + 1) ν (by omega) (by omega) (hC.scr s2) ha (fun ν2 s3 => h ν2 (s2.trans s3)), fun w => absurd w (by decide)⟩
    | false =>
      rw [hb, if_neg (by decide)] at ha
      rw [ha] at h
      exact ⟨fun w => absurd rfl w, fun _ => h ν s2⟩
theorem c_firstLost {d i : Nat} {k : Int32} {S : aS} {col : aCol} {μ : mmMem} {K : Int32 → mmMem → Prop} (hd : 6 ≤ d) (hi : S.1.2.1[i]? = some col) (hk : ¬ k < 0) (hC : CS μ S) (h : ∀ ν, scr μ ν → K (lostAt col.2.2 k S.1.1 0) ν) : mmCI d M_X7_firstLost false 2 [.ref 0, .ref (7 + 4 * i), .int k] μ K := by
  have h12 := hC.2.1.2.1
  have hkl := lt_of_get hi
  refine u_X7_firstLost (by omega) (kcol i (by omega)).1 ?_
  exact c_lostE (by omega) rfl hi hk _ _ 0 μ rfl (Nat.zero_le _) hC rfl (fun ν s => h ν s)
def sp_loses (c k : Int32) (S : aS) : Int32 × aS := withC S c fun _ col => if k < 0 ∨ 10 < k then (-2, S) else (lostAt col.2.2 k S.1.1 0, S)
theorem c_loses {d : Nat} {c k : Int32} {S : aS} {μ : mmMem} {K : Int32 → mmMem → Prop} (hd : 7 ≤ d) (hC : CS μ S) (h : ∀ ν, CS ν (sp_loses c k S).2 → hiE μ ν → K (sp_loses c k S).1 ν) : mmCI d M_X7_loses false 2 [.ref 0, .int c, .int k] μ K := by
  refine u_X7_loses (by omega) ?_
  refine c_columnRefusal (by omega) hC (fun ν hν hh => ?_)
  unfold sp_loses at h
  refine ⟨fun q => ?_, fun q => ?_⟩
  · obtain ⟨i, col, hk, rfl, hcol, hg⟩ := cref_0 q
    rw [withC_ok hk q hcol] at h
    rw [q] at hν
    replace hν : CS ν S := hν
    rw [nI_clamp (by omega)]
    refine ⟨fun l => ?_, fun l => ⟨fun l2 => ?_, fun l2 => ⟨vp_in_nI hk (by decide), ?_⟩⟩⟩
    · rw [if_pos (Or.inl l)] at h; exact h ν hν hh
    · rw [if_pos (Or.inr l2)] at h; exact h ν hν hh
    · rw [if_neg (by rintro (w | w); exact l w; exact l2 w)] at h
      exact c_firstLost (by omega) hcol l hν (fun ν2 s2 => h ν2 (hν.scr s2) (hh.trans s2.hi))
  · rw [withC_no q] at h
    exact h ν hν hh
def castsF (f : Nat → aC) (n : Nat) : Nat → Nat → Int32 → Int32
  | 0, _, a => a
  | j + 1, k, a => castsF f n j (k + 1) (if lostAt f (nI k) n 0 = -5 then a ||| ((1 : Int32) <<< (nI k &&& 31)) else a)
def sp_casts (c : Int32) (S : aS) : Int32 × aS := withC S c fun _ col => (castsF col.2.2 S.1.1 11 0 0, S)
theorem c_castsE {d i : Nat} {S : aS} {col : aCol} {P : Option Value → mmMem → Prop} (hd : 6 ≤ d) (hi : S.1.2.1[i]? = some col) (x2 ans : Int32) : ∀ (j k : Nat) (a : Int32) (μ : mmMem), 11 - k = j → k ≤ 11 → CS μ S → ans = castsF col.2.2 S.1.1 j k a → (∀ ν, scr μ ν → P (some (.int ans)) ν) → mmEnds d M_X7_casts 17 [.ref 0, .int (nI i), .int x2, .int a, .int (nI k)] [] μ P := by
  intro j
  induction j with
  | zero =>
    intro k a μ hj hk hC ha h
    refine s_X7_casts_17 (by omega) ?_
    have e : ans = a := ha
    rw [e] at h
    have e11 : k = 11 := by omega
    subst e11
    exact ⟨fun _ => h μ (scr.refl μ), fun w => absurd (by decide) w⟩
  | succ j ih =>
    intro k a μ hj hk hC ha h
    have h12 := hC.2.1.2.1
    have hkl := lt_of_get hi
    refine s_X7_casts_17 (by omega) ?_
    rw [nI_clamp (by omega), nI_1]
    refine ⟨fun w => absurd w (nI_nlt (b := k) (a := 10) (by omega) (by decide)) |> fun x => x, fun _ => ⟨vp_in_nI (by omega) (by decide), ?_⟩⟩
    refine c_firstLost (by omega) hi (nI_pos (by omega)) hC (fun ν s1 => ?_)
    unfold castsF at ha
    refine ⟨fun n => ?_, fun e => ?_⟩
    · rw [if_neg n] at ha
      exact ih (k + 1) a ν (by omega) (by omega) (hC.scr s1) ha (fun ν2 s2 => h ν2 (s1.trans s2))
    · rw [if_pos e] at ha
      exact ih (k + 1) _ ν (by omega) (by omega) (hC.scr s1) ha (fun ν2 s2 => h ν2 (s1.trans s2))
theorem c_casts {d : Nat} {c : Int32} {S : aS} {μ : mmMem} {K : Int32 → mmMem → Prop} (hd : 7 ≤ d) (hC : CS μ S) (h : ∀ ν, CS ν (sp_casts c S).2 → hiE μ ν → K (sp_casts c S).1 ν) : mmCI d M_X7_casts false 1 [.ref 0, .int c] μ K := by
  refine u_X7_casts (by omega) ?_
  refine c_columnRefusal (by omega) hC (fun ν hν hh => ?_)
  unfold sp_casts at h
  refine ⟨fun q => ?_, fun q => ?_⟩
  · obtain ⟨i, col, hk, rfl, hcol, hg⟩ := cref_0 q
    rw [withC_ok hk q hcol] at h
    rw [q] at hν
    replace hν : CS ν S := hν
    exact c_castsE (S := S) (by omega) hcol _ _ _ 0 0 ν rfl (by decide) hν rfl (fun ν2 s => h ν2 (hν.scr s) (hh.trans s.hi))
  · rw [withC_no q] at h
    exact h ν hν hh
def castC (k : Int32) (x : aC) : aC := if (0 ≤ x.1 ∧ x.1 < 8) ∧ k ≠ 9 then (bxIn k, aCast x (bxIn k)) else x
def castCol (k : Int32) (c : aCol) : aCol := (k, c.2.1, fun r => castC k (c.2.2 r))
def sp_cast (c k : Int32) (S : aS) : Int32 × aS := withC S c fun i col => if k < 0 ∨ 10 < k then (-2, S) else if lostAt col.2.2 k S.1.1 0 = -5 then (col.1, putCol S i (castCol k col)) else (-1000 - lostAt col.2.2 k S.1.1 0, S)
theorem box_iff {x : aC} (ok : okC x) : (0 ≤ x.1 ∧ x.1 < 8) ↔ (¬ x.1 = -1 ∧ ¬ x.1 = 8) := by
  rcases ok.cases with w | w | w | w | w | w | w | w | w | w <;> rw [w] <;> decide
theorem castC_ok {k k0 : Int32} {x : aC} (hk : 0 ≤ k.toInt ∧ k.toInt ≤ 10) (ok : okC x) (hb : cbk x k = true) : okC (castC k x) ∧ fitK k (castC k x) := by
  have e : ∀ j : Int32, k.toInt = j.toInt → k = j := fun j q => Int32.toInt_inj.mp q
  have k0 : ¬ k < 0 := by rw [Int32.lt_iff_toInt_lt]; exact Int.not_lt.mpr hk.1
  unfold castC
  by_cases bx : 0 ≤ x.1 ∧ x.1 < 8
  · obtain ⟨n1, n2⟩ := (box_iff ok).mp bx
    have hbx := box_of ok n1 n2
    by_cases k9 : k = 9
    · rw [if_neg (fun w => w.2 k9)]
      subst k9
      exact ⟨ok, fun w => absurd w (by decide), fun w => absurd w (by decide), fun w => absurd w (by decide)⟩
    · rw [if_pos ⟨bx, k9⟩]
      unfold cbk at hb
      rw [if_neg n1, if_neg n2] at hb
      have l9 : k < 9 := by
        refine Classical.byContradiction fun w => ?_
        rw [if_neg w] at hb
        exact k9 (by simpa using hb)
      have ht := bxIn_ok k0 l9
      refine ⟨ok_cast ok hbx ht, fun w => ?_, fun w => ?_, fun w => ?_⟩
      · have : k ≠ 8 := fun e => by rw [e] at w; exact absurd w (by decide)
        exact if_neg this
      · exact Or.inr (if_pos w)
      · rw [w] at l9; exact absurd l9 (by decide)
  · rw [if_neg (fun w => bx w.1)]
    have hn : x.1 = -1 ∨ x.1 = 8 := by
      refine Classical.byContradiction fun w => bx ((box_iff ok).mpr ⟨fun a => w (Or.inl a), fun a => w (Or.inr a)⟩)
    unfold cbk at hb
    rcases hn with n | n
    · rw [if_pos n] at hb
      have l8 : ¬ k < 8 := by simpa using hb
      refine ⟨ok, fun w => ?_, fun _ => Or.inl n, fun _ => Or.inl n⟩
      exfalso
      rw [Int32.le_iff_toInt_le] at w
      rw [Int32.lt_iff_toInt_lt] at l8
      have e8 : (8 : Int32).toInt = 8 := rfl
      have e7 : (7 : Int32).toInt = 7 := rfl
      omega
    · rw [if_neg (by rw [n]; decide), if_pos n] at hb
      have l9 : ¬ k < 9 := by simpa using hb
      refine ⟨ok, fun w => ?_, fun w => ?_, fun _ => Or.inr n⟩
      · exfalso
        rw [Int32.le_iff_toInt_le] at w
        rw [Int32.lt_iff_toInt_lt] at l9
        have e9 : (9 : Int32).toInt = 9 := rfl
        have e7 : (7 : Int32).toInt = 7 := rfl
        omega
      · rw [w] at l9; exact absurd (by decide) l9
theorem c_castE {d i : Nat} {k x5 : Int32} {S : aS} {col : aCol} {K : Int32 → mmMem → Prop} (hd : 4 ≤ d) (hi : S.1.2.1[i]? = some col) (hk : 0 ≤ k.toInt ∧ k.toInt ≤ 10) (hb : ∀ r, r < S.1.1 → cbk (col.2.2 r) k = true) (x1 x3 x6 : Int32) (μ0 : mmMem) (hC : CS μ0 S) (h : ∀ ν, (∀ z, z ≠ 152 → (z < 7 + 4 * i ∨ 11 + 4 * i ≤ z) → eq3 μ0 ν z) → colC ν (7 + 4 * i) S.1.1 (castCol k col) → K x6 ν) : ∀ (j r : Nat) (μ : mmMem), S.1.1 - r = j → r ≤ S.1.1 → (∀ z, z ≠ 152 → (z < 7 + 4 * i ∨ 11 + 4 * i ≤ z) → eq3 μ0 μ z) → colC μ (7 + 4 * i) S.1.1 (k, col.2.1, fun q => if q < r then castC k (col.2.2 q) else col.2.2 q) → mmEnds d M_X7_cast 72 [.ref 0, .int x1, .int k, .int x3, .ref (7 + 4 * i), .int x5, .int x6, .int (nI r)] [] μ (mmPI K) := by
  have h40 := hC.2.1.1
  have h12 := hC.2.1.2.1
  have hil := lt_of_get hi
  have ka := (kcol i (by omega)).1
  have k0 : ¬ k < 0 := by rw [Int32.lt_iff_toInt_lt]; exact Int.not_lt.mpr hk.1
  intro j
  induction j with
  | zero =>
    intro r μ hj hr hf hc
    refine s_X7_cast_72 (by omega) ka ?_
    rw [(hf 1 (by decide) (by omega)).1, hC.1.1.1]
    refine ⟨fun _ => h μ hf ⟨hc.1, hc.2.1, fun q hq => ?_⟩, fun w => absurd (nI_le (by omega) (by omega)) w⟩
    have := hc.2.2 q hq
    dsimp only at this
    rw [if_pos (by omega)] at this
    exact this
  | succ j ih =>
    intro r μ hj hr hf hc
    refine s_X7_cast_72 (by omega) ka ?_
    rw [(hf 1 (by decide) (by omega)).1, hC.1.1.1, nI_1]
    refine ⟨fun w => absurd w (nI_ge (by omega) (by omega)), fun _ => ?_⟩
    refine c_load (by omega) ka kd_152 hc (by omega) h40 ?_
    have ex : (k, col.2.1, fun q => if q < r then castC k (col.2.2 q) else col.2.2 q).2.2 r = col.2.2 r := if_neg (by omega)
    rw [ex]
    have okx := ((hC.okCol hi).2.2 r (by omega)).1
    have hbr := hb r (by omega)
    have f1 : ∀ z, z ≠ 152 → eq3 μ (setC μ 152 (col.2.2 r)) z := fun z hz => ⟨setC_1 _ _ _ _ hz, setC_2 _ _ _ _ hz, setC_3 _ _ _ _ hz⟩
    have hc1 := hc.fr (f1 _ (by omega)) (f1 _ (by omega)) (f1 _ (by omega)) (f1 _ (by omega))
    have same : castC k (col.2.2 r) = col.2.2 r → mmEnds d M_X7_cast 72 [.ref 0, .int x1, .int k, .int x3, .ref (7 + 4 * i), .int x5, .int x6, .int (nI (r + 1))] [] (setC μ 152 (col.2.2 r)) (mmPI K) := fun e => by
      refine ih (r + 1) _ (by omega) (by omega) (fun z h1 h2 => (hf z h1 h2).trans (f1 z h1)) ⟨hc1.1, hc1.2.1, fun q hq => ?_⟩
      have := hc1.2.2 q hq
      dsimp only at this ⊢
      by_cases q1 : q < r
      · rw [if_pos q1] at this; rw [if_pos (by omega)]; exact this
      · rw [if_neg q1] at this
        by_cases q2 : q = r
        · rw [if_pos (by omega), q2, e]; rw [q2] at this; exact this
        · rw [if_neg (by omega)]; exact this
    refine c_isBox (by omega) kd_152 (setC_cl _ _ _) okx ?_
    by_cases bx : 0 ≤ (col.2.2 r).1 ∧ (col.2.2 r).1 < 8
    · rw [if_pos bx]
      refine ⟨fun w => absurd w (by decide), fun _ => ⟨fun e9 => same (if_neg fun w => w.2 e9), fun n9 => ?_⟩⟩
      obtain ⟨n1, n2⟩ := (box_iff okx).mp bx
      have hbx := box_of okx n1 n2
      have l9 : k < 9 := by
        unfold cbk at hbr
        rw [if_neg n1, if_neg n2] at hbr
        refine Classical.byContradiction fun w => ?_
        rw [if_neg w] at hbr
        exact n9 (by simpa using hbr)
      have ht := bxIn_ok k0 l9
      have ec : castC k (col.2.2 r) = (bxIn k, aCast (col.2.2 r) (bxIn k)) := if_pos ⟨bx, n9⟩
      have go : mmC0 (d) M_X0_turnInto false 1 [.ref 152, .int (bxIn k)] (setC μ 152 (col.2.2 r)) fun ν20 => mmC0 (d) M_X1_store false 2 [.ref (7 + 4 * i), .int (nI r), .ref 152] ν20 fun ν21 => mmEnds d M_X7_cast 72 [.ref 0, .int x1, .int k, .int x3, .ref (7 + 4 * i), .int x5, .int x6, .int (nI (r + 1))] [] ν21 (mmPI K) := by
        refine c_turnInto (by omega) kd_152 (setC_cl _ _ _) okx hbx ht ?_
        have f2 : ∀ z, z ≠ 152 → eq3 μ (setC (setC μ 152 (col.2.2 r)) 152 (bxIn k, aCast (col.2.2 r) (bxIn k))) z := fun z hz => (f1 z hz).trans ⟨setC_1 _ _ _ _ hz, setC_2 _ _ _ _ hz, setC_3 _ _ _ _ hz⟩
        have hc2 := hc.fr (f2 _ (by omega)) (f2 _ (by omega)) (f2 _ (by omega)) (f2 _ (by omega))
        refine c_store (by omega) ka kd_152 (setC_cl _ _ _) (by omega) (fun ν3 u3 => ?_)
        have hr3 := u3.row hc2
        refine ih (r + 1) _ (by omega) (by omega) (fun z h1 h2 => ((hf z h1 h2).trans (f2 z h1)).trans (u3.1 z (by omega) (by omega) (by omega))) ⟨hr3.1, hr3.2.1, fun q hq => ?_⟩
        have := hr3.2.2 q hq
        dsimp only [setRow] at this ⊢
        by_cases q2 : q = r
        · rw [if_pos q2] at this
          rw [if_pos (by omega), q2, ec]
          rw [q2] at this
          exact this
        · rw [if_neg q2] at this
          by_cases q1 : q < r
          · rw [if_pos q1] at this; rw [if_pos (by omega)]; exact this
          · rw [if_neg q1] at this; rw [if_neg (by omega)]; exact this
      refine ⟨fun n8 => ?_, fun n8 => ?_⟩
      · have : bxIn k = k := if_neg n8
        rw [this] at go
        exact go
      · have : bxIn k = 4 := if_pos n8
        rw [this] at go
        exact go
    · rw [if_neg bx]
      exact ⟨fun _ => same (if_neg fun w => bx w.1), fun w => absurd rfl w⟩
theorem c_cast {d : Nat} {c k : Int32} {S : aS} {μ : mmMem} {K : Int32 → mmMem → Prop} (hd : 7 ≤ d) (hC : CS μ S) (h : ∀ ν, CS ν (sp_cast c k S).2 → hiE μ ν → K (sp_cast c k S).1 ν) : mmCI d M_X7_cast false 2 [.ref 0, .int c, .int k] μ K := by
  refine u_X7_cast (by omega) ?_
  refine c_columnRefusal (by omega) hC (fun ν hν hh => ?_)
  unfold sp_cast at h
  refine ⟨fun q => ?_, fun q => ?_⟩
  · obtain ⟨i, col, hk, rfl, hcol, hg⟩ := cref_0 q
    rw [withC_ok hk q hcol] at h
    rw [q] at hν
    replace hν : CS ν S := hν
    rw [nI_clamp (by omega)]
    refine ⟨fun l => ?_, fun l => ⟨fun l2 => ?_, fun l2 => ⟨vp_in_nI hk (by decide), ?_⟩⟩⟩
    · rw [if_pos (Or.inl l)] at h; exact h ν hν hh
    · rw [if_pos (Or.inr l2)] at h; exact h ν hν hh
    · rw [if_neg (by rintro (w | w); exact l w; exact l2 w)] at h
      have kk := i32_of l l2
      refine c_firstLost (by omega) hcol l hν (fun ν2 s2 => ?_)
      have hC2 := hν.scr s2
      have h40 := hC.2.1.1
      have h12 := hC.2.1.2.1
      have hcc := hC2.colC hcol
      refine ⟨fun e => ?_, fun e => ?_⟩
      · rw [if_pos e] at h
        rw [hcc.1]
        have hb : ∀ r, r < S.1.1 → cbk (col.2.2 r) k = true := fun r hr => lostAt_ok (r := 0) (j := S.1.1) (by omega) e r (Nat.zero_le _) (by omega)
        have g : ∀ z, z ≠ 7 + 4 * i → eq3 ν2 (sI ν2 (7 + 4 * i) 0 k) z := fun z hz => by simp [eq3, sI, hz]
        have okc : okCol S.1.1 (castCol k col) := ⟨kk.1, kk.2, fun r hr => castC_ok (k0 := k) kk ((hC2.okCol hcol).2.2 r hr).1 (hb r hr)⟩
        refine c_castE (S := S) (by omega) hcol kk hb _ _ _ ν2 hC2 (fun ν3 f3 c3 => ?_) _ 0 _ rfl (Nat.zero_le _) (fun z h1 h2 => g z (by omega)) ⟨by simp [sI, upd], ?_, fun q hq => ?_⟩
        · exact h ν3 (hC2.putCol (lt_of_get hcol) (fun q h1 h2 => f3 q (by omega) (by omega)) (by rw [(f3 141 (by decide) (by omega)).1]) c3 okc) ((hh.trans s2.hi).trans fun q hq => f3 q (by omega) (by omega))
        · have := hcc.2.1
          simp [sI, upd, this]
        · have := hcc.2.2 q hq
          rw [(g _ (by omega)).1, (g _ (by omega)).2.1, (g _ (by omega)).2.2]
          exact this
      · rw [if_neg e] at h
        exact h ν2 hC2 (hh.trans s2.hi)
  · rw [withC_no q] at h
    exact h ν hν hh
end
section
/-! ===== the class: fed, counted, imaged ===== -/
def sTx (S : aS) (l : List Int32) : aS := (S.1, S.2.1, S.2.2.1, S.2.2.2.1, l)
def sp_feed (x : Int32) (S : aS) : Int32 × aS := if x < 0 ∨ ¬ x ≤ 127 then (-2, S) else if S.2.2.2.2.length < 100 then (nI (S.2.2.2.2.length + 1), sTx S (S.2.2.2.2 ++ [x])) else (-4, S)
theorem c_feed {d : Nat} {x : Int32} {S : aS} {μ : mmMem} {K : Int32 → mmMem → Prop} (hd : 3 ≤ d) (hC : CS μ S) (h : ∀ ν, CS ν (sp_feed x S).2 → hiE μ ν → K (sp_feed x S).1 ν) : mmCI d M_X7_feed false 1 [.ref 0, .int x] μ K := by
  refine u_X7_feed (by omega) ?_
  unfold sp_feed at h
  obtain ⟨h1, h2, h3, h4, h5, h8, h9⟩ := hC
  rw [h8.1, nI_1]
  have hl := h9.1
  refine ⟨fun l => ?_, fun l => ⟨fun l2 => ⟨fun l3 => ?_, fun l3 => ?_⟩, fun l2 => ?_⟩⟩
  · rw [if_pos (Or.inl l)] at h; exact h μ ⟨h1, h2, h3, h4, h5, h8, h9⟩ (hiE.refl _)
  · rw [if_neg (by rintro (w | w); exact l w; exact w l2)] at h
    have hlt : S.2.2.2.2.length < 100 := (nI_ltI (by omega) (by decide : (100 : Nat) < 2 ^ 31)).mp l3
    rw [if_pos hlt] at h
    rw [nI_clamp (by omega)]
    refine ⟨vp_in_nI hlt (by decide), ?_⟩
    have g : ∀ q, q ≠ 141 → q ≠ 142 → eq3 μ (sI (sI μ 142 S.2.2.2.2.length x) 141 0 (nI (S.2.2.2.2.length + 1))) q := fun q q1 q2 => by simp [eq3, sI, q1, q2]
    have e0 := g 0 (by decide) (by decide)
    refine h _ ⟨h1.fr h2 (fun q _ _ => g q (by omega) (by omega)), h2, h3.fr (by rw [e0.1]) (fun q _ _ => g q (by omega) (by omega)), by rw [e0.2.1]; exact h4, ⟨by rw [e0.1]; exact h5.1, by rw [e0.1]; exact h5.2.1, by rw [e0.1]; exact h5.2.2⟩, ⟨by simp [sI, upd, sTx], fun i y hy => ?_⟩, ⟨by simp [sTx]; omega, fun y hy => ?_⟩⟩ (fun q hq => g q (by omega) (by omega))
    · have hy2 : (S.2.2.2.2 ++ [x])[i]? = some y := hy
      by_cases il : i < S.2.2.2.2.length
      · rw [List.getElem?_append_left il] at hy2
        have := h8.2 i y hy2
        have ne : i ≠ S.2.2.2.2.length := by omega
        simp [sI, upd, ne, this]
      · have := lt_of_get hy2
        simp at this
        have : i = S.2.2.2.2.length := by omega
        subst this
        rw [List.getElem?_concat_length] at hy2
        cases hy2
        simp [sI, upd]
    · rcases List.mem_append.mp hy with w | w
      · exact h9.2 y w
      · rw [List.mem_singleton.mp w]
        rw [Int32.lt_iff_toInt_lt] at l
        rw [Int32.le_iff_toInt_le] at l2
        exact ⟨Int.not_lt.mp l, l2⟩
  · rw [if_neg (by rintro (w | w); exact l w; exact w l2)] at h
    have hlt : ¬ S.2.2.2.2.length < 100 := fun w => l3 ((nI_ltI (by omega) (by decide : (100 : Nat) < 2 ^ 31)).mpr w)
    rw [if_neg hlt] at h
    exact h μ ⟨h1, h2, h3, h4, h5, h8, h9⟩ (hiE.refl _)
  · rw [if_pos (Or.inr l2)] at h; exact h μ ⟨h1, h2, h3, h4, h5, h8, h9⟩ (hiE.refl _)
def sp_count (w : Int32) (S : aS) : Int32 × aS := (if w = 0 then nI S.1.1 else if w = 1 then nI S.1.2.1.length else if w = 2 then nI S.1.2.2.2.2.1.length else if w = 3 then nI S.1.2.2.2.2.2.length else if w = 4 then S.2.2.2.1.1 else if w = 5 then S.2.2.2.1.2.1 else if w = 6 then S.2.2.2.1.2.2 else if w = 7 then nI S.2.2.2.2.length else -2, S)
theorem c_count {d : Nat} {w : Int32} {S : aS} {μ : mmMem} {K : Int32 → mmMem → Prop} (hd : 2 ≤ d) (hC : CS μ S) (h : ∀ ν, CS ν (sp_count w S).2 → hiE μ ν → K (sp_count w S).1 ν) : mmCI d M_X7_count false 1 [.ref 0, .int w] μ K := by
  refine u_X7_count (by omega) ?_
  have h := h μ hC (hiE.refl _)
  have e : ∀ j : Int32, w.toInt = j.toInt → w = j := fun j q => Int32.toInt_inj.mp q
  obtain ⟨h1, h2, h3, h4, h5, h8, h9⟩ := hC
  rw [h1.1.1, h1.1.2.1, h1.1.2.2.1, h1.1.2.2.2, h5.1, h5.2.1, h5.2.2, h8.1]
  refine ⟨fun q => ?_, fun q => ?_, fun q => ?_, fun q => ?_, fun q => ?_, fun q => ?_, fun q => ?_, fun q => ?_, fun q => ?_, trivial⟩
  · have n : ∀ j : Int32, 0 ≤ j.toInt → j.toInt ≤ 7 → w ≠ j := fun j h1 h2 e => by rw [e] at q; omega
    have : (sp_count w S).1 = -2 := by
      unfold sp_count
      rw [if_neg (n 0 (by decide) (by decide)), if_neg (n 1 (by decide) (by decide)), if_neg (n 2 (by decide) (by decide)), if_neg (n 3 (by decide) (by decide)), if_neg (n 4 (by decide) (by decide)), if_neg (n 5 (by decide) (by decide)), if_neg (n 6 (by decide) (by decide)), if_neg (n 7 (by decide) (by decide))]
    rw [this] at h
    exact h
  · obtain rfl := e 0 q; exact h
  · obtain rfl := e 1 q; exact h
  · obtain rfl := e 2 q; exact h
  · obtain rfl := e 3 q; exact h
  · obtain rfl := e 4 q; exact h
  · obtain rfl := e 5 q; exact h
  · obtain rfl := e 6 q; exact h
  · obtain rfl := e 7 q; exact h
theorem c_colCopy {d a b n : Nat} {c : aCol} {μ : mmMem} {K : mmMem → Prop} (hd : 3 ≤ d) (ka : mmKD a = 1) (kb : mmKD b = 1) (hne : a + 3 < b ∨ b + 3 < a) (hc : colC μ b n c) (hn : n ≤ 40) (h : ∀ ν, colC ν a n c → (∀ q, q < a ∨ a + 4 ≤ q → eq3 μ ν q) → K ν) : mmC0 d M_X1_copyFrom false 1 [.ref a, .ref b] μ K := by
  refine u_X1_copyFrom (by omega) ka kb ?_
  have ne : b ≠ a := by omega
  have e1 : (sI μ a 0 (μ.1 b 0)).1 b 1 = μ.1 b 1 := by simp [sI, ne]
  rw [e1, hc.2.1, hc.1]
  refine ⟨by split <;> simp, ?_⟩
  refine u_X1_take (by omega) ka kb ?_
  have z0 : (0 : Int32).toNatClampNeg = 0 := rfl
  have z40 : (40 : Int32).toNatClampNeg = 40 := rfl
  rw [z0, z40]
  refine ⟨by decide, by decide, by decide, by decide, by decide, h _ ⟨?_, ?_, fun r hr => ?_⟩ (fun q hq => ?_)⟩
  · have n1 : a ≠ a + 1 := by omega
    simp [cD, cJ, cI, sI, upd]
  · simp [cD, cJ, cI, sI, upd]
  · obtain ⟨g1, g2, g3⟩ := hc.2.2 r hr
    have m1 : b + 1 ≠ a := by omega
    have m2 : b + 2 ≠ a + 1 := by omega
    have m3 : b + 3 ≠ a + 1 := by omega
    have m4 : b + 3 ≠ a + 2 := by omega
    have hr40 : r < 40 := by omega
    have n1 : a + 1 ≠ a := by omega
    simp [cD, cJ, cI, sI, va_cpy, m1, hr40, g1, g2, g3]
  · have q0 : q ≠ a := by omega
    have q1 : q ≠ a + 1 := by omega
    have q2 : q ≠ a + 2 := by omega
    have q3 : q ≠ a + 3 := by omega
    simp [eq3, cD, cJ, cI, sI, q0, q1, q2, q3]
theorem c_vwCopy {d a b : Nat} {l : List Nat} {μ : mmMem} {K : mmMem → Prop} (hd : 2 ≤ d) (ka : mmKD a = 6) (kb : mmKD b = 6) (hne : a + 1 < b ∨ b + 1 < a) (hv : vwC μ b l) (hl : l.length ≤ 40) (h : ∀ ν, vwC ν a l → (∀ q, q ≠ a → q ≠ a + 1 → eq3 μ ν q) → K ν) : mmC0 d M_X6_copyFrom false 1 [.ref a, .ref b] μ K := by
  refine u_X6_copyFrom (by omega) ka kb ?_
  have z0 : (0 : Int32).toNatClampNeg = 0 := rfl
  have z40 : (40 : Int32).toNatClampNeg = 40 := rfl
  rw [z0, z40, hv.1]
  refine h _ ⟨?_, fun i r hr => ?_⟩ (fun q q0 q1 => ?_)
  · have n1 : a ≠ a + 1 := by omega
    simp [cI, sI, upd]
  · have hi := lt_of_get hr
    have hi40 : i < 40 := by omega
    have m1 : b + 1 ≠ a := by omega
    have n1 : a + 1 ≠ a := by omega
    have := hv.2 i r hr
    simp [cI, sI, va_cpy, m1, hi40, this]
  · simp [eq3, cI, sI, q0, q1]
theorem c_filCopy {d a b : Nat} {f : aFil} {μ : mmMem} {K : mmMem → Prop} (hd : 2 ≤ d) (ka : mmKD a = 2) (kb : mmKD b = 2) (hne : a + 1 < b ∨ b + 1 < a) (hf : filC μ b f) (h : ∀ ν, filC ν a f → (∀ q, q ≠ a → q ≠ a + 1 → eq3 μ ν q) → K ν) : mmC0 d M_X2_copyFrom false 1 [.ref a, .ref b] μ K := by
  refine u_X2_copyFrom (by omega) ka kb ?_
  obtain ⟨f1, f2, f3⟩ := hf
  have ne : b ≠ a := by omega
  have e1 : (sI μ a 0 (μ.1 b 0)).1 b 1 = μ.1 b 1 := by simp [sI, ne]
  rw [e1, f1, f2]
  have g : ∀ q, q ≠ a → eq3 μ (sI (sI μ a 0 (nI f.1)) a 1 f.2.1) q := fun q hq => by simp [eq3, sI, hq]
  refine c_copy (x := f.2.2) (by omega) (kf_2_2 ka) (kf_2_2 kb) (f3.fr (g _ (by omega))) ?_
  refine h _ ⟨?_, ?_, setC_cl _ _ _⟩ (fun q q0 q1 => (g q q0).trans ⟨setC_1 _ _ _ _ q1, setC_2 _ _ _ _ q1, setC_3 _ _ _ _ q1⟩)
  · rw [setC_1 _ _ _ _ (by omega)]; simp [sI, upd]
  · rw [setC_1 _ _ _ _ (by omega)]; simp [sI, upd]
/-- the table at a as far as it has been copied -/
def cpD (μ : mmMem) (a : Nat) (T : aT) (c v k f : Nat) : Prop :=
  (μ.1 a 0 = nI T.1 ∧ μ.1 a 1 = nI T.2.1.length ∧ μ.1 a 2 = nI T.2.2.2.2.1.length ∧ μ.1 a 3 = nI T.2.2.2.2.2.length) ∧
  (∀ i col, T.2.1[i]? = some col → i < c → colC μ (a + 6 + 4 * i) T.1 col) ∧ ((0 < v → vwC μ (a + 54) T.2.2.1) ∧ (1 < v → vwC μ (a + 56) T.2.2.2.1)) ∧
  (∀ i q, T.2.2.2.2.1[i]? = some q → i < k → μ.1 (a + 3) i = nI q.1 ∧ μ.1 (a + 4) i = if q.2 = true then 1 else 0) ∧
  ∀ i q, T.2.2.2.2.2[i]? = some q → i < f → filC μ (a + 58 + 2 * i) q
theorem kTc : ∀ c, c < 12 → mmKD (1 + 6 + 4 * c) = 1 ∧ mmKD (71 + 6 + 4 * c) = 1 := by decide +kernel
theorem kTf : ∀ c, c < 6 → mmKD (1 + 58 + 2 * c) = 2 ∧ mmKD (71 + 58 + 2 * c) = 2 := by decide +kernel
theorem c_tcopy {d a b : Nat} {T : aT} {μ : mmMem} {K : mmMem → Prop} (hd : 4 ≤ d) (hab : (a = 1 ∧ b = 71) ∨ (a = 71 ∧ b = 1)) (hT : tabC μ b T) (ok : okT T) (h : ∀ ν, tabC ν a T → (∀ q, q < a ∨ a + 70 ≤ q → eq3 μ ν q) → K ν) : mmC0 d M_X4_copyFrom false 1 [.ref a, .ref b] μ K := by
  have h12 := ok.2.1
  have h40 := ok.1
  have hkl := ok.2.2.2.2.2.1
  have hfl := ok.2.2.2.2.2.2.2.1
  have hl0 := ok.2.2.2.1.len
  have hl1 := ok.2.2.2.2.1.len
  have ka : mmKD a = 4 := by rcases hab with ⟨rfl, rfl⟩ | ⟨rfl, rfl⟩ <;> decide +kernel
  have kb : mmKD b = 4 := by rcases hab with ⟨rfl, rfl⟩ | ⟨rfl, rfl⟩ <;> decide +kernel
  have kca : ∀ c, c < 12 → mmKD (a + 6 + 4 * c) = 1 := fun c hc => by
    rcases hab with ⟨rfl, rfl⟩ | ⟨rfl, rfl⟩
    · exact (kTc c hc).1
    · exact (kTc c hc).2
  have kcb : ∀ c, c < 12 → mmKD (b + 6 + 4 * c) = 1 := fun c hc => by
    rcases hab with ⟨rfl, rfl⟩ | ⟨rfl, rfl⟩
    · exact (kTc c hc).2
    · exact (kTc c hc).1
  have kfa : ∀ c, c < 6 → mmKD (a + 58 + 2 * c) = 2 := fun c hc => by
    rcases hab with ⟨rfl, rfl⟩ | ⟨rfl, rfl⟩
    · exact (kTf c hc).1
    · exact (kTf c hc).2
  have kfb : ∀ c, c < 6 → mmKD (b + 58 + 2 * c) = 2 := fun c hc => by
    rcases hab with ⟨rfl, rfl⟩ | ⟨rfl, rfl⟩
    · exact (kTf c hc).2
    · exact (kTf c hc).1
  have kva : mmKD (a + 54) = 6 ∧ mmKD (a + 56) = 6 := by rcases hab with ⟨rfl, rfl⟩ | ⟨rfl, rfl⟩ <;> decide +kernel
  have kvb : mmKD (b + 54) = 6 ∧ mmKD (b + 56) = 6 := by rcases hab with ⟨rfl, rfl⟩ | ⟨rfl, rfl⟩ <;> decide +kernel
  have src : ∀ ν, (∀ q, q < a ∨ a + 70 ≤ q → eq3 μ ν q) → tabC ν b T := fun ν g => hT.fr ok (fun q h1 h2 => g q (by omega))
  -- the filters
  have L4 : ∀ (j f : Nat) (ν : mmMem), T.2.2.2.2.2.length - f = j → f ≤ T.2.2.2.2.2.length → (∀ q, q < a ∨ a + 70 ≤ q → eq3 μ ν q) → cpD ν a T T.2.1.length 2 T.2.2.2.2.1.length f → mmEnds (d - 1) M_X4_copyFrom 133 [.ref a, .ref b, .int (nI f)] [] ν (mmP0 K) := by
    intro j
    induction j with
    | zero =>
      intro f ν hj hf g D
      refine s_X4_copyFrom_133 (by omega) ka kb ?_
      obtain ⟨d1, d2, ⟨d3, d4⟩, d5, d6⟩ := D
      rw [d1.2.2.2]
      refine ⟨fun _ => h ν ⟨d1, fun i col hi => d2 i col hi (lt_of_get hi), ⟨d3 (by decide), d4 (by decide)⟩, fun i q hi => d5 i q hi (lt_of_get hi), fun i q hi => ?_⟩ g, fun w => absurd (nI_le (by omega) (by omega)) w⟩
      have := d6 i q hi (by have := lt_of_get hi; omega)
      unfold filC at this
      rwa [show a + 58 + 2 * i + 1 = a + 59 + 2 * i by omega] at this
    | succ j ih =>
      intro f ν hj hf g D
      obtain ⟨fl, hfl2⟩ : ∃ q, T.2.2.2.2.2[f]? = some q := ⟨_, List.getElem?_eq_getElem (by omega)⟩
      refine s_X4_copyFrom_133 (by omega) ka kb ?_
      have D' := D
      obtain ⟨d1, d2, ⟨d3, d4⟩, d5, d6⟩ := D
      rw [d1.2.2.2, nI_clamp (by omega), nI_1]
      refine ⟨fun w => absurd w (nI_ge (by omega) (by omega)), fun _ => ⟨vp_in_nI (by omega) (by decide), ?_⟩⟩
      show mmC0 (d - 1) M_X2_copyFrom false 1 [.ref (a + 58 + 2 * f), .ref (b + 58 + 2 * f)] ν _
      have fs := (src ν g).2.2.2.2 f fl hfl2
      rw [show b + 59 + 2 * f = b + 58 + 2 * f + 1 by omega] at fs
      refine c_filCopy (by omega) (kfa f (by omega)) (kfb f (by omega)) (by omega) fs (fun ν2 f2 g2 => ?_)
      have fr : ∀ q, q < a + 58 + 2 * f → eq3 ν ν2 q := fun q hq => g2 q (by omega) (by omega)
      refine ih (f + 1) ν2 (by omega) (by omega) (fun q hq => (g q hq).trans (g2 q (by omega) (by omega))) ⟨?_, fun i col hi hc => ?_, ⟨fun hv => (d3 hv).fr (fr _ (by omega)) (fr _ (by omega)), fun hv => (d4 hv).fr (fr _ (by omega)) (fr _ (by omega))⟩, fun i q hi hc => ?_, fun i q hi hc => ?_⟩
      · rw [(fr a (by omega)).1]; exact d1
      · exact (d2 i col hi hc).fr (fr _ (by omega)) (fr _ (by omega)) (fr _ (by omega)) (fr _ (by omega))
      · rw [(fr (a + 3) (by omega)).1, (fr (a + 4) (by omega)).1]; exact d5 i q hi hc
      · by_cases e : i = f
        · subst e
          rw [hfl2] at hi
          cases hi
          exact f2
        · exact (d6 i q hi (by omega)).fr (fr _ (by omega)) (fr _ (by omega))
  -- the keys
  have L3 : ∀ (j k : Nat) (ν : mmMem), T.2.2.2.2.1.length - k = j → k ≤ T.2.2.2.2.1.length → (∀ q, q < a ∨ a + 70 ≤ q → eq3 μ ν q) → cpD ν a T T.2.1.length 2 k 0 → mmEnds (d - 1) M_X4_copyFrom 93 [.ref a, .ref b, .int (nI k)] [] ν (mmP0 K) := by
    intro j
    induction j with
    | zero =>
      intro k ν hj hk g D
      refine s_X4_copyFrom_93 (by omega) ka kb ?_
      have e : k = T.2.2.2.2.1.length := by omega
      rw [e] at D
      rw [D.1.2.2.1]
      exact ⟨fun _ => L4 _ 0 ν rfl (Nat.zero_le _) g D, fun w => absurd (nI_le (by omega) (by omega)) w⟩
    | succ j ih =>
      intro k ν hj hk g D
      obtain ⟨q, hq⟩ : ∃ q, T.2.2.2.2.1[k]? = some q := ⟨_, List.getElem?_eq_getElem (by omega)⟩
      refine s_X4_copyFrom_93 (by omega) ka kb ?_
      obtain ⟨d1, d2, ⟨d3, d4⟩, d5, d6⟩ := D
      obtain ⟨k1, k2⟩ := (src ν g).2.2.2.1 k q hq
      have n1 : b + 4 ≠ a + 3 := by omega
      have e1 : ∀ x, (sI ν (a + 3) k x).1 (b + 4) k = ν.1 (b + 4) k := fun x => by simp [sI, n1]
      rw [d1.2.2.1, nI_clamp (by omega), nI_1, e1, k1, k2, nar01]
      refine ⟨fun w => absurd w (nI_ge (by omega) (by omega)), fun _ => ⟨vp_in_nI (by omega) (by decide), ?_⟩⟩
      have fr : ∀ z, z ≠ a + 3 → z ≠ a + 4 → eq3 ν (sI (sI ν (a + 3) k (nI q.1)) (a + 4) k (if q.2 = true then 1 else 0)) z := fun z h1 h2 => by simp [eq3, sI, h1, h2]
      refine ih (k + 1) _ (by omega) (by omega) (fun z hz => (g z hz).trans (fr z (by omega) (by omega))) ⟨?_, fun i col hi hc => ?_, ⟨fun hv => (d3 hv).fr (fr _ (by omega) (by omega)) (fr _ (by omega) (by omega)), fun hv => (d4 hv).fr (fr _ (by omega) (by omega)) (fr _ (by omega) (by omega))⟩, fun i q2 hi hc => ?_, fun i q2 hi hc => absurd hc (Nat.not_lt_zero _)⟩
      · rw [(fr a (by omega) (by omega)).1]; exact d1
      · exact (d2 i col hi hc).fr (fr _ (by omega) (by omega)) (fr _ (by omega) (by omega)) (fr _ (by omega) (by omega)) (fr _ (by omega) (by omega))
      · by_cases e : i = k
        · subst e
          rw [hq] at hi
          cases hi
          constructor
          · simp [sI, upd]
          · simp [sI, upd]
        · obtain ⟨w1, w2⟩ := d5 i q2 hi (by omega)
          constructor
          · simp [sI, upd, e, w1]
          · simp [sI, upd, e, w2]
  -- the views
  have L2 : ∀ (ν : mmMem), (∀ q, q < a ∨ a + 70 ≤ q → eq3 μ ν q) → cpD ν a T T.2.1.length 0 0 0 → mmEnds (d - 1) M_X4_copyFrom 65 [.ref a, .ref b, .int (0 : Int32)] [] ν (mmP0 K) := by
    intro ν g D
    obtain ⟨d1, d2, -, -, -⟩ := D
    refine s_X4_copyFrom_65 (by omega) ka kb ?_
    refine ⟨fun w => absurd w (by decide), fun _ => ⟨vp_lit (by decide), ?_⟩⟩
    show mmC0 (d - 1) M_X6_copyFrom false 1 [.ref (a + 54), .ref (b + 54)] ν _
    refine c_vwCopy (by omega) kva.1 kvb.1 (by omega) (src ν g).2.2.1.1 (by omega) (fun ν2 v2 g2 => ?_)
    refine s_X4_copyFrom_65 (by omega) ka kb ?_
    refine ⟨fun w => absurd w (by decide), fun _ => ⟨vp_lit (by decide), ?_⟩⟩
    show mmC0 (d - 1) M_X6_copyFrom false 1 [.ref (a + 56), .ref (b + 56)] ν2 _
    have gg2 : ∀ q, q < a ∨ a + 70 ≤ q → eq3 μ ν2 q := fun q hq => (g q hq).trans (g2 q (by omega) (by omega))
    refine c_vwCopy (by omega) kva.2 kvb.2 (by omega) (src ν2 gg2).2.2.1.2 (by omega) (fun ν3 v3 g3 => ?_)
    refine s_X4_copyFrom_65 (by omega) ka kb ?_
    refine ⟨fun _ => ?_, fun w => absurd (by decide) w⟩
    have fr : ∀ q, q ≠ a + 54 → q ≠ a + 55 → q ≠ a + 56 → q ≠ a + 57 → eq3 ν ν3 q := fun q q1 q2 q3 q4 => (g2 q q1 (by omega)).trans (g3 q q3 (by omega))
    refine L3 _ 0 ν3 rfl (Nat.zero_le _) (fun q hq => (gg2 q hq).trans (g3 q (by omega) (by omega))) ⟨?_, fun i col hi hc => ?_, ⟨fun _ => v2.fr (g3 _ (by omega) (by omega)) (g3 _ (by omega) (by omega)), fun _ => v3⟩, fun i q hi hc => absurd hc (Nat.not_lt_zero _), fun i q hi hc => absurd hc (Nat.not_lt_zero _)⟩
    · rw [(fr a (by omega) (by omega) (by omega) (by omega)).1]; exact d1
    · have := lt_of_get hi
      exact (d2 i col hi hc).fr (fr _ (by omega) (by omega) (by omega) (by omega)) (fr _ (by omega) (by omega) (by omega) (by omega)) (fr _ (by omega) (by omega) (by omega) (by omega)) (fr _ (by omega) (by omega) (by omega) (by omega))
  -- the columns
  have L1 : ∀ (j c : Nat) (ν : mmMem), T.2.1.length - c = j → c ≤ T.2.1.length → (∀ q, q < a ∨ a + 70 ≤ q → eq3 μ ν q) → cpD ν a T c 0 0 0 → mmEnds (d - 1) M_X4_copyFrom 34 [.ref a, .ref b, .int (nI c)] [] ν (mmP0 K) := by
    intro j
    induction j with
    | zero =>
      intro c ν hj hc g D
      refine s_X4_copyFrom_34 (by omega) ka kb ?_
      have e : c = T.2.1.length := by omega
      rw [e] at D
      rw [D.1.2.1]
      exact ⟨fun _ => L2 ν g D, fun w => absurd (nI_le (by omega) (by omega)) w⟩
    | succ j ih =>
      intro c ν hj hc g D
      obtain ⟨col, hcol⟩ : ∃ q, T.2.1[c]? = some q := ⟨_, List.getElem?_eq_getElem (by omega)⟩
      refine s_X4_copyFrom_34 (by omega) ka kb ?_
      obtain ⟨d1, d2, -, -, -⟩ := D
      rw [d1.2.1, nI_clamp (by omega), nI_1]
      refine ⟨fun w => absurd w (nI_ge (by omega) (by omega)), fun _ => ⟨vp_in_nI (by omega) (by decide), ?_⟩⟩
      show mmC0 (d - 1) M_X1_copyFrom false 1 [.ref (a + 6 + 4 * c), .ref (b + 6 + 4 * c)] ν _
      refine c_colCopy (by omega) (kca c (by omega)) (kcb c (by omega)) (by omega) ((src ν g).2.1 c col hcol) h40 (fun ν2 c2 g2 => ?_)
      refine ih (c + 1) ν2 (by omega) (by omega) (fun q hq => (g q hq).trans (g2 q (by omega))) ⟨?_, fun i col2 hi hc2 => ?_, ⟨fun hv => absurd hv (Nat.not_lt_zero _), fun hv => absurd hv (by decide)⟩, fun i q hi hc => absurd hc (Nat.not_lt_zero _), fun i q hi hc => absurd hc (Nat.not_lt_zero _)⟩
      · rw [(g2 a (by omega)).1]; exact d1
      · by_cases e : i = c
        · subst e
          rw [hcol] at hi
          cases hi
          exact c2
        · exact (d2 i col2 hi (by omega)).fr (g2 _ (by omega)) (g2 _ (by omega)) (g2 _ (by omega)) (g2 _ (by omega))
  refine u_X4_copyFrom (by omega) ka kb ?_
  have ne : b ≠ a := by omega
  obtain ⟨⟨t1, t2, t3, t4⟩, -, -, -, -⟩ := hT
  have e1 : ∀ i x, (sI μ a i x).1 b = μ.1 b := fun i x => by simp [sI, ne]
  have e2 : ∀ i x i2 x2, (sI (sI μ a i x) a i2 x2).1 b = μ.1 b := fun i x i2 x2 => by simp [sI, ne]
  have e3 : ∀ i x i2 x2 i3 x3, (sI (sI (sI μ a i x) a i2 x2) a i3 x3).1 b = μ.1 b := fun i x i2 x2 i3 x3 => by simp [sI, ne]
  rw [e1, e2, e3, t1, t2, t3, t4]
  refine L1 _ 0 _ rfl (Nat.zero_le _) (fun q hq => ?_) ⟨⟨?_, ?_, ?_, ?_⟩, fun i col hi hc => absurd hc (Nat.not_lt_zero _), ⟨fun hv => absurd hv (Nat.not_lt_zero _), fun hv => absurd hv (by decide)⟩, fun i q hi hc => absurd hc (Nat.not_lt_zero _), fun i q hi hc => absurd hc (Nat.not_lt_zero _)⟩
  · have : q ≠ a := by omega
    simp [eq3, sI, this]
  · simp [sI, upd]
  · simp [sI, upd]
  · simp [sI, upd]
  · simp [sI, upd]
def sp_image (S : aS) : Int32 × aS := (nI S.1.1, (S.1, some S.1, S.2.2))
def sp_undo (S : aS) : Int32 × aS := match S.2.1 with
  | none => (-3, S)
  | some T => (nI T.1, (T, S.2))
theorem c_image {d : Nat} {S : aS} {μ : mmMem} {K : Int32 → mmMem → Prop} (hd : 5 ≤ d) (hC : CS μ S) (h : ∀ ν, CS ν (sp_image S).2 → hiE μ ν → K (sp_image S).1 ν) : mmCI d M_X7_image false 0 [.ref 0] μ K := by
  refine u_X7_image (by omega) ?_
  obtain ⟨h1, h2, h3, h4, h5, h8, h9⟩ := hC
  refine c_tcopy (by omega) (Or.inr ⟨rfl, rfl⟩) h1 h2 (fun ν t g => ?_)
  rw [(g 1 (by omega)).1, h1.1.1]
  have e : ∀ q, q ≠ 0 → eq3 ν (sI ν 0 2 1) q := fun q hq => by simp [eq3, sI, hq]
  have g0 := g 0 (by omega)
  refine h _ ⟨(h1.fr h2 (fun q _ _ => g q (by omega))).fr h2 (fun q _ _ => e q (by omega)), h2, ⟨by simp [sI, upd], t.fr h2 (fun q _ _ => e q (by omega)), h2⟩, ?_, ⟨?_, ?_, ?_⟩, ⟨?_, fun i x hx => ?_⟩, h9⟩ (fun q hq => (g q (by omega)).trans (e q (by omega)))
  · show (sI ν 0 2 1).2.1 0 15 = _
    have : (sI ν 0 2 1).2.1 = ν.2.1 := rfl
    rw [this, g0.2.1]; exact h4
  · simp [sI, upd, g0.1, h5.1, sp_image]
  · simp [sI, upd, g0.1, h5.2.1, sp_image]
  · simp [sI, upd, g0.1, h5.2.2, sp_image]
  · rw [(e 141 (by decide)).1, (g 141 (by omega)).1]; exact h8.1
  · rw [(e 142 (by decide)).1, (g 142 (by omega)).1]; exact h8.2 i x hx
theorem c_undo {d : Nat} {S : aS} {μ : mmMem} {K : Int32 → mmMem → Prop} (hd : 5 ≤ d) (hC : CS μ S) (h : ∀ ν, CS ν (sp_undo S).2 → hiE μ ν → K (sp_undo S).1 ν) : mmCI d M_X7_undo false 0 [.ref 0] μ K := by
  refine u_X7_undo (by omega) ?_
  have hC' := hC
  obtain ⟨h1, h2, h3, h4, h5, h8, h9⟩ := hC
  unfold sp_undo at h
  cases ho : S.2.1 with
  | none =>
    rw [ho] at h h3
    have e : μ.1 0 2 = 0 := h3
    rw [e]
    exact ⟨fun w => absurd rfl w, fun _ => h μ hC' (hiE.refl _)⟩
  | some T =>
    rw [ho] at h h3
    obtain ⟨i1, i2, i3⟩ := h3
    rw [i1]
    refine ⟨fun _ => ?_, fun w => absurd w (by decide)⟩
    refine c_tcopy (by omega) (Or.inl ⟨rfl, rfl⟩) i2 i3 (fun ν t g => ?_)
    rw [t.1.1]
    have g0 := g 0 (by omega)
    refine h ν ⟨t, i3, ?_, by rw [g0.2.1]; exact h4, ⟨by rw [g0.1]; exact h5.1, by rw [g0.1]; exact h5.2.1, by rw [g0.1]; exact h5.2.2⟩, ⟨by rw [(g 141 (by omega)).1]; exact h8.1, fun i x hx => by rw [(g 142 (by omega)).1]; exact h8.2 i x hx⟩, h9⟩ (fun q hq => g q (by omega))
    show imgC ν S.2.1
    rw [ho]
    exact ⟨by rw [g0.1]; exact i1, i2.fr i3 (fun q _ _ => g q (by omega)), i3⟩
end
section
/-! ===== the class: a column's text ===== -/
/-- what the constant's own methods are to give (shown apart) -/
def ltr (k : Nat) : Int32 := [122, 98, 99, 115, 105, 108, 102, 100, 119, 111, 110].getD k 0
def strOK : Prop := ∀ (d k : Nat) (μ : mmMem) (K : Int32 → mmMem → Prop), 6 ≤ d → k < 11 → K (ltr k) μ → mmCI d M_J0_charAt_5068e false 1 [.retAddr 0, .int (nI k)] μ K
def spC (μ : mmMem) (l : List Int32) : Prop := μ.1 144 0 = nI l.length ∧ ∀ i x, l[i]? = some x → μ.1 145 i = x
def spU (μ ν : mmMem) : Prop := ∀ q, q ≠ 144 → q ≠ 145 → eq3 μ ν q
theorem spU.trans {μ ν ξ : mmMem} (h : spU μ ν) (h2 : spU ν ξ) : spU μ ξ := fun q a b => (h q a b).trans (h2 q a b)
theorem spU.refl (μ : mmMem) : spU μ μ := fun _ _ _ => eq3.rfl'
theorem spU.scr {μ ν : mmMem} (h : spU μ ν) : scr μ ν := ⟨fun q hq => h q (by omega) (by omega), by rw [(h 141 (by decide) (by decide)).1]⟩
theorem spC.fr {μ ν : mmMem} {l : List Int32} (h : spC μ l) (e0 : eq3 μ ν 144) (e1 : eq3 μ ν 145) : spC ν l := ⟨by rw [e0.1]; exact h.1, fun i x hx => by rw [e1.1]; exact h.2 i x hx⟩
/-! a stretch turned round -/
/-! numbers and words -/
/-! the cells -/
/-! the whole -/
end
section
/-! ===== the class: a column read from the text ===== -/
def chA (l : List Int32) (p : Nat) : Int32 := l.getD p (-1)
def psC (μ : mmMem) (l : List Int32) (p : Nat) : Prop := txtC μ l ∧ l.length ≤ 100 ∧ μ.1 141 1 = nI p ∧ p ≤ l.length
def psU (μ ν : mmMem) : Prop := ∀ q, q ≠ 141 → q ≠ 143 → eq3 μ ν q
theorem psU.refl (μ : mmMem) : psU μ μ := fun _ _ _ => eq3.rfl'
theorem psU.trans {μ ν ξ : mmMem} (h : psU μ ν) (h2 : psU ν ξ) : psU μ ξ := fun q a b => (h q a b).trans (h2 q a b)
theorem chA_lt {l : List Int32} {p : Nat} {x : Int32} (h : chA l p = x) (hx : x ≠ -1) (hp : p ≤ l.length) : p < l.length := by
  refine Nat.lt_of_not_le fun w => ?_
  unfold chA at h
  rw [List.getD_eq_getElem?_getD, List.getElem?_eq_none w] at h
  exact hx h.symm
theorem psC.go {μ : mmMem} {l : List Int32} {p : Nat} (h : psC μ l p) (hp : p < l.length) : psC (sI μ 141 1 (nI (p + 1))) l (p + 1) ∧ psU μ (sI μ 141 1 (nI (p + 1))) := by
  obtain ⟨⟨h1, h2⟩, h3, h4, h5⟩ := h
  exact ⟨⟨⟨by simpa [sI, upd] using h1, fun i x hx => by simpa [sI] using h2 i x hx⟩, h3, by simp [sI, upd], hp⟩, fun q a b => by simp [eq3, sI, a]⟩
theorem psC.set {μ : mmMem} {l : List Int32} {p : Nat} (x : aC) (h : psC μ l p) : psC (setC μ 143 x) l p ∧ psU μ (setC μ 143 x) := by
  obtain ⟨⟨h1, h2⟩, h3, h4, h5⟩ := h
  exact ⟨⟨⟨by rw [setC_1 _ _ _ _ (by decide)]; exact h1, fun i y hy => by rw [setC_1 _ _ _ _ (by decide)]; exact h2 i y hy⟩, h3, by rw [setC_1 _ _ _ _ (by decide)]; exact h4, h5⟩, fun q a b => ⟨setC_1 _ _ _ _ b, setC_2 _ _ _ _ b, setC_3 _ _ _ _ b⟩⟩
theorem c_sign {d p : Nat} {l : List Int32} {μ : mmMem} {K : Int32 → mmMem → Prop} (hd : 1 ≤ d) (hs : psC μ l p) (h : K (chA l p) μ) : mmCI d M_X5_sign false 0 [.ref 141] μ K := by
  obtain ⟨⟨h1, h2⟩, h3, h4, h5⟩ := hs
  refine u_X5_sign hd ?_
  rw [h1, h4, nI_leI (by omega) (by omega)]
  refine ⟨fun w => ?_, fun w => ⟨vp_in_nI (by omega) (by decide), ?_⟩⟩
  · have e : chA l p = -1 := by
      unfold chA
      rw [List.getD_eq_getElem?_getD, List.getElem?_eq_none w]; rfl
    rw [e] at h; exact h
  · have hx : l[p]? = some (chA l p) := by
      unfold chA
      rw [List.getD_eq_getElem?_getD, List.getElem?_eq_getElem (by omega)]; rfl
    rw [nI_clamp (by omega), h2 p _ hx]
    exact h
theorem c_skip {d p : Nat} {x : Int32} {l : List Int32} {μ : mmMem} {K : Int32 → mmMem → Prop} (hd : 2 ≤ d) (hx : x ≠ -1) (hs : psC μ l p) (h1 : chA l p = x → ∀ ν, psC ν l (p + 1) → psU μ ν → K 1 ν) (h0 : ¬ chA l p = x → K 0 μ) : mmCI d M_X5_skip false 1 [.ref 141, .int x] μ K := by
  refine u_X5_skip (by omega) ?_
  refine c_sign (by omega) hs ?_
  refine ⟨fun e => ?_, fun n => h0 n⟩
  have hp := chA_lt e hx hs.2.2.2
  rw [hs.2.2.1, nI_1]
  exact h1 e _ (hs.go hp).1 (hs.go hp).2
abbrev isDg (c : Int32) : Prop := ¬ c < 48 ∧ ¬ 57 < c
abbrev isLt (c : Int32) : Prop := ¬ c < 97 ∧ ¬ 122 < c
theorem isDg_lt {l : List Int32} {p : Nat} (h : isDg (chA l p)) (hp : p ≤ l.length) : p < l.length := by
  refine chA_lt rfl (fun e => ?_) hp
  rw [e] at h
  exact absurd h (by decide)
theorem isLt_lt {l : List Int32} {p : Nat} (h : isLt (chA l p)) (hp : p ≤ l.length) : p < l.length := by
  refine chA_lt rfl (fun e => ?_) hp
  rw [e] at h
  exact absurd h (by decide)
theorem c_isDigit {d p : Nat} {l : List Int32} {μ : mmMem} {K : Int32 → mmMem → Prop} (hd : 2 ≤ d) (hs : psC μ l p) (h : K (if isDg (chA l p) then 1 else 0) μ) : mmCI d M_X5_isDigit false 0 [.ref 141] μ K := by
  refine u_X5_isDigit (by omega) ?_
  refine c_sign (by omega) hs ?_
  refine ⟨fun a => ?_, fun a => ?_⟩
  · rw [if_neg (fun w => w.1 a)] at h; exact h
  · refine c_sign (by omega) hs ?_
    refine ⟨fun b => ?_, fun b => ?_⟩
    · rw [if_neg (fun w => w.2 b)] at h; exact h
    · rw [if_pos ⟨a, b⟩] at h; exact h
theorem c_isLetter {d p : Nat} {l : List Int32} {μ : mmMem} {K : Int32 → mmMem → Prop} (hd : 2 ≤ d) (hs : psC μ l p) (h : K (if isLt (chA l p) then 1 else 0) μ) : mmCI d M_X5_isLetter false 0 [.ref 141] μ K := by
  refine u_X5_isLetter (by omega) ?_
  refine c_sign (by omega) hs ?_
  refine ⟨fun a => ?_, fun a => ?_⟩
  · rw [if_neg (fun w => w.1 a)] at h; exact h
  · refine c_sign (by omega) hs ?_
    refine ⟨fun b => ?_, fun b => ?_⟩
    · rw [if_neg (fun w => w.2 b)] at h; exact h
    · rw [if_pos ⟨a, b⟩] at h; exact h
/-! words -/
def pW (l : List Int32) (p : Nat) : Bool × Nat × aC := if isLt (chA l p) then (if isLt (chA l (p + 1)) then (true, p + 2, (8, (chA l p - 97 + 1).toInt64 * 26 + (chA l (p + 1) - 97 + 1).toInt64)) else (true, p + 1, (8, (chA l p - 97 + 1).toInt64))) else (false, p, (-1, 0))
abbrev itP (μ : mmMem) (l : List Int32) (r : Bool × Nat × aC) (K : Int32 → mmMem → Prop) : Prop := ∀ ν, psC ν l r.2.1 → psU μ ν → (r.1 = true → clC ν 143 r.2.2) → K (if r.1 = true then 1 else 0) ν
theorem set8 (μ : mmMem) (w : Int64) : sD (sJ (sI μ 143 0 (10 : Int32)) 143 1 w) 143 2 FP.dconst0 = setC μ 143 (8, w) := by
  have z : FP.dconst0 = 0 := rfl
  simp [setC, enK, enN, enR, z]
theorem c_takeWord {d p : Nat} {l : List Int32} {μ : mmMem} {K : Int32 → mmMem → Prop} (hd : 3 ≤ d) (hs : psC μ l p) (h : itP μ l (pW l p) K) : mmCI d M_X5_takeWord false 0 [.ref 141] μ K := by
  refine u_X5_takeWord (by omega) ?_
  refine c_isLetter (by omega) hs ?_
  unfold pW at h
  by_cases a : isLt (chA l p)
  · rw [if_pos a] at h ⊢
    refine ⟨fun _ => ?_, fun w => absurd w (by decide)⟩
    refine c_sign (by omega) hs ?_
    have hp := isLt_lt a hs.2.2.2
    obtain ⟨s1, u1⟩ := hs.go hp
    rw [hs.2.2.1, nI_1]
    refine c_isLetter (by omega) s1 ?_
    by_cases b : isLt (chA l (p + 1))
    · rw [if_pos b] at h ⊢
      refine ⟨fun w => absurd w (by decide), fun _ => ?_⟩
      refine c_sign (by omega) s1 ?_
      have hp2 := isLt_lt b s1.2.2.2
      obtain ⟨s2, u2⟩ := s1.go hp2
      rw [s1.2.2.1, nI_1, set8]
      obtain ⟨s3, u3⟩ := s2.set (8, (chA l p - 97 + 1).toInt64 * 26 + (chA l (p + 1) - 97 + 1).toInt64)
      exact h _ s3 ((u1.trans u2).trans u3) (fun _ => setC_cl _ _ _)
    · rw [if_neg b] at h ⊢
      refine ⟨fun _ => ?_, fun w => absurd rfl w⟩
      rw [set8]
      obtain ⟨s3, u3⟩ := s1.set (8, (chA l p - 97 + 1).toInt64)
      exact h _ s3 (u1.trans u3) (fun _ => setC_cl _ _ _)
  · rw [if_neg a] at h ⊢
    exact ⟨fun w => absurd rfl w, fun _ => h μ hs (psU.refl μ) (fun w => by cases w)⟩
/-! numbers -/
def pDig (l : List Int32) : Nat → Nat → Nat → Int64 → Nat × Nat × Int64
  | 0, p, d, v => (p, d, v)
  | n + 1, p, d, v => if isDg (chA l p) then pDig l n (p + 1) (d + 1) (v * 10 + (chA l p - 48).toInt64) else (p, d, v)
def pBox (l : List Int32) (b : Int32) (p : Nat) : Bool × Nat × aC := (decide (0 < (pDig l 6 (if chA l p = 45 then p + 1 else p) 0 0).2.1), (pDig l 6 (if chA l p = 45 then p + 1 else p) 0 0).1, (b, aMade b (if chA l p = 45 then -(pDig l 6 (if chA l p = 45 then p + 1 else p) 0 0).2.2 else (pDig l 6 (if chA l p = 45 then p + 1 else p) 0 0).2.2)))
theorem c_boxE {d : Nat} {b g : Int32} {l : List Int32} {K : Int32 → mmMem → Prop} (hd : 4 ≤ d) (hb : isB b) (hg : g = 0 ∨ g = 1) (μ0 : mmMem) (R : Nat × Nat × Int64) (h : ∀ ν, psC ν l R.1 → psU μ0 ν → clC ν 143 (b, aMade b (if g = 1 then -R.2.2 else R.2.2)) → K (if decide (0 < R.2.1) = true then 1 else 0) ν) : ∀ (n p t : Nat) (v : Int64) (μ : mmMem), t + n = 6 → psC μ l p → psU μ0 μ → R = pDig l n p t v → mmEnds d M_X5_takeBox 12 [.ref 141, .int b, .int g, .int (nI t), .long v, .retAddr 7] [] μ (mmPI K) := by
  have fin : ∀ (p t : Nat) (v : Int64) (μ : mmMem) (K2 : mmMem → Prop), psC μ l p → psU μ0 μ → R = (p, t, v) → (∀ ν, K (if decide (0 < t) = true then 1 else 0) ν → K2 ν) → (g = 0 → mmC0 d M_X0_make false 2 [.ref 143, .int b, .long v] μ K2) ∧ (¬ g = 0 → mmC0 d M_X0_make false 2 [.ref 143, .int b, .long (-v)] μ K2) := fun p t v μ K2 hs hu e hk => by
    subst e
    refine ⟨fun q => ?_, fun q => ?_⟩
    · have n1 : ¬ g = 1 := fun w => by rw [q] at w; exact absurd w (by decide)
      rw [if_neg n1] at h
      obtain ⟨s3, u3⟩ := hs.set (b, aMade b v)
      exact c_make (by omega) kd_143 hb (hk _ (h _ s3 (hu.trans u3) (setC_cl _ _ _)))
    · have e1 : g = 1 := hg.resolve_left q
      rw [if_pos e1] at h
      obtain ⟨s3, u3⟩ := hs.set (b, aMade b (-v))
      exact c_make (by omega) kd_143 hb (hk _ (h _ s3 (hu.trans u3) (setC_cl _ _ _)))
  intro n
  induction n with
  | zero =>
    intro p t v μ ht hs hu e
    refine s_X5_takeBox_12 (by omega) ?_
    refine ⟨fun _ => ?_, fun w => absurd (nI_le (a := 6) (by omega) (by omega)) w⟩
    have := fin p t v μ (fun ν => mmPI K (some (.int 1)) ν) hs hu e (fun ν q => by
      rw [if_pos (decide_eq_true (by omega))] at q; exact q)
    exact this
  | succ n ih =>
    intro p t v μ ht hs hu e
    refine s_X5_takeBox_12 (by omega) ?_
    refine ⟨fun w => absurd w (nI_ge (b := 6) (by omega) (by omega)), fun _ => ?_⟩
    refine c_isDigit (by omega) hs ?_
    unfold pDig at e
    by_cases a : isDg (chA l p)
    · rw [if_pos a] at e ⊢
      refine ⟨fun w => absurd w (by decide), fun _ => ?_⟩
      refine c_sign (by omega) hs ?_
      obtain ⟨s1, u1⟩ := hs.go (isDg_lt a hs.2.2.2)
      rw [hs.2.2.1, nI_1, nI_1]
      exact ih (p + 1) (t + 1) _ _ (by omega) s1 (hu.trans u1) e
    · rw [if_neg a] at e ⊢
      refine ⟨fun _ => ?_, fun w => absurd rfl w⟩
      refine fin p t v μ _ hs hu e (fun ν q => ⟨fun w => ?_, fun w => ?_⟩)
      · rw [if_neg (by have := (nI_leI (b := 0) (by omega) (by decide)).mp w; simp; omega)] at q; exact q
      · rw [if_pos (by simp; exact Nat.pos_of_ne_zero fun z => w (by rw [z]; decide))] at q; exact q
theorem c_takeBox {d p : Nat} {b : Int32} {l : List Int32} {μ : mmMem} {K : Int32 → mmMem → Prop} (hd : 5 ≤ d) (hb : isB b) (hs : psC μ l p) (h : itP μ l (pBox l b p) K) : mmCI d M_X5_takeBox false 1 [.ref 141, .int b] μ K := by
  refine u_X5_takeBox (by omega) ?_
  unfold pBox at h
  refine c_skip (by omega) (by decide) hs (fun e ν s1 u1 => ?_) (fun n => ?_)
  · rw [if_pos e] at h
    exact c_boxE (g := 1) (by omega) hb (Or.inr rfl) μ _ (fun ν2 s2 u2 c2 => h ν2 s2 u2 (fun _ => by rw [if_pos e]; exact c2)) 6 (p + 1) 0 0 ν rfl s1 u1 rfl
  · rw [if_neg n] at h
    exact c_boxE (g := 0) (by omega) hb (Or.inl rfl) μ _ (fun ν2 s2 u2 c2 => h ν2 s2 u2 (fun _ => by rw [if_neg n]; exact c2)) 6 p 0 0 μ rfl hs (psU.refl μ) rfl
/-! kinds -/
def pKind (l : List Int32) (p : Nat) : Nat → Nat → Option Nat
  | 0, _ => none
  | n + 1, i => if chA l p = ltr i then some i else pKind l p n (i + 1)
def kPl (p : Nat) : Option Nat → Nat
  | none => p
  | some _ => p + 1
theorem ltr_ok : ∀ i, i < 11 → ltr i ≠ -1 := by decide +kernel
theorem pKind_lt {l : List Int32} {p : Nat} : ∀ {n i k : Nat}, pKind l p n i = some k → k < i + n
  | 0, _, _, h => by cases h
  | n + 1, i, k, h => by
    unfold pKind at h
    split at h
    · cases h; omega
    · have := pKind_lt h; omega
theorem c_kindE {d p m : Nat} {l : List Int32} {K : Int32 → mmMem → Prop} (hS : strOK) (hd : 6 ≤ d) (hm : m < 11) (o : Option Nat) (μ : mmMem) (hs : psC μ l p) (h : ∀ ν, psC ν l (kPl p o) → psU μ ν → K (leadAns o) ν) : ∀ (n i : Nat), i + n = m + 1 → o = pKind l p n i → mmEnds d M_X5_takeKind 2 [.ref 141, .int (nI m), .int (nI i)] [] μ (mmPI K) := by
  intro n
  induction n with
  | zero =>
    intro i hi e
    refine s_X5_takeKind_2 (by omega) ?_
    have e : o = none := e
    rw [e] at h
    exact ⟨fun _ => h μ hs (psU.refl μ), fun w => absurd ((nI_ltI (by omega) (by omega)).mpr (by omega)) w⟩
  | succ n ih =>
    intro i hi e
    refine s_X5_takeKind_2 (by omega) ?_
    refine ⟨fun w => absurd ((nI_ltI (by omega) (by omega)).mp w) (by omega), fun _ => ?_⟩
    refine hS _ i _ _ (by omega) (by omega) ?_
    unfold pKind at e
    refine c_skip (by omega) (ltr_ok i (by omega)) hs (fun q ν s1 u1 => ?_) (fun q => ?_)
    · rw [if_pos q] at e
      rw [e] at h
      exact ⟨fun w => absurd w (by decide), fun _ => h ν s1 u1⟩
    · rw [if_neg q] at e
      rw [nI_1]
      exact ⟨fun _ => ih (i + 1) (by omega) e, fun w => absurd rfl w⟩
theorem c_takeKind {d p m : Nat} {l : List Int32} {μ : mmMem} {K : Int32 → mmMem → Prop} (hS : strOK) (hd : 7 ≤ d) (hm : m < 11) (hs : psC μ l p) (h : ∀ ν, psC ν l (kPl p (pKind l p (m + 1) 0)) → psU μ ν → K (leadAns (pKind l p (m + 1) 0)) ν) : mmCI d M_X5_takeKind false 1 [.ref 141, .int (nI m)] μ K := by
  refine u_X5_takeKind (by omega) ?_
  exact c_kindE hS (by omega) hm _ μ hs h (m + 1) 0 (by omega) rfl
/-! items -/
def pItem (l : List Int32) (kd : Int32) (p : Nat) : Bool × Nat × aC :=
  if ¬ kd ≤ 7 ∧ chA l p = 95 then (true, p + 1, (-1, 0)) else if kd = 10 then pW l p else if kd = 9 then (if chA l p = 39 then pW l (p + 1) else match pKind l p 8 0 with
    | none => (false, p, (-1, 0))
    | some b => pBox l (nI b) (p + 1)) else if kd = 8 then pBox l 4 p else pBox l kd p
theorem y01 {b : Bool} {K : Int32 → mmMem → Prop} {ν : mmMem} (h : K (if b = true then 1 else 0) ν) : ((if b = true then (1 : Int32) else 0) = 0 → K 0 ν) ∧ (¬ (if b = true then (1 : Int32) else 0) = 0 → K 1 ν) := by
  cases b with
  | true => exact ⟨fun w => absurd w (by decide), fun _ => h⟩
  | false => exact ⟨fun _ => h, fun w => absurd rfl w⟩
theorem y01w {b : Bool} {K : Int32 → mmMem → Prop} {ν : mmMem} (h : K (if b = true then 1 else 0) ν) : ((if b = true then (1 : Int32) else 0) = 0 ∨ (if b = true then (1 : Int32) else 0) = 1) ∧ K (if b = true then 1 else 0) ν := by
  cases b with
  | true => exact ⟨Or.inr rfl, h⟩
  | false => exact ⟨Or.inl rfl, h⟩
theorem setE (μ : mmMem) : sD (sJ (sI μ 143 0 (-1 : Int32)) 143 1 (0 : Int64)) 143 2 FP.dconst0 = setC μ 143 (-1, 0) := by
  have z : FP.dconst0 = 0 := rfl
  simp [setC, enK, enN, enR, z]
theorem isB_nI : ∀ b, b < 8 → isB (nI b) := by
  intro b hb
  have : b = 0 ∨ b = 1 ∨ b = 2 ∨ b = 3 ∨ b = 4 ∨ b = 5 ∨ b = 6 ∨ b = 7 := by omega
  rcases this with rfl | rfl | rfl | rfl | rfl | rfl | rfl | rfl <;> simp [isB] <;> decide
theorem c_itemAny {d p : Nat} {l : List Int32} {μ : mmMem} {K : Int32 → mmMem → Prop} (hS : strOK) (hd : 7 ≤ d) (hs : psC μ l p) (h : itP μ l (if chA l p = 39 then pW l (p + 1) else match pKind l p 8 0 with
    | none => (false, p, (-1, 0))
    | some b => pBox l (nI b) (p + 1)) K) : mmCI d M_X5_skip false 1 [.ref 141, .int (39 : Int32)] μ fun y43 ν42 => (y43 = (0 : Int32) → mmCI d M_X5_takeKind false 1 [.ref 141, .int (7 : Int32)] ν42 fun y49 ν48 => (y49 < (0 : Int32) → K (0 : Int32) ν48) ∧ (¬ y49 < (0 : Int32) → mmCI d M_X5_takeBox false 1 [.ref 141, .int y49] ν48 fun y55 ν54 => (y55 = (0 : Int32) → K (0 : Int32) ν54) ∧ (¬ y55 = (0 : Int32) → K (1 : Int32) ν54))) ∧ (¬ y43 = (0 : Int32) → mmCI d M_X5_takeWord false 0 [.ref 141] ν42 fun y64 ν63 => (y64 = 0 ∨ y64 = 1) ∧ (K y64 ν63)) := by
  refine c_skip (by omega) (by decide) hs (fun e ν s1 u1 => ?_) (fun n => ?_)
  · rw [if_pos e] at h
    refine ⟨fun w => absurd w (by decide), fun _ => ?_⟩
    exact c_takeWord (by omega) s1 (fun ν2 s2 u2 c2 => y01w (h ν2 s2 (u1.trans u2) c2))
  · rw [if_neg n] at h
    refine ⟨fun _ => ?_, fun w => absurd rfl w⟩
    refine c_takeKind (m := 7) hS (by omega) (by decide) hs (fun ν s1 u1 => ?_)
    cases ho : pKind l p (7 + 1) 0 with
    | none =>
      have ho2 : pKind l p 8 0 = none := ho
      rw [ho] at s1
      rw [ho2] at h
      exact ⟨fun _ => h ν s1 u1 (fun w => by cases w), fun w => absurd (by decide) w⟩
    | some b =>
      have ho2 : pKind l p 8 0 = some b := ho
      rw [ho] at s1
      rw [ho2] at h
      have hb := pKind_lt ho2
      refine ⟨fun w => absurd w (nI_pos (by omega)), fun _ => ?_⟩
      exact c_takeBox (by omega) (isB_nI b (by omega)) s1 (fun ν2 s2 u2 c2 => y01 (h ν2 s2 (u1.trans u2) c2))
theorem c_takeItem {d p : Nat} {kd : Int32} {l : List Int32} {μ : mmMem} {K : Int32 → mmMem → Prop} (hS : strOK) (hd : 8 ≤ d) (hk : 0 ≤ kd.toInt ∧ kd.toInt ≤ 10) (hs : psC μ l p) (h : itP μ l (pItem l kd p) K) : mmCI d M_X5_takeItem false 1 [.ref 141, .int kd] μ K := by
  refine u_X5_takeItem (by omega) ?_
  unfold pItem at h
  have k0 : ¬ kd < 0 := fun w => by
    rw [Int32.lt_iff_toInt_lt] at w
    exact absurd hk.1 (Int.not_le.mpr w)
  refine ⟨fun le => ?_, fun gt => ?_⟩
  · have n10 : ¬ kd = 10 := fun e => by rw [e] at le; exact absurd le (by decide)
    have n9 : ¬ kd = 9 := fun e => by rw [e] at le; exact absurd le (by decide)
    have n8 : ¬ kd = 8 := fun e => by rw [e] at le; exact absurd le (by decide)
    rw [if_neg (fun w => w.1 le), if_neg n10, if_neg n9, if_neg n8] at h
    refine ⟨fun e => absurd e n10, fun _ => ⟨fun _ => ⟨fun _ => ⟨fun w => absurd w k0, fun _ => ?_⟩, fun e => absurd e n8⟩, fun e => absurd e n9⟩⟩
    exact c_takeBox (by omega) (isB_i k0 le) hs (fun ν s u c => y01 (h ν s u c))
  · refine c_skip (by omega) (by decide) hs (fun e ν s1 u1 => ?_) (fun n => ?_)
    · rw [if_pos ⟨gt, e⟩] at h
      refine ⟨fun w => absurd w (by decide), fun _ => ?_⟩
      rw [setE]
      obtain ⟨s2, u2⟩ := s1.set (-1, 0)
      exact h _ s2 (u1.trans u2) (fun _ => setC_cl _ _ _)
    · rw [if_neg (fun w => n w.2)] at h
      refine ⟨fun _ => ⟨fun e10 => ?_, fun n10 => ⟨fun n9 => ⟨fun n8 => ?_, fun e8 => ?_⟩, fun e9 => ?_⟩⟩, fun w => absurd rfl w⟩
      · rw [if_pos e10] at h
        exact c_takeWord (by omega) hs (fun ν s u c => y01w (h ν s u c))
      · exfalso
        have h1 : kd ≠ 8 := n8
        have h2 : ¬ kd.toInt ≤ 7 := fun w => gt (Int32.le_iff_toInt_le.mpr w)
        have i : ∀ j : Int32, kd.toInt = j.toInt → kd = j := fun j q => Int32.toInt_inj.mp q
        have : kd.toInt = 8 ∨ kd.toInt = 9 ∨ kd.toInt = 10 := by omega
        rcases this with w | w | w
        · exact n8 (i 8 w)
        · exact n9 (i 9 w)
        · exact n10 (i 10 w)
      · rw [if_neg n10, if_neg n9, if_pos e8] at h
        exact c_takeBox (by omega) (by simp [isB]) hs (fun ν s u c => y01 (h ν s u c))
      · rw [if_neg n10, if_pos e9] at h
        exact c_itemAny hS (by omega) hs h
/-! rows -/
def rdU (μ ν : mmMem) : Prop := ∀ q, (q < 141 ∨ q = 142 ∨ 150 ≤ q) → eq3 μ ν q
theorem rdU.refl (μ : mmMem) : rdU μ μ := fun _ _ => eq3.rfl'
theorem rdU.trans {μ ν ξ : mmMem} (h : rdU μ ν) (h2 : rdU ν ξ) : rdU μ ξ := fun q a => (h q a).trans (h2 q a)
theorem psU.rd {μ ν : mmMem} (h : psU μ ν) : rdU μ ν := fun q a => h q (by omega) (by omega)
theorem psC.fr {μ ν : mmMem} {l : List Int32} {p : Nat} (h : psC μ l p) (e1 : eq3 μ ν 141) (e2 : eq3 μ ν 142) : psC ν l p := by
  obtain ⟨⟨h1, h2⟩, h3, h4, h5⟩ := h
  exact ⟨⟨by rw [e1.1]; exact h1, fun i x hx => by rw [e2.1]; exact h2 i x hx⟩, h3, by rw [e1.1]; exact h4, h5⟩
theorem psU.col {μ ν : mmMem} {n : Nat} {c : aCol} (h : psU μ ν) (hc : colC μ 146 n c) : colC ν 146 n c := hc.fr (h _ (by decide) (by decide)) (h _ (by decide) (by decide)) (h _ (by decide) (by decide)) (h _ (by decide) (by decide))
def pItems (l : List Int32) (kd : Int32) : Nat → Nat → Nat → aCol → Bool × Nat × aCol
  | 0, _, p, c => (false, p, c)
  | j + 1, r, p, c => if (pItem l kd p).1 = true then (if j = 0 then (true, (pItem l kd p).2.1, setRow c r (pItem l kd p).2.2) else if chA l (pItem l kd p).2.1 = 44 then pItems l kd j (r + 1) ((pItem l kd p).2.1 + 1) (setRow c r (pItem l kd p).2.2) else (true, (pItem l kd p).2.1, setRow c r (pItem l kd p).2.2)) else (false, (pItem l kd p).2.1, c)
theorem c_itemsE {d n : Nat} {kd : Int32} {l : List Int32} {K : Int32 → mmMem → Prop} (hS : strOK) (hd : 8 ≤ d) (hk : 0 ≤ kd.toInt ∧ kd.toInt ≤ 10) (hn : n ≤ 40) (μ0 : mmMem) (R : Bool × Nat × aCol) (h : ∀ ν, psC ν l R.2.1 → rdU μ0 ν → colC ν 146 n R.2.2 → K (if R.1 = true then 1 else 0) ν) : ∀ (j r p : Nat) (c : aCol) (μ : mmMem), n - r = j → r ≤ n → psC μ l p → colC μ 146 n c → c.1 = kd → rdU μ0 μ → R = pItems l kd j r p c → mmEnds d M_X5_takeItems 13 [.ref 141, .ref 146, .int (nI n), .int (nI r)] [] μ (mmPI K) := by
  intro j
  induction j with
  | zero =>
    intro r p c μ hj hr hs hc ek hu e
    refine s_X5_takeItems_13 (by omega) kd_146 ?_
    have e : R = (false, p, c) := e
    rw [e] at h
    exact ⟨fun _ => h μ hs hu hc, fun w => absurd (nI_le (by omega) (by omega)) w⟩
  | succ j ih =>
    intro r p c μ hj hr hs hc ek hu e
    refine s_X5_takeItems_13 (by omega) kd_146 ?_
    refine ⟨fun w => absurd w (nI_ge (by omega) (by omega)), fun _ => ?_⟩
    rw [hc.1, ek]
    refine c_takeItem hS hd hk hs (fun ν s1 u1 c1 => ?_)
    have hc1 := u1.col hc
    unfold pItems at e
    cases ho : (pItem l kd p).1 with
    | false =>
      rw [ho, if_neg (by decide)] at e
      refine ⟨fun w => absurd rfl w, fun _ => ?_⟩
      rw [e] at h
      exact h ν s1 (hu.trans u1.rd) hc1
    | true =>
      rw [ho, if_pos rfl] at e
      refine ⟨fun _ => ?_, fun w => absurd w (by decide)⟩
      refine c_store (by omega) kd_146 kd_143 (c1 ho) (by omega) (fun ν2 f2 => ?_)
      have hc2 := f2.row hc1
      have f : ∀ q, q ≠ 147 → q ≠ 148 → q ≠ 149 → eq3 ν ν2 q := fun q h1 h2 h3 => f2.1 q h1 h2 h3
      have s2 := s1.fr (f 141 (by decide) (by decide) (by decide)) (f 142 (by decide) (by decide) (by decide))
      have u2 : rdU μ0 ν2 := (hu.trans u1.rd).trans (fun q hq => f q (by omega) (by omega) (by omega))
      rw [nI_1, nI_eq (by omega) (by omega)]
      refine ⟨fun w => ?_, fun w => ?_⟩
      · rw [if_pos (by omega)] at e
        rw [e] at h
        exact h ν2 s2 u2 hc2
      · rw [if_neg (by omega)] at e
        refine c_skip (by omega) (by decide) s2 (fun q ν3 s3 u3 => ?_) (fun q => ?_)
        · rw [if_pos q] at e
          refine ⟨fun _ => ih (r + 1) _ _ ν3 (by omega) (by omega) s3 (u3.col hc2) ek (u2.trans u3.rd) e, fun w => absurd w (by decide)⟩
        · rw [if_neg q] at e
          rw [e] at h
          exact ⟨fun w => absurd rfl w, fun _ => h ν2 s2 u2 hc2⟩
def pTake (l : List Int32) (kd : Int32) (n p : Nat) (c : aCol) : Bool × Nat × aCol := if chA l p = 41 then (true, p, c) else pItems l kd n 0 p c
theorem c_takeItems {d n p : Nat} {kd : Int32} {l : List Int32} {c : aCol} {μ : mmMem} {K : Int32 → mmMem → Prop} (hS : strOK) (hd : 9 ≤ d) (hk : 0 ≤ kd.toInt ∧ kd.toInt ≤ 10) (hn : n ≤ 40) (hs : psC μ l p) (hc : colC μ 146 n c) (ek : c.1 = kd) (h : ∀ ν, psC ν l (pTake l kd n p c).2.1 → rdU μ ν → colC ν 146 n (pTake l kd n p c).2.2 → K (if (pTake l kd n p c).1 = true then 1 else 0) ν) : mmCI d M_X5_takeItems false 2 [.ref 141, .ref 146, .int (nI n)] μ K := by
  refine u_X5_takeItems (by omega) kd_146 ?_
  refine c_sign (by omega) hs ?_
  unfold pTake at h
  refine ⟨fun q => ?_, fun q => ?_⟩
  · rw [if_neg q] at h
    exact c_itemsE hS (by omega) hk hn μ _ h n 0 p c μ rfl (Nat.zero_le _) hs hc ek (rdU.refl μ) rfl
  · rw [if_pos q] at h
    exact h μ hs (rdU.refl μ) hc
/-! what is read is a right column -/
theorem w97b : ∀ k, k < 26 → ∀ m, m < 26 → 1 ≤ (nI (97 + k) - 97 + 1).toInt64 * 26 + (nI (97 + m) - 97 + 1).toInt64 ∧ (nI (97 + k) - 97 + 1).toInt64 * 26 + (nI (97 + m) - 97 + 1).toInt64 ≤ 702 := by decide +kernel
theorem w97a : ∀ k, k < 26 → 1 ≤ (nI (97 + k) - 97 + 1).toInt64 ∧ (nI (97 + k) - 97 + 1).toInt64 ≤ 702 := by decide +kernel
theorem isLt_nI {c : Int32} (h : isLt c) : ∃ k, k < 26 ∧ c = nI (97 + k) := by
  obtain ⟨h1, h2⟩ := h
  have h3 : ¬ c < 0 := fun w => h1 (by
    rw [Int32.lt_iff_toInt_lt] at w ⊢
    have e0 : (0 : Int32).toInt = 0 := rfl
    have e1 : (97 : Int32).toInt = 97 := rfl
    omega)
  obtain ⟨n, hn, rfl⟩ := nI_of h3
  have a1 : ¬ n < 97 := fun w => h1 ((nI_ltI hn (by decide : (97 : Nat) < 2 ^ 31)).mpr w)
  have a2 : ¬ 122 < n := fun w => h2 ((nI_ltI (by decide : (122 : Nat) < 2 ^ 31) hn).mpr w)
  exact ⟨n - 97, by omega, by congr 1; omega⟩
theorem pW_ok {l : List Int32} {p : Nat} (h : (pW l p).1 = true) : okC (pW l p).2.2 ∧ (pW l p).2.2.1 = 8 := by
  unfold pW at h ⊢
  by_cases a : isLt (chA l p)
  · rw [if_pos a] at h ⊢
    obtain ⟨k, hk, ek⟩ := isLt_nI a
    by_cases b : isLt (chA l (p + 1))
    · rw [if_pos b]
      obtain ⟨m, hm, em⟩ := isLt_nI b
      rw [ek, em]
      have := w97b k hk m hm
      exact ⟨by simp only [okC]; simp [this], rfl⟩
    · rw [if_neg b]
      rw [ek]
      have := w97a k hk
      exact ⟨by simp only [okC]; simp [this], rfl⟩
  · rw [if_neg a] at h
    cases h
theorem pBox_ok {l : List Int32} {b : Int32} {p : Nat} (hb : isB b) : okC (pBox l b p).2.2 ∧ (pBox l b p).2.2.1 = b := ⟨ok_made hb _, rfl⟩
theorem pItem_ok {l : List Int32} {kd : Int32} {p : Nat} (hk : 0 ≤ kd.toInt ∧ kd.toInt ≤ 10) (h : (pItem l kd p).1 = true) : okC (pItem l kd p).2.2 ∧ fitK kd (pItem l kd p).2.2 := by
  have k0 : ¬ kd < 0 := fun w => by
    rw [Int32.lt_iff_toInt_lt] at w
    exact absurd hk.1 (Int.not_le.mpr w)
  unfold pItem at h ⊢
  by_cases c1 : ¬ kd ≤ 7 ∧ chA l p = 95
  · rw [if_pos c1]
    exact ⟨Or.inl ⟨rfl, rfl⟩, fun w => absurd w c1.1, fun _ => Or.inl rfl, fun _ => Or.inl rfl⟩
  rw [if_neg c1] at h ⊢
  by_cases c2 : kd = 10
  · rw [if_pos c2] at h ⊢
    obtain ⟨g1, g2⟩ := pW_ok h
    exact ⟨g1, fun w => absurd w (by rw [c2]; decide), fun w => absurd w (by rw [c2]; decide), fun _ => Or.inr g2⟩
  rw [if_neg c2] at h ⊢
  by_cases c3 : kd = 9
  · rw [if_pos c3] at h ⊢
    have fk : ∀ x : aC, fitK kd x := fun x => ⟨fun w => absurd w (by rw [c3]; decide), fun w => absurd w (by rw [c3]; decide), fun w => absurd w c2⟩
    by_cases c4 : chA l p = 39
    · rw [if_pos c4] at h ⊢
      exact ⟨(pW_ok h).1, fk _⟩
    · rw [if_neg c4] at h ⊢
      cases ho : pKind l p 8 0 with
      | none => rw [ho] at h; cases h
      | some b =>
        have hb := pKind_lt ho
        exact ⟨(pBox_ok (isB_nI b (by omega))).1, fk _⟩
  rw [if_neg c3] at h ⊢
  by_cases c5 : kd = 8
  · rw [if_pos c5]
    obtain ⟨g1, g2⟩ := pBox_ok (l := l) (b := 4) (p := p) (by simp [isB])
    exact ⟨g1, fun w => absurd w (by rw [c5]; decide), fun _ => Or.inr g2, fun w => absurd w c2⟩
  · rw [if_neg c5]
    have le : kd ≤ 7 := by
      refine Classical.byContradiction fun gt => ?_
      have h2 : ¬ kd.toInt ≤ 7 := fun w => gt (Int32.le_iff_toInt_le.mpr w)
      have i : ∀ j : Int32, kd.toInt = j.toInt → kd = j := fun j q => Int32.toInt_inj.mp q
      have : kd.toInt = 8 ∨ kd.toInt = 9 ∨ kd.toInt = 10 := by omega
      rcases this with w | w | w
      · exact c5 (i 8 w)
      · exact c3 (i 9 w)
      · exact c2 (i 10 w)
    obtain ⟨g1, g2⟩ := pBox_ok (l := l) (p := p) (isB_i k0 le)
    exact ⟨g1, fun _ => g2, fun w => absurd w c5, fun w => absurd w c2⟩
theorem pItems_ok {l : List Int32} {kd : Int32} {n : Nat} (hk : 0 ≤ kd.toInt ∧ kd.toInt ≤ 10) : ∀ (j r p : Nat) (c : aCol), okCol n c → c.1 = kd → c.2.1 = false → okCol n (pItems l kd j r p c).2.2 ∧ (pItems l kd j r p c).2.2.1 = kd ∧ (pItems l kd j r p c).2.2.2.1 = false
  | 0, _, _, c, ok, e, g => ⟨ok, e, g⟩
  | j + 1, r, p, c, ok, e, g => by
    unfold pItems
    cases ho : (pItem l kd p).1 with
    | false => rw [if_neg (by decide)]; exact ⟨ok, e, g⟩
    | true =>
      rw [if_pos rfl]
      obtain ⟨x1, x2⟩ := pItem_ok hk ho
      have ok2 : okCol n (setRow c r (pItem l kd p).2.2) := by
        obtain ⟨g1, g2, g3⟩ := ok
        refine ⟨g1, g2, fun i hi => ?_⟩
        show okC (if i = r then _ else _) ∧ fitK c.1 (if i = r then _ else _)
        by_cases q : i = r
        · rw [if_pos q]; exact ⟨x1, by rw [e]; exact x2⟩
        · rw [if_neg q]; exact g3 i hi
      by_cases z : j = 0
      · rw [if_pos z]; exact ⟨ok2, e, g⟩
      · rw [if_neg z]
        by_cases q : chA l (pItem l kd p).2.1 = 44
        · rw [if_pos q]
          exact pItems_ok hk j (r + 1) _ _ ok2 e g
        · rw [if_neg q]; exact ⟨ok2, e, g⟩
theorem pTake_ok {l : List Int32} {kd : Int32} {n p : Nat} {c : aCol} (hk : 0 ≤ kd.toInt ∧ kd.toInt ≤ 10) (ok : okCol n c) (e : c.1 = kd) (g : c.2.1 = false) : okCol n (pTake l kd n p c).2.2 := by
  unfold pTake
  split
  · exact ok
  · exact (pItems_ok hk n 0 p c ok e g).1
/-! the whole text -/
def pEnd (l : List Int32) (r : Bool × Nat × aCol) : Bool × Nat × aCol := if r.1 = true then (if chA l r.2.1 = 41 then (decide (r.2.1 + 1 = l.length), r.2.1 + 1, r.2.2) else (false, r.2.1, r.2.2)) else r
def pNew (k : Nat) : aCol := (nI k, false, fun _ => newC (nI k))
def pParse (l : List Int32) (n : Nat) : Bool × Nat × aCol := match pKind l 0 11 0 with
  | none => (false, 0, pNew 0)
  | some k => if chA l 1 = 40 then pEnd l (pTake l (nI k) n 2 (pNew k)) else (false, 1, pNew 0)
theorem nI_k10 : ∀ k, k < 11 → 0 ≤ (nI k).toInt ∧ (nI k).toInt ≤ 10 := by decide +kernel
theorem pNew_ok {n k : Nat} (hk : k < 11) : okCol n (pNew k) := ⟨(nI_k10 k hk).1, (nI_k10 k hk).2, fun r _ => newC_ok (nI_k10 k hk)⟩
theorem pParse_ok {l : List Int32} {n : Nat} : okCol n (pParse l n).2.2 := by
  unfold pParse
  split
  · exact pNew_ok (by decide)
  · rename_i k ho
    have hk := pKind_lt ho
    split
    · unfold pEnd
      have := pTake_ok (l := l) (n := n) (p := 2) (nI_k10 k (by omega)) (pNew_ok (n := n) (k := k) (by omega)) rfl rfl
      split
      · split
        · exact this
        · exact this
      · exact this
    · exact pNew_ok (by decide)
theorem c_parse {d n : Nat} {l : List Int32} {μ : mmMem} {K : Int32 → mmMem → Prop} (hS : strOK) (hd : 10 ≤ d) (hn : n ≤ 40) (ht : txtC μ l) (hl : l.length ≤ 100) (h : ∀ ν, psC ν l (pParse l n).2.1 → rdU μ ν → ((pParse l n).1 = true → colC ν 146 n (pParse l n).2.2) → K (if (pParse l n).1 = true then 1 else 0) ν) : mmCI d M_X5_parse false 2 [.ref 141, .ref 146, .int (nI n)] μ K := by
  refine u_X5_parse (by omega) kd_146 ?_
  have s0 : psC (sI μ 141 1 0) l 0 := ⟨⟨by simpa [sI, upd] using ht.1, fun i x hx => by simpa [sI] using ht.2 i x hx⟩, hl, by simp [sI, upd]; rfl, Nat.zero_le _⟩
  have u0 : rdU μ (sI μ 141 1 0) := fun q hq => by
    have : q ≠ 141 := by omega
    simp [eq3, sI, this]
  refine c_takeKind (m := 10) hS (by omega) (by decide) s0 (fun ν s1 u1 => ?_)
  cases ho : pKind l 0 (10 + 1) 0 with
  | none =>
    have ho2 : pKind l 0 11 0 = none := ho
    have hP : pParse l n = (false, 0, pNew 0) := by unfold pParse; rw [ho2]
    rw [hP] at h
    rw [ho] at s1
    exact ⟨fun _ => h ν s1 (u0.trans u1.rd) (fun w => by cases w), fun w => absurd (by decide) w⟩
  | some k =>
    have ho2 : pKind l 0 11 0 = some k := ho
    rw [ho] at s1
    have hk := pKind_lt ho2
    have s1 : psC ν l 1 := s1
    have u01 := u0.trans u1.rd
    have hP : pParse l n = if chA l 1 = 40 then pEnd l (pTake l (nI k) n 2 (pNew k)) else (false, 1, pNew 0) := by unfold pParse; rw [ho2]
    refine ⟨fun w => absurd w (nI_pos (by omega)), fun _ => ?_⟩
    refine c_skip (by omega) (by decide) s1 (fun e ν2 s2 u2 => ?_) (fun e => ?_)
    · rw [if_pos e] at hP
      rw [hP] at h
      have u02 := u01.trans u2.rd
      refine ⟨fun _ => ?_, fun w => absurd w (by decide)⟩
      refine c_begin (by omega) kd_146 (nI_k10 k (by omega)) hn (fun ν3 hc f3 => ?_)
      have s3 : psC ν3 l 2 := s2.fr (f3 141 (by decide)) (f3 142 (by decide))
      have u03 : rdU μ ν3 := u02.trans (fun q hq => f3 q (by omega))
      refine c_takeItems (c := pNew k) hS (by omega) (nI_k10 k (by omega)) hn s3 hc rfl (fun ν4 s4 u4 c4 => ?_)
      have u04 := u03.trans u4
      generalize pTake l (nI k) n 2 (pNew k) = R at s4 c4 h
      cases hR : R.1 with
      | false =>
        have hE : pEnd l R = R := by unfold pEnd; rw [if_neg (by rw [hR]; decide)]
        rw [hE] at h
        have g := h ν4 s4 u04 (fun w => by rw [hR] at w; cases w)
        rw [hR] at g
        exact ⟨fun _ => g, fun w => absurd rfl w⟩
      | true =>
        have hE : pEnd l R = if chA l R.2.1 = 41 then (decide (R.2.1 + 1 = l.length), R.2.1 + 1, R.2.2) else (false, R.2.1, R.2.2) := by unfold pEnd; rw [if_pos hR]
        refine ⟨fun w => absurd w (by decide), fun _ => ?_⟩
        refine c_skip (by omega) (by decide) s4 (fun e2 ν5 s5 u5 => ?_) (fun e2 => ?_)
        · rw [if_pos e2] at hE
          rw [hE] at h
          refine ⟨fun w => absurd w (by decide), fun _ => ?_⟩
          have hle := s5.2.2.2
          rw [s5.2.2.1, s5.1.1, nI_eq (by omega) (by omega)]
          have g := h ν5 s5 (u04.trans u5.rd) (fun _ => u5.col c4)
          refine ⟨fun w => ?_, fun w => ?_⟩
          · rw [if_neg (by simpa using w)] at g; exact g
          · rw [if_pos (by simpa using w)] at g; exact g
        · rw [if_neg e2] at hE
          rw [hE] at h
          exact ⟨fun _ => h ν4 s4 u04 (fun w => by cases w), fun w => absurd rfl w⟩
    · rw [if_neg e] at hP
      rw [hP] at h
      exact ⟨fun w => absurd rfl w, fun _ => h ν s1 u01 (fun w => by cases w)⟩
def sp_read (S : aS) : Int32 × aS := if (pParse S.2.2.2.2 S.1.1).1 = true then (if S.1.2.1.length < 12 then (nI S.1.2.1.length, sTx (sT S (addT S.1 (pParse S.2.2.2.2 S.1.1).2.2)) []) else (-4, sTx S [])) else (-10 - nI (pParse S.2.2.2.2 S.1.1).2.1, sTx S [])
theorem CS.rd {μ ν : mmMem} {S : aS} (h : CS μ S) (u : rdU μ ν) : CS (sI ν 141 0 0) (sTx S []) := by
  obtain ⟨h1, h2, h3, h4, ⟨h5, h6, h7⟩, -, -⟩ := h
  have e : ∀ q, q < 141 → eq3 μ (sI ν 141 0 0) q := fun q hq => (u q (by omega)).trans (by
    have : q ≠ 141 := by omega
    simp [eq3, sI, this])
  have e0 := e 0 (by decide)
  exact ⟨h1.fr h2 (fun q _ _ => e q (by omega)), h2, h3.fr (by rw [e0.1]) (fun q _ _ => e q (by omega)), by rw [e0.2.1]; exact h4, ⟨by rw [e0.1]; exact h5, by rw [e0.1]; exact h6, by rw [e0.1]; exact h7⟩, ⟨by simp [sI, upd, sTx]; rfl, fun i x hx => by cases hx⟩, ⟨by simp [sTx], fun x hx => by cases hx⟩⟩
theorem c_read {d : Nat} {S : aS} {μ : mmMem} {K : Int32 → mmMem → Prop} (hS : strOK) (hd : 11 ≤ d) (hC : CS μ S) (h : ∀ ν, CS ν (sp_read S).2 → hiE μ ν → K (sp_read S).1 ν) : mmCI d M_X7_read false 0 [.ref 0] μ K := by
  refine u_X7_read (by omega) ?_
  have h40 := hC.2.1.1
  have h12 := hC.2.1.2.1
  rw [hC.1.1.1]
  refine c_parse (n := S.1.1) hS (by omega) h40 hC.2.2.2.2.2.1 hC.2.2.2.2.2.2.1 (fun ν s1 u1 c1 => ?_)
  have hC1 := hC.rd u1
  have hi1 : hiE μ (sI ν 141 0 0) := fun q hq => (u1 q (by omega)).trans (by
    have : q ≠ 141 := by omega
    simp [eq3, sI, this])
  unfold sp_read at h
  have okp := pParse_ok (l := S.2.2.2.2) (n := S.1.1)
  have ecame : ν.1 1 1 = nI S.1.2.1.length := by rw [(u1 1 (by omega)).1]; exact hC.1.1.2.1
  cases ho : (pParse S.2.2.2.2 S.1.1).1 with
  | false =>
    rw [ho, if_neg (by decide)] at h
    rw [if_neg (by decide)]
    refine ⟨fun w => absurd rfl w, fun _ => ?_⟩
    rw [s1.2.2.1]
    exact h _ hC1 hi1
  | true =>
    rw [ho, if_pos rfl] at h
    rw [if_pos rfl]
    refine ⟨fun _ => ?_, fun w => absurd w (by decide)⟩
    rw [ecame, nI_1]
    refine ⟨fun q3 => ?_, fun q3 => ?_⟩
    · have hlt : S.1.2.1.length < 12 := (nI_ltI (by omega) (by decide : (12 : Nat) < 2 ^ 31)).mp q3
      rw [if_pos hlt] at h
      have e1 : nI (S.1.2.1.length + 1) - 1 = nI S.1.2.1.length := nI_pred _
      rw [e1, nI_clamp (by omega)]
      refine ⟨vp_in_nI hlt (by decide), ?_⟩
      have g0 : ∀ q, q ≠ 1 → eq3 (sI ν 141 0 0) (sI (sI ν 141 0 0) 1 1 (nI (S.1.2.1.length + 1))) q := fun q hq => by simp [eq3, sI, hq]
      have cc : colC (sI (sI ν 141 0 0) 1 1 (nI (S.1.2.1.length + 1))) 146 S.1.1 (pParse S.2.2.2.2 S.1.1).2.2 := by
        have e : ∀ q, 146 ≤ q → eq3 ν (sI (sI ν 141 0 0) 1 1 (nI (S.1.2.1.length + 1))) q := fun q hq => by
          have a1 : q ≠ 141 := by omega
          have a2 : q ≠ 1 := by omega
          simp [eq3, sI, a1, a2]
        exact (c1 ho).fr (e _ (by decide)) (e _ (by decide)) (e _ (by decide)) (e _ (by decide))
      refine c_colCopy (by omega) (kcol _ hlt).1 kd_146 (by omega) cc h40 (fun ν2 hν f => ?_)
      have g : ∀ q, q ≠ 1 → (q < 7 + 4 * S.1.2.1.length ∨ 11 + 4 * S.1.2.1.length ≤ q) → eq3 (sI ν 141 0 0) ν2 q := fun q h1 h2 => (g0 q h1).trans (f q (by omega))
      have e2 : ν2.1 1 = (sI (sI ν 141 0 0) 1 1 (nI (S.1.2.1.length + 1))).1 1 := (f 1 (by omega)).1
      have e3 : ν2.1 1 1 = nI (S.1.2.1.length + 1) := by rw [e2]; simp [sI, upd]
      rw [e3, e1]
      exact h ν2 (hC1.tab (hC1.1.add hC1.2.1 hlt (fun q h1 h2 _ => g q h1 h2) ⟨e3, by rw [e2]; simp [sI, upd], by rw [e2]; simp [sI, upd], by rw [e2]; simp [sI, upd]⟩ hν) (addT_ok hC1.2.1 hlt okp) (fun q h1 h2 => g q (by omega) (by omega)) (by rw [(g 141 (by omega) (by omega)).1])) (hi1.trans fun q hq => g q (by omega) (by omega))
    · have hlt : ¬ S.1.2.1.length < 12 := fun w => q3 ((nI_ltI (by omega) (by decide : (12 : Nat) < 2 ^ 31)).mpr w)
      rw [if_neg hlt] at h
      exact h _ hC1 hi1
end
